/-! THE REFERENCE'S READER follows the grammar: the recursion -/
theorem leaf_P {bs : List Nat} {k : Nat} {s : PS} {g : PH} {o d nt N L K la : Nat} {xs : List (QT K)} {f : QT (lv k) → QT K} {em : L3 → QT (lv k)} {r : PR (QT (lv k))} (hq : ∀ h L lo l, LfR h L lo l → QR h L (lv k) (em l) lo) (hz : ∀ l, sz (lv k) (em l) = 1) (hr : r = mapR em (simP bs s)) (hy : ∀ x, notN nt ⟨lv k, x⟩ = ⟨K, f x⟩) (W : WS bs s g o d nt N L K xs la) (h1 : N + nt + 1 ≤ 400) (h33 : kT bs s ≠ 33) (h40 : kT bs s ≠ 40) : PPost bs r g (rdL 1 1 g) o d nt N L K xs la f := by
  have p := part_eq (em := em) (f := fun l => f (em l)) hq hz (fun l => hy (em l)) W (by omega)
  have m := W.1
  have R := W.2.2.1
  rw [hr]
  cases e : simP bs s with
  | inl v =>
    rw [e] at p
    obtain ⟨g', p1, p2, p3⟩ := p
    exact ⟨g', p2.mono (fun _ _ _ y => Or.inl y), want_leaf m R h33 h40 p1 _ (fail_end (m.oP p2) p3 0)⟩
  | inr v =>
    rw [e] at p
    obtain ⟨g', L', p1, p2, p3, p4⟩ := p
    refine ⟨g', L', want_leaf m R h33 h40 p1, p2, ?_, p4⟩
    show WS bs v.2 g' (o - nt) d 0 (N + sz (lv k) (em v.1) + nt) L' K (xs ++ [f (em v.1)]) la
    rw [hz]
    exact p3
theorem BL.and {g g' : PH} {L L' a D K : Nat} {xs : List (QT K)} {la : Nat} (B : BL g L 72 70 71 D K xs la) (x : oP (RW a (D + 1) L) g g') (h : la + (xs.map (sz K)).sum ≤ a) (hl : L ≤ L') : BL g' L' 72 70 71 D K xs la := BL.st (h := g) (fun k hk => x.1 _ _ _ (fun z => by unfold RW RQ at z; omega)) hl (fun i hi => x.1 _ _ _ (fun z => by unfold RW RQ at z; omega)) (fun i k i1 i2 k1 k2 => x.1 _ _ _ (fun z => by unfold RW RQ at z; omega)) B
theorem plain_P {bs : List Nat} : ∀ k : Nat, PLs bs k
  | 0 => by
    intro s g o d nt N L K la xs f hy W ho hdn hr
    have o8 : o = 8 := by omega
    by_cases z : kT bs s = 33 ∨ kT bs s = 40
    · subst o8
      have e : plnP bs 0 s = .inl (aT bs s) := by
        show simP bs s = _
        unfold simP
        rw [if_neg (by omega), if_neg (by omega)]
        rfl
      rw [e]
      exact deep_fail W z
    · refine leaf_P (k := 0) (em := fun l => l) (fun _ _ _ _ y => y) (fun _ => rfl) ?_ hy W (by omega) (fun y => z (Or.inl y)) (fun y => z (Or.inr y))
      show simP bs s = mapR (fun l => l) (simP bs s)
      cases simP bs s with
      | inl v => rfl
      | inr v => rfl
  | k + 1 => by
    intro s g o d nt N L K la xs f hy W ho hdn hr
    have P := plain_P (bs := bs) k
    have oo := W.2.2.1.2.2
    by_cases z33 : kT bs s = 33
    · have e : plnP bs (k + 1) s = mapR (fun x => lft (lv k + 1) (.inr (4, [x]))) (plnP bs k (nT bs s)) := if_pos z33
      rw [e]
      obtain ⟨g1, w1, x1, W1⟩ := not_step W (by omega) z33
      have a1 := (nT_le oo.1).2.2 (by omega)
      have a2 := (nT_le oo.1).2.1
      have p := P (nT bs s) g1 (o + 1) d (nt + 1) N L K la xs (fun x => f (lft (lv k + 1) (.inr (4, [x])))) (fun x => hy (lft (lv k + 1) (.inr (4, [x])))) W1 (by omega) (by omega) (by omega)
      cases e2 : plnP bs k (nT bs s) with
      | inl v =>
        rw [e2] at p
        exact Fl.up p (x1.mono (fun _ _ _ y => Or.inl y)) (Nat.le_refl _) (Nat.le_refl _) (Nat.le_refl _) w1
      | inr v =>
        rw [e2] at p
        obtain ⟨g2, L2, p1, p2, p3, p4⟩ := p
        refine ⟨g2, L2, fun q hq => w1 q (p1 q hq), x1.tr p2, ?_, p4⟩
        have es : sz (lv (k + 1)) (lft (lv k + 1) (.inr (4, [v.1]))) = sz (lv k) v.1 + 1 := notS_sz ⟨lv k, v.1⟩
        show WS bs v.2 g2 (o - nt) d 0 (N + sz (lv (k + 1)) (lft (lv k + 1) (.inr (4, [v.1]))) + nt) L2 K (xs ++ [f (lft (lv k + 1) (.inr (4, [v.1])))]) la
        rw [es, show N + (sz (lv k) v.1 + 1) + nt = N + sz (lv k) v.1 + (nt + 1) by omega, show o - nt = o + 1 - (nt + 1) by omega]
        exact p3
    · by_cases z40 : kT bs s = 40
      · have e : plnP bs (k + 1) s = clsP bs (qryP bs (plnP bs k) (nT bs s)) := (if_neg z33).trans (if_pos z40)
        rw [e]
        obtain ⟨g1, w1, x1, W1, O1, e76, B1⟩ := open_step W (by omega) hdn z40 (lv k)
        have a1 := (nT_le oo.1).2.2 (by omega)
        have a2 := (nT_le oo.1).2.1
        have hb := W.2.2.2.2.2.1
        have hno := W.2.2.2.2.2.2.2.1
        have r := query_l P (o := o + 1) (D := d + 1) (by omega) (by omega) W1 O1 (by omega)
        have pf := qryP_PF (plnP_PF k) (nT bs s) W1.2.2.1.2.2
        have x1' : oP (RW la d L) g g1 := x1.mono (fun c i k y => Or.inl (RQ.mono (by omega) (Nat.le_refl _) (Nat.le_refl _) c i k y))
        cases e2 : qryP bs (plnP bs k) (nT bs s) with
        | inl v =>
          rw [e2] at r
          exact Fl.up r x1' (by omega) (by omega) (Nat.le_refl _) w1
        | inr v =>
          rw [e2] at r pf
          obtain ⟨q1, q2, q3, q4, q5⟩ := pf
          obtain ⟨all, t1, g2, L2, N2, lz, zs, ys, u1, u2, u3, u4, u5, u6, u7, u8, u9, u10, u11⟩ := r
          have B2 := B1.and (L' := L2) u2 (by omega) u10
          have x12 : oP (RW la d L) g g2 := x1'.tr (u2.mono (RW.mono (by omega) (by omega) (Nat.le_refl _)))
          have x12' : oP (RQ la d L) g g2 := (x1.mono (RQ.mono (by omega) (Nat.le_refl _) (Nat.le_refl _))).tr (u2.mono (RW.in (by omega) (by omega) (Nat.le_refl _)))
          show PPost bs (k := k + 1) (if kT bs v.2 = 41 then .inr (v.1, nT bs v.2) else .inl (aT bs v.2) : PR (QT (lv k + 2))) g (rdL 1 1 g) o d nt N L K xs la f
          by_cases z41 : kT bs v.2 = 41
          · rw [if_pos z41]
            have ev : v.1 = mkJ 6 (lv k + 1) (ys ++ [mkJ 5 (lv k) zs]) := by rw [t1, u7]
            have e76' : hI g2 20 76 (d + 1) = nI nt := (u2.1 20 76 (d + 1) (fun z => by unfold RW RQ at z; omega)).trans e76
            have hyv := hy v.1
            rw [ev] at hyv q5
            obtain ⟨g3, y1, y2, y3⟩ := close_step u3 u4 u5 u6 (by omega) e76' B2 hb hno hyv (by
              have q5 : (nT bs s).1 + sz (lv k + 2) (mkJ 6 (lv k + 1) (ys ++ [mkJ 5 (lv k) zs])) ≤ v.2.1 := q5
              omega) z41
            refine ⟨g3, L2, fun q hq => w1 q (u1 q (y1 q hq)), x12'.tr (y2.mono (RQ.mono (Nat.le_refl _) (Nat.le_refl _) u10)), ?_, u10⟩
            show WS bs (nT bs v.2) g3 (o - nt) d 0 (N + sz (lv k + 2) v.1 + nt) L2 K (xs ++ [f v.1]) la
            rw [ev]
            exact y3
          · rw [if_neg z41]
            have Z : Fl la d L2 g2 (aT bs v.2) (rdL 1 0 g2) := no_join (d := d + 1) u3.1 u3.2.2.1 (by omega) u3.2.2.2.1.2.1 (Or.inr (Nat.succ_pos d)) u8 u9 (Or.inl z41) |>.elim (fun g' h => ⟨g', h.1.mono (RW.mono (Nat.le_refl _) (by omega) (Nat.le_refl _)), h.2⟩)
            exact Fl.up Z x12 (Nat.le_refl _) (Nat.le_refl _) u10 (fun q hq => w1 q (u1 q hq))
      · refine leaf_P (k := k + 1) (em := fun l => (.inl l : L3 ⊕ (Nat × List (QT (lv k + 1))))) (fun _ _ _ _ y => y) (fun _ => rfl) ((if_neg z33).trans (if_neg z40)) hy W (by omega) z33 z40
