/-! THE REFERENCE READS its tape as a query -/
def RF (c i k : Nat) : Prop := (c = 12 ∧ i = 45 ∧ (k = 2 ∨ k = 3 ∨ 21 ≤ k ∧ k ≤ 24 ∨ 42 ≤ k ∧ k ≤ 45)) ∨ (c = 20 ∧ (60 ≤ i ∧ i ≤ 65 ∧ 2400 ≤ k ∧ k < 2800 ∨ i = 66 ∧ 120 ≤ k ∧ k < 140 ∨ 67 ≤ i ∧ i ≤ 69 ∧ k = 6 ∨ 70 ≤ i ∧ i ≤ 76))
theorem RW_RF : ∀ c i k, RW 0 0 0 c i k → RF c i k := fun c i k z => by
  unfold RW RQ at z
  unfold RF
  omega
/-- what readsQuery leaves -/
def MQ6 (bs : List Nat) (v : Int32) (g' : PH) : Prop := match prsP bs with
  | .inl _ => v = 0
  | .inr Q => v = 1 ∧ QM g' 6 27 Q 0 ∧ hI g' 20 67 6 = nI (sz 27 Q) ∧ hI g' 20 69 6 = nI (sz 27 Q - 1)
theorem readsQuery_eq {g : PH} (m : MSh g) {bs : List Nat} (T : TM bs g) (ok : okB bs) (l3 : bs.length ≤ 300) : ∃ v g', fX12_readsQuery 45 g = some (v, g') ∧ oP RF g g' ∧ hI g' 12 45 2 = 0 ∧ hI g' 12 45 3 = qrV (prsP bs) ∧ MQ6 bs v g' := by
  have q12 : ∀ k, 21 ≤ k ∧ k ≤ 24 ∨ 42 ≤ k ∧ k ≤ 45 → RQ 0 0 0 12 45 k := fun k hk => Or.inl ⟨rfl, rfl, hk⟩
  have x0 : oP (RQ 0 0 0) g (sI (sI (sI (sI (sI (sI (sI g 12 45 24 0) 20 67 6 0) 20 68 6 0) 12 45 42 0) 12 45 43 0) 12 45 44 0) 12 45 45 0) := (((((((oP.rf _ g).sI _ (q12 24 (by decide))).sI _ (Or.inr ⟨rfl, Or.inr (Or.inr (Or.inl ⟨Or.inl rfl, rfl⟩))⟩)).sI _ (Or.inr ⟨rfl, Or.inr (Or.inr (Or.inl ⟨Or.inr rfl, rfl⟩))⟩)).sI _ (q12 42 (by decide))).sI _ (q12 43 (by decide))).sI _ (q12 44 (by decide))).sI _ (q12 45 (by decide))
  have m0 := m.oP x0
  have e42 : hI (sI (sI (sI (sI (sI (sI (sI g 12 45 24 0) 20 67 6 0) 20 68 6 0) 12 45 42 0) 12 45 43 0) 12 45 44 0) 12 45 45 0) 12 45 42 = nI 0 := by rw [rd12, if_neg (by decide), rd12, if_neg (by decide), rd12, if_neg (by decide), rd12, if_pos rfl]; rfl
  have e43 : hI (sI (sI (sI (sI (sI (sI (sI g 12 45 24 0) 20 67 6 0) 20 68 6 0) 12 45 42 0) 12 45 43 0) 12 45 44 0) 12 45 45 0) 12 45 43 = nI 0 := by rw [rd12, if_neg (by decide), rd12, if_neg (by decide), rd12, if_pos rfl]; rfl
  have e44 : hI (sI (sI (sI (sI (sI (sI (sI g 12 45 24 0) 20 67 6 0) 20 68 6 0) 12 45 42 0) 12 45 43 0) 12 45 44 0) 12 45 45 0) 12 45 44 = nI 0 := by rw [rd12, if_neg (by decide), rd12, if_pos rfl]; rfl
  have e45 : hI (sI (sI (sI (sI (sI (sI (sI g 12 45 24 0) 20 67 6 0) 20 68 6 0) 12 45 42 0) 12 45 43 0) 12 45 44 0) 12 45 45 0) 12 45 45 = nI 0 := by rw [rd12, if_pos rfl]; rfl
  have e24 : hI (sI (sI (sI (sI (sI (sI (sI g 12 45 24 0) 20 67 6 0) 20 68 6 0) 12 45 42 0) 12 45 43 0) 12 45 44 0) 12 45 45 0) 12 45 24 = nI 0 := by
    rw [rd12, if_neg (by decide), rd12, if_neg (by decide), rd12, if_neg (by decide), rd12, if_neg (by decide), hI_sI, if_neg (fun q => absurd q.1 (by decide)), hI_sI, if_neg (fun q => absurd q.1 (by decide)), rd12, if_pos rfl]
    rfl
  have e67 : hI (sI (sI (sI (sI (sI (sI (sI g 12 45 24 0) 20 67 6 0) 20 68 6 0) 12 45 42 0) 12 45 43 0) 12 45 44 0) 12 45 45 0) 20 67 6 = nI 0 := by
    rw [hI_sI, if_neg (fun q => absurd q.1 (by decide)), hI_sI, if_neg (fun q => absurd q.1 (by decide)), hI_sI, if_neg (fun q => absurd q.1 (by decide)), hI_sI, if_neg (fun q => absurd q.1 (by decide)), getI, if_neg (by simp), getI, if_pos ⟨rfl, rfl⟩]
    rfl
  have e68 : hI (sI (sI (sI (sI (sI (sI (sI g 12 45 24 0) 20 67 6 0) 20 68 6 0) 12 45 42 0) 12 45 43 0) 12 45 44 0) 12 45 45 0) 20 68 6 = nI 0 := by
    rw [hI_sI, if_neg (fun q => absurd q.1 (by decide)), hI_sI, if_neg (fun q => absurd q.1 (by decide)), hI_sI, if_neg (fun q => absurd q.1 (by decide)), hI_sI, if_neg (fun q => absurd q.1 (by decide)), getI, if_pos ⟨rfl, rfl⟩]
    rfl
  have st : fX12_readsQuery 45 g = bd (fX12_begins0 45 (nI 0) (sI (sI (sI (sI (sI (sI (sI g 12 45 24 0) 20 67 6 0) 20 68 6 0) 12 45 42 0) 12 45 43 0) 12 45 44 0) 12 45 45 0)) (fun z17 =>
  gd (hK z17 45 = 12) (bd (fX12_reads 45 z17) (fun z19 => rdL 1 1 z19))) := by
    unfold fX12_readsQuery
    exact gd_i (k_45 m) (gs_i (r12_45_32 m) (gd_i ⟨k_67 m, by show inb (6 : Int32) (hN g 67); rw [n_67 m]; decide⟩ (gs_i (r12_45_33 m) (gd_i ⟨k_68 m, by show inb (6 : Int32) (hN g 68); rw [n_68 m]; decide⟩ rfl))))
  rw [st]
  generalize sI (sI (sI (sI (sI (sI (sI g 12 45 24 0) 20 67 6 0) 20 68 6 0) 12 45 42 0) 12 45 43 0) 12 45 44 0) 12 45 45 0 = u at *
  rw [begins0_eq m0 (d := 0) (by decide) e42 (nI 0), bd_t]
  have f70 : ∀ i k, 70 ≤ i → i ≤ 76 → RF 20 i k := fun i k a b => Or.inr ⟨rfl, Or.inr (Or.inr (Or.inr ⟨a, b⟩))⟩
  have f12 : ∀ k, (k = 2 ∨ k = 3 ∨ 21 ≤ k ∧ k ≤ 24 ∨ 42 ≤ k ∧ k ≤ 45) → RF 12 45 k := fun k a => Or.inl ⟨rfl, rfl, a⟩
  have x2 : oP RF g (sI (sI (sI u 20 72 0 0) 20 75 0 0) 20 76 0 (nI 0)) := (((x0.mono (fun c i k z => RW_RF c i k (Or.inl z))).sI _ (f70 72 0 (by decide) (by decide))).sI _ (f70 75 0 (by decide) (by decide))).sI _ (f70 76 0 (by decide) (by decide))
  have r12 : ∀ k, hI (sI (sI (sI u 20 72 0 0) 20 75 0 0) 20 76 0 (nI 0)) 12 45 k = hI u 12 45 k := fun k => by rw [hI_sI, if_neg (fun q => absurd q.1 (by decide)), hI_sI, if_neg (fun q => absurd q.1 (by decide)), hI_sI, if_neg (fun q => absurd q.1 (by decide))]
  have r20 : ∀ i k, i < 70 → hI (sI (sI (sI u 20 72 0 0) 20 75 0 0) 20 76 0 (nI 0)) 20 i k = hI u 20 i k := fun i k hi => by rw [getI, if_neg (fun q => by omega), getI, if_neg (fun q => by omega), getI, if_neg (fun q => by omega)]
  have r72 : hI (sI (sI (sI u 20 72 0 0) 20 75 0 0) 20 76 0 (nI 0)) 20 72 0 = nI 0 := by
    rw [getI, if_neg (by simp), getI, if_neg (by simp), getI, if_pos ⟨rfl, rfl⟩]
    rfl
  have r75 : hI (sI (sI (sI u 20 72 0 0) 20 75 0 0) 20 76 0 (nI 0)) 20 75 0 = nI 0 := by
    rw [getI, if_neg (by simp), getI, if_pos ⟨rfl, rfl⟩]
    rfl
  generalize sI (sI (sI u 20 72 0 0) 20 75 0 0) 20 76 0 (nI 0) = w at *
  have TF : ∀ {h : PH}, oP RF g h → (∀ k, k = 2 → hI h 12 45 k = hI g 12 45 k) → TM bs h := fun {h} x e => ⟨(e 2 rfl).trans T.1, fun i hi => (x.1 20 46 i (fun z => by unfold RF at z; omega)).trans (T.2 i hi)⟩
  have mw := m.oP x2
  have Tw : TM bs w := TF x2 (fun k hk => by
    subst hk
    exact (r12 2).trans (x0.1 12 45 2 (fun z => by unfold RQ at z; omega)))
  obtain ⟨g1, f1, f2, f3⟩ := reads_eq mw Tw ok l3 (i := 0) (Nat.zero_le _) ((r12 24).trans e24)
  have tk := tk_st f2
  have m1 := mw.oI f2
  rw [gd_t (k_45 mw), f1, bd_t]
  have x3 : oP RF g g1 := x2.tr (oI_oP f2 (fun c i k z => RW_RF c i k (Or.inl (tk_RQ c i k z))))
  have W1 : WS bs (0, 0) g1 0 0 0 0 0 (lv 8) [] 0 := ⟨m1, Tw.P (oI_oP f2 (tk_RQ (a := 0) (d := 0) (L := 0))), ⟨f3, (tk.2 45 (by decide)).trans ((r12 45).trans e45), Nat.zero_le _, Nat.zero_le _⟩, ⟨(tk.2 43 (by decide)).trans ((r12 43).trans e43), (tk.2 42 (by decide)).trans ((r12 42).trans e42), (tk.2 44 (by decide)).trans ((r12 44).trans e44), (tk.1 _ _).trans ((r20 67 6 (by decide)).trans e67), (tk.1 _ _).trans ((r20 68 6 (by decide)).trans e68)⟩, ⟨(tk.1 _ _).trans r72, fun y => absurd rfl y⟩, rfl, by decide, by decide, by decide, Nat.le_refl _, ok, l3⟩
  have r := query_l (plain_P (bs := bs) 8) (o := 0) (D := 0) rfl (by decide) W1 ⟨(tk.1 _ _).trans r75, fun y => absurd rfl y⟩ (by show 0 + (bs.length - 0) ≤ 390; omega)
  -- how a failure ends
  have bad : ∀ e, Fl 0 0 0 g1 e (rdL 1 1 g1) → ∃ g', rdL 1 1 g1 = some (0, g') ∧ oP RF g g' ∧ hI g' 12 45 2 = 0 ∧ hI g' 12 45 3 = nI e := fun e ⟨g', a1, a2⟩ => ⟨_, a2, ((x3.tr (a1.mono RW_RF)).sI _ (f12 3 (by decide))).sI _ (f12 2 (by decide)), by rw [rd12, if_pos rfl], by rw [rd12, if_neg (by decide), rd12, if_pos rfl]⟩
  unfold MQ6 prsP
  cases e : qryP bs (plnP bs 8) (0, 0) with
  | inl v =>
    rw [e] at r
    obtain ⟨g', b1, b2, b3, b4⟩ := bad v r
    exact ⟨0, g', b1, b2, b3, b4, rfl⟩
  | inr v =>
    rw [e] at r
    obtain ⟨all, t1, g2, L2, N2, lz, zs, ys, u1, u2, u3, u4, u5, u6, u7, u8, u9, u10, u11⟩ := r
    show ∃ (w : Int32) (g' : PH), _ ∧ _ ∧ _ ∧ hI g' 12 45 3 = qrV (if kT bs v.2 = 0 then .inr (lftN 9 18 v.1) else .inl (aT bs v.2)) ∧ (match (if kT bs v.2 = 0 then .inr (lftN 9 18 v.1) else .inl (aT bs v.2) : Nat ⊕ QT 27) with
      | .inl _ => w = 0
      | .inr Q => w = 1 ∧ QM g' 6 27 Q 0 ∧ hI g' 20 67 6 = nI (sz 27 Q) ∧ hI g' 20 69 6 = nI (sz 27 Q - 1))
    obtain ⟨m2, T2, R2, S2, B2, hb2, hd2, ho2, ho8, hL2, _, _⟩ := id u3
    by_cases z : kT bs v.2 = 0
    · rw [if_pos z]
      -- the end of the tape
      have x4 : oP RF g (sI (sI g2 12 45 3 (-1)) 12 45 2 0) := ((x3.tr (u2.mono RW_RF)).sI _ (f12 3 (by decide))).sI _ (f12 2 (by decide))
      have m3 := m.oP x4
      have c20 : ∀ i k, hI (sI (sI g2 12 45 3 (-1)) 12 45 2 0) 20 i k = hI g2 20 i k := fun i k => by rw [hI_sI, if_neg (fun q => absurd q.1 (by decide)), hI_sI, if_neg (fun q => absurd q.1 (by decide))]
      have c12 : ∀ k, 42 ≤ k → k ≤ 44 → hI (sI (sI g2 12 45 3 (-1)) 12 45 2 0) 12 45 k = hI g2 12 45 k := fun k a b => by rw [rd12, if_neg (by omega), rd12, if_neg (by omega)]
      obtain ⟨g4, N4, a1, a2, a3, a4, a5, a6, a7⟩ := endsOr_eq m3 (by decide) u6 (by omega) (S2.of c20 c12) (B2.of c20) (u4.of c20) u5 hb2
      have ev : v.1 = mkJ 6 (lv 8 + 1) (ys ++ [mkJ 5 (lv 8) zs]) := by rw [t1, u7]
      have a4 : QR g4 L2 18 (mkJ 6 (lv 8 + 1) (ys ++ [mkJ 5 (lv 8) zs])) 0 := a4
      have m4 := m3.oP a2
      have x5 : oP RF g (sI g4 20 69 6 (nI (N4 - 1))) := (x4.tr (a2.mono (fun c i k z => RW_RF c i k (RW.mono (Nat.le_refl _) (Nat.le_refl _) (Nat.zero_le _) c i k z)))).sI _ (Or.inr ⟨rfl, Or.inr (Or.inr (Or.inl ⟨by decide, by decide, rfl⟩))⟩)
      have d20 : ∀ i k, i ≠ 69 → hI (sI g4 20 69 6 (nI (N4 - 1))) 20 i k = hI g4 20 i k := fun i k hi => by rw [getI, if_neg (fun q => hi q.1)]
      have d12 : ∀ k, hI (sI g4 20 69 6 (nI (N4 - 1))) 12 45 k = hI (sI (sI g2 12 45 3 (-1)) 12 45 2 0) 12 45 k := fun k => by rw [hI_sI, if_neg (fun q => absurd q.1 (by decide))]; exact a7 k
      have ez : N4 = sz 18 (mkJ 6 (lv 8 + 1) (ys ++ [mkJ 5 (lv 8) zs])) := by rw [a3]; exact Nat.zero_add _
      have es : sz 27 (lftN 9 18 v.1) = N4 := by
        rw [ez, ← ev]
        exact lftN_sz (q := v.1) 9
      refine ⟨1, sI g4 20 69 6 (nI (N4 - 1)), u1 _ (wh_done ?_), x5, ?_, ?_, rfl, ?_, ?_, ?_⟩
      · show fX12_readsQuery_c54 45 1 0 g2 = _
        have e21 : hI g2 12 45 21 = 0 := by
          rcases mk_cases bs v.2 with ⟨_, q⟩ | ⟨k, _⟩ | ⟨k, _⟩ | ⟨k, _⟩ | ⟨k, _⟩ | ⟨k, _⟩
          · rw [R2.1.2.2.1, q]; rfl
          all_goals omega
        unfold fX12_readsQuery_c54 fX12_readsQuery_b152 fX12_readsQuery_b165 fX12_readsQuery_b188
        rw [if_neg (show ¬ (1 : Int32) = 0 by decide), if_neg (show ¬ ¬ (0 : Int32) = 0 from fun y => y rfl), gd_t (k_45 m2), e21, if_neg (show ¬ ¬ (0 : Int32) = 0 from fun y => y rfl), S2.2.1, if_pos (show nI 0 ≤ 0 from Int32.le_refl _), if_neg (show ¬ (1 : Int32) = 0 by decide), gs_t, gd_t (k_45 m2), lt_t]
        show mr (gd (hK (sI g2 12 45 3 (-1)) 45 = 12) _) = _
        rw [gd_t (show hK (sI g2 12 45 3 (-1)) 45 = 12 from k_45 m2), lt_t, if_neg (show ¬ (1 : Int32) = 0 by decide), a1, bd_t, r12_45_34 m3, gs_t]
        show mr (gd (hK g4 69 = 20 ∧ inb (6 : Int32) (hN g4 69)) _) = _
        rw [gd_t ⟨k_69 m4, by rw [n_69 m4]; decide⟩, lt_t, gd_t (by decide), mr_t]
        rfl
      · rw [d12, rd12, if_pos rfl]
      · rw [d12, rd12, if_neg (by decide), rd12, if_pos rfl]
        rfl
      · refine QM.of (h := g4) (fun a k h1 h2 => d20 a k (by omega)) 27 _ 0 ?_
        have q := QR.M (show L2 ≤ 20 by have := R2.2.2.2; omega) 18 _ 0 a4
        exact lftN_QM (n := 18) (q := v.1) (by rw [ev]; exact q) 9
      · rw [d20 _ _ (by decide), es]
        exact a6.2.2.2.1
      · rw [es, getI, if_pos ⟨rfl, rfl⟩]
    · rw [if_neg z]
      have F := no_join (a := 0) (d := 0) (L := L2) m2 R2 (by decide) S2.2.1 (Or.inl z) u8 u9 (Or.inr rfl)
      obtain ⟨g', b1, b2, b3, b4⟩ := bad _ (Fl.up F u2 (Nat.le_refl _) (Nat.le_refl _) u10 u1)
      exact ⟨0, g', b1, b2, b3, b4, rfl⟩
