/-! ONE WORD LESS in the index, and following a whole change -/
theorem map_eraseI {f : Nat → Nat} : ∀ (ks : List Nat) (i : Nat), (ks.eraseIdx i).map f = (ks.map f).eraseIdx i
  | [], _ => rfl
  | _ :: _, 0 => rfl
  | k :: ks, i + 1 => by
    rw [List.eraseIdx_cons_succ, List.map_cons, List.map_cons, List.eraseIdx_cons_succ, map_eraseI ks i]
theorem erase_sk {ks : List Nat} (s : SK ks) (i : Nat) : SK (ks.eraseIdx i) := ⟨List.Pairwise.eraseIdx i s.1, fun w hw => s.2 w (List.mem_of_mem_eraseIdx hw)⟩
theorem erase_mem {ks : List Nat} (s : SK ks) {w : Nat} (hw : w ∈ ks) {v : Nat} : v ∈ ks.eraseIdx (pos ks (ord w)) ↔ v ∈ ks ∧ v ≠ w := by
  have q := (pos_has s).mpr hw
  rw [List.mem_eraseIdx_iff_getElem]
  constructor
  · rintro ⟨i, hi, hn, e⟩
    refine ⟨e ▸ List.getElem_mem hi, fun z => hn ?_⟩
    have := pos_at s hi
    rw [getD_g hi, e, z] at this
    exact this.symm
  · rintro ⟨h1, h2⟩
    obtain ⟨i, hi, e⟩ := mem_idx h1
    refine ⟨i, hi, fun z => h2 ?_, by rw [← getD_g hi]; exact e⟩
    rw [z, q.2] at e
    exact e.symm
theorem cnt_ex {p : Nat → Bool} : ∀ {n : Nat}, cnt p n ≠ 0 → ∃ t, t < n ∧ p t = true
  | 0, h => absurd rfl h
  | n + 1, h => by
    cases e : p n with
    | true => exact ⟨n, Nat.lt_succ_self _, e⟩
    | false =>
      rw [cnt_s, e] at h
      obtain ⟨t, h1, h2⟩ := cnt_ex (p := p) (n := n) h
      exact ⟨t, by omega, h2⟩
theorem cnt_zero {p : Nat → Bool} : ∀ {n : Nat}, cnt p n = 0 → ∀ t, t < n → p t = false
  | 0, _, _, ht => absurd ht (Nat.not_lt_zero _)
  | n + 1, h, t, ht => by
    rw [cnt_s] at h
    by_cases z : t = n
    · subst z
      cases e : p t with
      | false => rfl
      | true => rw [e] at h; simp at h
    · exact cnt_zero (p := p) (n := n) (by omega) t (by omega)
theorem strike_eq {p : Nat → Nat → Bool} {ks : List Nat} {e : Nat} {wa wb : Nat → Nat} {h : PH} (c : CSh h) (Y : IY p ks e wa wb h) {w t : Nat} (hw : vword w = true) (ht : t < 100) : ∃ ks' h', fX3_strike 16 (nI w) (nI t) h = some h' ∧ IY (pTake p t w) ks' e wa wb h' ∧ yC e h h' ∧ hX h' = hX h ∧ hV h' = hV h ∧ hN h' = hN h ∧ ks'.length ≤ ks.length := by
  have s := Y.1.1
  have hm := Y.1.2
  have h4 := Y.2.1
  have b9 := Y.2.2.2.2.2.2.2.2
  have zz := Y.2.2.2.2.2.2.2.1
  have pz : ∀ t' v, 100 ≤ t' → pTake p t w t' v = false := fun t' v h1 => by
    unfold pTake
    rw [zz t' v h1, Bool.and_false]
  have st : fX3_strike 16 (nI w) (nI t) h = (if w ∈ ks then bd (fX9_take (wb w) (nI t) h) (fun z25 =>
  gd (hK z25 16 = 3) (gs (hR z25 3 16 0) (fun a27 =>
  gd (hK z25 a27 = 14) (bd (fJx4a65c_get_915e3 a27 (nI (pos ks (ord w))) z25) (fun z30 =>
  gs z30 (fun a31 =>
  gd (hK z25 a31 = 10) (gs (hR z25 10 a31 2) (fun a34 =>
  gd (hK z25 a34 = 9) (bd (fX9_size a34 z25) (fun z37 =>
  if (¬ z37 = 0) then (fX3_strike_b86  z25) else
  gs (hR z25 3 16 0) (fun a38 =>
  gd (hK z25 a38 = 14) (bd (fJx4a65c_remove_915e3 a38 (nI (pos ks (ord w))) z25) (fun z41 =>
  fX3_strike_b86  z41.2))))))))))))) else some h) := by
    unfold fX3_strike fX3_strike_b38
    rw [orderOf_eq (vw2 hw), bd_t, gd_t (k_16 c), countAhead_g c Y (ordb hw), bd_t, r3_16_0 c, gs_t, gd_t (k_17 c), Y_size c Y, bd_t]
    by_cases d : pos ks (ord w) < ks.length
    · have W := (Y.2.2.2.1 _ (mem_getD d)).1
      have hv := s.2 _ (mem_getD d)
      rw [if_neg (nI_ge d (by omega)), gs_t, gd_t (k_17 c), Y_get c Y d, bd_t, gs_t, gd_t W.2.2.1, W.2.2.2.1]
      by_cases q : ks.getD (pos ks (ord w)) 0 = w
      · have hm : w ∈ ks := (pos_has s).mp ⟨d, q⟩
        rw [if_pos (by rw [q]), if_pos hm, gs_t, gd_t (k_17 c), Y_get c Y d, bd_t, gs_t, gd_t W.2.2.1, W.2.2.2.2.2.1, gs_t, gd_t W.2.2.2.2.2.2.1, q]
      · have hm : ¬ w ∈ ks := fun z => q ((pos_has s).mpr z).2
        rw [if_neg (by rw [nI_eq (vw31 hv) (vw31 hw)]; exact q), if_neg hm]
    · have hm : ¬ w ∈ ks := fun z => d ((pos_has s).mpr z).1
      have := pos_le ks (ord w)
      rw [if_pos (nI_le (by omega) (by omega)), if_neg hm]
  rw [st]
  by_cases d : w ∈ ks
  · rw [if_pos d]
    have q := (pos_has s).mpr d
    obtain ⟨W, b1, b2⟩ := Y.2.2.2.1 w d
    obtain ⟨g, f1, f2, f3⟩ := X9_take_eq W.2.2.2.2.2.2.1 W.2.2.2.2.2.2.2 ht
    have f2 : BS (fun t' => pTake p t w t' w) g (wb w) := f2.cong (fun i => by
      unfold pTake
      congr 2
      exact decide_eq_decide.mpr ⟨fun z => ⟨z, rfl⟩, fun z => z.1⟩)
    have Zg : IZ (pTake p t w) ks e wa wb g := Y.Z.set d f3 f2 (fun v hv t' => (pTake_ne hv t').symm)
    have xg : chg (fun _ _ _ => False) (fun _ _ _ => False) (fun a => a = wb w) h g := chg_L f3 rfl
    have cg : CSh g := c.chg b9 xg (fun _ _ q => q)
    obtain ⟨W', b1', b2'⟩ := Zg.2.2.2.1 w d
    have yg : yC e h g := chg_L f3 W.2.1
    rw [f1, bd_t, gd_t (k_16 cg), r3_16_0 cg, gs_t, gd_t (k_17 cg), Z_get Zg q.1, q.2, bd_t, gs_t, gd_t W'.2.2.1, W'.2.2.2.2.2.1, gs_t, gd_t W'.2.2.2.2.2.2.1, X9_size_eq W'.2.2.2.2.2.2.1 W'.2.2.2.2.2.2.2 (fun i hi => pz i w hi), bd_t]
    have n100 := cnt_le (fun i => pTake p t w i w) 100
    by_cases z : cnt (fun i => pTake p t w i w) 100 = 0
    · have z0 := cnt_zero z
      rw [z, if_neg (by decide), gs_t, gd_t (k_17 cg)]
      have A := Zg.2.2.1
      have ql : pos ks (ord w) < (ks.map wa).length := by rw [List.length_map]; exact q.1
      obtain ⟨h', r1, r2, r3, r4, r5, r6⟩ := listRemove_eq A (by rw [List.length_map]; omega) ql
      rw [r1, bd_t]
      have yr : yC e g h' := chg.mono r3 (fun _ _ _ _ q => q) (fun _ _ _ _ q => q) (fun _ _ q => q.elim)
      refine ⟨ks.eraseIdx (pos ks (ord w)), h', rfl, ⟨⟨erase_sk s _, fun v => ?_⟩, ?_, ?_, fun v hv => ?_, fun v1 v2 h1 h2 => Y.2.2.2.2.1 v1 v2 (List.mem_of_mem_eraseIdx h1) (List.mem_of_mem_eraseIdx h2), fun v1 v2 h1 h2 => Y.2.2.2.2.2.1 v1 v2 (List.mem_of_mem_eraseIdx h1) (List.mem_of_mem_eraseIdx h2), Y.2.2.2.2.2.2.1, pz, ?_⟩, chg.tr yg yr, ?_, ?_, ?_, List.length_eraseIdx_le _ _⟩
      · rw [erase_mem s d, hm v]
        constructor
        · rintro ⟨⟨t', h1, h2⟩, h3⟩
          exact ⟨t', h1, by rw [pTake_ne h3]; exact h2⟩
        · rintro ⟨t', h1, h2⟩
          by_cases dv : v = w
          · rw [dv, z0 t' h1] at h2; cases h2
          · exact ⟨⟨t', h1, by rw [pTake_ne dv] at h2; exact h2⟩, dv⟩
      · exact Nat.le_trans (List.length_eraseIdx_le _ _) h4
      · rw [map_eraseI]; exact r2
      · obtain ⟨V, v1, v2⟩ := Zg.2.2.2.1 v (List.mem_of_mem_eraseIdx hv)
        exact ⟨V.chg v1 v2 r3 (fun _ q => absurd q.1 (by decide)) lG17 (fun q => q) (fun _ => rfl), Nat.lt_of_lt_of_le v1 r3.1, Nat.lt_of_lt_of_le v2 r3.1⟩
      · exact Nat.le_trans Zg.2.2.2.2.2.2.2 r3.1
      · rw [r4]; exact f3.2.2.2.2.2.1
      · rw [r5]; exact f3.2.2.2.2.2.2
      · rw [r6]; exact f3.2.2.2.2.1
    · obtain ⟨t0, t1, t2⟩ := cnt_ex z
      rw [if_pos (show ¬ nI (cnt (fun i => pTake p t w i w) 100) = (0 : Int32) from fun y => z ((nI_eq (b := 0) (by omega) (by decide)).mp y))]
      refine ⟨ks, g, rfl, Zg.Y (fun v => ?_) pz, yg, f3.2.2.2.2.2.1, f3.2.2.2.2.2.2, f3.2.2.2.2.1, Nat.le_refl _⟩
      by_cases dv : v = w
      · subst dv
        exact ⟨fun _ => ⟨t0, t1, t2⟩, fun _ => d⟩
      · rw [hm v]
        constructor
        · rintro ⟨t', q1, q2⟩; exact ⟨t', q1, by rw [pTake_ne dv]; exact q2⟩
        · rintro ⟨t', q1, q2⟩; exact ⟨t', q1, by rw [pTake_ne dv] at q2; exact q2⟩
  · rw [if_neg d]
    have pe : ∀ t' v, p t' v = pTake p t w t' v := fun t' v => by
      by_cases dv : v = w
      · subst dv
        have : p t' v = false := by
          by_cases h1 : t' < 100
          · cases q : p t' v with
            | false => rfl
            | true => exact absurd ((hm v).mpr ⟨t', h1, q⟩) d
          · exact zz t' v (by omega)
        unfold pTake
        rw [this, Bool.and_false]
      · exact (pTake_ne dv t').symm
    have pf : pTake p t w = p := funext (fun t' => funext (fun v => (pe t' v).symm))
    exact ⟨ks, h, rfl, by rw [pf]; exact Y, chg.rf _ _ _ _, rfl, rfl, rfl, Nat.le_refl _⟩
