/-! THE SIMPLE PARTS of a query, from left to right -/
abbrev L3 : Type := Nat × List Nat × Nat
def lvs : (n : Nat) → QT n → List L3
  | 0, l => [(l : L3)]
  | n + 1, q => match (q : (Nat × List Nat × Nat) ⊕ (Nat × List (QT n))) with
    | .inl l => [l]
    | .inr p => (p.2.map (lvs n)).flatten
def flat : (n : Nat) → QT n → List (Option L3)
  | 0, l => [some (l : L3)]
  | n + 1, q => match (q : (Nat × List Nat × Nat) ⊕ (Nat × List (QT n))) with
    | .inl l => [some l]
    | .inr p => (p.2.map (flat n)).flatten ++ [none]
theorem flat_len : ∀ (n : Nat) (q : QT n), (flat n q).length = sz n q
  | 0, _ => rfl
  | _ + 1, .inl _ => rfl
  | n + 1, .inr p => by
    show ((p.2.map (flat n)).flatten ++ [none]).length = (p.2.map (sz n)).sum + 1
    rw [List.length_append, List.length_flatten, List.map_map]
    congr 2
    exact List.map_congr_left (fun c _ => flat_len n c)
theorem flat_lvs : ∀ (n : Nat) (q : QT n), (flat n q).filterMap id = lvs n q
  | 0, _ => rfl
  | _ + 1, .inl _ => rfl
  | n + 1, .inr p => by
    show ((p.2.map (flat n)).flatten ++ [none]).filterMap id = (p.2.map (lvs n)).flatten
    rw [List.filterMap_append]
    have : ∀ cs : List (QT n), ((cs.map (flat n)).flatten).filterMap id = (cs.map (lvs n)).flatten := fun cs => by
      induction cs with
      | nil => rfl
      | cons c cs ih => rw [List.map_cons, List.flatten_cons, List.filterMap_append, ih, flat_lvs n c, List.map_cons, List.flatten_cons]
    rw [this]
    exact List.append_nil _
theorem lvs_ok : ∀ (n : Nat) (q : QT n), wfq n q → ∀ l ∈ lvs n q, okL3 l
  | 0, _, w, l, h => by rw [show l = _ from List.mem_singleton.mp h]; exact w
  | _ + 1, .inl _, w, l, h => by rw [show l = _ from List.mem_singleton.mp h]; exact w
  | n + 1, .inr p, w, l, h => by
    obtain ⟨x, hx, hl⟩ := List.mem_flatten.mp (show l ∈ (p.2.map (lvs n)).flatten from h)
    obtain ⟨c, hc, rfl⟩ := List.mem_map.mp hx
    exact lvs_ok n c (w.2.2 c hc) l hl
def NodeM (h : PH) (q k : Nat) (x : Option L3) : Prop := match x with
  | none => ∃ kd, hI h 20 60 (400 * q + k) = nI kd ∧ 4 ≤ kd ∧ kd ≤ 6
  | some l => LfM3 h q k l
theorem flat_M {h : PH} {q : Nat} : ∀ (n : Nat) (Q : QT n) (lo : Nat), QM h q n Q lo → wfq n Q → ∀ k x, (flat n Q)[k]? = some x → NodeM h q (lo + k) x := by
  intro n
  induction n with
  | zero =>
    intro Q lo L w k x e
    have e : [some (Q : L3)][k]? = some x := e
    cases k with
    | zero => cases e; exact L
    | succ k => cases e
  | succ n ih =>
    intro Q lo L w k x e
    rcases Q with l | p
    · have e : [some l][k]? = some x := e
      cases k with
      | zero => cases e; exact L
      | succ k => cases e
    · obtain ⟨h1, h2, h3⟩ := L
      obtain ⟨w1, w2, w3⟩ := w
      have e : ((p.2.map (flat n)).flatten ++ [none])[k]? = some x := e
      have go : ∀ (cs : List (QT n)) (lo : Nat), (∀ c ∈ cs, wfq n c) → atL (sz n) (QM h q n) cs lo → ∀ k x, ((cs.map (flat n)).flatten)[k]? = some x → NodeM h q (lo + k) x := by
        intro cs
        induction cs with
        | nil => intro lo _ _ k x e; cases e
        | cons c cs ih2 =>
          intro lo wc a k x e
          rw [List.map_cons, List.flatten_cons] at e
          by_cases z : k < (flat n c).length
          · rw [List.getElem?_append_left z] at e
            exact ih c lo a.1 (wc c List.mem_cons_self) k x e
          · rw [List.getElem?_append_right (by omega)] at e
            have := ih2 (lo + sz n c) (fun d hd => wc d (List.mem_cons_of_mem _ hd)) a.2 _ x e
            rw [flat_len] at this z
            rw [show lo + k = lo + sz n c + (k - sz n c) by omega]
            exact this
      have ln : ((p.2.map (flat n)).flatten).length = (p.2.map (sz n)).sum := by
        rw [List.length_flatten, List.map_map]
        congr 1
        exact List.map_congr_left (fun c _ => flat_len n c)
      by_cases z : k < ((p.2.map (flat n)).flatten).length
      · rw [List.getElem?_append_left z] at e
        exact go p.2 lo w3 h1 k x e
      · rw [List.getElem?_append_right (by omega)] at e
        have k0 : k = (p.2.map (sz n)).sum := by
          cases y : k - ((p.2.map (flat n)).flatten).length with
          | zero => omega
          | succ y' => rw [y] at e; cases e
        subst k0
        rw [ln, Nat.sub_self] at e
        cases e
        refine ⟨p.1, h2, ?_, ?_⟩ <;> rcases w1 with ⟨r, -⟩ | ⟨r, -⟩ <;> omega
/-- the reference counts them -/
theorem simples_eq {h : PH} (m : MSh h) {q n : Nat} {Q : QT n} (hq : q < 8) (B : BM h q n Q) : fX12_simples 45 (nI q) h = some (nI (lvs n Q).length) := by
  obtain ⟨b1, b2, b3, b4, b5⟩ := B
  have fl := flat_len n Q
  have fm := flat_M n Q 0 b4 b5
  have cq : Int32.toNatClampNeg (nI q) = q := nI_clamp (by omega)
  have lp : ∀ f k : Nat, k + f = sz n Q → fX12_simples_l4 45 (nI q) (nI (((flat n Q).take k).filterMap id).length) (nI k) h = some (nI (lvs n Q).length) := by
    intro f
    induction f with
    | zero =>
      intro k hk
      have hk : k = sz n Q := by omega
      subst hk
      refine wh_done ?_
      show fX12_simples_c4 45 (nI q) (nI (((flat n Q).take (sz n Q)).filterMap id).length) (nI (sz n Q)) h = _
      unfold fX12_simples_c4
      rw [gd_t (k_45 m), r12_45_32 m, gs_t, gd_t ⟨k_67 m, by rw [n_67 m]; exact inbI hq (by decide)⟩]
      simp only [cq]
      rw [b1, if_pos (Int32.le_refl _), mr_t, ← fl, List.take_length, flat_lvs]
    | succ f ih =>
      intro k hk
      have hk1 : k < sz n Q := by omega
      have hk2 : k < (flat n Q).length := by omega
      have ck : Int32.toNatClampNeg (nI (400 * q + k)) = 400 * q + k := nI_clamp (by omega)
      have nd := fm k _ (List.getElem?_eq_getElem hk2)
      rw [Nat.zero_add] at nd
      have st : fX12_simples_c4 45 (nI q) (nI (((flat n Q).take k).filterMap id).length) (nI k) h = (if (4 : Int32) ≤ hI h 20 60 (400 * q + k) then some (.inl (nI (((flat n Q).take k).filterMap id).length + 0, nI (k + 1))) else some (.inl (nI (((flat n Q).take k).filterMap id).length + 1, nI (k + 1)))) := by
        unfold fX12_simples_c4 fX12_simples_b36
        rw [gd_t (k_45 m), r12_45_32 m, gs_t, gd_t ⟨k_67 m, by rw [n_67 m]; exact inbI hq (by decide)⟩]
        simp only [cq]
        rw [b1, if_neg (nI_ge hk1 (by omega)), r12_45_25 m, gs_t, i400, gd_t ⟨k_60 m, by rw [n_60 m]; exact inbI (by omega) (by decide)⟩]
        simp only [ck]
        rw [nI_1]
      have tk : (flat n Q).take (k + 1) = (flat n Q).take k ++ [(flat n Q)[k]] := by rw [List.take_append_getElem]
      have r := ih (k + 1) (by omega)
      rw [tk, List.filterMap_append] at r
      cases e : (flat n Q)[k] with
      | none =>
        rw [e] at nd r
        obtain ⟨kd, e1, e2, e3⟩ := nd
        rw [e1, if_pos (show (4 : Int32) ≤ nI kd from nI_le (a := 4) e2 (by omega)), Int32.add_zero] at st
        refine wh_step st ?_
        rw [show ([none] : List (Option L3)).filterMap id = [] from rfl, List.append_nil] at r
        exact r
      | some l =>
        rw [e] at nd r
        have ok := lvs_ok n Q b5 l (by
          rw [← flat_lvs]
          exact List.mem_filterMap.mpr ⟨some l, e ▸ List.getElem_mem hk2, rfl⟩)
        rw [nd.1.1, if_neg (show ¬ (4 : Int32) ≤ nI l.1 from nI_ge (b := 4) ok.1 (by decide)), nI_1] at st
        refine wh_step st ?_
        rw [show ([some l] : List (Option L3)).filterMap id = [l] from rfl, List.length_append] at r
        exact r
  exact lp (sz n Q) 0 (by omega)
def fnth : List (Option L3) → Nat → Nat → Option (Nat × L3)
  | [], _, _ => none
  | some l :: _, 0, i => some (i, l)
  | some _ :: f, k + 1, i => fnth f k (i + 1)
  | none :: f, k, i => fnth f k (i + 1)
theorem fnth_get : ∀ (f : List (Option L3)) (k i : Nat), (fnth f k i).map Prod.snd = (f.filterMap id)[k]?
  | [], _, _ => rfl
  | some l :: _, 0, _ => rfl
  | some _ :: f, k + 1, i => fnth_get f k (i + 1)
  | none :: f, k, i => fnth_get f k (i + 1)
theorem fnth_at : ∀ (f : List (Option L3)) (k i j : Nat) (l : L3), fnth f k i = some (j, l) → i ≤ j ∧ f[j - i]? = some (some l)
  | [], _, _, _, _, h => by cases h
  | some l :: _, 0, i, j, l', h => by
    cases h
    exact ⟨Nat.le_refl _, by rw [Nat.sub_self]; rfl⟩
  | some _ :: f, k + 1, i, j, l', h => by
    obtain ⟨h1, h2⟩ := fnth_at f k (i + 1) j l' h
    exact ⟨by omega, by rw [show j - i = (j - (i + 1)) + 1 by omega, List.getElem?_cons_succ]; exact h2⟩
  | none :: f, k, i, j, l', h => by
    obtain ⟨h1, h2⟩ := fnth_at f k (i + 1) j l' h
    exact ⟨by omega, by rw [show j - i = (j - (i + 1)) + 1 by omega, List.getElem?_cons_succ]; exact h2⟩
/-- the reference finds one by its number -/
theorem simple_eq {h : PH} (m : MSh h) {q n : Nat} {Q : QT n} (hq : q < 8) (B : BM h q n Q) {x : Nat} (hx : x < 2 ^ 31) : fX12_simple 45 (nI q) (nI x) h = some (optI ((fnth (flat n Q) x 0).map Prod.fst)) := by
  obtain ⟨b1, b2, b3, b4, b5⟩ := B
  have fl := flat_len n Q
  have fm := flat_M n Q 0 b4 b5
  have cq : Int32.toNatClampNeg (nI q) = q := nI_clamp (by omega)
  have lp : ∀ f k x : Nat, k + f = sz n Q → x < 2 ^ 31 → fX12_simple_l5 45 (nI q) (nI x) (nI k) h = some (optI ((fnth ((flat n Q).drop k) x k).map Prod.fst)) := by
    intro f
    induction f with
    | zero =>
      intro k x hk hx
      have hk : k = sz n Q := by omega
      subst hk
      refine wh_done ?_
      show fX12_simple_c5 45 (nI q) (nI x) (nI (sz n Q)) h = _
      unfold fX12_simple_c5 fX12_simple_b56
      rw [gd_t (k_45 m), r12_45_32 m, gs_t, gd_t ⟨k_67 m, by rw [n_67 m]; exact inbI hq (by decide)⟩]
      simp only [cq]
      rw [b1, if_pos (Int32.le_refl _), ← fl, List.drop_length, mr_t]
      rfl
    | succ f ih =>
      intro k x hk hx
      have hk1 : k < sz n Q := by omega
      have hk2 : k < (flat n Q).length := by omega
      have ck : Int32.toNatClampNeg (nI (400 * q + k)) = 400 * q + k := nI_clamp (by omega)
      have nd := fm k _ (List.getElem?_eq_getElem hk2)
      rw [Nat.zero_add] at nd
      rw [List.drop_eq_getElem_cons hk2]
      have st : fX12_simple_c5 45 (nI q) (nI x) (nI k) h = (if hI h 20 60 (400 * q + k) < (4 : Int32) then (if ¬ nI x = 0 then some (.inl (nI x + (-1), nI (k + 1))) else some (.inr (nI k))) else some (.inl (nI x, nI (k + 1)))) := by
        unfold fX12_simple_c5 fX12_simple_b50
        rw [gd_t (k_45 m), r12_45_32 m, gs_t, gd_t ⟨k_67 m, by rw [n_67 m]; exact inbI hq (by decide)⟩]
        simp only [cq]
        rw [b1, if_neg (nI_ge hk1 (by omega)), if_neg (nI_pos hx), r12_45_25 m, gs_t, i400, gd_t ⟨k_60 m, by rw [n_60 m]; exact inbI (by omega) (by decide)⟩]
        simp only [ck]
        rw [nI_1, mr_t]
      cases e : (flat n Q)[k] with
      | none =>
        rw [e] at nd
        obtain ⟨kd, e1, e2, e3⟩ := nd
        rw [e1, if_neg (show ¬ nI kd < (4 : Int32) from Int32.not_lt.mpr (nI_le (a := 4) e2 (by omega)))] at st
        exact wh_step st (ih (k + 1) x (by omega) hx)
      | some l =>
        rw [e] at nd
        have ok := lvs_ok n Q b5 l (by
          rw [← flat_lvs]
          exact List.mem_filterMap.mpr ⟨some l, e ▸ List.getElem_mem hk2, rfl⟩)
        rw [nd.1.1, if_pos (show nI l.1 < (4 : Int32) from nI_lt (b := 4) ok.1 (by decide))] at st
        cases x with
        | zero =>
          rw [if_neg (show ¬ ¬ nI 0 = 0 from fun z => z rfl)] at st
          exact wh_done st
        | succ x =>
          rw [if_pos (show ¬ nI (x + 1) = 0 from fun z => by
            have := (nI_eq (a := x + 1) (b := 0) (by omega) (by decide)).mp z
            omega), pk_m1] at st
          exact wh_step st (ih (k + 1) x (by omega) (by omega))
  have := lp (sz n Q) 0 x (by omega) hx
  rw [List.drop_zero] at this
  exact this
theorem simple_neg {h : PH} (m : MSh h) {q n : Nat} {Q : QT n} (hq : q < 8) (B : BM h q n Q) {x : Int32} (hx : x < 0) : fX12_simple 45 (nI q) x h = some (-1) := by
  obtain ⟨b1, b2, b3, b4, b5⟩ := B
  have sp := sz_pos n Q
  have cq : Int32.toNatClampNeg (nI q) = q := nI_clamp (by omega)
  refine wh_done ?_
  show fX12_simple_c5 45 (nI q) x (nI 0) h = _
  unfold fX12_simple_c5 fX12_simple_b56
  rw [gd_t (k_45 m), r12_45_32 m, gs_t, gd_t ⟨k_67 m, by rw [n_67 m]; exact inbI hq (by decide)⟩]
  simp only [cq]
  rw [b1, if_neg (nI_ge sp (by omega)), if_pos hx, mr_t]
