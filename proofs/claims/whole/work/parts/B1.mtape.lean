/-! THE REFERENCE READS A TEXT from the tape -/
theorem inN {x a b : Nat} (hx : x < 2 ^ 31) (ha : a < 2 ^ 31) (hb : b < 2 ^ 31) : fX12_in (nI x) (nI a) (nI b) = some (bI (decide (a ≤ x ∧ x ≤ b))) := by
  have e1 : decide (nI a ≤ nI x) = decide (a ≤ x) := decide_eq_decide.mpr (by rw [nI_leI ha hx])
  have e2 : decide (nI x ≤ nI b) = decide (x ≤ b) := decide_eq_decide.mpr (by rw [nI_leI hx hb])
  rw [in_eq, e1, e2, Bool.decide_and]
theorem mlb_eq {b : Nat} (hb : b < 256) : fX12_letterOfByte (nI b) = some (nI (ltb b)) := by
  unfold fX12_letterOfByte fX12_letterOfByte_b41 ltb
  rw [show (97 : Int32) = nI 97 from rfl, show (122 : Int32) = nI 122 from rfl, show (65 : Int32) = nI 65 from rfl, show (90 : Int32) = nI 90 from rfl, inN (by omega) (by decide) (by decide), bd_t]
  by_cases h1 : 97 ≤ b ∧ b ≤ 122
  · rw [decide_eq_true h1, if_neg (by decide), if_pos h1, sub1 h1.1, show b - 97 + 1 = b - 96 by omega]
  · rw [decide_eq_false h1, if_pos (by decide), if_neg h1, inN (by omega) (by decide) (by decide), bd_t]
    by_cases h2 : 65 ≤ b ∧ b ≤ 90
    · rw [decide_eq_true h2, if_neg (by decide), if_pos h2, sub1 h2.1, show b - 65 + 1 = b - 64 by omega]
    · rw [decide_eq_false h2, if_pos (by decide), if_neg h2]
      rfl
def QW (bs acc : List Nat) (fr j : Nat) (w : Int32) : Prop := ((6 < j ∨ (acc.length = 40 ∧ j ≠ 0)) ∧ rdT (bs.drop fr) fr 0 0 acc = .inl fr) ∨ (j ≤ 6 ∧ (j = 0 ∨ acc.length ≠ 40) ∧ ∃ n, w = nI n ∧ lwd j n ∧ rdT (bs.drop fr) fr 0 0 acc = rdT (bs.drop (fr + j)) (fr + j) j n acc)
theorem QW.step {bs acc : List Nat} {fr j : Nat} {w : Int32} (q : QW bs acc fr j w) (hj : fr + j < bs.length) (z : ltb (bs.getD (fr + j) 0) ≠ 0) {w' : Int32} (hw : j < 6 → w' = 27 * w + nI (ltb (bs.getD (fr + j) 0))) : QW bs acc fr (j + 1) w' := by
  rcases q with ⟨q1, q2⟩ | ⟨q1, q2, n, q3, q4, q5⟩
  · left
    exact ⟨by omega, q2⟩
  · rw [dropS hj, rdT, if_neg z] at q5
    by_cases y : 6 < j + 1 ∨ acc.length = 40
    · rw [if_pos y, Nat.add_sub_cancel] at q5
      left
      exact ⟨by omega, q5⟩
    · rw [if_neg y] at q5
      right
      refine ⟨by omega, Or.inr (fun u => y (Or.inr u)), n * 27 + ltb (bs.getD (fr + j) 0), ?_, lwd_s q4 (by omega) z (ltb_le _), q5⟩
      rw [hw (by omega), q3, show (27 : Int32) = nI 27 from rfl, pk_mul, nI_add, Nat.mul_comm]
theorem rd_in {g : PH} (m : MSh g) {bs : List Nat} (T : TM bs g) (ok : okB bs) (l3 : bs.length ≤ 300) {fr : Nat} {acc : List Nat} : ∀ f j w, fr + j + f = bs.length → QW bs acc fr j w → ∃ j' w', (∀ r, fX12_readsText_b81 45 (nI (fr + j')) (nI fr) w' g = some r → fX12_readsText_l32 45 (nI (fr + j)) (nI fr) w g = some r) ∧ fr + j' ≤ bs.length ∧ QW bs acc fr j' w' ∧ (fr + j' < bs.length → ltb (bs.getD (fr + j') 0) = 0) := by
  intro f
  induction f with
  | zero =>
    intro j w hj q
    refine ⟨j, w, fun r hr => wh_done ?_, by omega, q, fun z => by omega⟩
    show fX12_readsText_c32 45 (nI (fr + j)) (nI fr) w g = _
    unfold fX12_readsText_c32
    rw [gd_t (k_45 m), T.1, if_pos (nI_le (by omega) (by omega)), hr, mr_t]
  | succ f ih =>
    intro j w hj q
    have hj1 : fr + j < bs.length := by omega
    have ck : Int32.toNatClampNeg (nI (fr + j)) = fr + j := nI_clamp (by omega)
    have bb := (ok _ (mem_getD hj1)).2
    have l26 := ltb_le (bs.getD (fr + j) 0)
    have hk : hK g 46 = 20 ∧ inb (nI (fr + j)) (hN g 46) := ⟨k_46 m, by rw [n_46 m]; exact inbI (by omega) (by decide)⟩
    have st : fX12_readsText_c32 45 (nI (fr + j)) (nI fr) w g = (if (nI (ltb (bs.getD (fr + j) 0)) ≤ 0) then (mr (fX12_readsText_b81 45 (nI (fr + j)) (nI fr) w g)) else if ((6 : Int32) ≤ nI j) then some (.inl (nI (fr + j + 1), w)) else some (.inl (nI (fr + j + 1), 27 * w + nI (ltb (bs.getD (fr + j) 0))))) := by
      unfold fX12_readsText_c32 fX12_readsText_b75
      rw [gd_t (k_45 m), T.1, if_neg (nI_ge hj1 (by omega)), r12_45_1 m, gs_t, gd_t hk]
      simp only [ck]
      rw [T.2 _ hj1, mlb_eq bb, bd_t, pk_sub (by omega), Nat.add_sub_cancel_left, gs_t, gd_t hk, T.2 _ hj1, mlb_eq bb, bd_t, nI_1]
    by_cases z : ltb (bs.getD (fr + j) 0) = 0
    · refine ⟨j, w, fun r hr => wh_done ?_, by omega, q, fun _ => z⟩
      show fX12_readsText_c32 45 (nI (fr + j)) (nI fr) w g = _
      rw [st, z, if_pos (show nI 0 ≤ (0 : Int32) by decide), hr, mr_t]
    · rw [if_neg (show ¬ nI (ltb (bs.getD (fr + j) 0)) ≤ (0 : Int32) from show ¬ nI (ltb (bs.getD (fr + j) 0)) ≤ nI 0 from nI_ge (by omega) (by omega))] at st
      by_cases y : 6 ≤ j
      · rw [if_pos (show (6 : Int32) ≤ nI j from nI_le (a := 6) y (by omega))] at st
        obtain ⟨j', w', r⟩ := ih (j + 1) w (by omega) (q.step hj1 z (fun u => by omega))
        exact ⟨j', w', fun r' hr => wh_step (t := (nI (fr + j + 1), w)) st (r.1 r' hr), r.2⟩
      · rw [if_neg (show ¬ (6 : Int32) ≤ nI j from nI_ge (b := 6) (by omega) (by decide))] at st
        obtain ⟨j', w', r⟩ := ih (j + 1) (27 * w + nI (ltb (bs.getD (fr + j) 0))) (by omega) (q.step hj1 z (fun _ => rfl))
        exact ⟨j', w', fun r' hr => wh_step (t := (nI (fr + j + 1), 27 * w + nI (ltb (bs.getD (fr + j) 0)))) st (r.1 r' hr), r.2⟩
def isRd (c a k : Nat) : Bool := (c == 12 && a == 45 && (k == 2 || k == 3 || k == 8)) || (c == 20 && a == 50)
def RM (r : Nat ⊕ List Nat) (h' : PH) : Prop := hI h' 12 45 3 = rdV r ∧ match r with
  | .inl p => p < 300
  | .inr ws => hI h' 12 45 8 = nI ws.length ∧ ∀ i, i < ws.length → hI h' 20 50 i = nI (ws.getD i 0)
def isR (r : Nat ⊕ List Nat) : Bool := match r with
  | .inl _ => false
  | .inr _ => true
theorem rd_fin {g : PH} (m : MSh g) {r : Nat ⊕ List Nat} (R : RM r g) : ∃ h', fX12_readsText_b145 45 g = some (bI (isR r), h') ∧ onlyI isRd g h' ∧ hI h' 12 45 2 = 0 ∧ RM r h' := by
  have o1 : onlyI (fun c a k => c == 12 && a == 45 && k == 2) g (sI g 12 45 2 0) := onlyI_sI _ _ rfl
  have e3 : hI (sI g 12 45 2 0) 12 45 3 = rdV r := (o1.1 12 45 3 rfl).trans R.1
  refine ⟨sI g 12 45 2 0, ?_, onlyI_sI _ _ rfl, by rw [hI_sI, if_pos ⟨rfl, rfl, rfl⟩], e3, ?_⟩
  · unfold fX12_readsText_b145 fX12_readsText_b163
    rw [gd_t (k_45 m), lt_t, e3]
    cases r with
    | inl p => rw [if_pos (show ¬ rdV (.inl p) = (-1 : Int32) from nI_nm1 (by have : p < 300 := R.2; omega))]; rfl
    | inr ws => rw [if_neg (show ¬ ¬ rdV (.inr ws) = (-1 : Int32) from fun z => z rfl)]; rfl
  · cases r with
    | inl p => exact R.2
    | inr ws => exact ⟨(o1.1 12 45 8 rfl).trans R.2.1, fun i hi => (o1.1 20 50 i rfl).trans (R.2.2 i hi)⟩
theorem rdT_end {k n i : Nat} {acc : List Nat} (hk : k ≠ 0) {bs : List Nat} (e : ∀ b bs', bs = b :: bs' → ltb b = 0) : rdT bs i k n acc = rdT bs i 0 0 (acc ++ [n]) := by
  cases bs with
  | nil => rw [rdT, rdT, if_neg hk, if_pos rfl]
  | cons b bs =>
    have z := e b bs rfl
    rw [rdT, rdT, if_pos z, if_pos z, if_neg hk, if_pos rfl]
theorem rd_out {h : PH} (m : MSh h) {bs : List Nat} (T : TM bs h) (ok : okB bs) (l3 : bs.length ≤ 300) : ∀ f i acc g, bs.length - i ≤ f → i ≤ bs.length → onlyI isRd h g → hI g 12 45 2 = nI bs.length → RM (.inr acc) g → acc.length ≤ 40 → ∃ h', fX12_readsText_l12 45 (nI i) g = some (bI (isR (rdT (bs.drop i) i 0 0 acc)), h') ∧ onlyI isRd h h' ∧ hI h' 12 45 2 = 0 ∧ RM (rdT (bs.drop i) i 0 0 acc) h' := by
  intro f
  induction f with
  | zero =>
    intro i acc g hi hi2 og e2 R ha
    have hi : i = bs.length := by omega
    subst hi
    have mg := m.oI og
    rw [List.drop_length, rdT, if_pos rfl]
    obtain ⟨h', f1, f2, f3⟩ := rd_fin mg R
    refine ⟨h', wh_done ?_, og.tr f2, f3⟩
    show fX12_readsText_c12 45 (nI bs.length) g = _
    unfold fX12_readsText_c12
    rw [gd_t (k_45 mg), e2, if_pos (Int32.le_refl _), f1, mr_t]
  | succ f ih =>
    intro i acc g hi hi2 og e2 R ha
    have mg := m.oI og
    have Tg : TM bs g := ⟨e2, fun k hk => (og.1 20 46 k rfl).trans (T.2 k hk)⟩
    by_cases z : i = bs.length
    · subst z
      rw [List.drop_length, rdT, if_pos rfl]
      obtain ⟨h', f1, f2, f3⟩ := rd_fin mg R
      refine ⟨h', wh_done ?_, og.tr f2, f3⟩
      show fX12_readsText_c12 45 (nI bs.length) g = _
      unfold fX12_readsText_c12
      rw [gd_t (k_45 mg), e2, if_pos (Int32.le_refl _), f1, mr_t]
    · have hi1 : i < bs.length := by omega
      obtain ⟨r3, r8, r50⟩ := id R
      have st : fX12_readsText_c12 45 (nI i) g = fX12_readsText_l32 45 (nI (i + 0)) (nI i) (nI 0) g := by
        unfold fX12_readsText_c12
        rw [gd_t (k_45 mg), e2, if_neg (nI_ge hi1 (by omega)), r3, if_neg (show ¬ ¬ rdV (.inr acc) = (-1 : Int32) from fun w => w rfl)]
        rfl
      obtain ⟨j, w, q1, q2, q3, q4⟩ := rd_in mg Tg ok l3 (fr := i) (acc := acc) (bs.length - i) 0 (nI 0) (by omega) (Or.inr ⟨Nat.zero_le _, Or.inl rfl, 0, rfl, Or.inl ⟨rfl, rfl⟩, by rw [Nat.add_zero]⟩)
      have sj : nI (i + j) - nI i = nI j := by rw [pk_sub (by omega), Nat.add_sub_cancel_left]
      -- the error
      have err : (6 < j ∨ (acc.length = 40 ∧ j ≠ 0)) → rdT (bs.drop i) i 0 0 acc = .inl i → ∃ h', fX12_readsText_l12 45 (nI i) g = some (bI (isR (rdT (bs.drop i) i 0 0 acc)), h') ∧ onlyI isRd h h' ∧ hI h' 12 45 2 = 0 ∧ RM (rdT (bs.drop i) i 0 0 acc) h' := fun u v => by
        rw [v]
        have o1 : onlyI isRd g (sI g 12 45 3 (nI i)) := onlyI_sI _ _ rfl
        have m1 := mg.oI o1
        obtain ⟨h', f1, f2, f3⟩ := rd_fin m1 (r := .inl i) ⟨by rw [hI_sI, if_pos ⟨rfl, rfl, rfl⟩]; rfl, by show i < 300; omega⟩
        refine ⟨h', wh_step (t := (nI (i + j), sI g 12 45 3 (nI i))) ?_ (wh_done ?_), (og.tr o1).tr f2, f3⟩
        · refine st.trans (q1 _ ?_)
          have e103 : fX12_readsText_b103 45 (nI (i + j)) (nI i) g = some (.inl (nI (i + j), sI g 12 45 3 (nI i))) := by
            unfold fX12_readsText_b103 fX12_readsText_b142
            rw [gd_t (k_45 mg), lt_t]
          unfold fX12_readsText_b81
          rw [sj]
          by_cases y : 6 < j
          · rw [if_pos (show (6 : Int32) < nI j from nI_lt (a := 6) y (by omega)), e103]
          · obtain ⟨u1, u2⟩ := u.resolve_left y
            rw [if_neg (show ¬ (6 : Int32) < nI j from Int32.not_lt.mpr (nI_le (b := 6) (by omega) (by decide))), if_neg (nI_ge (by omega) (by omega)), gd_t (k_45 mg), r8, u1, if_neg (show ¬ ¬ nI 40 = (40 : Int32) from fun w => w rfl), e103]
        · show fX12_readsText_c12 45 (nI (i + j)) (sI g 12 45 3 (nI i)) = _
          unfold fX12_readsText_c12
          rw [gd_t (k_45 m1), f1]
          have e3 : hI (sI g 12 45 3 (nI i)) 12 45 3 = nI i := by rw [hI_sI, if_pos ⟨rfl, rfl, rfl⟩]
          by_cases y : hI (sI g 12 45 3 (nI i)) 12 45 2 ≤ nI (i + j)
          · rw [if_pos y, mr_t]
          · rw [if_neg y, e3, if_pos (show ¬ nI i = (-1 : Int32) from nI_nm1 (by omega)), mr_t]
      rcases q3 with ⟨u, v⟩ | ⟨u1, u2, n, u3, u4, u5⟩
      · exact err u v
      · by_cases y : j = 0
        · subst y
          have zb := q4 (by omega)
          rw [Nat.add_zero] at zb
          obtain ⟨h', r⟩ := ih (i + 1) acc g (by omega) (by omega) og e2 R ha
          have e5 : rdT (bs.drop i) i 0 0 acc = rdT (bs.drop (i + 1)) (i + 1) 0 0 acc := by rw [dropS hi1, rdT, if_pos zb, if_pos rfl]
          rw [e5]
          refine ⟨h', wh_step (t := (nI (i + 1), g)) (st.trans (q1 _ ?_)) r.1, r.2⟩
          unfold fX12_readsText_b81 fX12_readsText_b111 fX12_readsText_b142
          rw [sj, if_neg (show ¬ (6 : Int32) < nI 0 by decide), Nat.add_zero, if_pos (Int32.le_refl _), if_pos (Int32.le_refl _), nI_1]
        · have na : acc.length ≠ 40 := u2.resolve_left y
          have cl : Int32.toNatClampNeg (nI acc.length) = acc.length := nI_clamp (by omega)
          have o1 : onlyI isRd g (sI g 20 50 acc.length (nI n)) := onlyI_sI _ _ rfl
          have o2 : onlyI isRd g (sI (sI g 20 50 acc.length (nI n)) 12 45 8 (nI (acc.length + 1))) := o1.tr (onlyI_sI _ _ rfl)
          have e8 : hI (sI g 20 50 acc.length (nI n)) 12 45 8 = nI acc.length := by rw [c20 _ _ _ _ (by decide)]; exact r8
          have ex : rdT (bs.drop i) i 0 0 acc = rdT (bs.drop (i + j)) (i + j) 0 0 (acc ++ [n]) := by
            rw [u5]
            refine rdT_end y (fun b bs' e => ?_)
            by_cases l : i + j < bs.length
            · rw [dropS l] at e
              have := q4 l
              rw [List.cons.injEq] at e
              rw [← e.1]
              exact this
            · rw [List.drop_eq_nil_of_le (by omega)] at e
              cases e
          obtain ⟨h', r⟩ := ih (i + j) (acc ++ [n]) _ (by omega) (by omega) (og.tr o2) (by rw [hI_sI, if_neg (by simp), c20 _ _ _ _ (by decide)]; exact e2) ⟨by rw [hI_sI, if_neg (by simp), c20 _ _ _ _ (by decide)]; exact r3, by rw [hI_sI, if_pos ⟨rfl, rfl, rfl⟩, List.length_append]; rfl, fun k hk => by
            rw [List.length_append] at hk
            have hk : k < acc.length + 1 := hk
            rw [n20 _ _ (by decide), rdA]
            by_cases d : k = acc.length
            · rw [if_pos d, d, getD_end]
            · rw [if_neg d, getD_app (by omega)]
              exact r50 k (by omega)⟩ (by rw [List.length_append]; show acc.length + 1 ≤ 40; omega)
          rw [ex]
          refine ⟨h', wh_step (t := (nI (i + j), _)) (st.trans (q1 _ ?_)) r.1, r.2⟩
          unfold fX12_readsText_b81 fX12_readsText_b111 fX12_readsText_b142
          have nle : ¬ nI (i + j) ≤ nI i := nI_ge (by omega) (by omega)
          rw [sj, if_neg (show ¬ (6 : Int32) < nI j from Int32.not_lt.mpr (nI_le (b := 6) (by omega) (by decide))), if_neg nle, gd_t (k_45 mg), r8, if_pos (show ¬ nI acc.length = (40 : Int32) from fun w => na ((nI_eq (b := 40) (by omega) (by decide)).mp w)), if_neg nle, gd_t (k_45 mg), r12_45_7 mg, gs_t, gd_t ⟨k_50 mg, by rw [n_50 mg]; exact inbI (by omega) (by decide)⟩, lt_t]
          simp only [cl]
          rw [u3, lt_t, e8, nI_1]
theorem readsText_eq {h : PH} (m : MSh h) {bs : List Nat} (T : TM bs h) (ok : okB bs) (l3 : bs.length ≤ 300) : ∃ h', fX12_readsText 45 h = some (bI (isR (rdT bs 0 0 0 [])), h') ∧ onlyI isRd h h' ∧ hI h' 12 45 2 = 0 ∧ RM (rdT bs 0 0 0 []) h' := by
  have o1 : onlyI isRd h (sI h 12 45 8 0) := onlyI_sI _ _ rfl
  have o2 : onlyI isRd h (sI (sI h 12 45 8 0) 12 45 3 (-1)) := o1.tr (onlyI_sI _ _ rfl)
  obtain ⟨h', r1, r2, r3, r4⟩ := rd_out m T ok l3 bs.length 0 [] _ (by omega) (Nat.zero_le _) o2 (by rw [hI_sI, if_neg (by simp), hI_sI, if_neg (by simp)]; exact T.1) ⟨by rw [hI_sI, if_pos ⟨rfl, rfl, rfl⟩]; rfl, by rw [hI_sI, if_neg (by simp), hI_sI, if_pos ⟨rfl, rfl, rfl⟩]; rfl, fun i hi => absurd hi (Nat.not_lt_zero _)⟩ (Nat.zero_le _)
  rw [List.drop_zero] at r1 r4
  refine ⟨h', ?_, r2, r3, r4⟩
  unfold fX12_readsText
  rw [gd_t (k_45 m), lt_t, lt_t]
  exact r1
