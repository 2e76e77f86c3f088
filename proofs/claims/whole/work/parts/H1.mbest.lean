/-! COMPARE: the reference finds the least choice, and tells it -/
def isDm (c a k : Nat) : Bool := (c == 12 && a == 45 && k == 59) || (c == 20 && a == 86)
theorem isDm86 (k : Nat) : isDm 20 86 k = true := rfl
def LEm (o : Option (List Nat)) (h : PH) : Prop := match o with
  | none => hI h 12 45 59 = -1
  | some T => hI h 12 45 59 = nI T.length ∧ ∀ i, i < T.length → hI h 20 86 i = nI (T.getD i 0)
def isCp (c a k : Nat) : Bool := isHo c a k || isDm c a k
theorem cp_1 {c a k : Nat} (e : isHo c a k = true) : isCp c a k = true := by unfold isCp; rw [e]; rfl
theorem cp_2 {c a k : Nat} (e : isDm c a k = true) : isCp c a k = true := by unfold isCp; rw [e, Bool.or_true]
/-- what is told -/
theorem tell_eq {h : PH} (m : MSh h) {ks : List Nat} (K : KN ks h) (h10 : ks.length ≤ 10) {s : Nat} (hs : s < 2 ^ ks.length) : ∃ h', fX12_compare_l238 45 (nI s) (nI 0) (sI h 12 45 59 0) = some (nI (wpr ks (fun i => s.testBit i) ks.length).length, h') ∧ onlyI isDm h h' ∧ LEm (some (wpr ks (fun i => s.testBit i) ks.length)) h' := by
  have s10 := pow10 h10 hs
  have lp : ∀ (f i : Nat) (g : PH), i + f = ks.length → onlyI isDm h g → LEm (some (wpr ks (fun i => s.testBit i) i)) g → ∃ h', fX12_compare_l238 45 (nI s) (nI i) g = some (nI (wpr ks (fun i => s.testBit i) ks.length).length, h') ∧ onlyI isDm h h' ∧ LEm (some (wpr ks (fun i => s.testBit i) ks.length)) h' := by
    intro f
    induction f with
    | zero =>
      intro i g hi o L
      have hi : i = ks.length := by omega
      subst hi
      have mg := m.oI o
      have e20 : hI g 12 45 20 = nI ks.length := (o.1 12 45 20 rfl).trans K.1
      refine ⟨g, wh_done ?_, o, L⟩
      show fX12_compare_c238 45 (nI s) (nI ks.length) g = _
      unfold fX12_compare_c238 fX12_compare_b296
      rw [gd_t (k_45 mg), e20, if_pos (Int32.le_refl _), gd_t (k_45 mg), L.1, mr_t]
    | succ f ih =>
      intro i g hi o L
      have hlt : i < ks.length := by omega
      have mg := m.oI o
      have e20 : hI g 12 45 20 = nI ks.length := (o.1 12 45 20 rfl).trans K.1
      have wl : (wpr ks (fun i => s.testBit i) i).length ≤ i := by
        rw [wpr_len]
        exact cnt_le _ i
      have hd : fX12_compare_c238 45 (nI s) (nI i) g = (if ¬ bI (s.testBit i) = 0 then fX12_compare_b290 45 (nI s) (nI i) (sI (sI g 20 86 (wpr ks (fun i => s.testBit i) i).length (nI (ks.getD i 0))) 12 45 59 (nI ((wpr ks (fun i => s.testBit i) i).length + 1))) else fX12_compare_b290 45 (nI s) (nI i) g) := by
        have e59 : hI (sI g 20 86 (wpr ks (fun i => s.testBit i) i).length (nI (ks.getD i 0))) 12 45 59 = nI (wpr ks (fun i => s.testBit i) i).length := by rw [hI_sI, if_neg (fun z => absurd z.1 (by decide))]; exact L.1
        have c1 : Int32.toNatClampNeg (nI (wpr ks (fun i => s.testBit i) i).length) = (wpr ks (fun i => s.testBit i) i).length := nI_clamp (by omega)
        have c2 : Int32.toNatClampNeg (nI i) = i := nI_clamp (by omega)
        have e19 : hI g 20 59 i = nI (ks.getD i 0) := (o.1 20 59 i rfl).trans (K.2 i hlt)
        unfold fX12_compare_c238
        rw [gd_t (k_45 mg), e20, if_neg (nI_ge hlt (by omega)), if_neg (nI_nm1 (by omega)), bitM s s10 i (by omega), r12_45_19 mg, gs_t, gd_t ⟨k_59 mg, by rw [n_59 mg]; exact inbI (by omega) (by decide)⟩, r12_45_58 mg, gs_t, L.1, gd_t ⟨k_86 mg, by rw [n_86 mg]; exact inbI (by omega) (by decide)⟩, lt_t, lt_t, c1, c2, e19, e59, nI_1]
      cases z : s.testBit i with
      | false =>
        rw [z, if_neg (show ¬ ¬ bI false = 0 from fun y => y rfl)] at hd
        obtain ⟨h', r1, r2⟩ := ih (i + 1) g (by omega) o (by
          show LEm (some (wpr ks (fun i => s.testBit i) i ++ (if s.testBit i then [ks.getD i 0] else []))) g
          rw [z]
          show LEm (some (_ ++ [])) g
          rw [List.append_nil]; exact L)
        refine ⟨h', wh_step (t := (nI (i + 1), g)) ?_ r1, r2⟩
        refine hd.trans ?_
        unfold fX12_compare_b290
        rw [nI_1]
      | true =>
        rw [z, if_pos (show ¬ bI true = 0 by decide)] at hd
        obtain ⟨h', r1, r2⟩ := ih (i + 1) (sI (sI g 20 86 (wpr ks (fun i => s.testBit i) i).length (nI (ks.getD i 0))) 12 45 59 (nI ((wpr ks (fun i => s.testBit i) i).length + 1))) (by omega) (o.tr ((onlyI_sI _ _ (isDm86 _)).tr (onlyI_sI _ _ rfl))) (by
          show LEm (some (wpr ks (fun i => s.testBit i) i ++ (if s.testBit i then [ks.getD i 0] else []))) _
          rw [z]
          show LEm (some (wpr ks (fun i => s.testBit i) i ++ [ks.getD i 0])) _
          refine ⟨by rw [hI_sI, if_pos ⟨rfl, rfl, rfl⟩, List.length_append]; rfl, fun j hj => ?_⟩
          rw [List.length_append] at hj
          have hj : j < (wpr ks (fun i => s.testBit i) i).length + 1 := hj
          rw [hI_sI, if_neg (fun y => absurd y.1 (by decide)), getI, app_getD hj]
          by_cases d : j = (wpr ks (fun i => s.testBit i) i).length
          · rw [if_pos ⟨rfl, d⟩, if_pos d]
          · rw [if_neg (fun y => d y.2), if_neg d]
            exact L.2 j (by omega))
        refine ⟨h', wh_step (t := (nI (i + 1), _)) ?_ r1, r2⟩
        refine hd.trans ?_
        unfold fX12_compare_b290
        rw [nI_1]
  exact lp ks.length 0 (sI h 12 45 59 0) (Nat.zero_add _) (onlyI_sI _ _ rfl) ⟨by rw [hI_sI, if_pos ⟨rfl, rfl, rfl⟩]; rfl, fun i hi => absurd hi (Nat.not_lt_zero _)⟩
/-- none is told -/
theorem tell_no {h : PH} (m : MSh h) {ks : List Nat} (K : KN ks h) (h10 : ks.length ≤ 10) : fX12_compare_l238 45 (-1) (nI 0) (sI h 12 45 59 (-1)) = some (-1, sI h 12 45 59 (-1)) := by
  have o : onlyI isDm h (sI h 12 45 59 (-1)) := onlyI_sI _ _ rfl
  have mg := m.oI o
  have e20 : hI (sI h 12 45 59 (-1)) 12 45 20 = nI ks.length := (o.1 12 45 20 rfl).trans K.1
  have e59 : hI (sI h 12 45 59 (-1)) 12 45 59 = -1 := by rw [hI_sI, if_pos ⟨rfl, rfl, rfl⟩]
  refine wh_done ?_
  show fX12_compare_c238 45 (-1) (nI 0) (sI h 12 45 59 (-1)) = _
  unfold fX12_compare_c238 fX12_compare_b296
  rw [gd_t (k_45 mg), e20, if_pos (show (-1 : Int32) = -1 from rfl), gd_t (k_45 mg), e59, mr_t]
  split <;> rfl
theorem best_eq {h : PH} (m : MSh h) {q1 q2 : Nat} {Q1 Q2 : QT 27} (hq1 : q1 < 8) (hq2 : q2 < 8) (B1 : BM h q1 27 Q1) (B2 : BM h q2 27 Q2) (az1 : allz (lvs 27 Q1) = true) (az2 : allz (lvs 27 Q2) = true) {ks : List Nat} (sk : SK ks) (K : KN ks h) (h10 : ks.length ≤ 10) (mem1 : ∀ l ∈ lvs 27 Q1, l.2.1.getD 0 0 ∈ ks) (mem2 : ∀ l ∈ lvs 27 Q2, l.2.1.getD 0 0 ∈ ks) : ∃ o h' v, fX12_compare_l112 45 (nI q1) (nI q2) (-1) (nI 0) h = some (v, h') ∧ v = hI h' 12 45 59 ∧ onlyI isCp h h' ∧ BEST ks.length (DQ ks Q1 Q2) o ∧ LEm (o.map (fun s => wpr ks (fun i => s.testBit i) ks.length)) h' := by
  obtain ⟨sh1, -⟩ := shlN ks.length (by omega)
  have lp : ∀ (f s : Nat) (o : Option Nat) (g : PH), s + f = 2 ^ ks.length → onlyI isHo h g → UPW ks.length (DQ ks Q1 Q2) s o → ∃ ob h' v, fX12_compare_l112 45 (nI q1) (nI q2) (optI o) (nI s) g = some (v, h') ∧ v = hI h' 12 45 59 ∧ onlyI isCp h h' ∧ BEST ks.length (DQ ks Q1 Q2) ob ∧ LEm (ob.map (fun s => wpr ks (fun i => s.testBit i) ks.length)) h' := by
    have p10 : 2 ^ ks.length ≤ 1024 := show 2 ^ ks.length ≤ 2 ^ 10 from Nat.pow_le_pow_right (by decide) h10
    have oK : ∀ {g : PH}, onlyI isHo h g → KN ks g := fun o => ⟨(o.1 12 45 20 rfl).trans K.1, fun i hi => (o.1 20 59 i rfl).trans (K.2 i hi)⟩
    intro f
    induction f with
    | zero =>
      intro s o g hs og U
      have hs : s = 2 ^ ks.length := by omega
      subst hs
      have mg := m.oI og
      have Kg := oK og
      cases o with
      | none =>
        refine ⟨none, sI g 12 45 59 (-1), -1, wh_done ?_, by rw [hI_sI, if_pos ⟨rfl, rfl, rfl⟩], (og.mono (fun _ _ _ => cp_1)).tr (onlyI_sI _ _ rfl), U.fin, by show hI _ 12 45 59 = -1; rw [hI_sI, if_pos ⟨rfl, rfl, rfl⟩]⟩
        show fX12_compare_c112 45 (nI q1) (nI q2) (-1) (nI (2 ^ ks.length)) g = _
        unfold fX12_compare_c112 fX12_compare_b232
        rw [gd_t (k_45 mg), Kg.1, sh1, if_pos (Int32.le_refl _), if_neg (show ¬ ¬ (-1 : Int32) = -1 from fun y => y rfl), gs_t, gd_t (k_45 mg), lt_t, show fX12_compare_l238 45 (-1) (0 : Int32) (sI g 12 45 59 (-1)) = _ from tell_no mg Kg h10, mr_t]
      | some b =>
        obtain ⟨h', r1, r2, r3⟩ := tell_eq mg Kg h10 (s := b) U.1
        have b10 : b < 1024 := by have := U.1; omega
        refine ⟨some b, h', nI (wpr ks (fun i => b.testBit i) ks.length).length, wh_done ?_, r3.1.symm, (og.mono (fun _ _ _ => cp_1)).tr (r2.mono (fun _ _ _ => cp_2)), U.fin, r3⟩
        show fX12_compare_c112 45 (nI q1) (nI q2) (nI b) (nI (2 ^ ks.length)) g = _
        unfold fX12_compare_c112 fX12_compare_b232
        rw [gd_t (k_45 mg), Kg.1, sh1, if_pos (Int32.le_refl _), if_pos (nI_nm1 (by omega)), gs_t, gd_t (k_45 mg), lt_t, show fX12_compare_l238 45 (nI b) (0 : Int32) (sI g 12 45 59 0) = _ from r1, mr_t]
    | succ f ih =>
      intro s o g hs og U
      have hs2 : s < 2 ^ ks.length := by omega
      have mg := m.oI og
      have Kg := oK og
      have oB : ∀ {g : PH} {q : Nat} {Q : QT 27}, onlyI isHo h g → BM h q 27 Q → BM g q 27 Q := fun o B => B.of (fun a k h1 h2 => o.1 20 a k (by unfold isHo; rfl))
      obtain ⟨g1, a1, a2⟩ := holdsFor_eq mg hq1 (oB og B1) az1 sk Kg h10 mem1 hs2
      have o1 := og.tr a2
      have m1 := m.oI o1
      obtain ⟨g2, b1, b2⟩ := holdsFor_eq m1 hq2 (oB o1 B2) az2 sk (oK o1) h10 mem2 hs2
      have o2 := o1.tr b2
      have bj : ∀ x y : Bool, (bI x = bI y) = ((x != y) = false) := fun x y => by
        cases x <;> cases y <;> simp [bI]
      have hd : fX12_compare_c112 45 (nI q1) (nI q2) (optI o) (nI s) g = (if ¬ DQ ks Q1 Q2 s = false then (if (¬ optI o = (-1 : Int32)) then (fX12_compare_b156 45 (nI q1) (nI q2) (optI o) (nI s) (nI s ^^^ optI o) g2) else fX12_compare_b156 45 (nI q1) (nI q2) (optI o) (nI s) (0 : Int32) g2) else fX12_compare_b215 45 (nI q1) (nI q2) (optI o) (nI s) g2) := by
        unfold fX12_compare_c112
        rw [gd_t (k_45 mg), Kg.1, sh1, if_neg (nI_ge hs2 (by omega)), a1, bd_t, gd_t (k_45 m1), b1, bd_t, ifn (bj _ _)]
        rfl
      have next : ∀ (o' : Option Nat) (v : Int32), v = optI o' → UPW ks.length (DQ ks Q1 Q2) (s + 1) o' → fX12_compare_c112 45 (nI q1) (nI q2) (optI o) (nI s) g = some (.inl (v, nI s + 1, g2)) → ∃ ob h' v, fX12_compare_l112 45 (nI q1) (nI q2) (optI o) (nI s) g = some (v, h') ∧ v = hI h' 12 45 59 ∧ onlyI isCp h h' ∧ BEST ks.length (DQ ks Q1 Q2) ob ∧ LEm (ob.map (fun s => wpr ks (fun i => s.testBit i) ks.length)) h' := fun o' v hv U' st => by
        obtain ⟨o'', h', v', r1, r2⟩ := ih (s + 1) o' g2 (by omega) o2 U'
        rw [hv, nI_1] at st
        exact ⟨o'', h', v', wh_step (t := (optI o', nI (s + 1), g2)) st r1, r2⟩
      have pl : ∀ x, pcn ks.length x ≤ 10 := fun x => Nat.le_trans (cnt_le _ _) h10
      cases o with
      | none =>
        have e1 : optI (none : Option Nat) = -1 := rfl
        rw [e1] at hd
        cases z : DQ ks Q1 Q2 s with
        | false =>
          refine next none (-1) rfl (fun t ht => ?_) ?_
          · by_cases d : t = s
            · rw [d]; exact z
            · exact U t (by omega)
          · rw [e1, hd, z, if_neg (fun y => y rfl)]
            rfl
        | true =>
          refine next (some s) (nI s) rfl ⟨Nat.lt_succ_self s, z, fun t ht d => ?_⟩ ?_
          · by_cases e : t = s
            · rw [e]; exact Or.inr ⟨rfl, Nat.le_refl _⟩
            · have := U t (by omega)
              rw [d] at this
              cases this
          · rw [e1, hd, z, if_pos (show ¬ true = false by decide), if_neg (show ¬ ¬ (-1 : Int32) = -1 from fun y => y rfl)]
            unfold fX12_compare_b156 fX12_compare_b200 fX12_compare_b205 fX12_compare_b215
            rw [if_pos rfl, if_neg (show ¬ (1 : Int32) = 0 by decide)]
      | some b =>
        obtain ⟨U1, U2, U3⟩ := U
        have hb : b < 2 ^ ks.length := by omega
        have b31 : b < 2 ^ 31 := by omega
        have e1 : optI (some b) = nI b := rfl
        rw [e1] at hd
        cases z : DQ ks Q1 Q2 s with
        | false =>
          refine next (some b) (nI b) rfl ⟨by omega, U2, fun t ht d => ?_⟩ ?_
          · by_cases e : t = s
            · rw [e, z] at d; cases d
            · exact U3 t (by omega) d
          · rw [e1, hd, z, if_neg (fun y => y rfl)]
            rfl
        | true =>
          have bs : fX12_bits (nI s) = some (nI (pcn ks.length s)) := by
            unfold fX12_bits
            have := bits_eq ks.length s 0 hs2 h10
            rw [Nat.zero_add] at this
            exact this
          have bb : fX12_bits (nI b) = some (nI (pcn ks.length b)) := by
            unfold fX12_bits
            have := bits_eq ks.length b 0 hb h10
            rw [Nat.zero_add] at this
            exact this
          have ps := pl s
          have pb := pl b
          have bt := better h10 hs2 hb (show s ≠ b by omega)
          have el : (nI (pcn ks.length s) < nI (pcn ks.length b)) = (pcn ks.length s < pcn ks.length b) := propext (nI_ltI (by omega) (by omega))
          have ee : (nI (pcn ks.length s) = nI (pcn ks.length b)) = (pcn ks.length s = pcn ks.length b) := nIe (by omega) (by omega)
          have h156 : fX12_compare_c112 45 (nI q1) (nI q2) (nI b) (nI s) g = (if pcn ks.length s < pcn ks.length b then some (.inl (nI s, nI s + 1, g2)) else if ¬ pcn ks.length s = pcn ks.length b then some (.inl (nI b, nI s + 1, g2)) else if ¬ rv ks.length b < rv ks.length s then some (.inl (nI b, nI s + 1, g2)) else some (.inl (nI s, nI s + 1, g2))) := by
            rw [hd, z, if_pos (show ¬ true = false by decide), if_pos (nI_nm1 b31), xorN]
            unfold fX12_compare_b156 fX12_compare_b200 fX12_compare_b204 fX12_compare_b205 fX12_compare_b215
            rw [if_neg (nI_nm1 b31), bs, bd_t, bb, bd_t, ifp el, bd_t, bd_t, ifn ee, ifp (propext bt)]
            rfl
          by_cases y1 : pcn ks.length s < pcn ks.length b
          · rw [if_pos y1] at h156
            refine next (some s) (nI s) rfl ⟨Nat.lt_succ_self s, z, fun t ht d => ?_⟩ h156
            by_cases e : t = s
            · rw [e]; exact Or.inr ⟨rfl, Nat.le_refl _⟩
            · have := U3 t (by omega) d
              omega
          · rw [if_neg y1] at h156
            by_cases y2 : pcn ks.length s = pcn ks.length b
            · rw [if_neg (fun y => y y2)] at h156
              by_cases y3 : rv ks.length b < rv ks.length s
              · rw [if_neg (fun y => y y3)] at h156
                refine next (some s) (nI s) rfl ⟨Nat.lt_succ_self s, z, fun t ht d => ?_⟩ h156
                by_cases e : t = s
                · rw [e]; exact Or.inr ⟨rfl, Nat.le_refl _⟩
                · have := U3 t (by omega) d
                  omega
              · rw [if_pos y3] at h156
                refine next (some b) (nI b) rfl ⟨by omega, U2, fun t ht d => ?_⟩ h156
                by_cases e : t = s
                · rw [e]; exact Or.inr ⟨y2.symm, by omega⟩
                · exact U3 t (by omega) d
            · rw [if_pos y2] at h156
              refine next (some b) (nI b) rfl ⟨by omega, U2, fun t ht d => ?_⟩ h156
              by_cases e : t = s
              · rw [e]; exact Or.inl (by omega)
              · exact U3 t (by omega) d
  exact lp (2 ^ ks.length) 0 none h (Nat.zero_add _) (onlyI.rf _ _) (fun t ht => absurd ht (Nat.not_lt_zero _))
