theorem WordAt.chg {F G : Nat → Nat → Nat → Prop} {L : Nat → Prop} {tx : TX} {w a b : Nat} {h h' : PH} (W : WordAt tx w a b h) (ha : a < hX h) (hb : b < hX h) (x : chg F G L h h') (f : ∀ k, ¬ F 10 a k) (g : ¬ G 10 a 2) (l : ¬ L b) : WordAt tx w a b h' := by
  obtain ⟨k1, k2, k3, k4, k5, k6, k7, k8⟩ := W
  refine ⟨k1, k2, (x.2.2.2.2 a ha).1.trans k3, (x.2.1 10 a 0 ha (f 0)).trans k4, (x.2.1 10 a 1 ha (f 1)).trans k5, (x.2.2.1 10 a 2 ha g).trans k6, (x.2.2.2.2 b hb).1.trans k7, fun i hi => ?_⟩
  rw [x.2.2.2.1 9 b 0 hb l, x.2.2.2.1 9 b 1 hb l]
  exact k8 i hi
theorem IXB.chg {F G : Nat → Nat → Nat → Prop} {L : Nat → Prop} {tx : TX} {ks : List Nat} {e : Nat} {wa wb : Nat → Nat} {h h' : PH} (X : IXB tx ks e wa wb h) (b : 89 ≤ hX h) (x : chg F G L h h') (f17 : ¬ F 14 17 2) (f10 : ∀ a k, 89 ≤ a → ¬ F 10 a k) (g17 : ¬ G 14 17 1) (ge : ∀ k, ¬ G 28 e k) (g10 : ∀ a, 89 ≤ a → ¬ G 10 a 2) (l : ∀ w, w ∈ ks → ¬ L (wb w)) : IXB tx ks e wa wb h' := by
  obtain ⟨⟨k1, k2, k3, k4, k5, k6, k7, k8, k9, k10⟩, i1, i2, i3, i4, i5, i6⟩ := X
  have he := x.2.2.2.2 e i1
  refine ⟨⟨k1, k2, (x.2.1 14 17 2 (by omega) f17).trans k3, (x.2.2.1 14 17 1 (by omega) g17).trans k4, he.1.trans k5, by rw [he.2]; exact k6, fun i hi => (x.2.2.1 28 e i i1 (ge i)).trans (k7 i hi), fun w hw => ?_, k9, k10⟩, Nat.lt_of_lt_of_le i1 x.1, i2, fun w hw => ⟨Nat.lt_of_lt_of_le (i3 w hw).1 x.1, Nat.lt_of_lt_of_le (i3 w hw).2 x.1⟩, by rw [he.2]; exact i4, by rw [he.2]; exact i5, i6⟩
  have W := k8 w hw
  exact W.chg (i3 w hw).1 (i3 w hw).2 x (fun k => f10 _ k W.1) (g10 _ W.1) (l w hw)
/-- scratch and new cells alone -/
def scx (h h' : PH) : Prop := chg (fun c a k => isScr c a k = true) (fun _ _ _ => False) (fun a => a = 87) h h'
theorem scr.x {h h' : PH} (s : scr h h') : scx h h' := s.chg (fun _ _ _ z => z) rfl
theorem CB.scx {tx : TX} {h h' : PH} (B : CB tx h) (s : scx h h') : CB tx h' := B.chg s (fun _ z => z) (fun _ _ z => z) (fun a ha z => by rw [isScr_89 ha] at z; cases z) (fun b k hb z => by rw [isScr_89 hb] at z; cases z)
theorem MT.scx {tx : TX} {h h' : PH} (T : MT tx h) (b : 89 ≤ hX h) (s : scx h h') : MT tx h' := fun t ht => by
  have e1 : ∀ k, hI h' 21 47 k = hI h 21 47 k := fun k => s.2.1 21 47 k (by omega) (fun z => by cases z)
  have e2 : ∀ k, hI h' 20 49 k = hI h 20 49 k := fun k => s.2.1 20 49 k (by omega) (fun z => by cases z)
  have e3 : ∀ k, hI h' 20 48 k = hI h 20 48 k := fun k => s.2.1 20 48 k (by omega) (fun z => by cases z)
  cases e : tx t with
  | none => show hI h' 21 47 t = 0; rw [e1]; exact T.n ht e
  | some ws =>
    obtain ⟨h1, h2, h3⟩ := T.s ht e
    exact ⟨by rw [e1]; exact h1, by rw [e2]; exact h2, fun i hi => by rw [e3]; exact h3 i hi⟩
theorem IXB.scx {tx : TX} {ks : List Nat} {e : Nat} {wa wb : Nat → Nat} {h h' : PH} (X : IXB tx ks e wa wb h) (b : 89 ≤ hX h) (s : scx h h') : IXB tx ks e wa wb h' := X.chg b s (fun z => by cases z) (fun a k ha z => by rw [isScr_89 ha] at z; cases z) (fun z => z) (fun _ z => z) (fun _ _ z => z) (fun w hw z => by have := (ix_word X.1 hw).2.1; omega)
theorem CSh.scx {h h' : PH} (c : CSh h) (b : 89 ≤ hX h) (s : scx h h') : CSh h' := c.chg b s (fun _ _ z => z)
theorem MSh.scx {h h' : PH} (c : MSh h) (b : 89 ≤ hX h) (s : scx h h') : MSh h' := c.chg b s (fun _ _ z => z)
/-! errors: there are none -/
theorem tells_no {tx : TX} {ks : List Nat} {e : Nat} {wa wb : Nat → Nat} {h : PH} (c : CSh h) (o : okX tx) (T : CT tx h) (X : IX tx ks e wa wb h) {w : Nat} (hw : w ∈ ks) : fX3_tellsTooMuch (some (wa w)) (some 15) h = some 0 := by
  have W := ix_word X hw
  have hv := X.1.1.2 w hw
  unfold fX3_tellsTooMuch fX3_tellsTooMuch_l2
  refine wh_out (fun j => nI j) 100 rfl (fun j hj => ?_) ?_
  · show fX3_tellsTooMuch_c2 (some (wa w)) (some 15) (nI j) h = _
    have hin : inb (nI j) (hN h 15) := by rw [n_15 c]; exact inbI hj (by decide)
    unfold fX3_tellsTooMuch_c2 fX3_tellsTooMuch_b40
    rw [gs_t, gd_t (k_15 c), n_15 c, if_neg (nI_ge hj (by decide)), gs_t, gd_t W.2.2.1, W.2.2.2.2.2.1, gs_t, gd_t W.2.2.2.2.2.2.1, X9_has_eq W.2.2.2.2.2.2.1 W.2.2.2.2.2.2.2 hj, bd_t, nI_1]
    cases q : hasT tx j w with
    | false => rw [if_pos (show bI false = 0 from rfl)]
    | true =>
      rw [if_neg (show ¬ bI true = 0 by decide), gd_t (by rw [← n_15 c]; exact hin)]
      cases r : tx j with
      | none => unfold hasT at q; rw [r] at q; cases q
      | some ws =>
        obtain ⟨a, b, h1, h2, h3, h4⟩ := T.sc hj r
        unfold hasT at q
        rw [r] at q
        have q : decide (w ∈ ws) = true := q
        rw [h1, mq_st, gd_t (by rw [← n_15 c]; exact hin), gs_t, gd_t h4.1, W.2.2.2.1, X8_has_eq h4 (o j ws r).2 (vw31 hv), bd_t, q, if_pos (show ¬ bI true = 0 by decide)]
  · show fX3_tellsTooMuch_c2 (some (wa w)) (some 15) (nI 100) h = _
    have hf := fq_le tx w
    have hp := fq_pos X.1 hw
    unfold fX3_tellsTooMuch_c2 fX3_tellsTooMuch_b61
    rw [gs_t, gd_t (k_15 c), n_15 c, if_pos (nI_le (Nat.le_refl _) (by decide)), gs_t, gd_t W.2.2.1, W.2.2.2.2.2.1, gs_t, gd_t W.2.2.2.2.2.2.1, X9_size_eq W.2.2.2.2.2.2.1 W.2.2.2.2.2.2.2 (fun i hi => hasT_100 o hi w), bd_t, show cnt (fun t => hasT tx t w) 100 = fq tx w from rfl, if_pos (fun z => by have := (nI0 (by omega)).mp z; omega), gd_t (by decide), mr_t]
theorem missing_no {tx : TX} {ks : List Nat} {e : Nat} {wa wb : Nat → Nat} {h : PH} (c : CSh h) (o : okX tx) (X : IX tx ks e wa wb h) {t a b : Nat} (ht : t < 100) {ws : List Nat} (q : tx t = some ws) (T : TextAt h a b ws) (l : Option Nat) : fX3_addMissing 16 l (some a) (nI t) h = some () := by
  have ot := (o t ws q).2
  have h40 := ot.1
  unfold fX3_addMissing fX3_addMissing_l3
  refine wh_out (fun j => nI j) ws.length rfl (fun j hj => ?_) ?_
  · show fX3_addMissing_c3 16 l (some a) (nI t) (nI j) h = _
    have hm : ws.getD j 0 ∈ ks := (X.1.2 _).mpr ⟨t, ht, by unfold hasT; rw [q]; exact decide_eq_true (mem_getD hj)⟩
    have W := ix_word X hm
    have ht' : hasT tx t (ws.getD j 0) = true := by unfold hasT; rw [q]; exact decide_eq_true (mem_getD hj)
    unfold fX3_addMissing_c3 fX3_addMissing_b51
    rw [gs_t, gd_t T.1, X8_size_eq T, bd_t, if_neg (nI_ge hj (by omega)), X8_at_eq T ot hj, bd_t, gd_t (k_16 c), find_eq c X (ot.v hj), bd_t, if_pos hm, mq_st, gd_t W.2.2.1, W.2.2.2.2.2.1, gs_t, gd_t W.2.2.2.2.2.2.1, X9_has_eq W.2.2.2.2.2.2.1 W.2.2.2.2.2.2.2 ht, bd_t, ht', if_pos (show ¬ bI true = 0 by decide), nI_1]
  · show fX3_addMissing_c3 16 l (some a) (nI t) (nI ws.length) h = _
    unfold fX3_addMissing_c3
    rw [gs_t, gd_t T.1, X8_size_eq T, bd_t, if_pos (nI_le (Nat.le_refl _) (by omega)), mr_t]
theorem wrong_no {tx : TX} {ks : List Nat} {e : Nat} {wa wb : Nat → Nat} {h : PH} (c : CSh h) (o : okX tx) (T : CT tx h) (X : IX tx ks e wa wb h) {l : Nat} (k1 : hK h l = 14) (k2 : hI h 14 l 2 = 0) : fX3_countWrongWords_l10 16 (some 15) (some l) 0 h = some (0, h) := by
  have hl := X.2.1
  have shelf : fX3_countWrongWords_l65 16 (some 15) (some l) 0 h = some (0, h) := by
    unfold fX3_countWrongWords_l65
    refine wh_out (fun j => nI j) 100 rfl (fun j hj => ?_) ?_
    · show fX3_countWrongWords_c65 16 (some 15) (some l) (nI j) h = _
      have hin : inb (nI j) 100 := inbI hj (by decide)
      unfold fX3_countWrongWords_c65 fX3_countWrongWords_b86
      rw [gs_t, gd_t (k_15 c), n_15 c, if_neg (nI_ge hj (by decide)), gd_t hin, nI_1]
      cases r : tx j with
      | none => rw [T.nc hj r, mq_nt]
      | some ws =>
        obtain ⟨a, b, h1, h2, h3, h4⟩ := T.sc hj r
        rw [h1, mq_st, gd_t hin, gd_t (k_16 c), missing_no c o X hj r h4, bd_t]
    · show fX3_countWrongWords_c65 16 (some 15) (some l) (nI 100) h = _
      unfold fX3_countWrongWords_c65
      rw [gs_t, gd_t (k_15 c), n_15 c, if_pos (nI_le (Nat.le_refl _) (by decide)), gs_t, gd_t k1, list_size (n := 0) k1 k2, bd_t, mr_t]
      rfl
  unfold fX3_countWrongWords_l10
  refine wh_out (fun j => nI j) ks.length rfl (fun j hj => ?_) ?_
  · show fX3_countWrongWords_c10 16 (some 15) (some l) (nI j) h = _
    have W := ix_word X (mem_getD hj)
    unfold fX3_countWrongWords_c10 fX3_countWrongWords_b57
    rw [gd_t (k_16 c), r3_16_0 c, gs_t, gd_t (k_17 c), ix_size c X, bd_t, if_neg (nI_ge hj (by omega)), gs_t, gd_t (k_17 c), ix_get c X hj, bd_t, gs_t, gd_t W.2.2.1, tells_no c o T X (mem_getD hj), bd_t, if_pos rfl, nI_1]
  · show fX3_countWrongWords_c10 16 (some 15) (some l) (nI ks.length) h = _
    unfold fX3_countWrongWords_c10
    rw [gd_t (k_16 c), r3_16_0 c, gs_t, gd_t (k_17 c), ix_size c X, bd_t, if_pos (nI_le (Nat.le_refl _) (by omega)), shelf, mr_t]
