/-! WHAT STANDS when a query is kept -/
theorem noKept_b {h : PH} (m : MSh h) (h0 : hI h 12 45 0 = 0) {p : Nat} (hp : p < 6) {Q : QT 27} (B : BM h p 27 Q) : fX12_noKept 45 (nI p) h = some (0, h) := by
  have r : hI h 20 69 (Int32.toNatClampNeg (nI p)) = nI (sz 27 Q - 1) := by rw [nI_clamp (by omega)]; exact B.2.1
  have b := B.2.2.1
  unfold fX12_noKept fX12_noKept_b24
  rw [gd_t (k_45 m), noQuery_s m h0 hp, bd_t]
  show (if ¬ (0 : Int32) = 0 then _ else gd (hK h 45 = 12) (gs (hR h 12 45 34) (fun a5 => gd (hK h a5 = 20 ∧ inb (nI p) (hN h a5)) (if (hI h 20 a5 (Int32.toNatClampNeg (nI p))) = (-1 : Int32) then _ else gs (some 45) (fun a9 => gd (hK h a9 = 12) (bd (fX12_fails a9 1 2 h) (fun z12 => if z12.1 = 0 then fX12_noKept_b36 0 z12.2 else fX12_noKept_b31 z12.2))))))) = _
  rw [if_neg (by decide), gd_t (k_45 m), r12_45_34 m, gs_t, gd_t ⟨k_69 m, by rw [n_69 m]; exact inbI (by omega) (by decide)⟩, r, if_neg (nI_nm1 (by omega)), gs_t, gd_t (k_45 m), fails_t m h0, bd_t]
  show (if (0 : Int32) = 0 then fX12_noKept_b36 (bI false) h else _) = _
  rw [if_pos rfl, noKept_b36]
  rfl
def FK2 (p c a k : Nat) : Prop := isScr c a k = true ∨ (c = 12 ∧ a = 45 ∧ (k = 2 ∨ k = 3)) ∨ cpF p c a k
def LK2 (p a : Nat) : Prop := a = 24 + p ∨ a = 87
theorem FK2_89 {p c a k : Nat} (h : 89 ≤ a) : ¬ FK2 p c a k := fun z => by
  rcases z with z | z | z
  · rw [isScr_89 h] at z; cases z
  · omega
  · unfold cpF at z; omega
theorem FK2_n {p c a k : Nat} (h1 : isScr c a k = false) (h2 : a ≠ 45) (h3 : a < 60 ∨ 69 < a) : ¬ FK2 p c a k := fun z => by
  rcases z with z | z | z
  · rw [h1] at z; cases z
  · omega
  · unfold cpF at z; omega
theorem FK2_out {p c a k : Nat} (z : FK2 p c a k) : FR c a k := by
  refine ⟨Nat.lt_of_not_le (fun y => FK2_89 y z), ?_⟩
  rcases z with z | z | z
  · exact mc_out (mc_scr z)
  · obtain ⟨rfl, rfl, rfl | rfl⟩ := z <;> rfl
  · cases e : isOut c a k with
    | false => rfl
    | true =>
      exfalso
      simp [isOut] at e
      unfold cpF at z
      omega
theorem FK2_rest {p : Nat} {L : Nat → Prop} {h h' : PH} (x : chg (FK2 p) (GKp p) L h h') : rest h h' := x.mono (fun c a k _ z => FK2_out z) (fun c a k _ z => show c ≠ 13 by rw [z.1]; decide) (fun _ _ _ => trivial)
theorem FK2_q {p i : Nat} (hi : i < 6) (d : i ≠ p) : (∀ a k, 60 ≤ a → a ≤ 65 → k < 400 → ¬ FK2 p 20 a (400 * i + k)) ∧ (∀ k, k < 20 → ¬ FK2 p 20 66 (20 * i + k)) ∧ ¬ FK2 p 20 67 i ∧ ¬ FK2 p 20 69 i := by
  refine ⟨fun a k h1 h2 h3 z => ?_, fun k hk z => ?_, fun z => ?_, fun z => ?_⟩
  · rcases z with z | z | z
    · rw [scr60 a h1 h2 _ (by omega)] at z; cases z
    · omega
    · unfold cpF at z; omega
  · rcases z with z | z | z
    · rw [scr66 (by omega)] at z; cases z
    · omega
    · unfold cpF at z; omega
  · rcases z with z | z | z
    · rw [(scr67 hi).1] at z; cases z
    · omega
    · unfold cpF at z; omega
  · rcases z with z | z | z
    · rw [(scr67 hi).2] at z; cases z
    · omega
    · unfold cpF at z; omega
theorem MI.mv {F G : Nat → Nat → Nat → Prop} {L : Nat → Prop} {tx : TX} {E : EVT} {R : PST} {h h' : PH} (I : MI tx E R h) (b : 89 ≤ hX h) (x : chg F G L h h') (f : (∀ c a k, 46 ≤ a → a < 60 → a ≠ 50 → a ≠ 55 → a ≠ 59 → ¬ F c a k) ∧ ¬ F 12 45 14 ∧ ¬ F 12 45 18) (g : ∀ q ∈ sMR, ¬ G q.1 q.2.1 q.2.2.1) : MI tx E R h' := by
  obtain ⟨m, X, V, W⟩ := I
  have e : ∀ c a k, 46 ≤ a → a < 60 → a ≠ 50 → a ≠ 55 → a ≠ 59 → hI h' c a k = hI h c a k := fun c a k h1 h2 h3 h4 h5 => x.2.1 c a k (by omega) (f.1 c a k h1 h2 h3 h4 h5)
  have n : ∀ c k, hI h' c 47 k = hI h c 47 k ∧ hI h' c 48 k = hI h c 48 k ∧ hI h' c 49 k = hI h c 49 k ∧ hI h' c 51 k = hI h c 51 k ∧ hI h' c 52 k = hI h c 52 k ∧ hI h' c 53 k = hI h c 53 k ∧ hI h' c 54 k = hI h c 54 k ∧ hI h' c 56 k = hI h c 56 k ∧ hI h' c 57 k = hI h c 57 k ∧ hI h' c 58 k = hI h c 58 k := fun c k => by
    refine ⟨?_, ?_, ?_, ?_, ?_, ?_, ?_, ?_, ?_, ?_⟩ <;> exact e c _ k (by decide) (by decide) (by decide) (by decide) (by decide)
  refine ⟨m.chg b x g, fun i hi => ?_, ⟨(x.2.1 12 45 18 (by omega) f.2.2).trans V.1, fun i hi => ?_⟩, ⟨(x.2.1 12 45 14 (by omega) f.2.1).trans W.1, fun i hi => ?_⟩⟩
  · have := X i hi
    cases q : tx i with
    | none => rw [q] at this; exact (n 21 i).1.trans this
    | some ws => rw [q] at this; exact ⟨(n 21 i).1.trans this.1, (n 20 i).2.2.1.trans this.2.1, fun j hj => (n 20 _).2.1.trans (this.2.2 j hj)⟩
  · rw [(n 20 i).2.2.2.2.2.2.2.1, (n 20 i).2.2.2.2.2.2.2.2.1, (n 20 i).2.2.2.2.2.2.2.2.2]
    exact V.2 i hi
  · have := W.2 i hi
    exact ⟨(n 20 i).2.2.2.1.trans this.1, this.2.to (Or.inr (n 21 i).2.2.2.2.2.2.1) (n 20 i).2.2.2.2.1 (fun r _ => (n 20 _).2.2.2.2.2.1)⟩
def kqU (kq : Nat → Option (QT 27)) (p : Nat) (Q : QT 27) (i : Nat) : Option (QT 27) := if i = p then some Q else kq i
/-- both sides have kept the query -/
theorem keep_fin {tx : TX} {ks : List Nat} {e : Nat} {wa wb : Nat → Nat} {D D1 : Nat → Prop} {kq : Nat → Option (QT 27)} {E : EVT} {R : PST} {h1 h2 u w : PH} (C1 : CI tx ks e wa wb D kq E R h1) (M1 : MI tx E R h1) (dD : ∀ x, D x → D1 x) (d1b : ∀ x, D1 x → 89 ≤ x ∧ x < hX h1) (ne : ¬ D1 e) {a p q : Nat} {Q : QT 27} (hp : p < 6) (C : QC h1 D1 27 Q a) (k2 : chg (fun _ _ _ => False) (GKp p) (fun x => x = 24 + p) h1 h2) (ra : hR h2 25 22 p = some a) (bs2 : BS (fun t => satT tx 27 Q t) h2 (24 + p)) (su : scr h2 u) {F6 : Nat → Nat → Nat → Prop} (f6 : ∀ c a k, F6 c a k → isScr c a k = true ∨ (c = 12 ∧ a = 45 ∧ (k = 2 ∨ k = 3))) (ow : oP F6 u w) (mw : MSh w) (hq : q = 6 ∨ q = 7) (Bq : BM w q 27 Q) : ∃ w1 w2, fX12_copies 45 (nI q) (nI p) w = some w1 ∧ MSh w1 ∧ fX12_manyFound 45 (nI p) w1 = some (nI (mnf tx Q), w2) ∧ CI tx ks e wa wb D1 (kqU kq p Q) E R w2 ∧ MI tx E R w2 ∧ (∀ k, hI w2 12 45 k = hI w 12 45 k) ∧ hL w2 = hL w ∧ chg (FK2 p) (GKp p) (LK2 p) h1 w2 := by
  obtain ⟨c, o, B, X, K, Y, V, W, n⟩ := C1
  have b := B.1
  obtain ⟨w1, a1, a2, a3, a4, a5, a6⟩ := copies_eq mw (show q < 8 by omega) (show p < 8 by omega) (show p ≠ q by omega) Bq.2.2.1 Bq.1
  have mw1 := mw.oP a2
  have B1 : BM w1 p 27 Q := Bq.copy a3 a4 a5 a6
  -- everything that changed
  have y01 : chg (FK2 p) (GKp p) (LK2 p) h1 h2 := k2.mono (fun _ _ _ _ z => z.elim) (fun _ _ _ _ z => z) (fun _ _ z => Or.inl z)
  have y02 : chg (FK2 p) (GKp p) (LK2 p) h2 u := su.chg (fun _ _ _ z => Or.inl z) (Or.inr rfl)
  have y03 : chg (FK2 p) (GKp p) (LK2 p) u w := oP_chg (ow.mono (fun c a k z => (f6 c a k z).elim Or.inl (fun y => Or.inr (Or.inl y))))
  have y04 : chg (FK2 p) (GKp p) (LK2 p) w w1 := oP_chg (a2.mono (fun c a k z => Or.inr (Or.inr z)))
  have y1 : chg (FK2 p) (GKp p) (LK2 p) h1 w1 := ((y01.tr y02).tr y03).tr y04
  have fmi : (∀ c a k, 46 ≤ a → a < 60 → a ≠ 50 → a ≠ 55 → a ≠ 59 → ¬ FK2 p c a k) ∧ ¬ FK2 p 12 45 14 ∧ ¬ FK2 p 12 45 18 := by
    refine ⟨fun c a k h1 h2 h3 h4 h5 z => ?_, fun z => ?_, fun z => ?_⟩
    · rcases z with z | z | z
      · simp [isScr] at z
        omega
      · omega
      · unfold cpF at z; omega
    · rcases z with z | z | z
      · cases z
      · omega
      · unfold cpF at z; omega
    · rcases z with z | z | z
      · cases z
      · omega
      · unfold cpF at z; omega
  have gmr : ∀ q ∈ sMR, ¬ GKp p q.1 q.2.1 q.2.2.1 := fun q hq z => by
    have : ∀ q ∈ sMR, ¬ (q.1 = 25) := by decide
    exact this q hq z.1
  have gcr : ∀ q ∈ sCR, ¬ GKp p q.1 q.2.1 q.2.2.1 := fun q hq z => by
    have : ∀ q ∈ sCR, ¬ (q.1 = 25) := by decide
    exact this q hq z.1
  have M2 := M1.mv b y1 fmi gmr
  obtain ⟨w2, c1, c2⟩ := many_eq mw1 o M2.2.1 (show p < 8 by omega) B1
  have y2 : chg (FK2 p) (GKp p) (LK2 p) h1 w2 := y1.tr (chg_I c2 (fun c a k z => Or.inl (isHo_scr z)))
  have B2 : BM w2 p 27 Q := B1.of (fun a k h1 h2 => c2.1 20 a k (by unfold isHo; rfl))
  have sd : ∀ x, D1 x → same h1 w2 x := fun x dx => by
    have hx := d1b x dx
    exact ⟨fun c k => y2.2.1 c x k hx.2 (FK2_89 hx.1), fun c k => y2.2.2.1 c x k hx.2 (fun z => by have := z.2.1; omega), (y2.2.2.2.2 x hx.2).1, (y2.2.2.2.2 x hx.2).2⟩
  have hLe : hL w2 = hL u := c2.2.2.1.trans (a2.2.2.1.trans ow.2.2.1)
  refine ⟨w1, w2, a1, mw1, c1, ⟨c.chg b y2 gcr, o, ?_, ?_, ⟨fun x dx => ⟨(d1b x dx).1, Nat.lt_of_lt_of_le (d1b x dx).2 y2.1⟩, fun i hi => ?_⟩, fun i hi Q' eQ => ?_, ?_, ?_, ne⟩, M1.mv b y2 fmi gmr, fun k => ?_, c2.2.2.1.trans a2.2.2.1, y2⟩
  · exact B.chg y2 (fun k z => absurd z.1 (by decide)) (fun a _ z => absurd z.1 (by decide)) (fun a ha => FK2_89 ha) (fun b k hb => FK2_89 hb)
  · exact X.chg b y2 (FK2_n rfl (by decide) (Or.inl (by decide))) (fun a k ha => FK2_89 ha) (fun z => absurd z.1 (by decide)) (fun k z => absurd z.1 (by decide)) (fun a _ z => absurd z.1 (by decide)) (fun w hw z => by
      have := (X.ge hw).2
      rcases z with z | z <;> omega)
  · unfold kqU
    by_cases d : i = p
    · rw [if_pos d, d]
      exact ⟨⟨a, by rw [c2.2.1, a2.2.1, ow.2.1, su.2.1]; exact ra, QC.mono (fun x dx => ⟨dx, sd x dx⟩) 27 Q a C⟩, B2⟩
    · rw [if_neg d]
      have fq := FK2_q hi d
      have sq : sameQ i h1 w2 := ⟨fun a k h1 h2 h3 => y2.2.1 20 a _ (by omega) (fq.1 a k h1 h2 h3), fun k hk => y2.2.1 20 66 _ (by omega) (fq.2.1 k hk), y2.2.1 20 67 i (by omega) fq.2.2.1, y2.2.1 20 69 i (by omega) fq.2.2.2⟩
      have sr : hR w2 25 22 i = hR h1 25 22 i := y2.2.2.1 25 22 i (by omega) (fun z => d z.2.2)
      cases eq : kq i with
      | none => exact ⟨sr.trans (K.n hi eq).1, sq.2.2.2.trans (K.n hi eq).2⟩
      | some Q' =>
        obtain ⟨⟨a', t1, t2⟩, t3⟩ := K.s hi eq
        exact ⟨⟨a', sr.trans t1, QC.mono (fun x dx => ⟨dD x dx, sd x (dD x dx)⟩) 27 Q' a' t2⟩, t3.ofq sq⟩
  · unfold kqU at eQ
    by_cases d : i = p
    · rw [if_pos d] at eQ
      have eQ := Option.some.inj eQ
      subst eQ
      rw [d]
      exact bs2.L (fun k => by
        rw [hLe]
        exact su.2.2.1 9 (24 + p) k (Or.inl (by decide)))
    · rw [if_neg d] at eQ
      exact (Y i hi Q' eQ).L (fun k => y2.2.2.2.1 9 (24 + i) k (by omega) (fun z => by rcases z with z | z <;> omega))
  · exact V.chg b y2 (fun c a k q z => by
      have l := ec_lt q
      rcases z with z | z | z
      · exact ec_mc q (mc_scr z)
      · omega
      · unfold cpF at z; omega)
  · exact W.chg b y2 ⟨FK2_n rfl (by decide) (Or.inl (by decide)), FK2_n rfl (by decide) (Or.inl (by decide))⟩ (fun k => FK2_n rfl (by decide) (Or.inl (by decide))) (fun k z => absurd z.1 (by decide)) (fun a ha => FK2_89 ha) (fun a _ z => absurd z.1 (by decide)) (fun b k hb => FK2_89 hb)
  · rw [c2.1 12 45 k rfl]
    exact a2.1 12 45 k (fun z => absurd z.1 (by decide))
