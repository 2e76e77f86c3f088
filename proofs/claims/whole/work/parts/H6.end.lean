/-! THE WALK, whole -/
theorem h4_new : hnew (hnew G167 23 (Int32.toNatClampNeg 1)) 24 (Int32.toNatClampNeg 1) = H4 := by
  rw [show Int32.toNatClampNeg 1 = 1 from rfl, gf_168, gf_169, H4]
theorem whole_start {p : Program} {e : Env} {s : State} {m : MethodId} {below : List Frame} {meth : Method} {c : Code} (l : Launch) (hflags : l.flags = flags0) {b L : Nat} {xs : Nat → Int32} (hL : L ≤ 3072) (C0 : lw_At p s m meth c b L xs) : W p l e room_1 s m #[Value.ref b] below meth c s.heap [] 0 0 (lw_Z below #[Value.ref b] s) (entryFrame m ([Value.ref b] : List Value).toArray 10) := by
  have i2 : fX12_init (hX G74) (hnew G74 12 60) = some G167 := by
    rw [gx_74, gf_75]
    exact init12
  have st : ∀ (j : Nat) (h : PH) (a1 a2 a3 a4 a5 : Int32), j < 512 → INVA h → LSall 10 (hX G74) (hX G167) (hX G167 + 1) a1 a2 a3 a4 a5 h INVA := fun j h a1 a2 a3 a4 a5 _ A => by
    rw [gx_74, gx_167]
    exact all_calls A a1 a2 a3 a4 a5
  exact whole_inv (fun _ => INVA) 512 (Nat.le_refl _) init11 i2 (by rw [gx_167]; decide) (by rw [gv_167]; decide) (by rw [h4_new]; exact inva_0) st l hflags (by omega) hL C0
