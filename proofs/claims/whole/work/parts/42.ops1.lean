/-! the octets of a word -/
theorem bv255 : ∀ i : Fin 64, (255#64).getLsbD i = decide (i.val < 8) := by decide
theorem bv_sr (x : BitVec 64) (n : Nat) (hn : n ≤ 56) : (x.sshiftRight n) &&& 255#64 = (x >>> n) &&& 255#64 := by
  apply BitVec.eq_of_getLsbD_eq
  intro i hi
  rw [BitVec.getLsbD_and, BitVec.getLsbD_and, bv255 ⟨i, hi⟩]
  by_cases h8 : i < 8
  · rw [BitVec.getLsbD_sshiftRight, BitVec.getLsbD_ushiftRight]
    have h1 : ¬ 64 ≤ i := by omega
    have h2 : n + i < 64 := by omega
    simp [h1, h2]
  · simp [h8]
theorem bv_and (x : BitVec 64) : x &&& 255#64 = BitVec.ofNat 64 (x.toNat % 256) := by
  apply BitVec.eq_of_toNat_eq
  rw [BitVec.toNat_and]
  have h : (255#64).toNat = 2 ^ 8 - 1 := rfl
  rw [h, Nat.and_two_pow_sub_one_eq_mod, BitVec.toNat_ofNat]
  omega
/-- the k-th octet -/
def oc (w : Int64) (k : Nat) : Nat := w.toBitVec.toNat / 2 ^ (8 * k) % 256
theorem oc_lt (w : Int64) (k : Nat) : oc w k < 256 := Nat.mod_lt _ (by decide)
theorem oc_f2a (w : Int64) (n : Nat) (b : BitVec 64) (hb : b.toNat = n) : (⟨⟨((w.toBitVec >>> b).signExtend 32) &&& 255#32⟩⟩ : Int32) = Int32.ofNat (w.toBitVec.toNat / 2 ^ n % 256) := by
  apply Int32.toBitVec_inj.mp
  show ((w.toBitVec >>> b).signExtend 32) &&& 255#32 = BitVec.ofNat 32 _
  rw [BitVec.signExtend_eq_setWidth_of_le _ (by decide)]
  apply BitVec.eq_of_toNat_eq
  have h : (255#32).toNat = 2 ^ 8 - 1 := rfl
  rw [BitVec.toNat_and, BitVec.toNat_setWidth, h, BitVec.toNat_ofNat]
  have h2 : (w.toBitVec >>> b).toNat = w.toBitVec.toNat / 2 ^ n := by
    rw [BitVec.ushiftRight_eq', BitVec.toNat_ushiftRight, hb, Nat.shiftRight_eq_div_pow]
  rw [Nat.and_two_pow_sub_one_eq_mod, h2]
  omega
theorem oc_f118a (w : Int64) (n : Nat) (hn : n ≤ 56) (b : BitVec 64) (hb : b.toNat = n) : (⟨⟨((w.toBitVec.sshiftRight' b) &&& 255#64).signExtend 32⟩⟩ : Int32) = Int32.ofNat (w.toBitVec.toNat / 2 ^ n % 256) := by
  apply Int32.toBitVec_inj.mp
  show ((w.toBitVec.sshiftRight' b) &&& 255#64).signExtend 32 = BitVec.ofNat 32 _
  rw [BitVec.signExtend_eq_setWidth_of_le _ (by decide)]
  have e : w.toBitVec.sshiftRight' b = w.toBitVec.sshiftRight n := by rw [← hb]; rfl
  rw [e, bv_sr _ n hn, bv_and]
  apply BitVec.eq_of_toNat_eq
  rw [BitVec.toNat_setWidth, BitVec.toNat_ofNat, BitVec.toNat_ofNat, BitVec.toNat_ushiftRight, Nat.shiftRight_eq_div_pow]
  omega
theorem oc_f2 (w : Int64) : ∀ k, k < 8 → f2 w (Int32.ofNat k) = some (Int32.ofNat (oc w k)) := by
  intro k hk
  unfold f2 oc
  rw [← oc_f2a w (8 * k) (BitVec.ofNat 64 (8 * k)) (by rw [BitVec.toNat_ofNat]; omega)]
  match k, hk with
  | 0, _ => rfl
  | 1, _ => rfl
  | 2, _ => rfl
  | 3, _ => rfl
  | 4, _ => rfl
  | 5, _ => rfl
  | 6, _ => rfl
  | 7, _ => rfl
theorem oc_f118 (w : Int64) : ∀ k, k < 8 → f118 w (Int32.ofNat k) = some (Int32.ofNat (oc w k)) := by
  intro k hk
  unfold f118 oc
  rw [← oc_f118a w (8 * k) (by omega) (BitVec.ofNat 64 (8 * k)) (by rw [BitVec.toNat_ofNat]; omega)]
  match k, hk with
  | 0, _ => rfl
  | 1, _ => rfl
  | 2, _ => rfl
  | 3, _ => rfl
  | 4, _ => rfl
  | 5, _ => rfl
  | 6, _ => rfl
  | 7, _ => rfl
