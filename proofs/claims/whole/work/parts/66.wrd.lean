/-! words that grow -/
def app (w : Int64) (c l : Int32) : Int64 := w ||| (c.toInt64 <<< (((8 : Int32) * l).toInt64 &&& 63))
def wn (w : Int64) : Nat := w.toBitVec.toNat
theorem wn_inj {w v : Int64} (h : wn w = wn v) : w = v := Int64.toBitVec_inj.mp (BitVec.eq_of_toNat_eq h)
theorem c_64 (c : Nat) : c < 128 → (Int32.ofNat c).toInt64.toBitVec.toNat = c := by
  intro h
  have hd : ∀ c : Fin 128, (Int32.ofNat c.val).toInt64.toBitVec.toNat = c.val := by decide +kernel
  exact hd ⟨c, h⟩
theorem shl_n (x : Int64) (n : Nat) (b : Int64) (hb : (b.toBitVec.smod 64).toNat = n) : (x <<< b).toBitVec.toNat = (x.toBitVec.toNat * 2 ^ n) % 2 ^ 64 := by
  rw [Int64.toBitVec_shiftLeft, BitVec.shiftLeft_eq', BitVec.toNat_shiftLeft, hb, Nat.shiftLeft_eq]
theorem ap_n {w : Int64} {c L : Nat} (hc : c < 128) (hL : L < 8) (hw : wn w < 2 ^ (8 * L)) : wn (app w (Int32.ofNat c) (Int32.ofNat L)) = wn w + c * 2 ^ (8 * L) := by
  have hs : (((Int32.ofNat c).toInt64 <<< (((8 : Int32) * Int32.ofNat L).toInt64 &&& 63)).toBitVec).toNat = c * 2 ^ (8 * L) := by
    have hb : ((((8 : Int32) * Int32.ofNat L).toInt64 &&& 63).toBitVec.smod 64).toNat = 8 * L := by
      have hd : ∀ L : Fin 8, ((((8 : Int32) * Int32.ofNat L.val).toInt64 &&& 63).toBitVec.smod 64).toNat = 8 * L.val := by decide +kernel
      exact hd ⟨L, hL⟩
    rw [shl_n _ (8 * L) _ hb, c_64 c hc]
    apply Nat.mod_eq_of_lt
    have h1 : c * 2 ^ (8 * L) < 128 * 2 ^ (8 * L) := Nat.mul_lt_mul_of_pos_right hc (Nat.two_pow_pos _)
    have h2 : 128 * 2 ^ (8 * L) = 2 ^ (8 * L + 7) := by
      rw [Nat.pow_add, Nat.mul_comm]
    have h3 : 2 ^ (8 * L + 7) ≤ 2 ^ 64 := Nat.pow_le_pow_right (by decide) (by omega)
    omega
  unfold wn app at *
  rw [Int64.toBitVec_or, BitVec.toNat_or, hs, Nat.or_comm, Nat.mul_comm, ← Nat.two_pow_add_eq_or_of_lt hw]
  omega
/-- a word of so many letters -/
def wd (w : Int64) (L : Nat) : Prop := L ≤ 8 ∧ wn w < 2 ^ (8 * L) ∧ ∀ i, i < L → 0 < oc w i ∧ oc w i < 128
theorem wd_0 : wd 0 0 := ⟨by decide, by decide, fun i h => absurd h (by omega)⟩
theorem oc_hi {w v : Int64} {L i x : Nat} (h : wn v = wn w + x * 2 ^ (8 * L)) (hi : i < L) : oc v i = oc w i := by
  unfold oc
  show wn v / 2 ^ (8 * i) % 256 = wn w / 2 ^ (8 * i) % 256
  have e : x * 2 ^ (8 * L) = 2 ^ (8 * i) * (256 * (x * 2 ^ (8 * (L - i - 1)))) := by
    have e1 : 8 * L = 8 * i + (8 + 8 * (L - i - 1)) := by omega
    rw [e1, Nat.pow_add, Nat.pow_add]
    have e2 : (2 : Nat) ^ 8 = 256 := by decide
    rw [e2, Nat.mul_left_comm, Nat.mul_left_comm x 256]
  rw [h, e, Nat.add_mul_div_left _ _ (Nat.two_pow_pos _), Nat.add_mul_mod_self_left]
theorem oc_top {w v : Int64} {L x : Nat} (h : wn v = wn w + x * 2 ^ (8 * L)) (hw : wn w < 2 ^ (8 * L)) (hx : x < 256) : oc v L = x := by
  unfold oc
  show wn v / 2 ^ (8 * L) % 256 = x
  rw [h, Nat.add_mul_div_right _ _ (Nat.two_pow_pos _), Nat.div_eq_of_lt hw, Nat.zero_add, Nat.mod_eq_of_lt hx]
theorem wd_up {w : Int64} {c L : Nat} (h : wd w L) (hc0 : 0 < c) (hc : c < 128) (hL : L < 8) : wd (app w (Int32.ofNat c) (Int32.ofNat L)) (L + 1) := by
  obtain ⟨-, h1, h2⟩ := h
  have e := ap_n hc hL h1
  refine ⟨by omega, ?_, fun i hi => ?_⟩
  · rw [e, show 8 * (L + 1) = 8 * L + 8 by omega, Nat.pow_add]
    have h3 : c * 2 ^ (8 * L) ≤ 127 * 2 ^ (8 * L) := Nat.mul_le_mul_right _ (by omega)
    have h4 : (2 : Nat) ^ 8 = 256 := by decide
    rw [h4]
    omega
  · by_cases q : i = L
    · rw [q, oc_top e h1 (by omega)]
      exact ⟨hc0, hc⟩
    · rw [oc_hi e (by omega)]
      exact h2 i (by omega)
theorem wd_nn {w : Int64} {L : Nat} (h : wd w L) : 0 ≤ w := by
  have hlt : wn w < 2 ^ 63 := by
    obtain ⟨h1, h2, h3⟩ := h
    by_cases c : L = 8
    · subst c
      have h4 := (h3 7 (by omega)).2
      unfold oc at h4
      have h5 : wn w < 2 ^ 64 := h2
      have h6 : wn w / 2 ^ 56 % 256 < 128 := h4
      have e56 : (2 : Nat) ^ 56 = 72057594037927936 := by decide
      have e64 : (2 : Nat) ^ 64 = 18446744073709551616 := by decide
      have e63 : (2 : Nat) ^ 63 = 9223372036854775808 := by decide
      rw [e56] at h6
      rw [e64] at h5
      rw [e63]
      omega
    · have h6 : 2 ^ (8 * L) ≤ 2 ^ 63 := Nat.pow_le_pow_right (by decide) (by omega)
      omega
  rw [Int64.le_iff_toInt_le]
  have e : w.toInt = (wn w : Int) := by
    show w.toBitVec.toInt = _
    rw [BitVec.toInt_eq_toNat_cond, if_pos]
    · rfl
    · show 2 * wn w < 2 ^ 64
      have e64 : (2 : Nat) ^ 64 = 2 * 2 ^ 63 := by decide
      omega
  rw [e]
  show (0 : Int) ≤ _
  omega
/-- a word that is a beginning of another -/
theorem pre_0 (v : Int64) : wn 0 = wn v % 2 ^ (8 * 0) := by
  rw [Nat.mul_zero, Nat.pow_zero, Nat.mod_one]
  rfl
theorem pre_up {w v : Int64} {L : Nat} (h : wn w = wn v % 2 ^ (8 * L)) (hL : L < 8) (ho : oc v L < 128) : wn (app w (Int32.ofNat (oc v L)) (Int32.ofNat L)) = wn v % 2 ^ (8 * (L + 1)) := by
  have hw : wn w < 2 ^ (8 * L) := by
    rw [h]
    exact Nat.mod_lt _ (Nat.two_pow_pos _)
  rw [ap_n ho hL hw, h, show 8 * (L + 1) = 8 * L + 8 by omega, Nat.pow_add, Nat.mod_mul]
  unfold oc
  rw [Nat.mul_comm (_ % 256)]
  rfl
theorem pre_ne {w v : Int64} {L : Nat} (h : wn w = wn v % 2 ^ (8 * L)) (ho : 0 < oc v L) : ¬ w = v := by
  intro e
  rw [e] at h
  have h2 : wn v < 2 ^ (8 * L) := by
    rw [h]
    exact Nat.mod_lt _ (Nat.two_pow_pos _)
  unfold oc at ho
  have h3 : wn v / 2 ^ (8 * L) = 0 := Nat.div_eq_of_lt h2
  have h4 : 0 < wn v / 2 ^ (8 * L) % 256 := ho
  rw [h3] at h4
  exact absurd h4 (by decide)
theorem pre_eq {w v : Int64} {L : Nat} (h : wn w = wn v % 2 ^ (8 * L)) (hd : wd v L) : w = v := by
  apply wn_inj
  rw [h, Nat.mod_eq_of_lt hd.2.1]
theorem wd_hi {w : Int64} {L i : Nat} (h : wd w L) (hi : L ≤ i) (hi2 : i < 8) : oc w i = 0 := by
  unfold oc
  show wn w / 2 ^ (8 * i) % 256 = 0
  have h2 : 2 ^ (8 * L) ≤ 2 ^ (8 * i) := Nat.pow_le_pow_right (by decide) (by omega)
  rw [Nat.div_eq_of_lt (by have := h.2.1; omega)]
