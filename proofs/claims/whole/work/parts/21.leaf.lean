/-! leaves: letters and words -/
def oct (w : Int64) (i : Int32) : Int32 := (w.toUInt64 >>> ((8 * i).toInt64.toUInt64 &&& Int64.toUInt64 63)).toInt64.toInt32 &&& 255
theorem sp_octet {d : Nat} {w : Int64} {i : Int32} {σ : mx_Hp} {Q : Option mx_V → mx_Hp → Prop} (h : Q (some (mx_i (oct w i))) σ) : mx_WP d 2 0 (mx_ent 2 [mx_l w, mx_i i]) [] σ Q := by
  refine mx_WP.go 8 (pc' := 11) (L' := [some (mx_l w), none, some (mx_i i)]) (st' := [mx_i ((((w.toUInt64 >>> ((8 * i).toInt64.toUInt64 &&& Int64.toUInt64 63)).toInt64).toInt32) &&& 255)]) (σ' := σ) rfl ?_
  -- at 11: ireturn 
  refine mx_WP.ret (v := some (mx_i ((((w.toUInt64 >>> ((8 * i).toInt64.toUInt64 &&& Int64.toUInt64 63)).toInt64).toInt32) &&& 255))) rfl ?_
  exact h
def isNm (c : Int32) : Bool := decide (97 ≤ c) && decide (c ≤ 122)
def b2i (b : Bool) : Int32 := bif b then 1 else 0
theorem sp_isNameLetter {d : Nat} {c : Int32} {σ : mx_Hp} {Q : Option mx_V → mx_Hp → Prop} (h : Q (some (mx_i (b2i (isNm c)))) σ) : mx_WP d 8 0 (mx_ent 8 [mx_i c]) [] σ Q := by
  refine mx_WP.go 2 (pc' := 3) (L' := [some (mx_i c)]) (st' := [mx_i 97, mx_i c]) (σ' := σ) rfl ?_
  -- at 3: if_icmplt 
  refine mx_WP.blt (x := c) (y := 97) (q := 16) (p3 := 6) rfl (fun h1 => ?_) (fun h1 => ?_)
  · refine mx_WP.go 1 (pc' := 17) (L' := [some (mx_i c)]) (st' := [mx_i 0]) (σ' := σ) rfl ?_
    -- at 17: ireturn 
    refine mx_WP.ret (v := some (mx_i 0)) rfl ?_
    have e : b2i (isNm c) = 0 := by
      have : ¬ 97 ≤ c := Int32.not_le.mpr h1
      simp [isNm, this, b2i]
    rw [e] at h
    exact h
  · refine mx_WP.go 2 (pc' := 9) (L' := [some (mx_i c)]) (st' := [mx_i 122, mx_i c]) (σ' := σ) rfl ?_
    -- at 9: if_icmpgt 
    refine mx_WP.bgt (x := c) (y := 122) (q := 16) (p3 := 12) rfl (fun h2 => ?_) (fun h2 => ?_)
    · refine mx_WP.go 1 (pc' := 17) (L' := [some (mx_i c)]) (st' := [mx_i 0]) (σ' := σ) rfl ?_
      -- at 17: ireturn 
      refine mx_WP.ret (v := some (mx_i 0)) rfl ?_
      have e : b2i (isNm c) = 0 := by
        have : ¬ c ≤ 122 := Int32.not_le.mpr h2
        simp [isNm, this, b2i]
      rw [e] at h
      exact h
    · refine mx_WP.go 2 (pc' := 17) (L' := [some (mx_i c)]) (st' := [mx_i 1]) (σ' := σ) rfl ?_
      -- at 17: ireturn 
      refine mx_WP.ret (v := some (mx_i 1)) rfl ?_
      have e : b2i (isNm c) = 1 := by
        have a1 : 97 ≤ c := Int32.not_lt.mp h1
        have a2 : c ≤ 122 := Int32.not_lt.mp h2
        simp [isNm, a1, a2, b2i]
      rw [e] at h
      exact h
