/-! the branches -/
theorem j_0 (v1 v2 v3 t0 : Int32) (I : mI) (J : mJ) (hs : I 11 0 11 = 0) : j128_26 v1 v2 v3 t0 I J = (if t0 = (0 : Int32) then (if v2 = (60 : Int32) then (if (0 : Int32) ≤ ((mx_u3 I 11 0 11 (1 : Int32)) 11 0 12) then (some (true, (mx_u3 I 11 0 11 (1 : Int32)), J)) else if v1 < 0 ∨ 8 ≤ v1.toNatClampNeg then none else if (16 : Int32) ≤ (I 100 0 v1.toNatClampNeg) then (some (false, (mx_u3 I 11 0 11 (1 : Int32)), J)) else some (true, (mx_u3 I 11 0 11 (1 : Int32)), J)) else some (false, (mx_u3 I 11 0 11 (1 : Int32)), J)) else some (true, I, J)) := by
  unfold j128_26
  rw [if_pos hs]
theorem j_1 (v1 v2 v3 t0 : Int32) (I : mI) (J : mJ) (hs : I 11 0 11 = 1) : j128_26 v1 v2 v3 t0 I J = (if v2 = (47 : Int32) then (if ((mx_u3 (mx_u3 I 11 0 11 (9 : Int32)) 11 0 14 (0 : Int32)) 11 0 12) < (0 : Int32) then (some (false, (mx_u3 (mx_u3 I 11 0 11 (9 : Int32)) 11 0 14 (0 : Int32)), J)) else some (true, (mx_u3 (mx_u3 I 11 0 11 (9 : Int32)) 11 0 14 (0 : Int32)), J)) else if v3 = (0 : Int32) then (some (false, I, J)) else (f129 v1 v2 I J).bind fun u2013 =>
  if u2013.1 = true then (some (true, u2013.2.1, u2013.2.2)) else some (false, u2013.2.1, u2013.2.2)) := by
  unfold j128_26
  rw [if_neg (by rw [hs]; decide : ¬ I 11 0 11 = 0)]
  rw [if_pos hs]
theorem j_2 (v1 v2 v3 t0 : Int32) (I : mI) (J : mJ) (hs : I 11 0 11 = 2) : j128_26 v1 v2 v3 t0 I J = (if v3 = (0 : Int32) then ((f130 v2 t0 I).bind fun u2018 =>
  some (u2018.1, u2018.2, J)) else if (I 11 0 14) = (8 : Int32) then (some (false, I, J)) else if (I 11 0 13) < 0 ∨ 128 ≤ (I 11 0 13).toNatClampNeg then none else if (I 11 0 13) < 0 ∨ 128 ≤ (I 11 0 13).toNatClampNeg then none else some (true, (mx_u3 I 11 0 14 ((I 11 0 14) + (1 : Int32))), (mx_u3 J 102 0 ((I 11 0 13).toNatClampNeg) ((J 102 0 ((I 11 0 13).toNatClampNeg)) ||| (v2.toInt64 <<< (((8 : Int32) * (I 11 0 14)).toInt64 &&& 63)))))) := by
  unfold j128_26
  rw [if_neg (by rw [hs]; decide : ¬ I 11 0 11 = 0)]
  rw [if_neg (by rw [hs]; decide : ¬ I 11 0 11 = 1)]
  rw [if_pos hs]
theorem j_3 (v1 v2 v3 t0 : Int32) (I : mI) (J : mJ) (hs : I 11 0 11 = 3) : j128_26 v1 v2 v3 t0 I J = (if v3 = (0 : Int32) then ((f130 v2 t0 I).bind fun u2025 =>
  some (u2025.1, u2025.2, J)) else (f131 v2 I J).bind fun u2027 =>
  some (u2027.1, u2027.2.1, u2027.2.2)) := by
  unfold j128_26
  rw [if_neg (by rw [hs]; decide : ¬ I 11 0 11 = 0)]
  rw [if_neg (by rw [hs]; decide : ¬ I 11 0 11 = 1)]
  rw [if_neg (by rw [hs]; decide : ¬ I 11 0 11 = 2)]
  rw [if_pos hs]
theorem j_4 (v1 v2 v3 t0 : Int32) (I : mI) (J : mJ) (hs : I 11 0 11 = 4) : j128_26 v1 v2 v3 t0 I J = ((f132 v2 v3 I J).bind fun u2030 =>
  some (u2030.1, u2030.2.1, u2030.2.2)) := by
  unfold j128_26
  rw [if_neg (by rw [hs]; decide : ¬ I 11 0 11 = 0)]
  rw [if_neg (by rw [hs]; decide : ¬ I 11 0 11 = 1)]
  rw [if_neg (by rw [hs]; decide : ¬ I 11 0 11 = 2)]
  rw [if_neg (by rw [hs]; decide : ¬ I 11 0 11 = 3)]
  rw [if_pos hs]
theorem j_5 (v1 v2 v3 t0 : Int32) (I : mI) (J : mJ) (hs : I 11 0 11 = 5) : j128_26 v1 v2 v3 t0 I J = (if v2 = (34 : Int32) then (some (true, (mx_u3 (mx_u3 I 11 0 11 (6 : Int32)) 11 0 14 (0 : Int32)), J)) else some (false, (mx_u3 (mx_u3 I 11 0 11 (6 : Int32)) 11 0 14 (0 : Int32)), J)) := by
  unfold j128_26
  rw [if_neg (by rw [hs]; decide : ¬ I 11 0 11 = 0)]
  rw [if_neg (by rw [hs]; decide : ¬ I 11 0 11 = 1)]
  rw [if_neg (by rw [hs]; decide : ¬ I 11 0 11 = 2)]
  rw [if_neg (by rw [hs]; decide : ¬ I 11 0 11 = 3)]
  rw [if_neg (by rw [hs]; decide : ¬ I 11 0 11 = 4)]
  rw [if_pos hs]
theorem j_6 (v1 v2 v3 t0 : Int32) (I : mI) (J : mJ) (hs : I 11 0 11 = 6) : j128_26 v1 v2 v3 t0 I J = (if v2 = (34 : Int32) then (some (true, (mx_u3 I 11 0 11 (7 : Int32)), J)) else if (I 11 0 14) = (8 : Int32) then (some (false, I, J)) else (f123 v2).bind fun u2037 =>
  if u2037 = true then (if (I 11 0 13) < 0 ∨ 128 ≤ (I 11 0 13).toNatClampNeg then none else if ((((4 : Int32) * (I 11 0 13)) + (I 107 0 ((I 11 0 13).toNatClampNeg))) - (1 : Int32)) < 0 ∨ 512 ≤ ((((4 : Int32) * (I 11 0 13)) + (I 107 0 ((I 11 0 13).toNatClampNeg))) - (1 : Int32)).toNatClampNeg then none else if ((((4 : Int32) * (I 11 0 13)) + (I 107 0 ((I 11 0 13).toNatClampNeg))) - (1 : Int32)) < 0 ∨ 512 ≤ ((((4 : Int32) * (I 11 0 13)) + (I 107 0 ((I 11 0 13).toNatClampNeg))) - (1 : Int32)).toNatClampNeg then none else some (true, (mx_u3 I 11 0 14 ((I 11 0 14) + (1 : Int32))), (mx_u3 J 104 0 (((((4 : Int32) * (I 11 0 13)) + (I 107 0 ((I 11 0 13).toNatClampNeg))) - (1 : Int32)).toNatClampNeg) ((J 104 0 (((((4 : Int32) * (I 11 0 13)) + (I 107 0 ((I 11 0 13).toNatClampNeg))) - (1 : Int32)).toNatClampNeg)) ||| (v2.toInt64 <<< (((8 : Int32) * (I 11 0 14)).toInt64 &&& 63)))))) else some (false, I, J)) := by
  unfold j128_26
  rw [if_neg (by rw [hs]; decide : ¬ I 11 0 11 = 0)]
  rw [if_neg (by rw [hs]; decide : ¬ I 11 0 11 = 1)]
  rw [if_neg (by rw [hs]; decide : ¬ I 11 0 11 = 2)]
  rw [if_neg (by rw [hs]; decide : ¬ I 11 0 11 = 3)]
  rw [if_neg (by rw [hs]; decide : ¬ I 11 0 11 = 4)]
  rw [if_neg (by rw [hs]; decide : ¬ I 11 0 11 = 5)]
  rw [if_pos hs]
theorem j_7 (v1 v2 v3 t0 : Int32) (I : mI) (J : mJ) (hs : I 11 0 11 = 7) : j128_26 v1 v2 v3 t0 I J = ((f130 v2 t0 I).bind fun u2044 =>
  some (u2044.1, u2044.2, J)) := by
  unfold j128_26
  rw [if_neg (by rw [hs]; decide : ¬ I 11 0 11 = 0)]
  rw [if_neg (by rw [hs]; decide : ¬ I 11 0 11 = 1)]
  rw [if_neg (by rw [hs]; decide : ¬ I 11 0 11 = 2)]
  rw [if_neg (by rw [hs]; decide : ¬ I 11 0 11 = 3)]
  rw [if_neg (by rw [hs]; decide : ¬ I 11 0 11 = 4)]
  rw [if_neg (by rw [hs]; decide : ¬ I 11 0 11 = 5)]
  rw [if_neg (by rw [hs]; decide : ¬ I 11 0 11 = 6)]
  rw [if_pos hs]
theorem j_8 (v1 v2 v3 t0 : Int32) (I : mI) (J : mJ) (hs : I 11 0 11 = 8) : j128_26 v1 v2 v3 t0 I J = (if ((mx_u3 I 11 0 11 (0 : Int32)) 11 0 13) < 0 ∨ 128 ≤ ((mx_u3 I 11 0 11 (0 : Int32)) 11 0 13).toNatClampNeg then none else if v2 = (62 : Int32) then (some (true, (mx_u3 (mx_u3 I 11 0 11 (0 : Int32)) 11 0 12 (I 105 0 (((mx_u3 I 11 0 11 (0 : Int32)) 11 0 13).toNatClampNeg))), J)) else some (false, (mx_u3 (mx_u3 I 11 0 11 (0 : Int32)) 11 0 12 (I 105 0 (((mx_u3 I 11 0 11 (0 : Int32)) 11 0 13).toNatClampNeg))), J)) := by
  unfold j128_26
  rw [if_neg (by rw [hs]; decide : ¬ I 11 0 11 = 0)]
  rw [if_neg (by rw [hs]; decide : ¬ I 11 0 11 = 1)]
  rw [if_neg (by rw [hs]; decide : ¬ I 11 0 11 = 2)]
  rw [if_neg (by rw [hs]; decide : ¬ I 11 0 11 = 3)]
  rw [if_neg (by rw [hs]; decide : ¬ I 11 0 11 = 4)]
  rw [if_neg (by rw [hs]; decide : ¬ I 11 0 11 = 5)]
  rw [if_neg (by rw [hs]; decide : ¬ I 11 0 11 = 6)]
  rw [if_neg (by rw [hs]; decide : ¬ I 11 0 11 = 7)]
  rw [if_pos hs]
theorem j_9 (v1 v2 v3 t0 : Int32) (I : mI) (J : mJ) (hs : I 11 0 11 = 9) : j128_26 v1 v2 v3 t0 I J = (if (I 11 0 12) < 0 ∨ 128 ≤ (I 11 0 12).toNatClampNeg then none else (f118 (J 102 0 ((I 11 0 12).toNatClampNeg)) (I 11 0 14)).bind fun u2051 =>
  if v2 = u2051 then (if ((mx_u3 I 11 0 14 ((I 11 0 14) + (1 : Int32))) 11 0 14) = (8 : Int32) then (some (true, (mx_u3 (mx_u3 I 11 0 14 ((I 11 0 14) + (1 : Int32))) 11 0 11 (10 : Int32)), J)) else if ((mx_u3 I 11 0 14 ((I 11 0 14) + (1 : Int32))) 11 0 12) < 0 ∨ 128 ≤ ((mx_u3 I 11 0 14 ((I 11 0 14) + (1 : Int32))) 11 0 12).toNatClampNeg then none else (f118 (J 102 0 (((mx_u3 I 11 0 14 ((I 11 0 14) + (1 : Int32))) 11 0 12).toNatClampNeg)) ((mx_u3 I 11 0 14 ((I 11 0 14) + (1 : Int32))) 11 0 14)).bind fun u2055 =>
  if u2055 = (0 : Int32) then (some (true, (mx_u3 (mx_u3 I 11 0 14 ((I 11 0 14) + (1 : Int32))) 11 0 11 (10 : Int32)), J)) else some (true, (mx_u3 I 11 0 14 ((I 11 0 14) + (1 : Int32))), J)) else some (false, I, J)) := by
  unfold j128_26
  rw [if_neg (by rw [hs]; decide : ¬ I 11 0 11 = 0)]
  rw [if_neg (by rw [hs]; decide : ¬ I 11 0 11 = 1)]
  rw [if_neg (by rw [hs]; decide : ¬ I 11 0 11 = 2)]
  rw [if_neg (by rw [hs]; decide : ¬ I 11 0 11 = 3)]
  rw [if_neg (by rw [hs]; decide : ¬ I 11 0 11 = 4)]
  rw [if_neg (by rw [hs]; decide : ¬ I 11 0 11 = 5)]
  rw [if_neg (by rw [hs]; decide : ¬ I 11 0 11 = 6)]
  rw [if_neg (by rw [hs]; decide : ¬ I 11 0 11 = 7)]
  rw [if_neg (by rw [hs]; decide : ¬ I 11 0 11 = 8)]
  rw [if_pos hs]
theorem j_10 (v1 v2 v3 t0 : Int32) (I : mI) (J : mJ) (hs : I 11 0 11 = 10) : j128_26 v1 v2 v3 t0 I J = (if t0 = (0 : Int32) then (if ((mx_u3 I 11 0 11 (0 : Int32)) 11 0 12) < 0 ∨ 128 ≤ ((mx_u3 I 11 0 11 (0 : Int32)) 11 0 12).toNatClampNeg then none else if v2 = (62 : Int32) then (some (true, (mx_u3 (mx_u3 I 11 0 11 (0 : Int32)) 11 0 12 (I 105 0 (((mx_u3 I 11 0 11 (0 : Int32)) 11 0 12).toNatClampNeg))), J)) else some (false, (mx_u3 (mx_u3 I 11 0 11 (0 : Int32)) 11 0 12 (I 105 0 (((mx_u3 I 11 0 11 (0 : Int32)) 11 0 12).toNatClampNeg))), J)) else some (true, I, J)) := by
  unfold j128_26
  rw [if_neg (by rw [hs]; decide : ¬ I 11 0 11 = 0)]
  rw [if_neg (by rw [hs]; decide : ¬ I 11 0 11 = 1)]
  rw [if_neg (by rw [hs]; decide : ¬ I 11 0 11 = 2)]
  rw [if_neg (by rw [hs]; decide : ¬ I 11 0 11 = 3)]
  rw [if_neg (by rw [hs]; decide : ¬ I 11 0 11 = 4)]
  rw [if_neg (by rw [hs]; decide : ¬ I 11 0 11 = 5)]
  rw [if_neg (by rw [hs]; decide : ¬ I 11 0 11 = 6)]
  rw [if_neg (by rw [hs]; decide : ¬ I 11 0 11 = 7)]
  rw [if_neg (by rw [hs]; decide : ¬ I 11 0 11 = 8)]
  rw [if_neg (by rw [hs]; decide : ¬ I 11 0 11 = 9)]
theorem f56_0 (x0 : Nat) (x1 : Int32) (I : mI) (J : mJ) (h : Nat → Nat) (hs : I 5 x0 2 = 0) : f56 x0 x1 I J h = ((f57 x0 x1 I h).bind fun u2 =>
  some (u2.1, u2.2, J, h)) := by
  unfold f56
  rw [if_pos hs]
theorem f56_1 (x0 : Nat) (x1 : Int32) (I : mI) (J : mJ) (h : Nat → Nat) (hs : I 5 x0 2 = 1) : f56 x0 x1 I J h = ((f60 x0 x1 I J h).bind fun u5 =>
  some (u5.1, u5.2.1, u5.2.2.1, u5.2.2.2)) := by
  unfold f56
  rw [if_neg (by rw [hs]; decide : ¬ I 5 x0 2 = 0)]
  rw [if_pos hs]
theorem f56_2 (x0 : Nat) (x1 : Int32) (I : mI) (J : mJ) (h : Nat → Nat) (hs : I 5 x0 2 = 2) : f56 x0 x1 I J h = ((f62 x0 x1 I J h).bind fun u8 =>
  some (u8.1, u8.2.1, u8.2.2, h)) := by
  unfold f56
  rw [if_neg (by rw [hs]; decide : ¬ I 5 x0 2 = 0)]
  rw [if_neg (by rw [hs]; decide : ¬ I 5 x0 2 = 1)]
  rw [if_pos hs]
theorem f56_3 (x0 : Nat) (x1 : Int32) (I : mI) (J : mJ) (h : Nat → Nat) (hs : I 5 x0 2 = 3) : f56 x0 x1 I J h = ((f65 x0 x1 I J h).bind fun u11 =>
  some (u11.1, u11.2.1, u11.2.2, h)) := by
  unfold f56
  rw [if_neg (by rw [hs]; decide : ¬ I 5 x0 2 = 0)]
  rw [if_neg (by rw [hs]; decide : ¬ I 5 x0 2 = 1)]
  rw [if_neg (by rw [hs]; decide : ¬ I 5 x0 2 = 2)]
  rw [if_pos hs]
theorem f56_4 (x0 : Nat) (x1 : Int32) (I : mI) (J : mJ) (h : Nat → Nat) (hs : I 5 x0 2 = 4) : f56 x0 x1 I J h = ((f66 x0 x1 I J h).bind fun u14 =>
  some (u14.1, u14.2.1, u14.2.2, h)) := by
  unfold f56
  rw [if_neg (by rw [hs]; decide : ¬ I 5 x0 2 = 0)]
  rw [if_neg (by rw [hs]; decide : ¬ I 5 x0 2 = 1)]
  rw [if_neg (by rw [hs]; decide : ¬ I 5 x0 2 = 2)]
  rw [if_neg (by rw [hs]; decide : ¬ I 5 x0 2 = 3)]
  rw [if_pos hs]
theorem f56_5 (x0 : Nat) (x1 : Int32) (I : mI) (J : mJ) (h : Nat → Nat) (hs : I 5 x0 2 = 5) : f56 x0 x1 I J h = (if x1 = (34 : Int32) then ((f61 x0 (6 : Int32) I J).bind fun u18 =>
  if u18.1 = true then (some (true, u18.2.1, u18.2.2, h)) else some (false, u18.2.1, u18.2.2, h)) else some (false, I, J, h)) := by
  unfold f56
  rw [if_neg (by rw [hs]; decide : ¬ I 5 x0 2 = 0)]
  rw [if_neg (by rw [hs]; decide : ¬ I 5 x0 2 = 1)]
  rw [if_neg (by rw [hs]; decide : ¬ I 5 x0 2 = 2)]
  rw [if_neg (by rw [hs]; decide : ¬ I 5 x0 2 = 3)]
  rw [if_neg (by rw [hs]; decide : ¬ I 5 x0 2 = 4)]
  rw [if_pos hs]
theorem f56_6 (x0 : Nat) (x1 : Int32) (I : mI) (J : mJ) (h : Nat → Nat) (hs : I 5 x0 2 = 6) : f56 x0 x1 I J h = ((f67 x0 x1 I J h).bind fun u22 =>
  some (u22.1, u22.2.1, u22.2.2, h)) := by
  unfold f56
  rw [if_neg (by rw [hs]; decide : ¬ I 5 x0 2 = 0)]
  rw [if_neg (by rw [hs]; decide : ¬ I 5 x0 2 = 1)]
  rw [if_neg (by rw [hs]; decide : ¬ I 5 x0 2 = 2)]
  rw [if_neg (by rw [hs]; decide : ¬ I 5 x0 2 = 3)]
  rw [if_neg (by rw [hs]; decide : ¬ I 5 x0 2 = 4)]
  rw [if_neg (by rw [hs]; decide : ¬ I 5 x0 2 = 5)]
  rw [if_pos hs]
theorem f56_7 (x0 : Nat) (x1 : Int32) (I : mI) (J : mJ) (h : Nat → Nat) (hs : I 5 x0 2 = 7) : f56 x0 x1 I J h = ((f63 x0 x1 I).bind fun u25 =>
  some (u25.1, u25.2, J, h)) := by
  unfold f56
  rw [if_neg (by rw [hs]; decide : ¬ I 5 x0 2 = 0)]
  rw [if_neg (by rw [hs]; decide : ¬ I 5 x0 2 = 1)]
  rw [if_neg (by rw [hs]; decide : ¬ I 5 x0 2 = 2)]
  rw [if_neg (by rw [hs]; decide : ¬ I 5 x0 2 = 3)]
  rw [if_neg (by rw [hs]; decide : ¬ I 5 x0 2 = 4)]
  rw [if_neg (by rw [hs]; decide : ¬ I 5 x0 2 = 5)]
  rw [if_neg (by rw [hs]; decide : ¬ I 5 x0 2 = 6)]
  rw [if_pos hs]
theorem f56_8 (x0 : Nat) (x1 : Int32) (I : mI) (J : mJ) (h : Nat → Nat) (hs : I 5 x0 2 = 8) : f56 x0 x1 I J h = (if x1 = (62 : Int32) then ((f68 x0 I h).bind fun u29 =>
  if u29.1 = true then (some (true, u29.2.1, J, u29.2.2)) else some (false, u29.2.1, J, u29.2.2)) else some (false, I, J, h)) := by
  unfold f56
  rw [if_neg (by rw [hs]; decide : ¬ I 5 x0 2 = 0)]
  rw [if_neg (by rw [hs]; decide : ¬ I 5 x0 2 = 1)]
  rw [if_neg (by rw [hs]; decide : ¬ I 5 x0 2 = 2)]
  rw [if_neg (by rw [hs]; decide : ¬ I 5 x0 2 = 3)]
  rw [if_neg (by rw [hs]; decide : ¬ I 5 x0 2 = 4)]
  rw [if_neg (by rw [hs]; decide : ¬ I 5 x0 2 = 5)]
  rw [if_neg (by rw [hs]; decide : ¬ I 5 x0 2 = 6)]
  rw [if_neg (by rw [hs]; decide : ¬ I 5 x0 2 = 7)]
  rw [if_pos hs]
theorem f56_9 (x0 : Nat) (x1 : Int32) (I : mI) (J : mJ) (h : Nat → Nat) (hs : I 5 x0 2 = 9) : f56 x0 x1 I J h = ((f69 x0 x1 I J h).bind fun u33 =>
  some (u33.1, u33.2.1, u33.2.2.1, u33.2.2.2)) := by
  unfold f56
  rw [if_neg (by rw [hs]; decide : ¬ I 5 x0 2 = 0)]
  rw [if_neg (by rw [hs]; decide : ¬ I 5 x0 2 = 1)]
  rw [if_neg (by rw [hs]; decide : ¬ I 5 x0 2 = 2)]
  rw [if_neg (by rw [hs]; decide : ¬ I 5 x0 2 = 3)]
  rw [if_neg (by rw [hs]; decide : ¬ I 5 x0 2 = 4)]
  rw [if_neg (by rw [hs]; decide : ¬ I 5 x0 2 = 5)]
  rw [if_neg (by rw [hs]; decide : ¬ I 5 x0 2 = 6)]
  rw [if_neg (by rw [hs]; decide : ¬ I 5 x0 2 = 7)]
  rw [if_neg (by rw [hs]; decide : ¬ I 5 x0 2 = 8)]
  rw [if_pos hs]
theorem f56_10 (x0 : Nat) (x1 : Int32) (I : mI) (J : mJ) (h : Nat → Nat) (hs : I 5 x0 2 = 10) : f56 x0 x1 I J h = ((f70 x0 x1 I h).bind fun u35 =>
  some (u35.1, u35.2.1, J, u35.2.2)) := by
  unfold f56
  rw [if_neg (by rw [hs]; decide : ¬ I 5 x0 2 = 0)]
  rw [if_neg (by rw [hs]; decide : ¬ I 5 x0 2 = 1)]
  rw [if_neg (by rw [hs]; decide : ¬ I 5 x0 2 = 2)]
  rw [if_neg (by rw [hs]; decide : ¬ I 5 x0 2 = 3)]
  rw [if_neg (by rw [hs]; decide : ¬ I 5 x0 2 = 4)]
  rw [if_neg (by rw [hs]; decide : ¬ I 5 x0 2 = 5)]
  rw [if_neg (by rw [hs]; decide : ¬ I 5 x0 2 = 6)]
  rw [if_neg (by rw [hs]; decide : ¬ I 5 x0 2 = 7)]
  rw [if_neg (by rw [hs]; decide : ¬ I 5 x0 2 = 8)]
  rw [if_neg (by rw [hs]; decide : ¬ I 5 x0 2 = 9)]
