def f111 (x1 : Int32) (x2 : Int32) (x3 : Int32) (I : Nat → Nat → Nat → Int32) : Option (Int32 × (Nat → Nat → Nat → Int32)) :=
  if (I 9 0 4) < (24 : Int32) then (if (I 9 0 4) < 0 ∨ 24 ≤ (I 9 0 4).toNatClampNeg then none else if (I 9 0 4) < 0 ∨ 24 ≤ (I 9 0 4).toNatClampNeg then none else if (I 9 0 4) < 0 ∨ 24 ≤ (I 9 0 4).toNatClampNeg then none else some (((mx_u3 (mx_u3 (mx_u3 (mx_u3 I 77 0 ((I 9 0 4).toNatClampNeg) x1) 78 0 ((I 9 0 4).toNatClampNeg) x2) 79 0 ((I 9 0 4).toNatClampNeg) x3) 9 0 4 ((I 9 0 4) + (1 : Int32))) 9 0 4) - (1 : Int32), (mx_u3 (mx_u3 (mx_u3 (mx_u3 I 77 0 ((I 9 0 4).toNatClampNeg) x1) 78 0 ((I 9 0 4).toNatClampNeg) x2) 79 0 ((I 9 0 4).toNatClampNeg) x3) 9 0 4 ((I 9 0 4) + (1 : Int32))))) else some ((-2 : Int32), I)
theorem T111 {d : Nat} {x1 : Int32} {x2 : Int32} {x3 : Int32} {I : Nat → Nat → Nat → Int32} {J : Nat → Nat → Nat → Int64} {h : Nat → Nat} {μ : mx_Rg × (Nat × (Nat → Int32)) × (Nat × Nat)} {Q : Option mx_V → mx_Hp → Prop} {o : Int32 × (Nat → Nat → Nat → Int32)} (hf : f111 x1 x2 x3 I = some o) (hk : Q (some (mx_i o.1)) (hC o.2 J h, μ)) : mx_WP (d + 0) 111 0 (mx_ent 111 [mx_r (some (0, 9, 0)), mx_i x1, mx_i x2, mx_i x3]) [] (hC I J h, μ) Q := by
  unfold f111 at hf
  refine mx_WP.go 3 (pc' := 6) (L' := [some (mx_r (some (0, 9, 0))), some (mx_i x1), some (mx_i x2), some (mx_i x3)]) (st' := [mx_i (24 : Int32), mx_i (I 9 0 4)]) (σ' := (hC I J h, μ)) rfl ?_
  by_cases c1 : (I 9 0 4) < (24 : Int32)
  · rw [if_pos c1] at hf
    refine mx_WP.blt (x := (I 9 0 4)) (y := (24 : Int32)) (q := 12) (p3 := 9) rfl (fun _ => ?_) (fun hh => absurd c1 hh)
    refine mx_WP.go 5 (pc' := 21) (L' := [some (mx_r (some (0, 9, 0))), some (mx_i x1), some (mx_i x2), some (mx_i x3)]) (st' := [mx_i x1, mx_i (I 9 0 4), mx_r (some (0, 77, 0))]) (σ' := (hC I J h, μ)) rfl ?_
    by_cases c2 : (I 9 0 4) < 0 ∨ 24 ≤ (I 9 0 4).toNatClampNeg
    · rw [if_pos c2] at hf
      cases hf
    rw [if_neg c2] at hf
    refine mx_WP.iastx c2 ?_
    show mx_WP (d + 0) 111 22 [some (mx_r (some (0, 9, 0))), some (mx_i x1), some (mx_i x2), some (mx_i x3)] [] (hC (mx_u3 I 77 0 ((I 9 0 4).toNatClampNeg) x1) J h, μ) Q
    refine mx_WP.go 5 (pc' := 31) (L' := [some (mx_r (some (0, 9, 0))), some (mx_i x1), some (mx_i x2), some (mx_i x3)]) (st' := [mx_i x2, mx_i (I 9 0 4), mx_r (some (0, 78, 0))]) (σ' := (hC (mx_u3 I 77 0 ((I 9 0 4).toNatClampNeg) x1) J h, μ)) rfl ?_
    by_cases c3 : (I 9 0 4) < 0 ∨ 24 ≤ (I 9 0 4).toNatClampNeg
    · rw [if_pos c3] at hf
      cases hf
    rw [if_neg c3] at hf
    refine mx_WP.iastx c3 ?_
    show mx_WP (d + 0) 111 32 [some (mx_r (some (0, 9, 0))), some (mx_i x1), some (mx_i x2), some (mx_i x3)] [] (hC (mx_u3 (mx_u3 I 77 0 ((I 9 0 4).toNatClampNeg) x1) 78 0 ((I 9 0 4).toNatClampNeg) x2) J h, μ) Q
    refine mx_WP.go 5 (pc' := 41) (L' := [some (mx_r (some (0, 9, 0))), some (mx_i x1), some (mx_i x2), some (mx_i x3)]) (st' := [mx_i x3, mx_i (I 9 0 4), mx_r (some (0, 79, 0))]) (σ' := (hC (mx_u3 (mx_u3 I 77 0 ((I 9 0 4).toNatClampNeg) x1) 78 0 ((I 9 0 4).toNatClampNeg) x2) J h, μ)) rfl ?_
    by_cases c4 : (I 9 0 4) < 0 ∨ 24 ≤ (I 9 0 4).toNatClampNeg
    · rw [if_pos c4] at hf
      cases hf
    rw [if_neg c4] at hf
    refine mx_WP.iastx c4 ?_
    show mx_WP (d + 0) 111 42 [some (mx_r (some (0, 9, 0))), some (mx_i x1), some (mx_i x2), some (mx_i x3)] [] (hC (mx_u3 (mx_u3 (mx_u3 I 77 0 ((I 9 0 4).toNatClampNeg) x1) 78 0 ((I 9 0 4).toNatClampNeg) x2) 79 0 ((I 9 0 4).toNatClampNeg) x3) J h, μ) Q
    refine mx_WP.go 10 (pc' := 58) (L' := [some (mx_r (some (0, 9, 0))), some (mx_i x1), some (mx_i x2), some (mx_i x3)]) (st' := [mx_i (((mx_u3 (mx_u3 (mx_u3 (mx_u3 I 77 0 ((I 9 0 4).toNatClampNeg) x1) 78 0 ((I 9 0 4).toNatClampNeg) x2) 79 0 ((I 9 0 4).toNatClampNeg) x3) 9 0 4 ((I 9 0 4) + (1 : Int32))) 9 0 4) - (1 : Int32))]) (σ' := (hC (mx_u3 (mx_u3 (mx_u3 (mx_u3 I 77 0 ((I 9 0 4).toNatClampNeg) x1) 78 0 ((I 9 0 4).toNatClampNeg) x2) 79 0 ((I 9 0 4).toNatClampNeg) x3) 9 0 4 ((I 9 0 4) + (1 : Int32))) J h, μ)) rfl ?_
    rw [← Option.some.inj hf] at hk
    refine mx_WP.ret (v := some (mx_i (((mx_u3 (mx_u3 (mx_u3 (mx_u3 I 77 0 ((I 9 0 4).toNatClampNeg) x1) 78 0 ((I 9 0 4).toNatClampNeg) x2) 79 0 ((I 9 0 4).toNatClampNeg) x3) 9 0 4 ((I 9 0 4) + (1 : Int32))) 9 0 4) - (1 : Int32)))) rfl ?_
    exact hk
  · rw [if_neg c1] at hf
    refine mx_WP.blt (x := (I 9 0 4)) (y := (24 : Int32)) (q := 12) (p3 := 9) rfl (fun hh => absurd hh c1) (fun _ => ?_)
    refine mx_WP.go 1 (pc' := 11) (L' := [some (mx_r (some (0, 9, 0))), some (mx_i x1), some (mx_i x2), some (mx_i x3)]) (st' := [mx_i (-2 : Int32)]) (σ' := (hC I J h, μ)) rfl ?_
    rw [← Option.some.inj hf] at hk
    refine mx_WP.ret (v := some (mx_i (-2 : Int32))) rfl ?_
    exact hk
def f22 (x1 : Int32) (x2 : Int64) (I : Nat → Nat → Nat → Int32) (J : Nat → Nat → Nat → Int64) : Option (Int32 × (Nat → Nat → Nat → Int32)) :=
  (f108 x1 I).bind fun u1 =>
  if u1 = true then ((f80 x1 I).bind fun u3 =>
  (f45 u3 x2 I J).bind fun u4 =>
  if (0 : Int32) < (lg_cmp u4 (0 : Int64)) then ((f85 (x1 / (16 : Int32)) u4 I J).bind fun u6 =>
  if u6 = (-1 : Int32) then (some ((-5 : Int32), I)) else (f87z u6 (0 : Int32) I J).bind fun u8 =>
  if u8.1 = true then ((f88 u6 u8.2).bind fun u10 =>
  if (u10 &&& (-5 : Int32)) = (1 : Int32) then (some ((-7 : Int32), u8.2)) else if (u10 &&& (-5 : Int32)) = (2 : Int32) then (some ((-8 : Int32), u8.2)) else (f18 x1 (u8.2 3 u3 5)).bind fun u13 =>
  (f89 u6).bind fun u14 =>
  (f111 x1 u13 u14 u8.2).bind fun u15 =>
  some (u15.1, u15.2)) else some ((-6 : Int32), u8.2)) else some ((-4 : Int32), I)) else some ((-1 : Int32), I)
theorem T22 {d : Nat} {x1 : Int32} {x2 : Int64} {I : Nat → Nat → Nat → Int32} {J : Nat → Nat → Nat → Int64} {h : Nat → Nat} {μ : mx_Rg × (Nat × (Nat → Int32)) × (Nat × Nat)} {Q : Option mx_V → mx_Hp → Prop} {o : Int32 × (Nat → Nat → Nat → Int32)} (hf : f22 x1 x2 I J = some o) (hk : Q (some (mx_i o.1)) (hC o.2 J h, μ)) : mx_WP (d + 31) 22 0 (mx_ent 22 [mx_r (some (0, 0, 0)), mx_i x1, mx_l x2]) [] (hC I J h, μ) Q := by
  unfold f22 at hf
  refine mx_WP.go 3 (pc' := 5) (L' := [some (mx_r (some (0, 0, 0))), some (mx_i x1), some (mx_l x2), none, none, none, none, none]) (st' := [mx_i x1, mx_r (some (0, 8, 0))]) (σ' := (hC I J h, μ)) rfl ?_
  obtain ⟨u1, e24, hf⟩ := Option.bind_eq_some_iff.mp hf
  refine mx_WP.call (d := d + 30) (y := 108) (as := [mx_r (some (0, 8, 0)), mx_i x1]) (pc' := 8) (r := []) rfl rfl (T108 (d := d + 27)  e24 ?_)
  show mx_WP (d + 31) 22 8 [some (mx_r (some (0, 0, 0))), some (mx_i x1), some (mx_l x2), none, none, none, none, none] [mx_i (b2i u1)] (hC I J h, μ) Q
  by_cases c2 : u1 = true
  · rw [if_pos c2] at hf
    refine mx_WP.zne (b := u1) (q := 13) (p3 := 11) rfl (fun _ => ?_) (fun hh => absurd hh (by simp [c2]))
    refine mx_WP.go 3 (pc' := 18) (L' := [some (mx_r (some (0, 0, 0))), some (mx_i x1), some (mx_l x2), none, none, none, none, none]) (st' := [mx_i x1, mx_r (some (0, 7, 0))]) (σ' := (hC I J h, μ)) rfl ?_
    obtain ⟨u3, e23, hf⟩ := Option.bind_eq_some_iff.mp hf
    refine mx_WP.call (d := d + 30) (y := 80) (as := [mx_r (some (0, 7, 0)), mx_i x1]) (pc' := 21) (r := []) rfl rfl (T80 (d := d + 29)  e23 ?_)
    show mx_WP (d + 31) 22 21 [some (mx_r (some (0, 0, 0))), some (mx_i x1), some (mx_l x2), none, none, none, none, none] [mx_r (some (0, 3, u3))] (hC I J h, μ) Q
    refine mx_WP.go 3 (pc' := 26) (L' := [some (mx_r (some (0, 0, 0))), some (mx_i x1), some (mx_l x2), none, some (mx_r (some (0, 3, u3))), none, none, none]) (st' := [mx_l x2, mx_r (some (0, 3, u3))]) (σ' := (hC I J h, μ)) rfl ?_
    obtain ⟨u4, e22, hf⟩ := Option.bind_eq_some_iff.mp hf
    refine mx_WP.call (d := d + 30) (y := 45) (as := [mx_r (some (0, 3, u3)), mx_l x2]) (pc' := 29) (r := []) rfl rfl (T45 (d := d + 30)  e22 ?_)
    show mx_WP (d + 31) 22 29 [some (mx_r (some (0, 0, 0))), some (mx_i x1), some (mx_l x2), none, some (mx_r (some (0, 3, u3))), none, none, none] [mx_l u4] (hC I J h, μ) Q
    refine mx_WP.go 4 (pc' := 35) (L' := [some (mx_r (some (0, 0, 0))), some (mx_i x1), some (mx_l x2), none, some (mx_r (some (0, 3, u3))), some (mx_l u4), none, none]) (st' := [mx_i (lg_cmp u4 (0 : Int64))]) (σ' := (hC I J h, μ)) rfl ?_
    by_cases c5 : (0 : Int32) < (lg_cmp u4 (0 : Int64))
    · rw [if_pos c5] at hf
      refine mx_WP.bgt (x := (lg_cmp u4 (0 : Int64))) (y := (0 : Int32)) (q := 41) (p3 := 38) rfl (fun _ => ?_) (fun hh => absurd c5 hh)
      refine mx_WP.go 6 (pc' := 51) (L' := [some (mx_r (some (0, 0, 0))), some (mx_i x1), some (mx_l x2), none, some (mx_r (some (0, 3, u3))), some (mx_l u4), none, none]) (st' := [mx_l u4, mx_i (x1 / (16 : Int32)), mx_r (some (0, 7, 0))]) (σ' := (hC I J h, μ)) rfl ?_
      obtain ⟨u6, e21, hf⟩ := Option.bind_eq_some_iff.mp hf
      refine mx_WP.call (d := d + 30) (y := 85) (as := [mx_r (some (0, 7, 0)), mx_i (x1 / (16 : Int32)), mx_l u4]) (pc' := 54) (r := []) rfl rfl (T85 (d := d + 28)  e21 ?_)
      show mx_WP (d + 31) 22 54 [some (mx_r (some (0, 0, 0))), some (mx_i x1), some (mx_l x2), none, some (mx_r (some (0, 3, u3))), some (mx_l u4), none, none] [mx_i u6] (hC I J h, μ) Q
      refine mx_WP.go 3 (pc' := 59) (L' := [some (mx_r (some (0, 0, 0))), some (mx_i x1), some (mx_l x2), none, some (mx_r (some (0, 3, u3))), some (mx_l u4), none, some (mx_i u6)]) (st' := [mx_i (-1 : Int32), mx_i u6]) (σ' := (hC I J h, μ)) rfl ?_
      by_cases c7 : u6 = (-1 : Int32)
      · rw [if_pos c7] at hf
        refine mx_WP.bne (x := u6) (y := (-1 : Int32)) (q := 65) (p3 := 62) rfl (fun hh => absurd c7 hh) (fun _ => ?_)
        refine mx_WP.go 1 (pc' := 64) (L' := [some (mx_r (some (0, 0, 0))), some (mx_i x1), some (mx_l x2), none, some (mx_r (some (0, 3, u3))), some (mx_l u4), none, some (mx_i u6)]) (st' := [mx_i (-5 : Int32)]) (σ' := (hC I J h, μ)) rfl ?_
        rw [← Option.some.inj hf] at hk
        refine mx_WP.ret (v := some (mx_i (-5 : Int32))) rfl ?_
        exact hk
      · rw [if_neg c7] at hf
        refine mx_WP.bne (x := u6) (y := (-1 : Int32)) (q := 65) (p3 := 62) rfl (fun _ => ?_) (fun hh => absurd c7 hh)
        refine mx_WP.go 4 (pc' := 72) (L' := [some (mx_r (some (0, 0, 0))), some (mx_i x1), some (mx_l x2), none, some (mx_r (some (0, 3, u3))), some (mx_l u4), none, some (mx_i u6)]) (st' := [mx_i (0 : Int32), mx_i u6, mx_r (some (0, 7, 0))]) (σ' := (hC I J h, μ)) rfl ?_
        obtain ⟨u8, e20, hf⟩ := Option.bind_eq_some_iff.mp hf
        refine mx_WP.call (d := d + 30) (y := 87) (as := [mx_r (some (0, 7, 0)), mx_i u6, mx_i (0 : Int32)]) (pc' := 75) (r := []) rfl rfl (T87z (d := d + 0)  e20 ?_)
        show mx_WP (d + 31) 22 75 [some (mx_r (some (0, 0, 0))), some (mx_i x1), some (mx_l x2), none, some (mx_r (some (0, 3, u3))), some (mx_l u4), none, some (mx_i u6)] [mx_i (b2i u8.1)] (hC u8.2 J h, μ) Q
        by_cases c9 : u8.1 = true
        · rw [if_pos c9] at hf
          refine mx_WP.zne (b := u8.1) (q := 81) (p3 := 78) rfl (fun _ => ?_) (fun hh => absurd hh (by simp [c9]))
          refine mx_WP.go 3 (pc' := 87) (L' := [some (mx_r (some (0, 0, 0))), some (mx_i x1), some (mx_l x2), none, some (mx_r (some (0, 3, u3))), some (mx_l u4), none, some (mx_i u6)]) (st' := [mx_i u6, mx_r (some (0, 7, 0))]) (σ' := (hC u8.2 J h, μ)) rfl ?_
          obtain ⟨u10, e19, hf⟩ := Option.bind_eq_some_iff.mp hf
          refine mx_WP.call (d := d + 30) (y := 88) (as := [mx_r (some (0, 7, 0)), mx_i u6]) (pc' := 90) (r := []) rfl rfl (T88 (d := d + 29)  e19 ?_)
          show mx_WP (d + 31) 22 90 [some (mx_r (some (0, 0, 0))), some (mx_i x1), some (mx_l x2), none, some (mx_r (some (0, 3, u3))), some (mx_l u4), none, some (mx_i u6)] [mx_i u10] (hC u8.2 J h, μ) Q
          refine mx_WP.go 2 (pc' := 93) (L' := [some (mx_r (some (0, 0, 0))), some (mx_i x1), some (mx_l x2), none, some (mx_r (some (0, 3, u3))), some (mx_l u4), none, some (mx_i u6)]) (st' := [mx_i (u10 &&& (-5 : Int32))]) (σ' := (hC u8.2 J h, μ)) rfl ?_
          by_cases c11 : (u10 &&& (-5 : Int32)) = (1 : Int32)
          · rw [if_pos c11] at hf
            refine mx_WP.sw (c := (1 : Int32)) (q := 120) c11 (by rfl) ?_
            refine mx_WP.go 1 (pc' := 122) (L' := [some (mx_r (some (0, 0, 0))), some (mx_i x1), some (mx_l x2), none, some (mx_r (some (0, 3, u3))), some (mx_l u4), none, some (mx_i u6)]) (st' := [mx_i (-7 : Int32)]) (σ' := (hC u8.2 J h, μ)) rfl ?_
            rw [← Option.some.inj hf] at hk
            refine mx_WP.ret (v := some (mx_i (-7 : Int32))) rfl ?_
            exact hk
          rw [if_neg c11] at hf
          by_cases c12 : (u10 &&& (-5 : Int32)) = (2 : Int32)
          · rw [if_pos c12] at hf
            refine mx_WP.sw (c := (2 : Int32)) (q := 123) c12 (by rfl) ?_
            refine mx_WP.go 1 (pc' := 125) (L' := [some (mx_r (some (0, 0, 0))), some (mx_i x1), some (mx_l x2), none, some (mx_r (some (0, 3, u3))), some (mx_l u4), none, some (mx_i u6)]) (st' := [mx_i (-8 : Int32)]) (σ' := (hC u8.2 J h, μ)) rfl ?_
            rw [← Option.some.inj hf] at hk
            refine mx_WP.ret (v := some (mx_i (-8 : Int32))) rfl ?_
            exact hk
          rw [if_neg c12] at hf
          refine mx_WP.swl2 (q := 126) c11 c12 ⟨rfl, by decide, by decide⟩ rfl (by decide) ?_
          refine mx_WP.go 6 (pc' := 137) (L' := [some (mx_r (some (0, 0, 0))), some (mx_i x1), some (mx_l x2), none, some (mx_r (some (0, 3, u3))), some (mx_l u4), none, some (mx_i u6)]) (st' := [mx_i (u8.2 3 u3 5), mx_i x1, mx_i x1, mx_r (some (0, 9, 0))]) (σ' := (hC u8.2 J h, μ)) rfl ?_
          obtain ⟨u13, e18, hf⟩ := Option.bind_eq_some_iff.mp hf
          refine mx_WP.call (d := d + 30) (y := 18) (as := [mx_i x1, mx_i (u8.2 3 u3 5)]) (pc' := 140) (r := [mx_i x1, mx_r (some (0, 9, 0))]) rfl rfl (T18 (d := d + 30)  e18 ?_)
          show mx_WP (d + 31) 22 140 [some (mx_r (some (0, 0, 0))), some (mx_i x1), some (mx_l x2), none, some (mx_r (some (0, 3, u3))), some (mx_l u4), none, some (mx_i u6)] [mx_i u13, mx_i x1, mx_r (some (0, 9, 0))] (hC u8.2 J h, μ) Q
          refine mx_WP.go 1 (pc' := 142) (L' := [some (mx_r (some (0, 0, 0))), some (mx_i x1), some (mx_l x2), none, some (mx_r (some (0, 3, u3))), some (mx_l u4), none, some (mx_i u6)]) (st' := [mx_i u6, mx_i u13, mx_i x1, mx_r (some (0, 9, 0))]) (σ' := (hC u8.2 J h, μ)) rfl ?_
          obtain ⟨u14, e17, hf⟩ := Option.bind_eq_some_iff.mp hf
          refine mx_WP.call (d := d + 30) (y := 89) (as := [mx_i u6]) (pc' := 145) (r := [mx_i u13, mx_i x1, mx_r (some (0, 9, 0))]) rfl rfl (T89 (d := d + 30)  e17 ?_)
          show mx_WP (d + 31) 22 145 [some (mx_r (some (0, 0, 0))), some (mx_i x1), some (mx_l x2), none, some (mx_r (some (0, 3, u3))), some (mx_l u4), none, some (mx_i u6)] [mx_i u14, mx_i u13, mx_i x1, mx_r (some (0, 9, 0))] (hC u8.2 J h, μ) Q
          obtain ⟨u15, e16, hf⟩ := Option.bind_eq_some_iff.mp hf
          refine mx_WP.call (d := d + 30) (y := 111) (as := [mx_r (some (0, 9, 0)), mx_i x1, mx_i u13, mx_i u14]) (pc' := 148) (r := []) rfl rfl (T111 (d := d + 30)  e16 ?_)
          show mx_WP (d + 31) 22 148 [some (mx_r (some (0, 0, 0))), some (mx_i x1), some (mx_l x2), none, some (mx_r (some (0, 3, u3))), some (mx_l u4), none, some (mx_i u6)] [mx_i u15.1] (hC u15.2 J h, μ) Q
          rw [← Option.some.inj hf] at hk
          refine mx_WP.ret (v := some (mx_i u15.1)) rfl ?_
          exact hk
        · rw [if_neg c9] at hf
          refine mx_WP.zne (b := u8.1) (q := 81) (p3 := 78) rfl (fun hh => absurd hh (by simp [c9])) (fun _ => ?_)
          refine mx_WP.go 1 (pc' := 80) (L' := [some (mx_r (some (0, 0, 0))), some (mx_i x1), some (mx_l x2), none, some (mx_r (some (0, 3, u3))), some (mx_l u4), none, some (mx_i u6)]) (st' := [mx_i (-6 : Int32)]) (σ' := (hC u8.2 J h, μ)) rfl ?_
          rw [← Option.some.inj hf] at hk
          refine mx_WP.ret (v := some (mx_i (-6 : Int32))) rfl ?_
          exact hk
    · rw [if_neg c5] at hf
      refine mx_WP.bgt (x := (lg_cmp u4 (0 : Int64))) (y := (0 : Int32)) (q := 41) (p3 := 38) rfl (fun hh => absurd hh c5) (fun _ => ?_)
      refine mx_WP.go 1 (pc' := 40) (L' := [some (mx_r (some (0, 0, 0))), some (mx_i x1), some (mx_l x2), none, some (mx_r (some (0, 3, u3))), some (mx_l u4), none, none]) (st' := [mx_i (-4 : Int32)]) (σ' := (hC I J h, μ)) rfl ?_
      rw [← Option.some.inj hf] at hk
      refine mx_WP.ret (v := some (mx_i (-4 : Int32))) rfl ?_
      exact hk
  · rw [if_neg c2] at hf
    refine mx_WP.zne (b := u1) (q := 13) (p3 := 11) rfl (fun hh => absurd hh (by simp [c2])) (fun _ => ?_)
    refine mx_WP.go 1 (pc' := 12) (L' := [some (mx_r (some (0, 0, 0))), some (mx_i x1), some (mx_l x2), none, none, none, none, none]) (st' := [mx_i (-1 : Int32)]) (σ' := (hC I J h, μ)) rfl ?_
    rw [← Option.some.inj hf] at hk
    refine mx_WP.ret (v := some (mx_i (-1 : Int32))) rfl ?_
    exact hk
