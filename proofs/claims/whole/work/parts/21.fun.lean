def f2 (x0 : Int64) (x1 : Int32) : Option (Int32) :=
  some ((((x0.toUInt64 >>> (((8 : Int32) * x1).toInt64.toUInt64 &&& Int64.toUInt64 63)).toInt64).toInt32) &&& (255 : Int32))
theorem T2 {d : Nat} {x0 : Int64} {x1 : Int32} {σ : mx_Hp} {Q : Option mx_V → mx_Hp → Prop} {o : Int32} (hf : f2 x0 x1 = some o) (hk : Q (some (mx_i o)) σ) : mx_WP (d + 0) 2 0 (mx_ent 2 [mx_l x0, mx_i x1]) [] σ Q := by
  unfold f2 at hf
  refine mx_WP.go 8 (pc' := 11) (L' := [some (mx_l x0), none, some (mx_i x1)]) (st' := [mx_i ((((x0.toUInt64 >>> (((8 : Int32) * x1).toInt64.toUInt64 &&& Int64.toUInt64 63)).toInt64).toInt32) &&& (255 : Int32))]) (σ' := σ) rfl ?_
  rw [← Option.some.inj hf] at hk
  refine mx_WP.ret (v := some (mx_i ((((x0.toUInt64 >>> (((8 : Int32) * x1).toInt64.toUInt64 &&& Int64.toUInt64 63)).toInt64).toInt32) &&& (255 : Int32)))) rfl ?_
  exact hk
def b31_2 (x0 : Int64)  (s : Int32) : Option ((Int32) ⊕ ((Int32) ⊕ (Int32))) :=
  if (8 : Int32) ≤ s then (some (Sum.inr (Sum.inl s))) else (f2 x0 s).bind fun u102 =>
  if u102 = (0 : Int32) then (some (Sum.inr (Sum.inl s))) else (f2 x0 s).bind fun u104 =>
  if u104 ≤ (127 : Int32) then (some (Sum.inl (s + 1))) else some (Sum.inr (Sum.inr (0 : Int32)))
theorem B31_2 {d : Nat} {x0 : Int64} {σ : mx_Hp} {Q : Option mx_V → mx_Hp → Prop} {s : Int32} {o : (Int32) ⊕ ((Int32) ⊕ (Int32))} (hf : b31_2 x0 s = some o) (hk : Sum.elim (fun s : Int32 => mx_WP (d + 1) 31 2 [some (mx_l x0), none, some (mx_i s)] [] σ Q) (Sum.elim (fun x : Int32 => mx_WP (d + 1) 31 34 [some (mx_l x0), none, some (mx_i x)] [] σ Q) (fun x : Int32 => Q (some (mx_i x)) σ)) o) : mx_WP (d + 1) 31 2 [some (mx_l x0), none, some (mx_i s)] [] σ Q := by
  unfold b31_2 at hf
  refine mx_WP.go 2 (pc' := 5) (L' := [some (mx_l x0), none, some (mx_i s)]) (st' := [mx_i (8 : Int32), mx_i s]) (σ' := σ) rfl ?_
  by_cases c101 : (8 : Int32) ≤ s
  · rw [if_pos c101] at hf
    refine mx_WP.bge (x := s) (y := (8 : Int32)) (q := 34) (p3 := 8) rfl (fun _ => ?_) (fun hh => absurd c101 hh)
    rw [← Option.some.inj hf] at hk
    exact hk
  · rw [if_neg c101] at hf
    refine mx_WP.bge (x := s) (y := (8 : Int32)) (q := 34) (p3 := 8) rfl (fun hh => absurd hh c101) (fun _ => ?_)
    refine mx_WP.go 2 (pc' := 10) (L' := [some (mx_l x0), none, some (mx_i s)]) (st' := [mx_i s, mx_l x0]) (σ' := σ) rfl ?_
    obtain ⟨u102, e107, hf⟩ := Option.bind_eq_some_iff.mp hf
    refine mx_WP.call (d := d + 0) (y := 2) (as := [mx_l x0, mx_i s]) (pc' := 13) (r := []) rfl rfl (T2 (d := d + 0)  e107 ?_)
    show mx_WP (d + 1) 31 13 [some (mx_l x0), none, some (mx_i s)] [mx_i u102] σ Q
    by_cases c103 : u102 = (0 : Int32)
    · rw [if_pos c103] at hf
      refine mx_WP.beq (x := u102) (y := (0 : Int32)) (q := 34) (p3 := 16) rfl (fun _ => ?_) (fun hh => absurd c103 hh)
      rw [← Option.some.inj hf] at hk
      exact hk
    · rw [if_neg c103] at hf
      refine mx_WP.beq (x := u102) (y := (0 : Int32)) (q := 34) (p3 := 16) rfl (fun hh => absurd hh c103) (fun _ => ?_)
      refine mx_WP.go 2 (pc' := 18) (L' := [some (mx_l x0), none, some (mx_i s)]) (st' := [mx_i s, mx_l x0]) (σ' := σ) rfl ?_
      obtain ⟨u104, e106, hf⟩ := Option.bind_eq_some_iff.mp hf
      refine mx_WP.call (d := d + 0) (y := 2) (as := [mx_l x0, mx_i s]) (pc' := 21) (r := []) rfl rfl (T2 (d := d + 0)  e106 ?_)
      show mx_WP (d + 1) 31 21 [some (mx_l x0), none, some (mx_i s)] [mx_i u104] σ Q
      refine mx_WP.go 1 (pc' := 23) (L' := [some (mx_l x0), none, some (mx_i s)]) (st' := [mx_i (127 : Int32), mx_i u104]) (σ' := σ) rfl ?_
      by_cases c105 : u104 ≤ (127 : Int32)
      · rw [if_pos c105] at hf
        refine mx_WP.ble (x := u104) (y := (127 : Int32)) (q := 28) (p3 := 26) rfl (fun _ => ?_) (fun hh => absurd c105 hh)
        refine mx_WP.go 2 (pc' := 2) (L' := [some (mx_l x0), none, some (mx_i (s + 1))]) (st' := []) (σ' := σ) rfl ?_
        rw [← Option.some.inj hf] at hk
        exact hk
      · rw [if_neg c105] at hf
        refine mx_WP.ble (x := u104) (y := (127 : Int32)) (q := 28) (p3 := 26) rfl (fun hh => absurd hh c105) (fun _ => ?_)
        refine mx_WP.go 1 (pc' := 27) (L' := [some (mx_l x0), none, some (mx_i s)]) (st' := [mx_i (0 : Int32)]) (σ' := σ) rfl ?_
        rw [← Option.some.inj hf] at hk
        refine mx_WP.ret (v := some (mx_i (0 : Int32))) rfl ?_
        exact hk
theorem L31_2 {d : Nat} {x0 : Int64} {σ : mx_Hp} {Q : Option mx_V → mx_Hp → Prop} {n : Nat} {s : Int32} {o : (Int32) ⊕ (Int32)} (hf : mx_lp (b31_2 x0) n s = some o) (hk : (Sum.elim (fun x : Int32 => mx_WP (d + 1) 31 34 [some (mx_l x0), none, some (mx_i x)] [] σ Q) (fun x : Int32 => Q (some (mx_i x)) σ)) o) : mx_WP (d + 1) 31 2 [some (mx_l x0), none, some (mx_i s)] [] σ Q := mx_lp_ok (P := fun s : Int32 => mx_WP (d + 1) 31 2 [some (mx_l x0), none, some (mx_i s)] [] σ Q) (E := (Sum.elim (fun x : Int32 => mx_WP (d + 1) 31 34 [some (mx_l x0), none, some (mx_i x)] [] σ Q) (fun x : Int32 => Q (some (mx_i x)) σ))) (fun s o hf hk => B31_2 hf hk) n s o hf hk
def f31 (x0 : Int64) : Option (Int32) :=
  (mx_lp (b31_2 x0) mx_fu (0 : Int32)).bind fun u108 => Sum.elim (fun w110 =>
  some w110) (fun y111 => some y111) u108
theorem T31 {d : Nat} {x0 : Int64} {σ : mx_Hp} {Q : Option mx_V → mx_Hp → Prop} {o : Int32} (hf : f31 x0 = some o) (hk : Q (some (mx_i o)) σ) : mx_WP (d + 1) 31 0 (mx_ent 31 [mx_l x0]) [] σ Q := by
  unfold f31 at hf
  refine mx_WP.go 2 (pc' := 2) (L' := [some (mx_l x0), none, some (mx_i (0 : Int32))]) (st' := []) (σ' := σ) rfl ?_
  obtain ⟨u108, e109, hf⟩ := Option.bind_eq_some_iff.mp hf
  cases u108 with
  | inr y111 =>
    rw [Sum.elim_inr] at hf
    rw [← Option.some.inj hf] at hk
    exact (L31_2 (d := d) e109 hk)
  | inl w110 =>
    rw [Sum.elim_inl] at hf
    refine (L31_2 (d := d) e109 ?_)
    show mx_WP (d + 1) 31 34 [some (mx_l x0), none, some (mx_i w110)] [] σ Q
    refine mx_WP.go 1 (pc' := 35) (L' := [some (mx_l x0), none, some (mx_i w110)]) (st' := [mx_i w110]) (σ' := σ) rfl ?_
    rw [← Option.some.inj hf] at hk
    refine mx_WP.ret (v := some (mx_i w110)) rfl ?_
    exact hk
def b30_29 (x1 : Int64) (x3 : Int32) (I : Nat → Nat → Nat → Int32) (s : Int32 × (Nat → Nat → Nat → Int32)) : Option ((Int32 × (Nat → Nat → Nat → Int32)) ⊕ (Int32 × (Nat → Nat → Nat → Int32))) :=
  if x3 ≤ s.1 then (some (Sum.inr (s.1, s.2))) else (f2 x1 s.1).bind fun u105 =>
  if ((s.2 1 0 2) + s.1) < 0 ∨ 200 ≤ ((s.2 1 0 2) + s.1).toNatClampNeg then none else some (Sum.inl (s.1 + 1, (mx_u3 s.2 64 0 (((s.2 1 0 2) + s.1).toNatClampNeg) (vp_nar .byte u105.toInt8.toInt32))))
theorem B30_29 {d : Nat} {x1 : Int64} {x3 : Int32} {I : Nat → Nat → Nat → Int32} {J : Nat → Nat → Nat → Int64} {h : Nat → Nat} {μ : mx_Rg × (Nat × (Nat → Int32)) × (Nat × Nat)} {Q : Option mx_V → mx_Hp → Prop} {s : Int32 × (Nat → Nat → Nat → Int32)} {o : (Int32 × (Nat → Nat → Nat → Int32)) ⊕ (Int32 × (Nat → Nat → Nat → Int32))} (hf : b30_29 x1 x3 I s = some o) (hk : Sum.elim (fun s : Int32 × (Nat → Nat → Nat → Int32) => mx_WP (d + 2) 30 29 [some (mx_r (some (0, 1, 0))), some (mx_l x1), none, some (mx_i x3), some (mx_i s.1)] [] (hC s.2 J h, μ) Q) (fun x : Int32 × (Nat → Nat → Nat → Int32) => mx_WP (d + 2) 30 60 [some (mx_r (some (0, 1, 0))), some (mx_l x1), none, some (mx_i x3), some (mx_i x.1)] [] (hC x.2 J h, μ) Q) o) : mx_WP (d + 2) 30 29 [some (mx_r (some (0, 1, 0))), some (mx_l x1), none, some (mx_i x3), some (mx_i s.1)] [] (hC s.2 J h, μ) Q := by
  unfold b30_29 at hf
  refine mx_WP.go 2 (pc' := 32) (L' := [some (mx_r (some (0, 1, 0))), some (mx_l x1), none, some (mx_i x3), some (mx_i s.1)]) (st' := [mx_i x3, mx_i s.1]) (σ' := (hC s.2 J h, μ)) rfl ?_
  by_cases c104 : x3 ≤ s.1
  · rw [if_pos c104] at hf
    refine mx_WP.bge (x := s.1) (y := x3) (q := 60) (p3 := 35) rfl (fun _ => ?_) (fun hh => absurd c104 hh)
    rw [← Option.some.inj hf] at hk
    exact hk
  · rw [if_neg c104] at hf
    refine mx_WP.bge (x := s.1) (y := x3) (q := 60) (p3 := 35) rfl (fun hh => absurd hh c104) (fun _ => ?_)
    refine mx_WP.go 8 (pc' := 49) (L' := [some (mx_r (some (0, 1, 0))), some (mx_l x1), none, some (mx_i x3), some (mx_i s.1)]) (st' := [mx_i s.1, mx_l x1, mx_i ((s.2 1 0 2) + s.1), mx_r (some (0, 64, 0))]) (σ' := (hC s.2 J h, μ)) rfl ?_
    obtain ⟨u105, e107, hf⟩ := Option.bind_eq_some_iff.mp hf
    refine mx_WP.call (d := d + 1) (y := 2) (as := [mx_l x1, mx_i s.1]) (pc' := 52) (r := [mx_i ((s.2 1 0 2) + s.1), mx_r (some (0, 64, 0))]) rfl rfl (T2 (d := d + 1)  e107 ?_)
    show mx_WP (d + 2) 30 52 [some (mx_r (some (0, 1, 0))), some (mx_l x1), none, some (mx_i x3), some (mx_i s.1)] [mx_i u105, mx_i ((s.2 1 0 2) + s.1), mx_r (some (0, 64, 0))] (hC s.2 J h, μ) Q
    refine mx_WP.go 1 (pc' := 53) (L' := [some (mx_r (some (0, 1, 0))), some (mx_l x1), none, some (mx_i x3), some (mx_i s.1)]) (st' := [mx_i u105.toInt8.toInt32, mx_i ((s.2 1 0 2) + s.1), mx_r (some (0, 64, 0))]) (σ' := (hC s.2 J h, μ)) rfl ?_
    by_cases c106 : ((s.2 1 0 2) + s.1) < 0 ∨ 200 ≤ ((s.2 1 0 2) + s.1).toNatClampNeg
    · rw [if_pos c106] at hf
      cases hf
    rw [if_neg c106] at hf
    refine mx_WP.bastx c106 ?_
    show mx_WP (d + 2) 30 54 [some (mx_r (some (0, 1, 0))), some (mx_l x1), none, some (mx_i x3), some (mx_i s.1)] [] (hC (mx_u3 s.2 64 0 (((s.2 1 0 2) + s.1).toNatClampNeg) (vp_nar .byte u105.toInt8.toInt32)) J h, μ) Q
    refine mx_WP.go 2 (pc' := 29) (L' := [some (mx_r (some (0, 1, 0))), some (mx_l x1), none, some (mx_i x3), some (mx_i (s.1 + 1))]) (st' := []) (σ' := (hC (mx_u3 s.2 64 0 (((s.2 1 0 2) + s.1).toNatClampNeg) (vp_nar .byte u105.toInt8.toInt32)) J h, μ)) rfl ?_
    rw [← Option.some.inj hf] at hk
    exact hk
theorem L30_29 {d : Nat} {x1 : Int64} {x3 : Int32} {I : Nat → Nat → Nat → Int32} {J : Nat → Nat → Nat → Int64} {h : Nat → Nat} {μ : mx_Rg × (Nat × (Nat → Int32)) × (Nat × Nat)} {Q : Option mx_V → mx_Hp → Prop} {n : Nat} {s : Int32 × (Nat → Nat → Nat → Int32)} {o : Int32 × (Nat → Nat → Nat → Int32)} (hf : mx_lp (b30_29 x1 x3 I) n s = some o) (hk : (fun x : Int32 × (Nat → Nat → Nat → Int32) => mx_WP (d + 2) 30 60 [some (mx_r (some (0, 1, 0))), some (mx_l x1), none, some (mx_i x3), some (mx_i x.1)] [] (hC x.2 J h, μ) Q) o) : mx_WP (d + 2) 30 29 [some (mx_r (some (0, 1, 0))), some (mx_l x1), none, some (mx_i x3), some (mx_i s.1)] [] (hC s.2 J h, μ) Q := mx_lp_ok (P := fun s : Int32 × (Nat → Nat → Nat → Int32) => mx_WP (d + 2) 30 29 [some (mx_r (some (0, 1, 0))), some (mx_l x1), none, some (mx_i x3), some (mx_i s.1)] [] (hC s.2 J h, μ) Q) (E := (fun x : Int32 × (Nat → Nat → Nat → Int32) => mx_WP (d + 2) 30 60 [some (mx_r (some (0, 1, 0))), some (mx_l x1), none, some (mx_i x3), some (mx_i x.1)] [] (hC x.2 J h, μ) Q)) (fun s o hf hk => B30_29 hf hk) n s o hf hk
def f30 (x1 : Int64) (I : Nat → Nat → Nat → Int32) : Option (Int32 × (Nat → Nat → Nat → Int32)) :=
  (f31 x1).bind fun u1 =>
  if u1 = (0 : Int32) then (some ((-1 : Int32), I)) else if ((I 1 0 2) + u1) ≤ (200 : Int32) then ((mx_lp (b30_29 x1 u1 I) mx_fu ((0 : Int32), I)).bind fun u108 =>
  some ((mx_u3 u108.2 1 0 2 ((u108.2 1 0 2) + u1)) 1 0 2, (mx_u3 u108.2 1 0 2 ((u108.2 1 0 2) + u1)))) else some ((-2 : Int32), I)
theorem T30 {d : Nat} {x1 : Int64} {I : Nat → Nat → Nat → Int32} {J : Nat → Nat → Nat → Int64} {h : Nat → Nat} {μ : mx_Rg × (Nat × (Nat → Int32)) × (Nat × Nat)} {Q : Option mx_V → mx_Hp → Prop} {o : Int32 × (Nat → Nat → Nat → Int32)} (hf : f30 x1 I = some o) (hk : Q (some (mx_i o.1)) (hC o.2 J h, μ)) : mx_WP (d + 2) 30 0 (mx_ent 30 [mx_r (some (0, 1, 0)), mx_l x1]) [] (hC I J h, μ) Q := by
  unfold f30 at hf
  refine mx_WP.go 1 (pc' := 1) (L' := [some (mx_r (some (0, 1, 0))), some (mx_l x1), none, none, none]) (st' := [mx_l x1]) (σ' := (hC I J h, μ)) rfl ?_
  obtain ⟨u1, e110, hf⟩ := Option.bind_eq_some_iff.mp hf
  refine mx_WP.call (d := d + 1) (y := 31) (as := [mx_l x1]) (pc' := 4) (r := []) rfl rfl (T31 (d := d + 0)  e110 ?_)
  show mx_WP (d + 2) 30 4 [some (mx_r (some (0, 1, 0))), some (mx_l x1), none, none, none] [mx_i u1] (hC I J h, μ) Q
  refine mx_WP.go 2 (pc' := 6) (L' := [some (mx_r (some (0, 1, 0))), some (mx_l x1), none, some (mx_i u1), none]) (st' := [mx_i u1]) (σ' := (hC I J h, μ)) rfl ?_
  by_cases c2 : u1 = (0 : Int32)
  · rw [if_pos c2] at hf
    refine mx_WP.bne (x := u1) (y := (0 : Int32)) (q := 11) (p3 := 9) rfl (fun hh => absurd c2 hh) (fun _ => ?_)
    refine mx_WP.go 1 (pc' := 10) (L' := [some (mx_r (some (0, 1, 0))), some (mx_l x1), none, some (mx_i u1), none]) (st' := [mx_i (-1 : Int32)]) (σ' := (hC I J h, μ)) rfl ?_
    rw [← Option.some.inj hf] at hk
    refine mx_WP.ret (v := some (mx_i (-1 : Int32))) rfl ?_
    exact hk
  · rw [if_neg c2] at hf
    refine mx_WP.bne (x := u1) (y := (0 : Int32)) (q := 11) (p3 := 9) rfl (fun _ => ?_) (fun hh => absurd c2 hh)
    refine mx_WP.go 5 (pc' := 20) (L' := [some (mx_r (some (0, 1, 0))), some (mx_l x1), none, some (mx_i u1), none]) (st' := [mx_i (200 : Int32), mx_i ((I 1 0 2) + u1)]) (σ' := (hC I J h, μ)) rfl ?_
    by_cases c3 : ((I 1 0 2) + u1) ≤ (200 : Int32)
    · rw [if_pos c3] at hf
      refine mx_WP.ble (x := ((I 1 0 2) + u1)) (y := (200 : Int32)) (q := 26) (p3 := 23) rfl (fun _ => ?_) (fun hh => absurd c3 hh)
      refine mx_WP.go 2 (pc' := 29) (L' := [some (mx_r (some (0, 1, 0))), some (mx_l x1), none, some (mx_i u1), some (mx_i (0 : Int32))]) (st' := []) (σ' := (hC I J h, μ)) rfl ?_
      obtain ⟨u108, e109, hf⟩ := Option.bind_eq_some_iff.mp hf
      refine L30_29 (d := d) e109 ?_
      show mx_WP (d + 2) 30 60 [some (mx_r (some (0, 1, 0))), some (mx_l x1), none, some (mx_i u1), some (mx_i u108.1)] [] (hC u108.2 J h, μ) Q
      refine mx_WP.go 8 (pc' := 74) (L' := [some (mx_r (some (0, 1, 0))), some (mx_l x1), none, some (mx_i u1), some (mx_i u108.1)]) (st' := [mx_i ((mx_u3 u108.2 1 0 2 ((u108.2 1 0 2) + u1)) 1 0 2)]) (σ' := (hC (mx_u3 u108.2 1 0 2 ((u108.2 1 0 2) + u1)) J h, μ)) rfl ?_
      rw [← Option.some.inj hf] at hk
      refine mx_WP.ret (v := some (mx_i ((mx_u3 u108.2 1 0 2 ((u108.2 1 0 2) + u1)) 1 0 2))) rfl ?_
      exact hk
    · rw [if_neg c3] at hf
      refine mx_WP.ble (x := ((I 1 0 2) + u1)) (y := (200 : Int32)) (q := 26) (p3 := 23) rfl (fun hh => absurd hh c3) (fun _ => ?_)
      refine mx_WP.go 1 (pc' := 25) (L' := [some (mx_r (some (0, 1, 0))), some (mx_l x1), none, some (mx_i u1), none]) (st' := [mx_i (-2 : Int32)]) (σ' := (hC I J h, μ)) rfl ?_
      rw [← Option.some.inj hf] at hk
      refine mx_WP.ret (v := some (mx_i (-2 : Int32))) rfl ?_
      exact hk
def f1 (x1 : Int64) (I : Nat → Nat → Nat → Int32) : Option (Int32 × (Nat → Nat → Nat → Int32)) :=
  (f30 x1 I).bind fun u1 =>
  some (u1.1, u1.2)
theorem T1 {d : Nat} {x1 : Int64} {I : Nat → Nat → Nat → Int32} {J : Nat → Nat → Nat → Int64} {h : Nat → Nat} {μ : mx_Rg × (Nat × (Nat → Int32)) × (Nat × Nat)} {Q : Option mx_V → mx_Hp → Prop} {o : Int32 × (Nat → Nat → Nat → Int32)} (hf : f1 x1 I = some o) (hk : Q (some (mx_i o.1)) (hC o.2 J h, μ)) : mx_WP (d + 3) 1 0 (mx_ent 1 [mx_r (some (0, 0, 0)), mx_l x1]) [] (hC I J h, μ) Q := by
  unfold f1 at hf
  refine mx_WP.go 3 (pc' := 5) (L' := [some (mx_r (some (0, 0, 0))), some (mx_l x1), none]) (st' := [mx_l x1, mx_r (some (0, 1, 0))]) (σ' := (hC I J h, μ)) rfl ?_
  obtain ⟨u1, e2, hf⟩ := Option.bind_eq_some_iff.mp hf
  refine mx_WP.call (d := d + 2) (y := 30) (as := [mx_r (some (0, 1, 0)), mx_l x1]) (pc' := 8) (r := []) rfl rfl (T30 (d := d + 0)  e2 ?_)
  show mx_WP (d + 3) 1 8 [some (mx_r (some (0, 0, 0))), some (mx_l x1), none] [mx_i u1.1] (hC u1.2 J h, μ) Q
  rw [← Option.some.inj hf] at hk
  refine mx_WP.ret (v := some (mx_i u1.1)) rfl ?_
  exact hk
def f4 (x0 : Int32) : Option (Bool) :=
  if x0 < (0 : Int32) then (some false) else if (8 : Int32) ≤ x0 then (some false) else some true
theorem T4 {d : Nat} {x0 : Int32} {σ : mx_Hp} {Q : Option mx_V → mx_Hp → Prop} {o : Bool} (hf : f4 x0 = some o) (hk : Q (some (mx_i (b2i o))) σ) : mx_WP (d + 0) 4 0 (mx_ent 4 [mx_i x0]) [] σ Q := by
  unfold f4 at hf
  refine mx_WP.go 1 (pc' := 1) (L' := [some (mx_i x0)]) (st' := [mx_i x0]) (σ' := σ) rfl ?_
  by_cases c1 : x0 < (0 : Int32)
  · rw [if_pos c1] at hf
    refine mx_WP.blt (x := x0) (y := (0 : Int32)) (q := 14) (p3 := 4) rfl (fun _ => ?_) (fun hh => absurd c1 hh)
    refine mx_WP.go 1 (pc' := 15) (L' := [some (mx_i x0)]) (st' := [mx_i (0 : Int32)]) (σ' := σ) rfl ?_
    rw [← Option.some.inj hf] at hk
    refine mx_WP.ret (v := some (mx_i (0 : Int32))) rfl ?_
    exact hk
  · rw [if_neg c1] at hf
    refine mx_WP.blt (x := x0) (y := (0 : Int32)) (q := 14) (p3 := 4) rfl (fun hh => absurd hh c1) (fun _ => ?_)
    refine mx_WP.go 2 (pc' := 7) (L' := [some (mx_i x0)]) (st' := [mx_i (8 : Int32), mx_i x0]) (σ' := σ) rfl ?_
    by_cases c2 : (8 : Int32) ≤ x0
    · rw [if_pos c2] at hf
      refine mx_WP.bge (x := x0) (y := (8 : Int32)) (q := 14) (p3 := 10) rfl (fun _ => ?_) (fun hh => absurd c2 hh)
      refine mx_WP.go 1 (pc' := 15) (L' := [some (mx_i x0)]) (st' := [mx_i (0 : Int32)]) (σ' := σ) rfl ?_
      rw [← Option.some.inj hf] at hk
      refine mx_WP.ret (v := some (mx_i (0 : Int32))) rfl ?_
      exact hk
    · rw [if_neg c2] at hf
      refine mx_WP.bge (x := x0) (y := (8 : Int32)) (q := 14) (p3 := 10) rfl (fun hh => absurd hh c2) (fun _ => ?_)
      refine mx_WP.go 2 (pc' := 15) (L' := [some (mx_i x0)]) (st' := [mx_i (1 : Int32)]) (σ' := σ) rfl ?_
      rw [← Option.some.inj hf] at hk
      refine mx_WP.ret (v := some (mx_i (1 : Int32))) rfl ?_
      exact hk
def f34 (x0 : Nat) (x1 : Int32) (x2 : Int32) (x3 : Int32) (I : Nat → Nat → Nat → Int32) : Option (Int32 × (Nat → Nat → Nat → Int32)) :=
  if (I 2 x0 5) < (3 : Int32) then (if (I 2 x0 5) < 0 ∨ 3 ≤ (I 2 x0 5).toNatClampNeg then none else if (I 2 x0 5) < 0 ∨ 3 ≤ (I 2 x0 5).toNatClampNeg then none else if (I 2 x0 5) < 0 ∨ 3 ≤ (I 2 x0 5).toNatClampNeg then none else some ((mx_u3 (mx_u3 (mx_u3 (mx_u3 I 65 x0 ((I 2 x0 5).toNatClampNeg) x1) 66 x0 ((I 2 x0 5).toNatClampNeg) x2) 67 x0 ((I 2 x0 5).toNatClampNeg) x3) 2 x0 5 ((I 2 x0 5) + (1 : Int32))) 2 x0 5, (mx_u3 (mx_u3 (mx_u3 (mx_u3 I 65 x0 ((I 2 x0 5).toNatClampNeg) x1) 66 x0 ((I 2 x0 5).toNatClampNeg) x2) 67 x0 ((I 2 x0 5).toNatClampNeg) x3) 2 x0 5 ((I 2 x0 5) + (1 : Int32))))) else some ((-2 : Int32), I)
theorem T34 {d : Nat} {x0 : Nat} {x1 : Int32} {x2 : Int32} {x3 : Int32} {I : Nat → Nat → Nat → Int32} {J : Nat → Nat → Nat → Int64} {h : Nat → Nat} {μ : mx_Rg × (Nat × (Nat → Int32)) × (Nat × Nat)} {Q : Option mx_V → mx_Hp → Prop} {o : Int32 × (Nat → Nat → Nat → Int32)} (hf : f34 x0 x1 x2 x3 I = some o) (hk : Q (some (mx_i o.1)) (hC o.2 J h, μ)) : mx_WP (d + 0) 34 0 (mx_ent 34 [mx_r (some (0, 2, x0)), mx_i x1, mx_i x2, mx_i x3]) [] (hC I J h, μ) Q := by
  unfold f34 at hf
  refine mx_WP.go 3 (pc' := 5) (L' := [some (mx_r (some (0, 2, x0))), some (mx_i x1), some (mx_i x2), some (mx_i x3)]) (st' := [mx_i (3 : Int32), mx_i (I 2 x0 5)]) (σ' := (hC I J h, μ)) rfl ?_
  by_cases c1 : (I 2 x0 5) < (3 : Int32)
  · rw [if_pos c1] at hf
    refine mx_WP.blt (x := (I 2 x0 5)) (y := (3 : Int32)) (q := 11) (p3 := 8) rfl (fun _ => ?_) (fun hh => absurd c1 hh)
    refine mx_WP.go 5 (pc' := 20) (L' := [some (mx_r (some (0, 2, x0))), some (mx_i x1), some (mx_i x2), some (mx_i x3)]) (st' := [mx_i x1, mx_i (I 2 x0 5), mx_r (some (0, 65, x0))]) (σ' := (hC I J h, μ)) rfl ?_
    by_cases c2 : (I 2 x0 5) < 0 ∨ 3 ≤ (I 2 x0 5).toNatClampNeg
    · rw [if_pos c2] at hf
      cases hf
    rw [if_neg c2] at hf
    refine mx_WP.iastx c2 ?_
    show mx_WP (d + 0) 34 21 [some (mx_r (some (0, 2, x0))), some (mx_i x1), some (mx_i x2), some (mx_i x3)] [] (hC (mx_u3 I 65 x0 ((I 2 x0 5).toNatClampNeg) x1) J h, μ) Q
    refine mx_WP.go 5 (pc' := 30) (L' := [some (mx_r (some (0, 2, x0))), some (mx_i x1), some (mx_i x2), some (mx_i x3)]) (st' := [mx_i x2, mx_i (I 2 x0 5), mx_r (some (0, 66, x0))]) (σ' := (hC (mx_u3 I 65 x0 ((I 2 x0 5).toNatClampNeg) x1) J h, μ)) rfl ?_
    by_cases c3 : (I 2 x0 5) < 0 ∨ 3 ≤ (I 2 x0 5).toNatClampNeg
    · rw [if_pos c3] at hf
      cases hf
    rw [if_neg c3] at hf
    refine mx_WP.iastx c3 ?_
    show mx_WP (d + 0) 34 31 [some (mx_r (some (0, 2, x0))), some (mx_i x1), some (mx_i x2), some (mx_i x3)] [] (hC (mx_u3 (mx_u3 I 65 x0 ((I 2 x0 5).toNatClampNeg) x1) 66 x0 ((I 2 x0 5).toNatClampNeg) x2) J h, μ) Q
    refine mx_WP.go 5 (pc' := 40) (L' := [some (mx_r (some (0, 2, x0))), some (mx_i x1), some (mx_i x2), some (mx_i x3)]) (st' := [mx_i x3, mx_i (I 2 x0 5), mx_r (some (0, 67, x0))]) (σ' := (hC (mx_u3 (mx_u3 I 65 x0 ((I 2 x0 5).toNatClampNeg) x1) 66 x0 ((I 2 x0 5).toNatClampNeg) x2) J h, μ)) rfl ?_
    by_cases c4 : (I 2 x0 5) < 0 ∨ 3 ≤ (I 2 x0 5).toNatClampNeg
    · rw [if_pos c4] at hf
      cases hf
    rw [if_neg c4] at hf
    refine mx_WP.iastx c4 ?_
    show mx_WP (d + 0) 34 41 [some (mx_r (some (0, 2, x0))), some (mx_i x1), some (mx_i x2), some (mx_i x3)] [] (hC (mx_u3 (mx_u3 (mx_u3 I 65 x0 ((I 2 x0 5).toNatClampNeg) x1) 66 x0 ((I 2 x0 5).toNatClampNeg) x2) 67 x0 ((I 2 x0 5).toNatClampNeg) x3) J h, μ) Q
    refine mx_WP.go 8 (pc' := 55) (L' := [some (mx_r (some (0, 2, x0))), some (mx_i x1), some (mx_i x2), some (mx_i x3)]) (st' := [mx_i ((mx_u3 (mx_u3 (mx_u3 (mx_u3 I 65 x0 ((I 2 x0 5).toNatClampNeg) x1) 66 x0 ((I 2 x0 5).toNatClampNeg) x2) 67 x0 ((I 2 x0 5).toNatClampNeg) x3) 2 x0 5 ((I 2 x0 5) + (1 : Int32))) 2 x0 5)]) (σ' := (hC (mx_u3 (mx_u3 (mx_u3 (mx_u3 I 65 x0 ((I 2 x0 5).toNatClampNeg) x1) 66 x0 ((I 2 x0 5).toNatClampNeg) x2) 67 x0 ((I 2 x0 5).toNatClampNeg) x3) 2 x0 5 ((I 2 x0 5) + (1 : Int32))) J h, μ)) rfl ?_
    rw [← Option.some.inj hf] at hk
    refine mx_WP.ret (v := some (mx_i ((mx_u3 (mx_u3 (mx_u3 (mx_u3 I 65 x0 ((I 2 x0 5).toNatClampNeg) x1) 66 x0 ((I 2 x0 5).toNatClampNeg) x2) 67 x0 ((I 2 x0 5).toNatClampNeg) x3) 2 x0 5 ((I 2 x0 5) + (1 : Int32))) 2 x0 5))) rfl ?_
    exact hk
  · rw [if_neg c1] at hf
    refine mx_WP.blt (x := (I 2 x0 5)) (y := (3 : Int32)) (q := 11) (p3 := 8) rfl (fun hh => absurd hh c1) (fun _ => ?_)
    refine mx_WP.go 1 (pc' := 10) (L' := [some (mx_r (some (0, 2, x0))), some (mx_i x1), some (mx_i x2), some (mx_i x3)]) (st' := [mx_i (-2 : Int32)]) (σ' := (hC I J h, μ)) rfl ?_
    rw [← Option.some.inj hf] at hk
    refine mx_WP.ret (v := some (mx_i (-2 : Int32))) rfl ?_
    exact hk
def f3 (x1 : Int32) (x2 : Int32) (x3 : Int32) (I : Nat → Nat → Nat → Int32) : Option (Int32 × (Nat → Nat → Nat → Int32)) :=
  (f4 x1).bind fun u1 =>
  if u1 = true then (if x2 < (0 : Int32) then (some ((-1 : Int32), I)) else if x3 < x2 then (some ((-1 : Int32), I)) else if x3 ≤ (255 : Int32) then ((f34 0 x1 x2 x3 I).bind fun u6 =>
  some (u6.1, u6.2)) else some ((-1 : Int32), I)) else some ((-1 : Int32), I)
theorem T3 {d : Nat} {x1 : Int32} {x2 : Int32} {x3 : Int32} {I : Nat → Nat → Nat → Int32} {J : Nat → Nat → Nat → Int64} {h : Nat → Nat} {μ : mx_Rg × (Nat × (Nat → Int32)) × (Nat × Nat)} {Q : Option mx_V → mx_Hp → Prop} {o : Int32 × (Nat → Nat → Nat → Int32)} (hf : f3 x1 x2 x3 I = some o) (hk : Q (some (mx_i o.1)) (hC o.2 J h, μ)) : mx_WP (d + 1) 3 0 (mx_ent 3 [mx_r (some (0, 0, 0)), mx_i x1, mx_i x2, mx_i x3]) [] (hC I J h, μ) Q := by
  unfold f3 at hf
  refine mx_WP.go 1 (pc' := 1) (L' := [some (mx_r (some (0, 0, 0))), some (mx_i x1), some (mx_i x2), some (mx_i x3)]) (st' := [mx_i x1]) (σ' := (hC I J h, μ)) rfl ?_
  obtain ⟨u1, e8, hf⟩ := Option.bind_eq_some_iff.mp hf
  refine mx_WP.call (d := d + 0) (y := 4) (as := [mx_i x1]) (pc' := 4) (r := []) rfl rfl (T4 (d := d + 0)  e8 ?_)
  show mx_WP (d + 1) 3 4 [some (mx_r (some (0, 0, 0))), some (mx_i x1), some (mx_i x2), some (mx_i x3)] [mx_i (b2i u1)] (hC I J h, μ) Q
  by_cases c2 : u1 = true
  · rw [if_pos c2] at hf
    refine mx_WP.zeq (b := u1) (q := 23) (p3 := 7) rfl (fun hh => absurd hh (by simp [c2])) (fun _ => ?_)
    refine mx_WP.go 1 (pc' := 8) (L' := [some (mx_r (some (0, 0, 0))), some (mx_i x1), some (mx_i x2), some (mx_i x3)]) (st' := [mx_i x2]) (σ' := (hC I J h, μ)) rfl ?_
    by_cases c3 : x2 < (0 : Int32)
    · rw [if_pos c3] at hf
      refine mx_WP.blt (x := x2) (y := (0 : Int32)) (q := 23) (p3 := 11) rfl (fun _ => ?_) (fun hh => absurd c3 hh)
      refine mx_WP.go 1 (pc' := 24) (L' := [some (mx_r (some (0, 0, 0))), some (mx_i x1), some (mx_i x2), some (mx_i x3)]) (st' := [mx_i (-1 : Int32)]) (σ' := (hC I J h, μ)) rfl ?_
      rw [← Option.some.inj hf] at hk
      refine mx_WP.ret (v := some (mx_i (-1 : Int32))) rfl ?_
      exact hk
    · rw [if_neg c3] at hf
      refine mx_WP.blt (x := x2) (y := (0 : Int32)) (q := 23) (p3 := 11) rfl (fun hh => absurd hh c3) (fun _ => ?_)
      refine mx_WP.go 2 (pc' := 13) (L' := [some (mx_r (some (0, 0, 0))), some (mx_i x1), some (mx_i x2), some (mx_i x3)]) (st' := [mx_i x3, mx_i x2]) (σ' := (hC I J h, μ)) rfl ?_
      by_cases c4 : x3 < x2
      · rw [if_pos c4] at hf
        refine mx_WP.bgt (x := x2) (y := x3) (q := 23) (p3 := 16) rfl (fun _ => ?_) (fun hh => absurd c4 hh)
        refine mx_WP.go 1 (pc' := 24) (L' := [some (mx_r (some (0, 0, 0))), some (mx_i x1), some (mx_i x2), some (mx_i x3)]) (st' := [mx_i (-1 : Int32)]) (σ' := (hC I J h, μ)) rfl ?_
        rw [← Option.some.inj hf] at hk
        refine mx_WP.ret (v := some (mx_i (-1 : Int32))) rfl ?_
        exact hk
      · rw [if_neg c4] at hf
        refine mx_WP.bgt (x := x2) (y := x3) (q := 23) (p3 := 16) rfl (fun hh => absurd hh c4) (fun _ => ?_)
        refine mx_WP.go 2 (pc' := 20) (L' := [some (mx_r (some (0, 0, 0))), some (mx_i x1), some (mx_i x2), some (mx_i x3)]) (st' := [mx_i (255 : Int32), mx_i x3]) (σ' := (hC I J h, μ)) rfl ?_
        by_cases c5 : x3 ≤ (255 : Int32)
        · rw [if_pos c5] at hf
          refine mx_WP.ble (x := x3) (y := (255 : Int32)) (q := 25) (p3 := 23) rfl (fun _ => ?_) (fun hh => absurd c5 hh)
          refine mx_WP.go 6 (pc' := 35) (L' := [some (mx_r (some (0, 0, 0))), some (mx_i x1), some (mx_i x2), some (mx_i x3)]) (st' := [mx_i x3, mx_i x2, mx_i x1, mx_r (some (0, 2, 0))]) (σ' := (hC I J h, μ)) rfl ?_
          obtain ⟨u6, e7, hf⟩ := Option.bind_eq_some_iff.mp hf
          refine mx_WP.call (d := d + 0) (y := 34) (as := [mx_r (some (0, 2, 0)), mx_i x1, mx_i x2, mx_i x3]) (pc' := 38) (r := []) rfl rfl (T34 (d := d + 0)  e7 ?_)
          show mx_WP (d + 1) 3 38 [some (mx_r (some (0, 0, 0))), some (mx_i x1), some (mx_i x2), some (mx_i x3)] [mx_i u6.1] (hC u6.2 J h, μ) Q
          rw [← Option.some.inj hf] at hk
          refine mx_WP.ret (v := some (mx_i u6.1)) rfl ?_
          exact hk
        · rw [if_neg c5] at hf
          refine mx_WP.ble (x := x3) (y := (255 : Int32)) (q := 25) (p3 := 23) rfl (fun hh => absurd hh c5) (fun _ => ?_)
          refine mx_WP.go 1 (pc' := 24) (L' := [some (mx_r (some (0, 0, 0))), some (mx_i x1), some (mx_i x2), some (mx_i x3)]) (st' := [mx_i (-1 : Int32)]) (σ' := (hC I J h, μ)) rfl ?_
          rw [← Option.some.inj hf] at hk
          refine mx_WP.ret (v := some (mx_i (-1 : Int32))) rfl ?_
          exact hk
  · rw [if_neg c2] at hf
    refine mx_WP.zeq (b := u1) (q := 23) (p3 := 7) rfl (fun _ => ?_) (fun hh => absurd hh (by simp [c2]))
    refine mx_WP.go 1 (pc' := 24) (L' := [some (mx_r (some (0, 0, 0))), some (mx_i x1), some (mx_i x2), some (mx_i x3)]) (st' := [mx_i (-1 : Int32)]) (σ' := (hC I J h, μ)) rfl ?_
    rw [← Option.some.inj hf] at hk
    refine mx_WP.ret (v := some (mx_i (-1 : Int32))) rfl ?_
    exact hk
def f8 (x0 : Int32) : Option (Bool) :=
  if x0 < (97 : Int32) then (some false) else if (122 : Int32) < x0 then (some false) else some true
theorem T8 {d : Nat} {x0 : Int32} {σ : mx_Hp} {Q : Option mx_V → mx_Hp → Prop} {o : Bool} (hf : f8 x0 = some o) (hk : Q (some (mx_i (b2i o))) σ) : mx_WP (d + 0) 8 0 (mx_ent 8 [mx_i x0]) [] σ Q := by
  unfold f8 at hf
  refine mx_WP.go 2 (pc' := 3) (L' := [some (mx_i x0)]) (st' := [mx_i (97 : Int32), mx_i x0]) (σ' := σ) rfl ?_
  by_cases c1 : x0 < (97 : Int32)
  · rw [if_pos c1] at hf
    refine mx_WP.blt (x := x0) (y := (97 : Int32)) (q := 16) (p3 := 6) rfl (fun _ => ?_) (fun hh => absurd c1 hh)
    refine mx_WP.go 1 (pc' := 17) (L' := [some (mx_i x0)]) (st' := [mx_i (0 : Int32)]) (σ' := σ) rfl ?_
    rw [← Option.some.inj hf] at hk
    refine mx_WP.ret (v := some (mx_i (0 : Int32))) rfl ?_
    exact hk
  · rw [if_neg c1] at hf
    refine mx_WP.blt (x := x0) (y := (97 : Int32)) (q := 16) (p3 := 6) rfl (fun hh => absurd hh c1) (fun _ => ?_)
    refine mx_WP.go 2 (pc' := 9) (L' := [some (mx_i x0)]) (st' := [mx_i (122 : Int32), mx_i x0]) (σ' := σ) rfl ?_
    by_cases c2 : (122 : Int32) < x0
    · rw [if_pos c2] at hf
      refine mx_WP.bgt (x := x0) (y := (122 : Int32)) (q := 16) (p3 := 12) rfl (fun _ => ?_) (fun hh => absurd c2 hh)
      refine mx_WP.go 1 (pc' := 17) (L' := [some (mx_i x0)]) (st' := [mx_i (0 : Int32)]) (σ' := σ) rfl ?_
      rw [← Option.some.inj hf] at hk
      refine mx_WP.ret (v := some (mx_i (0 : Int32))) rfl ?_
      exact hk
    · rw [if_neg c2] at hf
      refine mx_WP.bgt (x := x0) (y := (122 : Int32)) (q := 16) (p3 := 12) rfl (fun hh => absurd hh c2) (fun _ => ?_)
      refine mx_WP.go 2 (pc' := 17) (L' := [some (mx_i x0)]) (st' := [mx_i (1 : Int32)]) (σ' := σ) rfl ?_
      rw [← Option.some.inj hf] at hk
      refine mx_WP.ret (v := some (mx_i (1 : Int32))) rfl ?_
      exact hk
def f7 (x0 : Int32) : Option (Bool) :=
  (f8 x0).bind fun u1 =>
  if u1 = true then (some true) else if x0 < (48 : Int32) then (if x0 = (46 : Int32) then (some true) else some false) else if x0 ≤ (57 : Int32) then (some true) else if x0 = (46 : Int32) then (some true) else some false
theorem T7 {d : Nat} {x0 : Int32} {σ : mx_Hp} {Q : Option mx_V → mx_Hp → Prop} {o : Bool} (hf : f7 x0 = some o) (hk : Q (some (mx_i (b2i o))) σ) : mx_WP (d + 1) 7 0 (mx_ent 7 [mx_i x0]) [] σ Q := by
  unfold f7 at hf
  refine mx_WP.go 1 (pc' := 1) (L' := [some (mx_i x0)]) (st' := [mx_i x0]) (σ' := σ) rfl ?_
  obtain ⟨u1, e7, hf⟩ := Option.bind_eq_some_iff.mp hf
  refine mx_WP.call (d := d + 0) (y := 8) (as := [mx_i x0]) (pc' := 4) (r := []) rfl rfl (T8 (d := d + 0)  e7 ?_)
  show mx_WP (d + 1) 7 4 [some (mx_i x0)] [mx_i (b2i u1)] σ Q
  by_cases c2 : u1 = true
  · rw [if_pos c2] at hf
    refine mx_WP.zne (b := u1) (q := 25) (p3 := 7) rfl (fun _ => ?_) (fun hh => absurd hh (by simp [c2]))
    refine mx_WP.go 2 (pc' := 30) (L' := [some (mx_i x0)]) (st' := [mx_i (1 : Int32)]) (σ' := σ) rfl ?_
    rw [← Option.some.inj hf] at hk
    refine mx_WP.ret (v := some (mx_i (1 : Int32))) rfl ?_
    exact hk
  · rw [if_neg c2] at hf
    refine mx_WP.zne (b := u1) (q := 25) (p3 := 7) rfl (fun hh => absurd hh (by simp [c2])) (fun _ => ?_)
    refine mx_WP.go 2 (pc' := 10) (L' := [some (mx_i x0)]) (st' := [mx_i (48 : Int32), mx_i x0]) (σ' := σ) rfl ?_
    by_cases c3 : x0 < (48 : Int32)
    · rw [if_pos c3] at hf
      refine mx_WP.blt (x := x0) (y := (48 : Int32)) (q := 19) (p3 := 13) rfl (fun _ => ?_) (fun hh => absurd c3 hh)
      refine mx_WP.go 2 (pc' := 22) (L' := [some (mx_i x0)]) (st' := [mx_i (46 : Int32), mx_i x0]) (σ' := σ) rfl ?_
      by_cases c4 : x0 = (46 : Int32)
      · rw [if_pos c4] at hf
        refine mx_WP.bne (x := x0) (y := (46 : Int32)) (q := 29) (p3 := 25) rfl (fun hh => absurd c4 hh) (fun _ => ?_)
        refine mx_WP.go 2 (pc' := 30) (L' := [some (mx_i x0)]) (st' := [mx_i (1 : Int32)]) (σ' := σ) rfl ?_
        rw [← Option.some.inj hf] at hk
        refine mx_WP.ret (v := some (mx_i (1 : Int32))) rfl ?_
        exact hk
      · rw [if_neg c4] at hf
        refine mx_WP.bne (x := x0) (y := (46 : Int32)) (q := 29) (p3 := 25) rfl (fun _ => ?_) (fun hh => absurd c4 hh)
        refine mx_WP.go 1 (pc' := 30) (L' := [some (mx_i x0)]) (st' := [mx_i (0 : Int32)]) (σ' := σ) rfl ?_
        rw [← Option.some.inj hf] at hk
        refine mx_WP.ret (v := some (mx_i (0 : Int32))) rfl ?_
        exact hk
    · rw [if_neg c3] at hf
      refine mx_WP.blt (x := x0) (y := (48 : Int32)) (q := 19) (p3 := 13) rfl (fun hh => absurd hh c3) (fun _ => ?_)
      refine mx_WP.go 2 (pc' := 16) (L' := [some (mx_i x0)]) (st' := [mx_i (57 : Int32), mx_i x0]) (σ' := σ) rfl ?_
      by_cases c5 : x0 ≤ (57 : Int32)
      · rw [if_pos c5] at hf
        refine mx_WP.ble (x := x0) (y := (57 : Int32)) (q := 25) (p3 := 19) rfl (fun _ => ?_) (fun hh => absurd c5 hh)
        refine mx_WP.go 2 (pc' := 30) (L' := [some (mx_i x0)]) (st' := [mx_i (1 : Int32)]) (σ' := σ) rfl ?_
        rw [← Option.some.inj hf] at hk
        refine mx_WP.ret (v := some (mx_i (1 : Int32))) rfl ?_
        exact hk
      · rw [if_neg c5] at hf
        refine mx_WP.ble (x := x0) (y := (57 : Int32)) (q := 25) (p3 := 19) rfl (fun hh => absurd hh c5) (fun _ => ?_)
        refine mx_WP.go 2 (pc' := 22) (L' := [some (mx_i x0)]) (st' := [mx_i (46 : Int32), mx_i x0]) (σ' := σ) rfl ?_
        by_cases c6 : x0 = (46 : Int32)
        · rw [if_pos c6] at hf
          refine mx_WP.bne (x := x0) (y := (46 : Int32)) (q := 29) (p3 := 25) rfl (fun hh => absurd c6 hh) (fun _ => ?_)
          refine mx_WP.go 2 (pc' := 30) (L' := [some (mx_i x0)]) (st' := [mx_i (1 : Int32)]) (σ' := σ) rfl ?_
          rw [← Option.some.inj hf] at hk
          refine mx_WP.ret (v := some (mx_i (1 : Int32))) rfl ?_
          exact hk
        · rw [if_neg c6] at hf
          refine mx_WP.bne (x := x0) (y := (46 : Int32)) (q := 29) (p3 := 25) rfl (fun _ => ?_) (fun hh => absurd c6 hh)
          refine mx_WP.go 1 (pc' := 30) (L' := [some (mx_i x0)]) (st' := [mx_i (0 : Int32)]) (σ' := σ) rfl ?_
          rw [← Option.some.inj hf] at hk
          refine mx_WP.ret (v := some (mx_i (0 : Int32))) rfl ?_
          exact hk
def b6_2 (x0 : Int64)  (s : Int32) : Option ((Int32) ⊕ (Int32)) :=
  if (8 : Int32) ≤ s then (some (Sum.inr s)) else (f2 x0 s).bind fun u102 =>
  (f7 u102).bind fun u103 =>
  if u103 = true then (some (Sum.inl (s + 1))) else some (Sum.inr s)
theorem B6_2 {d : Nat} {x0 : Int64} {σ : mx_Hp} {Q : Option mx_V → mx_Hp → Prop} {s : Int32} {o : (Int32) ⊕ (Int32)} (hf : b6_2 x0 s = some o) (hk : Sum.elim (fun s : Int32 => mx_WP (d + 2) 6 2 [some (mx_l x0), none, some (mx_i s)] [] σ Q) (fun x : Int32 => mx_WP (d + 2) 6 25 [some (mx_l x0), none, some (mx_i x)] [] σ Q) o) : mx_WP (d + 2) 6 2 [some (mx_l x0), none, some (mx_i s)] [] σ Q := by
  unfold b6_2 at hf
  refine mx_WP.go 2 (pc' := 5) (L' := [some (mx_l x0), none, some (mx_i s)]) (st' := [mx_i (8 : Int32), mx_i s]) (σ' := σ) rfl ?_
  by_cases c101 : (8 : Int32) ≤ s
  · rw [if_pos c101] at hf
    refine mx_WP.bge (x := s) (y := (8 : Int32)) (q := 25) (p3 := 8) rfl (fun _ => ?_) (fun hh => absurd c101 hh)
    rw [← Option.some.inj hf] at hk
    exact hk
  · rw [if_neg c101] at hf
    refine mx_WP.bge (x := s) (y := (8 : Int32)) (q := 25) (p3 := 8) rfl (fun hh => absurd hh c101) (fun _ => ?_)
    refine mx_WP.go 2 (pc' := 10) (L' := [some (mx_l x0), none, some (mx_i s)]) (st' := [mx_i s, mx_l x0]) (σ' := σ) rfl ?_
    obtain ⟨u102, e106, hf⟩ := Option.bind_eq_some_iff.mp hf
    refine mx_WP.call (d := d + 1) (y := 2) (as := [mx_l x0, mx_i s]) (pc' := 13) (r := []) rfl rfl (T2 (d := d + 1)  e106 ?_)
    show mx_WP (d + 2) 6 13 [some (mx_l x0), none, some (mx_i s)] [mx_i u102] σ Q
    obtain ⟨u103, e105, hf⟩ := Option.bind_eq_some_iff.mp hf
    refine mx_WP.call (d := d + 1) (y := 7) (as := [mx_i u102]) (pc' := 16) (r := []) rfl rfl (T7 (d := d + 0)  e105 ?_)
    show mx_WP (d + 2) 6 16 [some (mx_l x0), none, some (mx_i s)] [mx_i (b2i u103)] σ Q
    by_cases c104 : u103 = true
    · rw [if_pos c104] at hf
      refine mx_WP.zeq (b := u103) (q := 25) (p3 := 19) rfl (fun hh => absurd hh (by simp [c104])) (fun _ => ?_)
      refine mx_WP.go 2 (pc' := 2) (L' := [some (mx_l x0), none, some (mx_i (s + 1))]) (st' := []) (σ' := σ) rfl ?_
      rw [← Option.some.inj hf] at hk
      exact hk
    · rw [if_neg c104] at hf
      refine mx_WP.zeq (b := u103) (q := 25) (p3 := 19) rfl (fun _ => ?_) (fun hh => absurd hh (by simp [c104]))
      rw [← Option.some.inj hf] at hk
      exact hk
theorem L6_2 {d : Nat} {x0 : Int64} {σ : mx_Hp} {Q : Option mx_V → mx_Hp → Prop} {n : Nat} {s : Int32} {o : Int32} (hf : mx_lp (b6_2 x0) n s = some o) (hk : (fun x : Int32 => mx_WP (d + 2) 6 25 [some (mx_l x0), none, some (mx_i x)] [] σ Q) o) : mx_WP (d + 2) 6 2 [some (mx_l x0), none, some (mx_i s)] [] σ Q := mx_lp_ok (P := fun s : Int32 => mx_WP (d + 2) 6 2 [some (mx_l x0), none, some (mx_i s)] [] σ Q) (E := (fun x : Int32 => mx_WP (d + 2) 6 25 [some (mx_l x0), none, some (mx_i x)] [] σ Q)) (fun s o hf hk => B6_2 hf hk) n s o hf hk
def j6_25 (v0 : Int64) (v2 : Int32)  : Option (Bool) :=
  if v2 = (8 : Int32) then (some true) else if v2 ≤ (0 : Int32) then (some false) else if (lg_cmp ((v0.toUInt64 >>> (((8 : Int32) * v2).toInt64.toUInt64 &&& Int64.toUInt64 63)).toInt64) (0 : Int64)) = (0 : Int32) then (some true) else some false
theorem J6_25 {d : Nat} {v0 : Int64} {v2 : Int32}  {σ : mx_Hp} {Q : Option mx_V → mx_Hp → Prop} {o : Bool} (hf : j6_25 v0 v2 = some o) (hk : Q (some (mx_i (b2i o))) σ) : mx_WP (d + 2) 6 25 [some (mx_l v0), none, some (mx_i v2)] [] σ Q := by
  unfold j6_25 at hf
  refine mx_WP.go 2 (pc' := 28) (L' := [some (mx_l v0), none, some (mx_i v2)]) (st' := [mx_i (8 : Int32), mx_i v2]) (σ' := σ) rfl ?_
  by_cases c1109 : v2 = (8 : Int32)
  · rw [if_pos c1109] at hf
    refine mx_WP.beq (x := v2) (y := (8 : Int32)) (q := 46) (p3 := 31) rfl (fun _ => ?_) (fun hh => absurd c1109 hh)
    refine mx_WP.go 2 (pc' := 51) (L' := [some (mx_l v0), none, some (mx_i v2)]) (st' := [mx_i (1 : Int32)]) (σ' := σ) rfl ?_
    rw [← Option.some.inj hf] at hk
    refine mx_WP.ret (v := some (mx_i (1 : Int32))) rfl ?_
    exact hk
  · rw [if_neg c1109] at hf
    refine mx_WP.beq (x := v2) (y := (8 : Int32)) (q := 46) (p3 := 31) rfl (fun hh => absurd hh c1109) (fun _ => ?_)
    refine mx_WP.go 1 (pc' := 32) (L' := [some (mx_l v0), none, some (mx_i v2)]) (st' := [mx_i v2]) (σ' := σ) rfl ?_
    by_cases c1110 : v2 ≤ (0 : Int32)
    · rw [if_pos c1110] at hf
      refine mx_WP.ble (x := v2) (y := (0 : Int32)) (q := 50) (p3 := 35) rfl (fun _ => ?_) (fun hh => absurd c1110 hh)
      refine mx_WP.go 1 (pc' := 51) (L' := [some (mx_l v0), none, some (mx_i v2)]) (st' := [mx_i (0 : Int32)]) (σ' := σ) rfl ?_
      rw [← Option.some.inj hf] at hk
      refine mx_WP.ret (v := some (mx_i (0 : Int32))) rfl ?_
      exact hk
    · rw [if_neg c1110] at hf
      refine mx_WP.ble (x := v2) (y := (0 : Int32)) (q := 50) (p3 := 35) rfl (fun hh => absurd hh c1110) (fun _ => ?_)
      refine mx_WP.go 7 (pc' := 43) (L' := [some (mx_l v0), none, some (mx_i v2)]) (st' := [mx_i (lg_cmp ((v0.toUInt64 >>> (((8 : Int32) * v2).toInt64.toUInt64 &&& Int64.toUInt64 63)).toInt64) (0 : Int64))]) (σ' := σ) rfl ?_
      by_cases c1111 : (lg_cmp ((v0.toUInt64 >>> (((8 : Int32) * v2).toInt64.toUInt64 &&& Int64.toUInt64 63)).toInt64) (0 : Int64)) = (0 : Int32)
      · rw [if_pos c1111] at hf
        refine mx_WP.bne (x := (lg_cmp ((v0.toUInt64 >>> (((8 : Int32) * v2).toInt64.toUInt64 &&& Int64.toUInt64 63)).toInt64) (0 : Int64))) (y := (0 : Int32)) (q := 50) (p3 := 46) rfl (fun hh => absurd c1111 hh) (fun _ => ?_)
        refine mx_WP.go 2 (pc' := 51) (L' := [some (mx_l v0), none, some (mx_i v2)]) (st' := [mx_i (1 : Int32)]) (σ' := σ) rfl ?_
        rw [← Option.some.inj hf] at hk
        refine mx_WP.ret (v := some (mx_i (1 : Int32))) rfl ?_
        exact hk
      · rw [if_neg c1111] at hf
        refine mx_WP.bne (x := (lg_cmp ((v0.toUInt64 >>> (((8 : Int32) * v2).toInt64.toUInt64 &&& Int64.toUInt64 63)).toInt64) (0 : Int64))) (y := (0 : Int32)) (q := 50) (p3 := 46) rfl (fun _ => ?_) (fun hh => absurd c1111 hh)
        refine mx_WP.go 1 (pc' := 51) (L' := [some (mx_l v0), none, some (mx_i v2)]) (st' := [mx_i (0 : Int32)]) (σ' := σ) rfl ?_
        rw [← Option.some.inj hf] at hk
        refine mx_WP.ret (v := some (mx_i (0 : Int32))) rfl ?_
        exact hk
def f6 (x0 : Int64) : Option (Bool) :=
  (mx_lp (b6_2 x0) mx_fu (0 : Int32)).bind fun u107 =>
  j6_25 x0 u107
theorem T6 {d : Nat} {x0 : Int64} {σ : mx_Hp} {Q : Option mx_V → mx_Hp → Prop} {o : Bool} (hf : f6 x0 = some o) (hk : Q (some (mx_i (b2i o))) σ) : mx_WP (d + 2) 6 0 (mx_ent 6 [mx_l x0]) [] σ Q := by
  unfold f6 at hf
  refine mx_WP.go 2 (pc' := 2) (L' := [some (mx_l x0), none, some (mx_i (0 : Int32))]) (st' := []) (σ' := σ) rfl ?_
  obtain ⟨u107, e108, hf⟩ := Option.bind_eq_some_iff.mp hf
  refine L6_2 (d := d) e108 ?_
  show mx_WP (d + 2) 6 25 [some (mx_l x0), none, some (mx_i u107)] [] σ Q
  exact J6_25 (d := d) hf hk
def f35 (x0 : Nat) (x1 : Int64) (x2 : Int32) (I : Nat → Nat → Nat → Int32) (J : Nat → Nat → Nat → Int64) : Option (Int32 × (Nat → Nat → Nat → Int32) × (Nat → Nat → Nat → Int64)) :=
  if (I 2 x0 6) < (4 : Int32) then (if (I 2 x0 6) < 0 ∨ 4 ≤ (I 2 x0 6).toNatClampNeg then none else if (I 2 x0 6) < 0 ∨ 4 ≤ (I 2 x0 6).toNatClampNeg then none else some ((mx_u3 (mx_u3 I 69 x0 ((I 2 x0 6).toNatClampNeg) x2) 2 x0 6 ((I 2 x0 6) + (1 : Int32))) 2 x0 6, (mx_u3 (mx_u3 I 69 x0 ((I 2 x0 6).toNatClampNeg) x2) 2 x0 6 ((I 2 x0 6) + (1 : Int32))), (mx_u3 J 68 x0 ((I 2 x0 6).toNatClampNeg) x1))) else some ((-2 : Int32), I, J)
theorem T35 {d : Nat} {x0 : Nat} {x1 : Int64} {x2 : Int32} {I : Nat → Nat → Nat → Int32} {J : Nat → Nat → Nat → Int64} {h : Nat → Nat} {μ : mx_Rg × (Nat × (Nat → Int32)) × (Nat × Nat)} {Q : Option mx_V → mx_Hp → Prop} {o : Int32 × (Nat → Nat → Nat → Int32) × (Nat → Nat → Nat → Int64)} (hf : f35 x0 x1 x2 I J = some o) (hk : Q (some (mx_i o.1)) (hC o.2.1 o.2.2 h, μ)) : mx_WP (d + 0) 35 0 (mx_ent 35 [mx_r (some (0, 2, x0)), mx_l x1, mx_i x2]) [] (hC I J h, μ) Q := by
  unfold f35 at hf
  refine mx_WP.go 3 (pc' := 5) (L' := [some (mx_r (some (0, 2, x0))), some (mx_l x1), none, some (mx_i x2)]) (st' := [mx_i (4 : Int32), mx_i (I 2 x0 6)]) (σ' := (hC I J h, μ)) rfl ?_
  by_cases c1 : (I 2 x0 6) < (4 : Int32)
  · rw [if_pos c1] at hf
    refine mx_WP.blt (x := (I 2 x0 6)) (y := (4 : Int32)) (q := 11) (p3 := 8) rfl (fun _ => ?_) (fun hh => absurd c1 hh)
    refine mx_WP.go 5 (pc' := 20) (L' := [some (mx_r (some (0, 2, x0))), some (mx_l x1), none, some (mx_i x2)]) (st' := [mx_l x1, mx_i (I 2 x0 6), mx_r (some (0, 68, x0))]) (σ' := (hC I J h, μ)) rfl ?_
    by_cases c2 : (I 2 x0 6) < 0 ∨ 4 ≤ (I 2 x0 6).toNatClampNeg
    · rw [if_pos c2] at hf
      cases hf
    rw [if_neg c2] at hf
    refine mx_WP.lastx c2 ?_
    show mx_WP (d + 0) 35 21 [some (mx_r (some (0, 2, x0))), some (mx_l x1), none, some (mx_i x2)] [] (hC I (mx_u3 J 68 x0 ((I 2 x0 6).toNatClampNeg) x1) h, μ) Q
    refine mx_WP.go 5 (pc' := 30) (L' := [some (mx_r (some (0, 2, x0))), some (mx_l x1), none, some (mx_i x2)]) (st' := [mx_i x2, mx_i (I 2 x0 6), mx_r (some (0, 69, x0))]) (σ' := (hC I (mx_u3 J 68 x0 ((I 2 x0 6).toNatClampNeg) x1) h, μ)) rfl ?_
    by_cases c3 : (I 2 x0 6) < 0 ∨ 4 ≤ (I 2 x0 6).toNatClampNeg
    · rw [if_pos c3] at hf
      cases hf
    rw [if_neg c3] at hf
    refine mx_WP.iastx c3 ?_
    show mx_WP (d + 0) 35 31 [some (mx_r (some (0, 2, x0))), some (mx_l x1), none, some (mx_i x2)] [] (hC (mx_u3 I 69 x0 ((I 2 x0 6).toNatClampNeg) x2) (mx_u3 J 68 x0 ((I 2 x0 6).toNatClampNeg) x1) h, μ) Q
    refine mx_WP.go 8 (pc' := 45) (L' := [some (mx_r (some (0, 2, x0))), some (mx_l x1), none, some (mx_i x2)]) (st' := [mx_i ((mx_u3 (mx_u3 I 69 x0 ((I 2 x0 6).toNatClampNeg) x2) 2 x0 6 ((I 2 x0 6) + (1 : Int32))) 2 x0 6)]) (σ' := (hC (mx_u3 (mx_u3 I 69 x0 ((I 2 x0 6).toNatClampNeg) x2) 2 x0 6 ((I 2 x0 6) + (1 : Int32))) (mx_u3 J 68 x0 ((I 2 x0 6).toNatClampNeg) x1) h, μ)) rfl ?_
    rw [← Option.some.inj hf] at hk
    refine mx_WP.ret (v := some (mx_i ((mx_u3 (mx_u3 I 69 x0 ((I 2 x0 6).toNatClampNeg) x2) 2 x0 6 ((I 2 x0 6) + (1 : Int32))) 2 x0 6))) rfl ?_
    exact hk
  · rw [if_neg c1] at hf
    refine mx_WP.blt (x := (I 2 x0 6)) (y := (4 : Int32)) (q := 11) (p3 := 8) rfl (fun hh => absurd hh c1) (fun _ => ?_)
    refine mx_WP.go 1 (pc' := 10) (L' := [some (mx_r (some (0, 2, x0))), some (mx_l x1), none, some (mx_i x2)]) (st' := [mx_i (-2 : Int32)]) (σ' := (hC I J h, μ)) rfl ?_
    rw [← Option.some.inj hf] at hk
    refine mx_WP.ret (v := some (mx_i (-2 : Int32))) rfl ?_
    exact hk
def f5 (x1 : Int64) (x2 : Int32) (I : Nat → Nat → Nat → Int32) (J : Nat → Nat → Nat → Int64) : Option (Int32 × (Nat → Nat → Nat → Int32) × (Nat → Nat → Nat → Int64)) :=
  (f6 x1).bind fun u1 =>
  if u1 = true then (if x2 < (0 : Int32) then (some ((-1 : Int32), I, J)) else if (6 : Int32) < x2 then (some ((-1 : Int32), I, J)) else if x2 = (3 : Int32) then (some ((-1 : Int32), I, J)) else (f35 0 x1 x2 I J).bind fun u6 =>
  some (u6.1, u6.2.1, u6.2.2)) else some ((-1 : Int32), I, J)
theorem T5 {d : Nat} {x1 : Int64} {x2 : Int32} {I : Nat → Nat → Nat → Int32} {J : Nat → Nat → Nat → Int64} {h : Nat → Nat} {μ : mx_Rg × (Nat × (Nat → Int32)) × (Nat × Nat)} {Q : Option mx_V → mx_Hp → Prop} {o : Int32 × (Nat → Nat → Nat → Int32) × (Nat → Nat → Nat → Int64)} (hf : f5 x1 x2 I J = some o) (hk : Q (some (mx_i o.1)) (hC o.2.1 o.2.2 h, μ)) : mx_WP (d + 3) 5 0 (mx_ent 5 [mx_r (some (0, 0, 0)), mx_l x1, mx_i x2]) [] (hC I J h, μ) Q := by
  unfold f5 at hf
  refine mx_WP.go 1 (pc' := 1) (L' := [some (mx_r (some (0, 0, 0))), some (mx_l x1), none, some (mx_i x2)]) (st' := [mx_l x1]) (σ' := (hC I J h, μ)) rfl ?_
  obtain ⟨u1, e8, hf⟩ := Option.bind_eq_some_iff.mp hf
  refine mx_WP.call (d := d + 2) (y := 6) (as := [mx_l x1]) (pc' := 4) (r := []) rfl rfl (T6 (d := d + 0)  e8 ?_)
  show mx_WP (d + 3) 5 4 [some (mx_r (some (0, 0, 0))), some (mx_l x1), none, some (mx_i x2)] [mx_i (b2i u1)] (hC I J h, μ) Q
  by_cases c2 : u1 = true
  · rw [if_pos c2] at hf
    refine mx_WP.zeq (b := u1) (q := 22) (p3 := 7) rfl (fun hh => absurd hh (by simp [c2])) (fun _ => ?_)
    refine mx_WP.go 1 (pc' := 8) (L' := [some (mx_r (some (0, 0, 0))), some (mx_l x1), none, some (mx_i x2)]) (st' := [mx_i x2]) (σ' := (hC I J h, μ)) rfl ?_
    by_cases c3 : x2 < (0 : Int32)
    · rw [if_pos c3] at hf
      refine mx_WP.blt (x := x2) (y := (0 : Int32)) (q := 22) (p3 := 11) rfl (fun _ => ?_) (fun hh => absurd c3 hh)
      refine mx_WP.go 1 (pc' := 23) (L' := [some (mx_r (some (0, 0, 0))), some (mx_l x1), none, some (mx_i x2)]) (st' := [mx_i (-1 : Int32)]) (σ' := (hC I J h, μ)) rfl ?_
      rw [← Option.some.inj hf] at hk
      refine mx_WP.ret (v := some (mx_i (-1 : Int32))) rfl ?_
      exact hk
    · rw [if_neg c3] at hf
      refine mx_WP.blt (x := x2) (y := (0 : Int32)) (q := 22) (p3 := 11) rfl (fun hh => absurd hh c3) (fun _ => ?_)
      refine mx_WP.go 2 (pc' := 14) (L' := [some (mx_r (some (0, 0, 0))), some (mx_l x1), none, some (mx_i x2)]) (st' := [mx_i (6 : Int32), mx_i x2]) (σ' := (hC I J h, μ)) rfl ?_
      by_cases c4 : (6 : Int32) < x2
      · rw [if_pos c4] at hf
        refine mx_WP.bgt (x := x2) (y := (6 : Int32)) (q := 22) (p3 := 17) rfl (fun _ => ?_) (fun hh => absurd c4 hh)
        refine mx_WP.go 1 (pc' := 23) (L' := [some (mx_r (some (0, 0, 0))), some (mx_l x1), none, some (mx_i x2)]) (st' := [mx_i (-1 : Int32)]) (σ' := (hC I J h, μ)) rfl ?_
        rw [← Option.some.inj hf] at hk
        refine mx_WP.ret (v := some (mx_i (-1 : Int32))) rfl ?_
        exact hk
      · rw [if_neg c4] at hf
        refine mx_WP.bgt (x := x2) (y := (6 : Int32)) (q := 22) (p3 := 17) rfl (fun hh => absurd hh c4) (fun _ => ?_)
        refine mx_WP.go 2 (pc' := 19) (L' := [some (mx_r (some (0, 0, 0))), some (mx_l x1), none, some (mx_i x2)]) (st' := [mx_i (3 : Int32), mx_i x2]) (σ' := (hC I J h, μ)) rfl ?_
        by_cases c5 : x2 = (3 : Int32)
        · rw [if_pos c5] at hf
          refine mx_WP.bne (x := x2) (y := (3 : Int32)) (q := 24) (p3 := 22) rfl (fun hh => absurd c5 hh) (fun _ => ?_)
          refine mx_WP.go 1 (pc' := 23) (L' := [some (mx_r (some (0, 0, 0))), some (mx_l x1), none, some (mx_i x2)]) (st' := [mx_i (-1 : Int32)]) (σ' := (hC I J h, μ)) rfl ?_
          rw [← Option.some.inj hf] at hk
          refine mx_WP.ret (v := some (mx_i (-1 : Int32))) rfl ?_
          exact hk
        · rw [if_neg c5] at hf
          refine mx_WP.bne (x := x2) (y := (3 : Int32)) (q := 24) (p3 := 22) rfl (fun _ => ?_) (fun hh => absurd c5 hh)
          refine mx_WP.go 5 (pc' := 33) (L' := [some (mx_r (some (0, 0, 0))), some (mx_l x1), none, some (mx_i x2)]) (st' := [mx_i x2, mx_l x1, mx_r (some (0, 2, 0))]) (σ' := (hC I J h, μ)) rfl ?_
          obtain ⟨u6, e7, hf⟩ := Option.bind_eq_some_iff.mp hf
          refine mx_WP.call (d := d + 2) (y := 35) (as := [mx_r (some (0, 2, 0)), mx_l x1, mx_i x2]) (pc' := 36) (r := []) rfl rfl (T35 (d := d + 2)  e7 ?_)
          show mx_WP (d + 3) 5 36 [some (mx_r (some (0, 0, 0))), some (mx_l x1), none, some (mx_i x2)] [mx_i u6.1] (hC u6.2.1 u6.2.2 h, μ) Q
          rw [← Option.some.inj hf] at hk
          refine mx_WP.ret (v := some (mx_i u6.1)) rfl ?_
          exact hk
  · rw [if_neg c2] at hf
    refine mx_WP.zeq (b := u1) (q := 22) (p3 := 7) rfl (fun _ => ?_) (fun hh => absurd hh (by simp [c2]))
    refine mx_WP.go 1 (pc' := 23) (L' := [some (mx_r (some (0, 0, 0))), some (mx_l x1), none, some (mx_i x2)]) (st' := [mx_i (-1 : Int32)]) (σ' := (hC I J h, μ)) rfl ?_
    rw [← Option.some.inj hf] at hk
    refine mx_WP.ret (v := some (mx_i (-1 : Int32))) rfl ?_
    exact hk
def f36 (x0 : Nat) (x1 : Int32) (x2 : Int64) (I : Nat → Nat → Nat → Int32) (J : Nat → Nat → Nat → Int64) : Option ((Nat → Nat → Nat → Int32) × (Nat → Nat → Nat → Int64)) :=
  if x1 = (0 : Int32) then (some ((mx_u3 I 2 x0 7 x1), (mx_u3 J 2 x0 8 (0 : Int64)))) else some ((mx_u3 I 2 x0 7 x1), (mx_u3 J 2 x0 8 x2))
theorem T36 {d : Nat} {x0 : Nat} {x1 : Int32} {x2 : Int64} {I : Nat → Nat → Nat → Int32} {J : Nat → Nat → Nat → Int64} {h : Nat → Nat} {μ : mx_Rg × (Nat × (Nat → Int32)) × (Nat × Nat)} {Q : Option mx_V → mx_Hp → Prop} {o : (Nat → Nat → Nat → Int32) × (Nat → Nat → Nat → Int64)} (hf : f36 x0 x1 x2 I J = some o) (hk : Q (none) (hC o.1 o.2 h, μ)) : mx_WP (d + 0) 36 0 (mx_ent 36 [mx_r (some (0, 2, x0)), mx_i x1, mx_l x2]) [] (hC I J h, μ) Q := by
  unfold f36 at hf
  refine mx_WP.go 5 (pc' := 7) (L' := [some (mx_r (some (0, 2, x0))), some (mx_i x1), some (mx_l x2), none]) (st' := [mx_i x1, mx_r (some (0, 2, x0))]) (σ' := (hC (mx_u3 I 2 x0 7 x1) J h, μ)) rfl ?_
  by_cases c1 : x1 = (0 : Int32)
  · rw [if_pos c1] at hf
    refine mx_WP.bne (x := x1) (y := (0 : Int32)) (q := 14) (p3 := 10) rfl (fun hh => absurd c1 hh) (fun _ => ?_)
    refine mx_WP.go 3 (pc' := 18) (L' := [some (mx_r (some (0, 2, x0))), some (mx_i x1), some (mx_l x2), none]) (st' := []) (σ' := (hC (mx_u3 I 2 x0 7 x1) (mx_u3 J 2 x0 8 (0 : Int64)) h, μ)) rfl ?_
    rw [← Option.some.inj hf] at hk
    refine mx_WP.ret (v := none) rfl ?_
    exact hk
  · rw [if_neg c1] at hf
    refine mx_WP.bne (x := x1) (y := (0 : Int32)) (q := 14) (p3 := 10) rfl (fun _ => ?_) (fun hh => absurd c1 hh)
    refine mx_WP.go 2 (pc' := 18) (L' := [some (mx_r (some (0, 2, x0))), some (mx_i x1), some (mx_l x2), none]) (st' := []) (σ' := (hC (mx_u3 I 2 x0 7 x1) (mx_u3 J 2 x0 8 x2) h, μ)) rfl ?_
    rw [← Option.some.inj hf] at hk
    refine mx_WP.ret (v := none) rfl ?_
    exact hk
def f9 (x1 : Int32) (x2 : Int64) (I : Nat → Nat → Nat → Int32) (J : Nat → Nat → Nat → Int64) : Option (Bool × (Nat → Nat → Nat → Int32) × (Nat → Nat → Nat → Int64)) :=
  if x1 < (0 : Int32) then (some (false, I, J)) else if (2 : Int32) < x1 then (some (false, I, J)) else if (lg_cmp x2 (0 : Int64)) = (0 : Int32) then ((f36 0 x1 x2 I J).bind fun u4 =>
  some (true, u4.1, u4.2)) else (f6 x2).bind fun u6 =>
  if u6 = true then ((f36 0 x1 x2 I J).bind fun u8 =>
  some (true, u8.1, u8.2)) else some (false, I, J)
theorem T9 {d : Nat} {x1 : Int32} {x2 : Int64} {I : Nat → Nat → Nat → Int32} {J : Nat → Nat → Nat → Int64} {h : Nat → Nat} {μ : mx_Rg × (Nat × (Nat → Int32)) × (Nat × Nat)} {Q : Option mx_V → mx_Hp → Prop} {o : Bool × (Nat → Nat → Nat → Int32) × (Nat → Nat → Nat → Int64)} (hf : f9 x1 x2 I J = some o) (hk : Q (some (mx_i (b2i o.1))) (hC o.2.1 o.2.2 h, μ)) : mx_WP (d + 3) 9 0 (mx_ent 9 [mx_r (some (0, 0, 0)), mx_i x1, mx_l x2]) [] (hC I J h, μ) Q := by
  unfold f9 at hf
  refine mx_WP.go 1 (pc' := 1) (L' := [some (mx_r (some (0, 0, 0))), some (mx_i x1), some (mx_l x2), none]) (st' := [mx_i x1]) (σ' := (hC I J h, μ)) rfl ?_
  by_cases c1 : x1 < (0 : Int32)
  · rw [if_pos c1] at hf
    refine mx_WP.blt (x := x1) (y := (0 : Int32)) (q := 22) (p3 := 4) rfl (fun _ => ?_) (fun hh => absurd c1 hh)
    refine mx_WP.go 1 (pc' := 23) (L' := [some (mx_r (some (0, 0, 0))), some (mx_i x1), some (mx_l x2), none]) (st' := [mx_i (0 : Int32)]) (σ' := (hC I J h, μ)) rfl ?_
    rw [← Option.some.inj hf] at hk
    refine mx_WP.ret (v := some (mx_i (0 : Int32))) rfl ?_
    exact hk
  · rw [if_neg c1] at hf
    refine mx_WP.blt (x := x1) (y := (0 : Int32)) (q := 22) (p3 := 4) rfl (fun hh => absurd hh c1) (fun _ => ?_)
    refine mx_WP.go 2 (pc' := 6) (L' := [some (mx_r (some (0, 0, 0))), some (mx_i x1), some (mx_l x2), none]) (st' := [mx_i (2 : Int32), mx_i x1]) (σ' := (hC I J h, μ)) rfl ?_
    by_cases c2 : (2 : Int32) < x1
    · rw [if_pos c2] at hf
      refine mx_WP.bgt (x := x1) (y := (2 : Int32)) (q := 22) (p3 := 9) rfl (fun _ => ?_) (fun hh => absurd c2 hh)
      refine mx_WP.go 1 (pc' := 23) (L' := [some (mx_r (some (0, 0, 0))), some (mx_i x1), some (mx_l x2), none]) (st' := [mx_i (0 : Int32)]) (σ' := (hC I J h, μ)) rfl ?_
      rw [← Option.some.inj hf] at hk
      refine mx_WP.ret (v := some (mx_i (0 : Int32))) rfl ?_
      exact hk
    · rw [if_neg c2] at hf
      refine mx_WP.bgt (x := x1) (y := (2 : Int32)) (q := 22) (p3 := 9) rfl (fun hh => absurd hh c2) (fun _ => ?_)
      refine mx_WP.go 3 (pc' := 12) (L' := [some (mx_r (some (0, 0, 0))), some (mx_i x1), some (mx_l x2), none]) (st' := [mx_i (lg_cmp x2 (0 : Int64))]) (σ' := (hC I J h, μ)) rfl ?_
      by_cases c3 : (lg_cmp x2 (0 : Int64)) = (0 : Int32)
      · rw [if_pos c3] at hf
        refine mx_WP.beq (x := (lg_cmp x2 (0 : Int64))) (y := (0 : Int32)) (q := 24) (p3 := 15) rfl (fun _ => ?_) (fun hh => absurd c3 hh)
        refine mx_WP.go 5 (pc' := 33) (L' := [some (mx_r (some (0, 0, 0))), some (mx_i x1), some (mx_l x2), none]) (st' := [mx_l x2, mx_i x1, mx_r (some (0, 2, 0))]) (σ' := (hC I J h, μ)) rfl ?_
        obtain ⟨u4, e5, hf⟩ := Option.bind_eq_some_iff.mp hf
        refine mx_WP.call (d := d + 2) (y := 36) (as := [mx_r (some (0, 2, 0)), mx_i x1, mx_l x2]) (pc' := 36) (r := []) rfl rfl (T36 (d := d + 2)  e5 ?_)
        show mx_WP (d + 3) 9 36 [some (mx_r (some (0, 0, 0))), some (mx_i x1), some (mx_l x2), none] [] (hC u4.1 u4.2 h, μ) Q
        refine mx_WP.go 1 (pc' := 37) (L' := [some (mx_r (some (0, 0, 0))), some (mx_i x1), some (mx_l x2), none]) (st' := [mx_i (1 : Int32)]) (σ' := (hC u4.1 u4.2 h, μ)) rfl ?_
        rw [← Option.some.inj hf] at hk
        refine mx_WP.ret (v := some (mx_i (1 : Int32))) rfl ?_
        exact hk
      · rw [if_neg c3] at hf
        refine mx_WP.beq (x := (lg_cmp x2 (0 : Int64))) (y := (0 : Int32)) (q := 24) (p3 := 15) rfl (fun hh => absurd hh c3) (fun _ => ?_)
        refine mx_WP.go 1 (pc' := 16) (L' := [some (mx_r (some (0, 0, 0))), some (mx_i x1), some (mx_l x2), none]) (st' := [mx_l x2]) (σ' := (hC I J h, μ)) rfl ?_
        obtain ⟨u6, e10, hf⟩ := Option.bind_eq_some_iff.mp hf
        refine mx_WP.call (d := d + 2) (y := 6) (as := [mx_l x2]) (pc' := 19) (r := []) rfl rfl (T6 (d := d + 0)  e10 ?_)
        show mx_WP (d + 3) 9 19 [some (mx_r (some (0, 0, 0))), some (mx_i x1), some (mx_l x2), none] [mx_i (b2i u6)] (hC I J h, μ) Q
        by_cases c7 : u6 = true
        · rw [if_pos c7] at hf
          refine mx_WP.zne (b := u6) (q := 24) (p3 := 22) rfl (fun _ => ?_) (fun hh => absurd hh (by simp [c7]))
          refine mx_WP.go 5 (pc' := 33) (L' := [some (mx_r (some (0, 0, 0))), some (mx_i x1), some (mx_l x2), none]) (st' := [mx_l x2, mx_i x1, mx_r (some (0, 2, 0))]) (σ' := (hC I J h, μ)) rfl ?_
          obtain ⟨u8, e9, hf⟩ := Option.bind_eq_some_iff.mp hf
          refine mx_WP.call (d := d + 2) (y := 36) (as := [mx_r (some (0, 2, 0)), mx_i x1, mx_l x2]) (pc' := 36) (r := []) rfl rfl (T36 (d := d + 2)  e9 ?_)
          show mx_WP (d + 3) 9 36 [some (mx_r (some (0, 0, 0))), some (mx_i x1), some (mx_l x2), none] [] (hC u8.1 u8.2 h, μ) Q
          refine mx_WP.go 1 (pc' := 37) (L' := [some (mx_r (some (0, 0, 0))), some (mx_i x1), some (mx_l x2), none]) (st' := [mx_i (1 : Int32)]) (σ' := (hC u8.1 u8.2 h, μ)) rfl ?_
          rw [← Option.some.inj hf] at hk
          refine mx_WP.ret (v := some (mx_i (1 : Int32))) rfl ?_
          exact hk
        · rw [if_neg c7] at hf
          refine mx_WP.zne (b := u6) (q := 24) (p3 := 22) rfl (fun hh => absurd hh (by simp [c7])) (fun _ => ?_)
          refine mx_WP.go 1 (pc' := 23) (L' := [some (mx_r (some (0, 0, 0))), some (mx_i x1), some (mx_l x2), none]) (st' := [mx_i (0 : Int32)]) (σ' := (hC I J h, μ)) rfl ?_
          rw [← Option.some.inj hf] at hk
          refine mx_WP.ret (v := some (mx_i (0 : Int32))) rfl ?_
          exact hk
def f37 (x0 : Nat) (I : Nat → Nat → Nat → Int32) (J : Nat → Nat → Nat → Int64) : Option ((Nat → Nat → Nat → Int32) × (Nat → Nat → Nat → Int64)) :=
  (f36 x0 (0 : Int32) (0 : Int64) (mx_u3 (mx_u3 I 2 x0 5 (0 : Int32)) 2 x0 6 (0 : Int32)) J).bind fun u1 =>
  some (u1.1, u1.2)
theorem T37 {d : Nat} {x0 : Nat} {I : Nat → Nat → Nat → Int32} {J : Nat → Nat → Nat → Int64} {h : Nat → Nat} {μ : mx_Rg × (Nat × (Nat → Int32)) × (Nat × Nat)} {Q : Option mx_V → mx_Hp → Prop} {o : (Nat → Nat → Nat → Int32) × (Nat → Nat → Nat → Int64)} (hf : f37 x0 I J = some o) (hk : Q (none) (hC o.1 o.2 h, μ)) : mx_WP (d + 1) 37 0 (mx_ent 37 [mx_r (some (0, 2, x0))]) [] (hC I J h, μ) Q := by
  unfold f37 at hf
  refine mx_WP.go 9 (pc' := 13) (L' := [some (mx_r (some (0, 2, x0)))]) (st' := [mx_l (0 : Int64), mx_i (0 : Int32), mx_r (some (0, 2, x0))]) (σ' := (hC (mx_u3 (mx_u3 I 2 x0 5 (0 : Int32)) 2 x0 6 (0 : Int32)) J h, μ)) rfl ?_
  obtain ⟨u1, e2, hf⟩ := Option.bind_eq_some_iff.mp hf
  refine mx_WP.call (d := d + 0) (y := 36) (as := [mx_r (some (0, 2, x0)), mx_i (0 : Int32), mx_l (0 : Int64)]) (pc' := 16) (r := []) rfl rfl (T36 (d := d + 0)  e2 ?_)
  show mx_WP (d + 1) 37 16 [some (mx_r (some (0, 2, x0)))] [] (hC u1.1 u1.2 h, μ) Q
  rw [← Option.some.inj hf] at hk
  refine mx_WP.ret (v := none) rfl ?_
  exact hk
def f32 (I : Nat → Nat → Nat → Int32) (J : Nat → Nat → Nat → Int64) : Option ((Nat → Nat → Nat → Int32) × (Nat → Nat → Nat → Int64)) :=
  (f37 0 (mx_u3 I 1 0 2 (0 : Int32)) J).bind fun u1 =>
  some (u1.1, u1.2)
theorem T32 {d : Nat} {I : Nat → Nat → Nat → Int32} {J : Nat → Nat → Nat → Int64} {h : Nat → Nat} {μ : mx_Rg × (Nat × (Nat → Int32)) × (Nat × Nat)} {Q : Option mx_V → mx_Hp → Prop} {o : (Nat → Nat → Nat → Int32) × (Nat → Nat → Nat → Int64)} (hf : f32 I J = some o) (hk : Q (none) (hC o.1 o.2 h, μ)) : mx_WP (d + 2) 32 0 (mx_ent 32 [mx_r (some (0, 1, 0))]) [] (hC I J h, μ) Q := by
  unfold f32 at hf
  refine mx_WP.go 5 (pc' := 9) (L' := [some (mx_r (some (0, 1, 0)))]) (st' := [mx_r (some (0, 2, 0))]) (σ' := (hC (mx_u3 I 1 0 2 (0 : Int32)) J h, μ)) rfl ?_
  obtain ⟨u1, e2, hf⟩ := Option.bind_eq_some_iff.mp hf
  refine mx_WP.call (d := d + 1) (y := 37) (as := [mx_r (some (0, 2, 0))]) (pc' := 12) (r := []) rfl rfl (T37 (d := d + 0)  e2 ?_)
  show mx_WP (d + 2) 32 12 [some (mx_r (some (0, 1, 0)))] [] (hC u1.1 u1.2 h, μ) Q
  rw [← Option.some.inj hf] at hk
  refine mx_WP.ret (v := none) rfl ?_
  exact hk
def f10 (I : Nat → Nat → Nat → Int32) (J : Nat → Nat → Nat → Int64) : Option (Int32 × (Nat → Nat → Nat → Int32) × (Nat → Nat → Nat → Int64)) :=
  (f32 I J).bind fun u1 =>
  some (I 1 0 2, u1.1, u1.2)
theorem T10 {d : Nat} {I : Nat → Nat → Nat → Int32} {J : Nat → Nat → Nat → Int64} {h : Nat → Nat} {μ : mx_Rg × (Nat × (Nat → Int32)) × (Nat × Nat)} {Q : Option mx_V → mx_Hp → Prop} {o : Int32 × (Nat → Nat → Nat → Int32) × (Nat → Nat → Nat → Int64)} (hf : f10 I J = some o) (hk : Q (some (mx_i o.1)) (hC o.2.1 o.2.2 h, μ)) : mx_WP (d + 3) 10 0 (mx_ent 10 [mx_r (some (0, 0, 0))]) [] (hC I J h, μ) Q := by
  unfold f10 at hf
  refine mx_WP.go 6 (pc' := 12) (L' := [some (mx_r (some (0, 0, 0))), some (mx_i (I 1 0 2))]) (st' := [mx_r (some (0, 1, 0))]) (σ' := (hC I J h, μ)) rfl ?_
  obtain ⟨u1, e2, hf⟩ := Option.bind_eq_some_iff.mp hf
  refine mx_WP.call (d := d + 2) (y := 32) (as := [mx_r (some (0, 1, 0))]) (pc' := 15) (r := []) rfl rfl (T32 (d := d + 0)  e2 ?_)
  show mx_WP (d + 3) 10 15 [some (mx_r (some (0, 0, 0))), some (mx_i (I 1 0 2))] [] (hC u1.1 u1.2 h, μ) Q
  refine mx_WP.go 1 (pc' := 16) (L' := [some (mx_r (some (0, 0, 0))), some (mx_i (I 1 0 2))]) (st' := [mx_i (I 1 0 2)]) (σ' := (hC u1.1 u1.2 h, μ)) rfl ?_
  rw [← Option.some.inj hf] at hk
  refine mx_WP.ret (v := some (mx_i (I 1 0 2))) rfl ?_
  exact hk
def b38_6 (x0 : Nat) (x1 : Nat) (I : Nat → Nat → Nat → Int32) (J : Nat → Nat → Nat → Int64) (s : Int32 × (Nat → Nat → Nat → Int32)) : Option ((Int32 × (Nat → Nat → Nat → Int32)) ⊕ (Int32 × (Nat → Nat → Nat → Int32))) :=
  if (s.2 2 x1 5) ≤ s.1 then (some (Sum.inr (s.1, s.2))) else if s.1 < 0 ∨ 3 ≤ s.1.toNatClampNeg then none else if s.1 < 0 ∨ 3 ≤ s.1.toNatClampNeg then none else if s.1 < 0 ∨ 3 ≤ s.1.toNatClampNeg then none else (f34 x0 (s.2 65 x1 s.1.toNatClampNeg) (s.2 66 x1 s.1.toNatClampNeg) (s.2 67 x1 s.1.toNatClampNeg) s.2).bind fun u106 =>
  some (Sum.inl (s.1 + 1, u106.2))
theorem B38_6 {d : Nat} {x0 : Nat} {x1 : Nat} {I : Nat → Nat → Nat → Int32} {J : Nat → Nat → Nat → Int64} {h : Nat → Nat} {μ : mx_Rg × (Nat × (Nat → Int32)) × (Nat × Nat)} {Q : Option mx_V → mx_Hp → Prop} {s : Int32 × (Nat → Nat → Nat → Int32)} {o : (Int32 × (Nat → Nat → Nat → Int32)) ⊕ (Int32 × (Nat → Nat → Nat → Int32))} (hf : b38_6 x0 x1 I J s = some o) (hk : Sum.elim (fun s : Int32 × (Nat → Nat → Nat → Int32) => mx_WP (d + 2) 38 6 [some (mx_r (some (0, 2, x0))), some (mx_r (some (0, 2, x1))), some (mx_i s.1)] [] (hC s.2 J h, μ) Q) (fun x : Int32 × (Nat → Nat → Nat → Int32) => mx_WP (d + 2) 38 43 [some (mx_r (some (0, 2, x0))), some (mx_r (some (0, 2, x1))), some (mx_i x.1)] [] (hC x.2 J h, μ) Q) o) : mx_WP (d + 2) 38 6 [some (mx_r (some (0, 2, x0))), some (mx_r (some (0, 2, x1))), some (mx_i s.1)] [] (hC s.2 J h, μ) Q := by
  unfold b38_6 at hf
  refine mx_WP.go 3 (pc' := 11) (L' := [some (mx_r (some (0, 2, x0))), some (mx_r (some (0, 2, x1))), some (mx_i s.1)]) (st' := [mx_i (s.2 2 x1 5), mx_i s.1]) (σ' := (hC s.2 J h, μ)) rfl ?_
  by_cases c102 : (s.2 2 x1 5) ≤ s.1
  · rw [if_pos c102] at hf
    refine mx_WP.bge (x := s.1) (y := (s.2 2 x1 5)) (q := 43) (p3 := 14) rfl (fun _ => ?_) (fun hh => absurd c102 hh)
    rw [← Option.some.inj hf] at hk
    exact hk
  · rw [if_neg c102] at hf
    refine mx_WP.bge (x := s.1) (y := (s.2 2 x1 5)) (q := 43) (p3 := 14) rfl (fun hh => absurd hh c102) (fun _ => ?_)
    refine mx_WP.go 4 (pc' := 20) (L' := [some (mx_r (some (0, 2, x0))), some (mx_r (some (0, 2, x1))), some (mx_i s.1)]) (st' := [mx_i s.1, mx_r (some (0, 65, x1)), mx_r (some (0, 2, x0))]) (σ' := (hC s.2 J h, μ)) rfl ?_
    by_cases c103 : s.1 < 0 ∨ 3 ≤ s.1.toNatClampNeg
    · rw [if_pos c103] at hf
      cases hf
    rw [if_neg c103] at hf
    refine mx_WP.ialdx c103 ?_
    show mx_WP (d + 2) 38 21 [some (mx_r (some (0, 2, x0))), some (mx_r (some (0, 2, x1))), some (mx_i s.1)] [mx_i (s.2 65 x1 s.1.toNatClampNeg), mx_r (some (0, 2, x0))] (hC s.2 J h, μ) Q
    refine mx_WP.go 3 (pc' := 26) (L' := [some (mx_r (some (0, 2, x0))), some (mx_r (some (0, 2, x1))), some (mx_i s.1)]) (st' := [mx_i s.1, mx_r (some (0, 66, x1)), mx_i (s.2 65 x1 s.1.toNatClampNeg), mx_r (some (0, 2, x0))]) (σ' := (hC s.2 J h, μ)) rfl ?_
    by_cases c104 : s.1 < 0 ∨ 3 ≤ s.1.toNatClampNeg
    · rw [if_pos c104] at hf
      cases hf
    rw [if_neg c104] at hf
    refine mx_WP.ialdx c104 ?_
    show mx_WP (d + 2) 38 27 [some (mx_r (some (0, 2, x0))), some (mx_r (some (0, 2, x1))), some (mx_i s.1)] [mx_i (s.2 66 x1 s.1.toNatClampNeg), mx_i (s.2 65 x1 s.1.toNatClampNeg), mx_r (some (0, 2, x0))] (hC s.2 J h, μ) Q
    refine mx_WP.go 3 (pc' := 32) (L' := [some (mx_r (some (0, 2, x0))), some (mx_r (some (0, 2, x1))), some (mx_i s.1)]) (st' := [mx_i s.1, mx_r (some (0, 67, x1)), mx_i (s.2 66 x1 s.1.toNatClampNeg), mx_i (s.2 65 x1 s.1.toNatClampNeg), mx_r (some (0, 2, x0))]) (σ' := (hC s.2 J h, μ)) rfl ?_
    by_cases c105 : s.1 < 0 ∨ 3 ≤ s.1.toNatClampNeg
    · rw [if_pos c105] at hf
      cases hf
    rw [if_neg c105] at hf
    refine mx_WP.ialdx c105 ?_
    show mx_WP (d + 2) 38 33 [some (mx_r (some (0, 2, x0))), some (mx_r (some (0, 2, x1))), some (mx_i s.1)] [mx_i (s.2 67 x1 s.1.toNatClampNeg), mx_i (s.2 66 x1 s.1.toNatClampNeg), mx_i (s.2 65 x1 s.1.toNatClampNeg), mx_r (some (0, 2, x0))] (hC s.2 J h, μ) Q
    obtain ⟨u106, e107, hf⟩ := Option.bind_eq_some_iff.mp hf
    refine mx_WP.call (d := d + 1) (y := 34) (as := [mx_r (some (0, 2, x0)), mx_i (s.2 65 x1 s.1.toNatClampNeg), mx_i (s.2 66 x1 s.1.toNatClampNeg), mx_i (s.2 67 x1 s.1.toNatClampNeg)]) (pc' := 36) (r := []) rfl rfl (T34 (d := d + 1)  e107 ?_)
    show mx_WP (d + 2) 38 36 [some (mx_r (some (0, 2, x0))), some (mx_r (some (0, 2, x1))), some (mx_i s.1)] [mx_i u106.1] (hC u106.2 J h, μ) Q
    refine mx_WP.go 3 (pc' := 6) (L' := [some (mx_r (some (0, 2, x0))), some (mx_r (some (0, 2, x1))), some (mx_i (s.1 + 1))]) (st' := []) (σ' := (hC u106.2 J h, μ)) rfl ?_
    rw [← Option.some.inj hf] at hk
    exact hk
theorem L38_6 {d : Nat} {x0 : Nat} {x1 : Nat} {I : Nat → Nat → Nat → Int32} {J : Nat → Nat → Nat → Int64} {h : Nat → Nat} {μ : mx_Rg × (Nat × (Nat → Int32)) × (Nat × Nat)} {Q : Option mx_V → mx_Hp → Prop} {n : Nat} {s : Int32 × (Nat → Nat → Nat → Int32)} {o : Int32 × (Nat → Nat → Nat → Int32)} (hf : mx_lp (b38_6 x0 x1 I J) n s = some o) (hk : (fun x : Int32 × (Nat → Nat → Nat → Int32) => mx_WP (d + 2) 38 43 [some (mx_r (some (0, 2, x0))), some (mx_r (some (0, 2, x1))), some (mx_i x.1)] [] (hC x.2 J h, μ) Q) o) : mx_WP (d + 2) 38 6 [some (mx_r (some (0, 2, x0))), some (mx_r (some (0, 2, x1))), some (mx_i s.1)] [] (hC s.2 J h, μ) Q := mx_lp_ok (P := fun s : Int32 × (Nat → Nat → Nat → Int32) => mx_WP (d + 2) 38 6 [some (mx_r (some (0, 2, x0))), some (mx_r (some (0, 2, x1))), some (mx_i s.1)] [] (hC s.2 J h, μ) Q) (E := (fun x : Int32 × (Nat → Nat → Nat → Int32) => mx_WP (d + 2) 38 43 [some (mx_r (some (0, 2, x0))), some (mx_r (some (0, 2, x1))), some (mx_i x.1)] [] (hC x.2 J h, μ) Q)) (fun s o hf hk => B38_6 hf hk) n s o hf hk
def b38_45 (x0 : Nat) (x1 : Nat) (I : Nat → Nat → Nat → Int32) (J : Nat → Nat → Nat → Int64) (s : Int32 × (Nat → Nat → Nat → Int32) × (Nat → Nat → Nat → Int64)) : Option ((Int32 × (Nat → Nat → Nat → Int32) × (Nat → Nat → Nat → Int64)) ⊕ (Int32 × (Nat → Nat → Nat → Int32) × (Nat → Nat → Nat → Int64))) :=
  if (s.2.1 2 x1 6) ≤ s.1 then (some (Sum.inr (s.1, s.2.1, s.2.2))) else if s.1 < 0 ∨ 4 ≤ s.1.toNatClampNeg then none else if s.1 < 0 ∨ 4 ≤ s.1.toNatClampNeg then none else (f35 x0 (s.2.2 68 x1 s.1.toNatClampNeg) (s.2.1 69 x1 s.1.toNatClampNeg) s.2.1 s.2.2).bind fun u213 =>
  some (Sum.inl (s.1 + 1, u213.2.1, u213.2.2))
theorem B38_45 {d : Nat} {x0 : Nat} {x1 : Nat} {I : Nat → Nat → Nat → Int32} {J : Nat → Nat → Nat → Int64} {h : Nat → Nat} {μ : mx_Rg × (Nat × (Nat → Int32)) × (Nat × Nat)} {Q : Option mx_V → mx_Hp → Prop} {s : Int32 × (Nat → Nat → Nat → Int32) × (Nat → Nat → Nat → Int64)} {o : (Int32 × (Nat → Nat → Nat → Int32) × (Nat → Nat → Nat → Int64)) ⊕ (Int32 × (Nat → Nat → Nat → Int32) × (Nat → Nat → Nat → Int64))} (hf : b38_45 x0 x1 I J s = some o) (hk : Sum.elim (fun s : Int32 × (Nat → Nat → Nat → Int32) × (Nat → Nat → Nat → Int64) => mx_WP (d + 2) 38 45 [some (mx_r (some (0, 2, x0))), some (mx_r (some (0, 2, x1))), some (mx_i s.1)] [] (hC s.2.1 s.2.2 h, μ) Q) (fun x : Int32 × (Nat → Nat → Nat → Int32) × (Nat → Nat → Nat → Int64) => mx_WP (d + 2) 38 76 [some (mx_r (some (0, 2, x0))), some (mx_r (some (0, 2, x1))), some (mx_i x.1)] [] (hC x.2.1 x.2.2 h, μ) Q) o) : mx_WP (d + 2) 38 45 [some (mx_r (some (0, 2, x0))), some (mx_r (some (0, 2, x1))), some (mx_i s.1)] [] (hC s.2.1 s.2.2 h, μ) Q := by
  unfold b38_45 at hf
  refine mx_WP.go 3 (pc' := 50) (L' := [some (mx_r (some (0, 2, x0))), some (mx_r (some (0, 2, x1))), some (mx_i s.1)]) (st' := [mx_i (s.2.1 2 x1 6), mx_i s.1]) (σ' := (hC s.2.1 s.2.2 h, μ)) rfl ?_
  by_cases c210 : (s.2.1 2 x1 6) ≤ s.1
  · rw [if_pos c210] at hf
    refine mx_WP.bge (x := s.1) (y := (s.2.1 2 x1 6)) (q := 76) (p3 := 53) rfl (fun _ => ?_) (fun hh => absurd c210 hh)
    rw [← Option.some.inj hf] at hk
    exact hk
  · rw [if_neg c210] at hf
    refine mx_WP.bge (x := s.1) (y := (s.2.1 2 x1 6)) (q := 76) (p3 := 53) rfl (fun hh => absurd hh c210) (fun _ => ?_)
    refine mx_WP.go 4 (pc' := 59) (L' := [some (mx_r (some (0, 2, x0))), some (mx_r (some (0, 2, x1))), some (mx_i s.1)]) (st' := [mx_i s.1, mx_r (some (0, 68, x1)), mx_r (some (0, 2, x0))]) (σ' := (hC s.2.1 s.2.2 h, μ)) rfl ?_
    by_cases c211 : s.1 < 0 ∨ 4 ≤ s.1.toNatClampNeg
    · rw [if_pos c211] at hf
      cases hf
    rw [if_neg c211] at hf
    refine mx_WP.laldx c211 ?_
    show mx_WP (d + 2) 38 60 [some (mx_r (some (0, 2, x0))), some (mx_r (some (0, 2, x1))), some (mx_i s.1)] [mx_l (s.2.2 68 x1 s.1.toNatClampNeg), mx_r (some (0, 2, x0))] (hC s.2.1 s.2.2 h, μ) Q
    refine mx_WP.go 3 (pc' := 65) (L' := [some (mx_r (some (0, 2, x0))), some (mx_r (some (0, 2, x1))), some (mx_i s.1)]) (st' := [mx_i s.1, mx_r (some (0, 69, x1)), mx_l (s.2.2 68 x1 s.1.toNatClampNeg), mx_r (some (0, 2, x0))]) (σ' := (hC s.2.1 s.2.2 h, μ)) rfl ?_
    by_cases c212 : s.1 < 0 ∨ 4 ≤ s.1.toNatClampNeg
    · rw [if_pos c212] at hf
      cases hf
    rw [if_neg c212] at hf
    refine mx_WP.ialdx c212 ?_
    show mx_WP (d + 2) 38 66 [some (mx_r (some (0, 2, x0))), some (mx_r (some (0, 2, x1))), some (mx_i s.1)] [mx_i (s.2.1 69 x1 s.1.toNatClampNeg), mx_l (s.2.2 68 x1 s.1.toNatClampNeg), mx_r (some (0, 2, x0))] (hC s.2.1 s.2.2 h, μ) Q
    obtain ⟨u213, e214, hf⟩ := Option.bind_eq_some_iff.mp hf
    refine mx_WP.call (d := d + 1) (y := 35) (as := [mx_r (some (0, 2, x0)), mx_l (s.2.2 68 x1 s.1.toNatClampNeg), mx_i (s.2.1 69 x1 s.1.toNatClampNeg)]) (pc' := 69) (r := []) rfl rfl (T35 (d := d + 1)  e214 ?_)
    show mx_WP (d + 2) 38 69 [some (mx_r (some (0, 2, x0))), some (mx_r (some (0, 2, x1))), some (mx_i s.1)] [mx_i u213.1] (hC u213.2.1 u213.2.2 h, μ) Q
    refine mx_WP.go 3 (pc' := 45) (L' := [some (mx_r (some (0, 2, x0))), some (mx_r (some (0, 2, x1))), some (mx_i (s.1 + 1))]) (st' := []) (σ' := (hC u213.2.1 u213.2.2 h, μ)) rfl ?_
    rw [← Option.some.inj hf] at hk
    exact hk
theorem L38_45 {d : Nat} {x0 : Nat} {x1 : Nat} {I : Nat → Nat → Nat → Int32} {J : Nat → Nat → Nat → Int64} {h : Nat → Nat} {μ : mx_Rg × (Nat × (Nat → Int32)) × (Nat × Nat)} {Q : Option mx_V → mx_Hp → Prop} {n : Nat} {s : Int32 × (Nat → Nat → Nat → Int32) × (Nat → Nat → Nat → Int64)} {o : Int32 × (Nat → Nat → Nat → Int32) × (Nat → Nat → Nat → Int64)} (hf : mx_lp (b38_45 x0 x1 I J) n s = some o) (hk : (fun x : Int32 × (Nat → Nat → Nat → Int32) × (Nat → Nat → Nat → Int64) => mx_WP (d + 2) 38 76 [some (mx_r (some (0, 2, x0))), some (mx_r (some (0, 2, x1))), some (mx_i x.1)] [] (hC x.2.1 x.2.2 h, μ) Q) o) : mx_WP (d + 2) 38 45 [some (mx_r (some (0, 2, x0))), some (mx_r (some (0, 2, x1))), some (mx_i s.1)] [] (hC s.2.1 s.2.2 h, μ) Q := mx_lp_ok (P := fun s : Int32 × (Nat → Nat → Nat → Int32) × (Nat → Nat → Nat → Int64) => mx_WP (d + 2) 38 45 [some (mx_r (some (0, 2, x0))), some (mx_r (some (0, 2, x1))), some (mx_i s.1)] [] (hC s.2.1 s.2.2 h, μ) Q) (E := (fun x : Int32 × (Nat → Nat → Nat → Int32) × (Nat → Nat → Nat → Int64) => mx_WP (d + 2) 38 76 [some (mx_r (some (0, 2, x0))), some (mx_r (some (0, 2, x1))), some (mx_i x.1)] [] (hC x.2.1 x.2.2 h, μ) Q)) (fun s o hf hk => B38_45 hf hk) n s o hf hk
def f38 (x0 : Nat) (x1 : Nat) (I : Nat → Nat → Nat → Int32) (J : Nat → Nat → Nat → Int64) : Option ((Nat → Nat → Nat → Int32) × (Nat → Nat → Nat → Int64)) :=
  (f37 x0 I J).bind fun u1 =>
  (mx_lp (b38_6 x0 x1 u1.1 u1.2) mx_fu ((0 : Int32), u1.1)).bind fun u108 =>
  (mx_lp (b38_45 x0 x1 u108.2 u1.2) mx_fu ((0 : Int32), u108.2, u1.2)).bind fun u215 =>
  (f36 x0 (u215.2.1 2 x1 7) (u215.2.2 2 x1 8) u215.2.1 u215.2.2).bind fun u217 =>
  some (u217.1, u217.2)
theorem T38 {d : Nat} {x0 : Nat} {x1 : Nat} {I : Nat → Nat → Nat → Int32} {J : Nat → Nat → Nat → Int64} {h : Nat → Nat} {μ : mx_Rg × (Nat × (Nat → Int32)) × (Nat × Nat)} {Q : Option mx_V → mx_Hp → Prop} {o : (Nat → Nat → Nat → Int32) × (Nat → Nat → Nat → Int64)} (hf : f38 x0 x1 I J = some o) (hk : Q (none) (hC o.1 o.2 h, μ)) : mx_WP (d + 2) 38 0 (mx_ent 38 [mx_r (some (0, 2, x0)), mx_r (some (0, 2, x1))]) [] (hC I J h, μ) Q := by
  unfold f38 at hf
  refine mx_WP.go 1 (pc' := 1) (L' := [some (mx_r (some (0, 2, x0))), some (mx_r (some (0, 2, x1))), none]) (st' := [mx_r (some (0, 2, x0))]) (σ' := (hC I J h, μ)) rfl ?_
  obtain ⟨u1, e219, hf⟩ := Option.bind_eq_some_iff.mp hf
  refine mx_WP.call (d := d + 1) (y := 37) (as := [mx_r (some (0, 2, x0))]) (pc' := 4) (r := []) rfl rfl (T37 (d := d + 0)  e219 ?_)
  show mx_WP (d + 2) 38 4 [some (mx_r (some (0, 2, x0))), some (mx_r (some (0, 2, x1))), none] [] (hC u1.1 u1.2 h, μ) Q
  refine mx_WP.go 2 (pc' := 6) (L' := [some (mx_r (some (0, 2, x0))), some (mx_r (some (0, 2, x1))), some (mx_i (0 : Int32))]) (st' := []) (σ' := (hC u1.1 u1.2 h, μ)) rfl ?_
  obtain ⟨u108, e109, hf⟩ := Option.bind_eq_some_iff.mp hf
  refine L38_6 (d := d) e109 ?_
  show mx_WP (d + 2) 38 43 [some (mx_r (some (0, 2, x0))), some (mx_r (some (0, 2, x1))), some (mx_i u108.1)] [] (hC u108.2 u1.2 h, μ) Q
  refine mx_WP.go 2 (pc' := 45) (L' := [some (mx_r (some (0, 2, x0))), some (mx_r (some (0, 2, x1))), some (mx_i (0 : Int32))]) (st' := []) (σ' := (hC u108.2 u1.2 h, μ)) rfl ?_
  obtain ⟨u215, e216, hf⟩ := Option.bind_eq_some_iff.mp hf
  refine L38_45 (d := d) e216 ?_
  show mx_WP (d + 2) 38 76 [some (mx_r (some (0, 2, x0))), some (mx_r (some (0, 2, x1))), some (mx_i u215.1)] [] (hC u215.2.1 u215.2.2 h, μ) Q
  refine mx_WP.go 5 (pc' := 85) (L' := [some (mx_r (some (0, 2, x0))), some (mx_r (some (0, 2, x1))), some (mx_i u215.1)]) (st' := [mx_l (u215.2.2 2 x1 8), mx_i (u215.2.1 2 x1 7), mx_r (some (0, 2, x0))]) (σ' := (hC u215.2.1 u215.2.2 h, μ)) rfl ?_
  obtain ⟨u217, e218, hf⟩ := Option.bind_eq_some_iff.mp hf
  refine mx_WP.call (d := d + 1) (y := 36) (as := [mx_r (some (0, 2, x0)), mx_i (u215.2.1 2 x1 7), mx_l (u215.2.2 2 x1 8)]) (pc' := 88) (r := []) rfl rfl (T36 (d := d + 1)  e218 ?_)
  show mx_WP (d + 2) 38 88 [some (mx_r (some (0, 2, x0))), some (mx_r (some (0, 2, x1))), some (mx_i u215.1)] [] (hC u217.1 u217.2 h, μ) Q
  rw [← Option.some.inj hf] at hk
  refine mx_WP.ret (v := none) rfl ?_
  exact hk
def f48 (x0 : Nat) (I : Nat → Nat → Nat → Int32) : Option ((Nat → Nat → Nat → Int32)) :=
  some (mx_u3 I 4 x0 2 (0 : Int32))
theorem T48 {d : Nat} {x0 : Nat} {I : Nat → Nat → Nat → Int32} {J : Nat → Nat → Nat → Int64} {h : Nat → Nat} {μ : mx_Rg × (Nat × (Nat → Int32)) × (Nat × Nat)} {Q : Option mx_V → mx_Hp → Prop} {o : (Nat → Nat → Nat → Int32)} (hf : f48 x0 I = some o) (hk : Q (none) (hC o J h, μ)) : mx_WP (d + 0) 48 0 (mx_ent 48 [mx_r (some (0, 4, x0))]) [] (hC I J h, μ) Q := by
  unfold f48 at hf
  refine mx_WP.go 3 (pc' := 5) (L' := [some (mx_r (some (0, 4, x0)))]) (st' := []) (σ' := (hC (mx_u3 I 4 x0 2 (0 : Int32)) J h, μ)) rfl ?_
  rw [← Option.some.inj hf] at hk
  refine mx_WP.ret (v := none) rfl ?_
  exact hk
def f58 (x0 : Nat) (x1 : Int32) (I : Nat → Nat → Nat → Int32) : Option (Bool × (Nat → Nat → Nat → Int32)) :=
  some (true, (mx_u3 I 5 x0 2 x1))
theorem T58 {d : Nat} {x0 : Nat} {x1 : Int32} {I : Nat → Nat → Nat → Int32} {J : Nat → Nat → Nat → Int64} {h : Nat → Nat} {μ : mx_Rg × (Nat × (Nat → Int32)) × (Nat × Nat)} {Q : Option mx_V → mx_Hp → Prop} {o : Bool × (Nat → Nat → Nat → Int32)} (hf : f58 x0 x1 I = some o) (hk : Q (some (mx_i (b2i o.1))) (hC o.2 J h, μ)) : mx_WP (d + 0) 58 0 (mx_ent 58 [mx_r (some (0, 5, x0)), mx_i x1]) [] (hC I J h, μ) Q := by
  unfold f58 at hf
  refine mx_WP.go 4 (pc' := 6) (L' := [some (mx_r (some (0, 5, x0))), some (mx_i x1)]) (st' := [mx_i (1 : Int32)]) (σ' := (hC (mx_u3 I 5 x0 2 x1) J h, μ)) rfl ?_
  rw [← Option.some.inj hf] at hk
  refine mx_WP.ret (v := some (mx_i (1 : Int32))) rfl ?_
  exact hk
def f49 (x0 : Nat) (I : Nat → Nat → Nat → Int32) : Option (Bool) :=
  if (16 : Int32) ≤ (I 4 x0 2) then (some false) else some true
theorem T49 {d : Nat} {x0 : Nat} {I : Nat → Nat → Nat → Int32} {J : Nat → Nat → Nat → Int64} {h : Nat → Nat} {μ : mx_Rg × (Nat × (Nat → Int32)) × (Nat × Nat)} {Q : Option mx_V → mx_Hp → Prop} {o : Bool} (hf : f49 x0 I = some o) (hk : Q (some (mx_i (b2i o))) (hC I J h, μ)) : mx_WP (d + 0) 49 0 (mx_ent 49 [mx_r (some (0, 4, x0))]) [] (hC I J h, μ) Q := by
  unfold f49 at hf
  refine mx_WP.go 3 (pc' := 6) (L' := [some (mx_r (some (0, 4, x0)))]) (st' := [mx_i (16 : Int32), mx_i (I 4 x0 2)]) (σ' := (hC I J h, μ)) rfl ?_
  by_cases c1 : (16 : Int32) ≤ (I 4 x0 2)
  · rw [if_pos c1] at hf
    refine mx_WP.bge (x := (I 4 x0 2)) (y := (16 : Int32)) (q := 13) (p3 := 9) rfl (fun _ => ?_) (fun hh => absurd c1 hh)
    refine mx_WP.go 1 (pc' := 14) (L' := [some (mx_r (some (0, 4, x0)))]) (st' := [mx_i (0 : Int32)]) (σ' := (hC I J h, μ)) rfl ?_
    rw [← Option.some.inj hf] at hk
    refine mx_WP.ret (v := some (mx_i (0 : Int32))) rfl ?_
    exact hk
  · rw [if_neg c1] at hf
    refine mx_WP.bge (x := (I 4 x0 2)) (y := (16 : Int32)) (q := 13) (p3 := 9) rfl (fun hh => absurd hh c1) (fun _ => ?_)
    refine mx_WP.go 2 (pc' := 14) (L' := [some (mx_r (some (0, 4, x0)))]) (st' := [mx_i (1 : Int32)]) (σ' := (hC I J h, μ)) rfl ?_
    rw [← Option.some.inj hf] at hk
    refine mx_WP.ret (v := some (mx_i (1 : Int32))) rfl ?_
    exact hk
def f59 (x0 : Int32) : Option (Bool) :=
  if x0 = (32 : Int32) then (some true) else if x0 = (10 : Int32) then (some true) else some false
theorem T59 {d : Nat} {x0 : Int32} {σ : mx_Hp} {Q : Option mx_V → mx_Hp → Prop} {o : Bool} (hf : f59 x0 = some o) (hk : Q (some (mx_i (b2i o))) σ) : mx_WP (d + 0) 59 0 (mx_ent 59 [mx_i x0]) [] σ Q := by
  unfold f59 at hf
  refine mx_WP.go 2 (pc' := 3) (L' := [some (mx_i x0)]) (st' := [mx_i (32 : Int32), mx_i x0]) (σ' := σ) rfl ?_
  by_cases c1 : x0 = (32 : Int32)
  · rw [if_pos c1] at hf
    refine mx_WP.beq (x := x0) (y := (32 : Int32)) (q := 12) (p3 := 6) rfl (fun _ => ?_) (fun hh => absurd c1 hh)
    refine mx_WP.go 2 (pc' := 17) (L' := [some (mx_i x0)]) (st' := [mx_i (1 : Int32)]) (σ' := σ) rfl ?_
    rw [← Option.some.inj hf] at hk
    refine mx_WP.ret (v := some (mx_i (1 : Int32))) rfl ?_
    exact hk
  · rw [if_neg c1] at hf
    refine mx_WP.beq (x := x0) (y := (32 : Int32)) (q := 12) (p3 := 6) rfl (fun hh => absurd hh c1) (fun _ => ?_)
    refine mx_WP.go 2 (pc' := 9) (L' := [some (mx_i x0)]) (st' := [mx_i (10 : Int32), mx_i x0]) (σ' := σ) rfl ?_
    by_cases c2 : x0 = (10 : Int32)
    · rw [if_pos c2] at hf
      refine mx_WP.bne (x := x0) (y := (10 : Int32)) (q := 16) (p3 := 12) rfl (fun hh => absurd c2 hh) (fun _ => ?_)
      refine mx_WP.go 2 (pc' := 17) (L' := [some (mx_i x0)]) (st' := [mx_i (1 : Int32)]) (σ' := σ) rfl ?_
      rw [← Option.some.inj hf] at hk
      refine mx_WP.ret (v := some (mx_i (1 : Int32))) rfl ?_
      exact hk
    · rw [if_neg c2] at hf
      refine mx_WP.bne (x := x0) (y := (10 : Int32)) (q := 16) (p3 := 12) rfl (fun _ => ?_) (fun hh => absurd c2 hh)
      refine mx_WP.go 1 (pc' := 17) (L' := [some (mx_i x0)]) (st' := [mx_i (0 : Int32)]) (σ' := σ) rfl ?_
      rw [← Option.some.inj hf] at hk
      refine mx_WP.ret (v := some (mx_i (0 : Int32))) rfl ?_
      exact hk
def f57 (x0 : Nat) (x1 : Int32) (I : Nat → Nat → Nat → Int32) (h : Nat → Nat) : Option (Bool × (Nat → Nat → Nat → Int32)) :=
  if x1 = (60 : Int32) then (if (0 : Int32) < (I 3 (h x0) 6) then ((f58 x0 (1 : Int32) I).bind fun u3 =>
  if u3.1 = true then (some (true, u3.2)) else some (false, u3.2)) else (f49 x0 I).bind fun u6 =>
  if u6 = true then ((f58 x0 (1 : Int32) I).bind fun u8 =>
  if u8.1 = true then (some (true, u8.2)) else some (false, u8.2)) else some (false, I)) else (f59 x1).bind fun u12 =>
  some (u12, I)
theorem T57 {d : Nat} {x0 : Nat} {x1 : Int32} {I : Nat → Nat → Nat → Int32} {J : Nat → Nat → Nat → Int64} {h : Nat → Nat} {μ : mx_Rg × (Nat × (Nat → Int32)) × (Nat × Nat)} {Q : Option mx_V → mx_Hp → Prop} {o : Bool × (Nat → Nat → Nat → Int32)} (hf : f57 x0 x1 I h = some o) (hk : Q (some (mx_i (b2i o.1))) (hC o.2 J h, μ)) : mx_WP (d + 1) 57 0 (mx_ent 57 [mx_r (some (0, 5, x0)), mx_i x1]) [] (hC I J h, μ) Q := by
  unfold f57 at hf
  refine mx_WP.go 2 (pc' := 3) (L' := [some (mx_r (some (0, 5, x0))), some (mx_i x1)]) (st' := [mx_i (60 : Int32), mx_i x1]) (σ' := (hC I J h, μ)) rfl ?_
  by_cases c1 : x1 = (60 : Int32)
  · rw [if_pos c1] at hf
    refine mx_WP.bne (x := x1) (y := (60 : Int32)) (q := 40) (p3 := 6) rfl (fun hh => absurd c1 hh) (fun _ => ?_)
    refine mx_WP.go 3 (pc' := 13) (L' := [some (mx_r (some (0, 5, x0))), some (mx_i x1)]) (st' := [mx_i (I 3 (h x0) 6)]) (σ' := (hC I J h, μ)) rfl ?_
    by_cases c2 : (0 : Int32) < (I 3 (h x0) 6)
    · rw [if_pos c2] at hf
      refine mx_WP.bgt (x := (I 3 (h x0) 6)) (y := (0 : Int32)) (q := 26) (p3 := 16) rfl (fun _ => ?_) (fun hh => absurd c2 hh)
      refine mx_WP.go 2 (pc' := 28) (L' := [some (mx_r (some (0, 5, x0))), some (mx_i x1)]) (st' := [mx_i (1 : Int32), mx_r (some (0, 5, x0))]) (σ' := (hC I J h, μ)) rfl ?_
      obtain ⟨u3, e5, hf⟩ := Option.bind_eq_some_iff.mp hf
      refine mx_WP.call (d := d + 0) (y := 58) (as := [mx_r (some (0, 5, x0)), mx_i (1 : Int32)]) (pc' := 31) (r := []) rfl rfl (T58 (d := d + 0)  e5 ?_)
      show mx_WP (d + 1) 57 31 [some (mx_r (some (0, 5, x0))), some (mx_i x1)] [mx_i (b2i u3.1)] (hC u3.2 J h, μ) Q
      by_cases c4 : u3.1 = true
      · rw [if_pos c4] at hf
        refine mx_WP.zeq (b := u3.1) (q := 38) (p3 := 34) rfl (fun hh => absurd hh (by simp [c4])) (fun _ => ?_)
        refine mx_WP.go 2 (pc' := 39) (L' := [some (mx_r (some (0, 5, x0))), some (mx_i x1)]) (st' := [mx_i (1 : Int32)]) (σ' := (hC u3.2 J h, μ)) rfl ?_
        rw [← Option.some.inj hf] at hk
        refine mx_WP.ret (v := some (mx_i (1 : Int32))) rfl ?_
        exact hk
      · rw [if_neg c4] at hf
        refine mx_WP.zeq (b := u3.1) (q := 38) (p3 := 34) rfl (fun _ => ?_) (fun hh => absurd hh (by simp [c4]))
        refine mx_WP.go 1 (pc' := 39) (L' := [some (mx_r (some (0, 5, x0))), some (mx_i x1)]) (st' := [mx_i (0 : Int32)]) (σ' := (hC u3.2 J h, μ)) rfl ?_
        rw [← Option.some.inj hf] at hk
        refine mx_WP.ret (v := some (mx_i (0 : Int32))) rfl ?_
        exact hk
    · rw [if_neg c2] at hf
      refine mx_WP.bgt (x := (I 3 (h x0) 6)) (y := (0 : Int32)) (q := 26) (p3 := 16) rfl (fun hh => absurd hh c2) (fun _ => ?_)
      refine mx_WP.go 2 (pc' := 20) (L' := [some (mx_r (some (0, 5, x0))), some (mx_i x1)]) (st' := [mx_r (some (0, 4, x0))]) (σ' := (hC I J h, μ)) rfl ?_
      obtain ⟨u6, e11, hf⟩ := Option.bind_eq_some_iff.mp hf
      refine mx_WP.call (d := d + 0) (y := 49) (as := [mx_r (some (0, 4, x0))]) (pc' := 23) (r := []) rfl rfl (T49 (d := d + 0)  e11 ?_)
      show mx_WP (d + 1) 57 23 [some (mx_r (some (0, 5, x0))), some (mx_i x1)] [mx_i (b2i u6)] (hC I J h, μ) Q
      by_cases c7 : u6 = true
      · rw [if_pos c7] at hf
        refine mx_WP.zeq (b := u6) (q := 38) (p3 := 26) rfl (fun hh => absurd hh (by simp [c7])) (fun _ => ?_)
        refine mx_WP.go 2 (pc' := 28) (L' := [some (mx_r (some (0, 5, x0))), some (mx_i x1)]) (st' := [mx_i (1 : Int32), mx_r (some (0, 5, x0))]) (σ' := (hC I J h, μ)) rfl ?_
        obtain ⟨u8, e10, hf⟩ := Option.bind_eq_some_iff.mp hf
        refine mx_WP.call (d := d + 0) (y := 58) (as := [mx_r (some (0, 5, x0)), mx_i (1 : Int32)]) (pc' := 31) (r := []) rfl rfl (T58 (d := d + 0)  e10 ?_)
        show mx_WP (d + 1) 57 31 [some (mx_r (some (0, 5, x0))), some (mx_i x1)] [mx_i (b2i u8.1)] (hC u8.2 J h, μ) Q
        by_cases c9 : u8.1 = true
        · rw [if_pos c9] at hf
          refine mx_WP.zeq (b := u8.1) (q := 38) (p3 := 34) rfl (fun hh => absurd hh (by simp [c9])) (fun _ => ?_)
          refine mx_WP.go 2 (pc' := 39) (L' := [some (mx_r (some (0, 5, x0))), some (mx_i x1)]) (st' := [mx_i (1 : Int32)]) (σ' := (hC u8.2 J h, μ)) rfl ?_
          rw [← Option.some.inj hf] at hk
          refine mx_WP.ret (v := some (mx_i (1 : Int32))) rfl ?_
          exact hk
        · rw [if_neg c9] at hf
          refine mx_WP.zeq (b := u8.1) (q := 38) (p3 := 34) rfl (fun _ => ?_) (fun hh => absurd hh (by simp [c9]))
          refine mx_WP.go 1 (pc' := 39) (L' := [some (mx_r (some (0, 5, x0))), some (mx_i x1)]) (st' := [mx_i (0 : Int32)]) (σ' := (hC u8.2 J h, μ)) rfl ?_
          rw [← Option.some.inj hf] at hk
          refine mx_WP.ret (v := some (mx_i (0 : Int32))) rfl ?_
          exact hk
      · rw [if_neg c7] at hf
        refine mx_WP.zeq (b := u6) (q := 38) (p3 := 26) rfl (fun _ => ?_) (fun hh => absurd hh (by simp [c7]))
        refine mx_WP.go 1 (pc' := 39) (L' := [some (mx_r (some (0, 5, x0))), some (mx_i x1)]) (st' := [mx_i (0 : Int32)]) (σ' := (hC I J h, μ)) rfl ?_
        rw [← Option.some.inj hf] at hk
        refine mx_WP.ret (v := some (mx_i (0 : Int32))) rfl ?_
        exact hk
  · rw [if_neg c1] at hf
    refine mx_WP.bne (x := x1) (y := (60 : Int32)) (q := 40) (p3 := 6) rfl (fun _ => ?_) (fun hh => absurd c1 hh)
    refine mx_WP.go 1 (pc' := 41) (L' := [some (mx_r (some (0, 5, x0))), some (mx_i x1)]) (st' := [mx_i x1]) (σ' := (hC I J h, μ)) rfl ?_
    obtain ⟨u12, e13, hf⟩ := Option.bind_eq_some_iff.mp hf
    refine mx_WP.call (d := d + 0) (y := 59) (as := [mx_i x1]) (pc' := 44) (r := []) rfl rfl (T59 (d := d + 0)  e13 ?_)
    show mx_WP (d + 1) 57 44 [some (mx_r (some (0, 5, x0))), some (mx_i x1)] [mx_i (b2i u12)] (hC I J h, μ) Q
    rw [← Option.some.inj hf] at hk
    refine mx_WP.retz (b2i_01 _) (by rfl) (by rfl) ?_
    exact hk
def f61 (x0 : Nat) (x1 : Int32) (I : Nat → Nat → Nat → Int32) (J : Nat → Nat → Nat → Int64) : Option (Bool × (Nat → Nat → Nat → Int32) × (Nat → Nat → Nat → Int64)) :=
  (f58 x0 x1 (mx_u3 I 5 x0 4 (0 : Int32))).bind fun u1 =>
  some (u1.1, u1.2, (mx_u3 J 5 x0 3 (0 : Int64)))
theorem T61 {d : Nat} {x0 : Nat} {x1 : Int32} {I : Nat → Nat → Nat → Int32} {J : Nat → Nat → Nat → Int64} {h : Nat → Nat} {μ : mx_Rg × (Nat × (Nat → Int32)) × (Nat × Nat)} {Q : Option mx_V → mx_Hp → Prop} {o : Bool × (Nat → Nat → Nat → Int32) × (Nat → Nat → Nat → Int64)} (hf : f61 x0 x1 I J = some o) (hk : Q (some (mx_i (b2i o.1))) (hC o.2.1 o.2.2 h, μ)) : mx_WP (d + 1) 61 0 (mx_ent 61 [mx_r (some (0, 5, x0)), mx_i x1]) [] (hC I J h, μ) Q := by
  unfold f61 at hf
  refine mx_WP.go 8 (pc' := 12) (L' := [some (mx_r (some (0, 5, x0))), some (mx_i x1)]) (st' := [mx_i x1, mx_r (some (0, 5, x0))]) (σ' := (hC (mx_u3 I 5 x0 4 (0 : Int32)) (mx_u3 J 5 x0 3 (0 : Int64)) h, μ)) rfl ?_
  obtain ⟨u1, e2, hf⟩ := Option.bind_eq_some_iff.mp hf
  refine mx_WP.call (d := d + 0) (y := 58) (as := [mx_r (some (0, 5, x0)), mx_i x1]) (pc' := 15) (r := []) rfl rfl (T58 (d := d + 0)  e2 ?_)
  show mx_WP (d + 1) 61 15 [some (mx_r (some (0, 5, x0))), some (mx_i x1)] [mx_i (b2i u1.1)] (hC u1.2 (mx_u3 J 5 x0 3 (0 : Int64)) h, μ) Q
  rw [← Option.some.inj hf] at hk
  refine mx_WP.retz (b2i_01 _) (by rfl) (by rfl) ?_
  exact hk
def f42 (x0 : Nat) (x1 : Nat) (x2 : Int32) (I : Nat → Nat → Nat → Int32) (J : Nat → Nat → Nat → Int64) : Option ((Nat → Nat → Nat → Int32) × (Nat → Nat → Nat → Int64)) :=
  if ((mx_u3 (mx_u3 (mx_u3 I 3 x0 3 x2) 3 x0 4 ((mx_u3 I 3 x0 3 x2) 3 x1 3)) 3 x0 6 (((mx_u3 (mx_u3 I 3 x0 3 x2) 3 x0 4 ((mx_u3 I 3 x0 3 x2) 3 x1 3)) 3 x1 6) + (1 : Int32))) 3 x0 6) = (1 : Int32) then (some ((mx_u3 (mx_u3 (mx_u3 (mx_u3 (mx_u3 I 3 x0 3 x2) 3 x0 4 ((mx_u3 I 3 x0 3 x2) 3 x1 3)) 3 x0 6 (((mx_u3 (mx_u3 I 3 x0 3 x2) 3 x0 4 ((mx_u3 I 3 x0 3 x2) 3 x1 3)) 3 x1 6) + (1 : Int32))) 3 x0 5 x2) 3 x0 2 (0 : Int32)), (mx_u3 J 3 x0 7 (0 : Int64)))) else some ((mx_u3 (mx_u3 (mx_u3 (mx_u3 (mx_u3 I 3 x0 3 x2) 3 x0 4 ((mx_u3 I 3 x0 3 x2) 3 x1 3)) 3 x0 6 (((mx_u3 (mx_u3 I 3 x0 3 x2) 3 x0 4 ((mx_u3 I 3 x0 3 x2) 3 x1 3)) 3 x1 6) + (1 : Int32))) 3 x0 5 ((mx_u3 (mx_u3 (mx_u3 I 3 x0 3 x2) 3 x0 4 ((mx_u3 I 3 x0 3 x2) 3 x1 3)) 3 x0 6 (((mx_u3 (mx_u3 I 3 x0 3 x2) 3 x0 4 ((mx_u3 I 3 x0 3 x2) 3 x1 3)) 3 x1 6) + (1 : Int32))) 3 x1 5)) 3 x0 2 (0 : Int32)), (mx_u3 J 3 x0 7 (0 : Int64)))
theorem T42 {d : Nat} {x0 : Nat} {x1 : Nat} {x2 : Int32} {I : Nat → Nat → Nat → Int32} {J : Nat → Nat → Nat → Int64} {h : Nat → Nat} {μ : mx_Rg × (Nat × (Nat → Int32)) × (Nat × Nat)} {Q : Option mx_V → mx_Hp → Prop} {o : (Nat → Nat → Nat → Int32) × (Nat → Nat → Nat → Int64)} (hf : f42 x0 x1 x2 I J = some o) (hk : Q (none) (hC o.1 o.2 h, μ)) : mx_WP (d + 0) 42 0 (mx_ent 42 [mx_r (some (0, 3, x0)), mx_r (some (0, 3, x1)), mx_i x2]) [] (hC I J h, μ) Q := by
  unfold f42 at hf
  refine mx_WP.go 17 (pc' := 29) (L' := [some (mx_r (some (0, 3, x0))), some (mx_r (some (0, 3, x1))), some (mx_i x2)]) (st' := [mx_i (1 : Int32), mx_i ((mx_u3 (mx_u3 (mx_u3 I 3 x0 3 x2) 3 x0 4 ((mx_u3 I 3 x0 3 x2) 3 x1 3)) 3 x0 6 (((mx_u3 (mx_u3 I 3 x0 3 x2) 3 x0 4 ((mx_u3 I 3 x0 3 x2) 3 x1 3)) 3 x1 6) + (1 : Int32))) 3 x0 6), mx_r (some (0, 3, x0))]) (σ' := (hC (mx_u3 (mx_u3 (mx_u3 I 3 x0 3 x2) 3 x0 4 ((mx_u3 I 3 x0 3 x2) 3 x1 3)) 3 x0 6 (((mx_u3 (mx_u3 I 3 x0 3 x2) 3 x0 4 ((mx_u3 I 3 x0 3 x2) 3 x1 3)) 3 x1 6) + (1 : Int32))) J h, μ)) rfl ?_
  by_cases c1 : ((mx_u3 (mx_u3 (mx_u3 I 3 x0 3 x2) 3 x0 4 ((mx_u3 I 3 x0 3 x2) 3 x1 3)) 3 x0 6 (((mx_u3 (mx_u3 I 3 x0 3 x2) 3 x0 4 ((mx_u3 I 3 x0 3 x2) 3 x1 3)) 3 x1 6) + (1 : Int32))) 3 x0 6) = (1 : Int32)
  · rw [if_pos c1] at hf
    refine mx_WP.bne (x := ((mx_u3 (mx_u3 (mx_u3 I 3 x0 3 x2) 3 x0 4 ((mx_u3 I 3 x0 3 x2) 3 x1 3)) 3 x0 6 (((mx_u3 (mx_u3 I 3 x0 3 x2) 3 x0 4 ((mx_u3 I 3 x0 3 x2) 3 x1 3)) 3 x1 6) + (1 : Int32))) 3 x0 6)) (y := (1 : Int32)) (q := 36) (p3 := 32) rfl (fun hh => absurd c1 hh) (fun _ => ?_)
    refine mx_WP.go 9 (pc' := 53) (L' := [some (mx_r (some (0, 3, x0))), some (mx_r (some (0, 3, x1))), some (mx_i x2)]) (st' := []) (σ' := (hC (mx_u3 (mx_u3 (mx_u3 (mx_u3 (mx_u3 I 3 x0 3 x2) 3 x0 4 ((mx_u3 I 3 x0 3 x2) 3 x1 3)) 3 x0 6 (((mx_u3 (mx_u3 I 3 x0 3 x2) 3 x0 4 ((mx_u3 I 3 x0 3 x2) 3 x1 3)) 3 x1 6) + (1 : Int32))) 3 x0 5 x2) 3 x0 2 (0 : Int32)) (mx_u3 J 3 x0 7 (0 : Int64)) h, μ)) rfl ?_
    rw [← Option.some.inj hf] at hk
    refine mx_WP.ret (v := none) rfl ?_
    exact hk
  · rw [if_neg c1] at hf
    refine mx_WP.bne (x := ((mx_u3 (mx_u3 (mx_u3 I 3 x0 3 x2) 3 x0 4 ((mx_u3 I 3 x0 3 x2) 3 x1 3)) 3 x0 6 (((mx_u3 (mx_u3 I 3 x0 3 x2) 3 x0 4 ((mx_u3 I 3 x0 3 x2) 3 x1 3)) 3 x1 6) + (1 : Int32))) 3 x0 6)) (y := (1 : Int32)) (q := 36) (p3 := 32) rfl (fun _ => ?_) (fun hh => absurd c1 hh)
    refine mx_WP.go 9 (pc' := 53) (L' := [some (mx_r (some (0, 3, x0))), some (mx_r (some (0, 3, x1))), some (mx_i x2)]) (st' := []) (σ' := (hC (mx_u3 (mx_u3 (mx_u3 (mx_u3 (mx_u3 I 3 x0 3 x2) 3 x0 4 ((mx_u3 I 3 x0 3 x2) 3 x1 3)) 3 x0 6 (((mx_u3 (mx_u3 I 3 x0 3 x2) 3 x0 4 ((mx_u3 I 3 x0 3 x2) 3 x1 3)) 3 x1 6) + (1 : Int32))) 3 x0 5 ((mx_u3 (mx_u3 (mx_u3 I 3 x0 3 x2) 3 x0 4 ((mx_u3 I 3 x0 3 x2) 3 x1 3)) 3 x0 6 (((mx_u3 (mx_u3 I 3 x0 3 x2) 3 x0 4 ((mx_u3 I 3 x0 3 x2) 3 x1 3)) 3 x1 6) + (1 : Int32))) 3 x1 5)) 3 x0 2 (0 : Int32)) (mx_u3 J 3 x0 7 (0 : Int64)) h, μ)) rfl ?_
    rw [← Option.some.inj hf] at hk
    refine mx_WP.ret (v := none) rfl ?_
    exact hk
def f50 (x0 : Nat) (x1 : Nat) (I : Nat → Nat → Nat → Int32) (J : Nat → Nat → Nat → Int64) : Option (Nat × (Nat → Nat → Nat → Int32) × (Nat → Nat → Nat → Int64)) :=
  (f49 x0 I).bind fun u1 =>
  if u1 = true then (if (I 4 x0 2) < 0 ∨ 16 ≤ (I 4 x0 2).toNatClampNeg then none else (f42 (1 + 16 * x0 + (I 4 x0 2).toNatClampNeg) x1 (I 4 x0 2) I J).bind fun u4 =>
  some ((1 + 16 * x0 + (I 4 x0 2).toNatClampNeg), (mx_u3 u4.1 4 x0 2 ((u4.1 4 x0 2) + (1 : Int32))), u4.2)) else some (x1, I, J)
theorem T50 {d : Nat} {x0 : Nat} {x1 : Nat} {I : Nat → Nat → Nat → Int32} {J : Nat → Nat → Nat → Int64} {h : Nat → Nat} {μ : mx_Rg × (Nat × (Nat → Int32)) × (Nat × Nat)} {Q : Option mx_V → mx_Hp → Prop} {o : Nat × (Nat → Nat → Nat → Int32) × (Nat → Nat → Nat → Int64)} (hf : f50 x0 x1 I J = some o) (hk : Q (some (mx_r (some (0, 3, o.1)))) (hC o.2.1 o.2.2 h, μ)) : mx_WP (d + 1) 50 0 (mx_ent 50 [mx_r (some (0, 4, x0)), mx_r (some (0, 3, x1))]) [] (hC I J h, μ) Q := by
  unfold f50 at hf
  refine mx_WP.go 1 (pc' := 1) (L' := [some (mx_r (some (0, 4, x0))), some (mx_r (some (0, 3, x1))), none]) (st' := [mx_r (some (0, 4, x0))]) (σ' := (hC I J h, μ)) rfl ?_
  obtain ⟨u1, e6, hf⟩ := Option.bind_eq_some_iff.mp hf
  refine mx_WP.call (d := d + 0) (y := 49) (as := [mx_r (some (0, 4, x0))]) (pc' := 4) (r := []) rfl rfl (T49 (d := d + 0)  e6 ?_)
  show mx_WP (d + 1) 50 4 [some (mx_r (some (0, 4, x0))), some (mx_r (some (0, 3, x1))), none] [mx_i (b2i u1)] (hC I J h, μ) Q
  by_cases c2 : u1 = true
  · rw [if_pos c2] at hf
    refine mx_WP.zne (b := u1) (q := 9) (p3 := 7) rfl (fun _ => ?_) (fun hh => absurd hh (by simp [c2]))
    refine mx_WP.go 4 (pc' := 17) (L' := [some (mx_r (some (0, 4, x0))), some (mx_r (some (0, 3, x1))), none]) (st' := [mx_i (I 4 x0 2), mx_r (some (0, 72, x0))]) (σ' := (hC I J h, μ)) rfl ?_
    by_cases c3 : (I 4 x0 2) < 0 ∨ 16 ≤ (I 4 x0 2).toNatClampNeg
    · rw [if_pos c3] at hf
      cases hf
    rw [if_neg c3] at hf
    refine mx_WP.aal72 c3 ?_
    show mx_WP (d + 1) 50 18 [some (mx_r (some (0, 4, x0))), some (mx_r (some (0, 3, x1))), none] [mx_r (some (0, 3, (1 + 16 * x0 + (I 4 x0 2).toNatClampNeg)))] (hC I J h, μ) Q
    refine mx_WP.go 5 (pc' := 25) (L' := [some (mx_r (some (0, 4, x0))), some (mx_r (some (0, 3, x1))), some (mx_r (some (0, 3, (1 + 16 * x0 + (I 4 x0 2).toNatClampNeg))))]) (st' := [mx_i (I 4 x0 2), mx_r (some (0, 3, x1)), mx_r (some (0, 3, (1 + 16 * x0 + (I 4 x0 2).toNatClampNeg)))]) (σ' := (hC I J h, μ)) rfl ?_
    obtain ⟨u4, e5, hf⟩ := Option.bind_eq_some_iff.mp hf
    refine mx_WP.call (d := d + 0) (y := 42) (as := [mx_r (some (0, 3, (1 + 16 * x0 + (I 4 x0 2).toNatClampNeg))), mx_r (some (0, 3, x1)), mx_i (I 4 x0 2)]) (pc' := 28) (r := []) rfl rfl (T42 (d := d + 0)  e5 ?_)
    show mx_WP (d + 1) 50 28 [some (mx_r (some (0, 4, x0))), some (mx_r (some (0, 3, x1))), some (mx_r (some (0, 3, (1 + 16 * x0 + (I 4 x0 2).toNatClampNeg))))] [] (hC u4.1 u4.2 h, μ) Q
    refine mx_WP.go 7 (pc' := 39) (L' := [some (mx_r (some (0, 4, x0))), some (mx_r (some (0, 3, x1))), some (mx_r (some (0, 3, (1 + 16 * x0 + (I 4 x0 2).toNatClampNeg))))]) (st' := [mx_r (some (0, 3, (1 + 16 * x0 + (I 4 x0 2).toNatClampNeg)))]) (σ' := (hC (mx_u3 u4.1 4 x0 2 ((u4.1 4 x0 2) + (1 : Int32))) u4.2 h, μ)) rfl ?_
    rw [← Option.some.inj hf] at hk
    refine mx_WP.ret (v := some (mx_r (some (0, 3, (1 + 16 * x0 + (I 4 x0 2).toNatClampNeg))))) rfl ?_
    exact hk
  · rw [if_neg c2] at hf
    refine mx_WP.zne (b := u1) (q := 9) (p3 := 7) rfl (fun hh => absurd hh (by simp [c2])) (fun _ => ?_)
    refine mx_WP.go 1 (pc' := 8) (L' := [some (mx_r (some (0, 4, x0))), some (mx_r (some (0, 3, x1))), none]) (st' := [mx_r (some (0, 3, x1))]) (σ' := (hC I J h, μ)) rfl ?_
    rw [← Option.some.inj hf] at hk
    refine mx_WP.ret (v := some (mx_r (some (0, 3, x1)))) rfl ?_
    exact hk
def f64 (x0 : Nat) (x1 : Int32) (I : Nat → Nat → Nat → Int32) (J : Nat → Nat → Nat → Int64) : Option (Bool × (Nat → Nat → Nat → Int32) × (Nat → Nat → Nat → Int64)) :=
  if (I 5 x0 4) < (8 : Int32) then (some (true, (mx_u3 I 5 x0 4 ((I 5 x0 4) + (1 : Int32))), (mx_u3 J 5 x0 3 ((J 5 x0 3) ||| (x1.toInt64 <<< (((8 : Int32) * (I 5 x0 4)).toInt64 &&& 63)))))) else some (false, I, J)
theorem T64 {d : Nat} {x0 : Nat} {x1 : Int32} {I : Nat → Nat → Nat → Int32} {J : Nat → Nat → Nat → Int64} {h : Nat → Nat} {μ : mx_Rg × (Nat × (Nat → Int32)) × (Nat × Nat)} {Q : Option mx_V → mx_Hp → Prop} {o : Bool × (Nat → Nat → Nat → Int32) × (Nat → Nat → Nat → Int64)} (hf : f64 x0 x1 I J = some o) (hk : Q (some (mx_i (b2i o.1))) (hC o.2.1 o.2.2 h, μ)) : mx_WP (d + 0) 64 0 (mx_ent 64 [mx_r (some (0, 5, x0)), mx_i x1]) [] (hC I J h, μ) Q := by
  unfold f64 at hf
  refine mx_WP.go 3 (pc' := 6) (L' := [some (mx_r (some (0, 5, x0))), some (mx_i x1)]) (st' := [mx_i (8 : Int32), mx_i (I 5 x0 4)]) (σ' := (hC I J h, μ)) rfl ?_
  by_cases c1 : (I 5 x0 4) < (8 : Int32)
  · rw [if_pos c1] at hf
    refine mx_WP.blt (x := (I 5 x0 4)) (y := (8 : Int32)) (q := 11) (p3 := 9) rfl (fun _ => ?_) (fun hh => absurd c1 hh)
    refine mx_WP.go 19 (pc' := 41) (L' := [some (mx_r (some (0, 5, x0))), some (mx_i x1)]) (st' := [mx_i (1 : Int32)]) (σ' := (hC (mx_u3 I 5 x0 4 ((I 5 x0 4) + (1 : Int32))) (mx_u3 J 5 x0 3 ((J 5 x0 3) ||| (x1.toInt64 <<< (((8 : Int32) * (I 5 x0 4)).toInt64 &&& 63)))) h, μ)) rfl ?_
    rw [← Option.some.inj hf] at hk
    refine mx_WP.ret (v := some (mx_i (1 : Int32))) rfl ?_
    exact hk
  · rw [if_neg c1] at hf
    refine mx_WP.blt (x := (I 5 x0 4)) (y := (8 : Int32)) (q := 11) (p3 := 9) rfl (fun hh => absurd hh c1) (fun _ => ?_)
    refine mx_WP.go 1 (pc' := 10) (L' := [some (mx_r (some (0, 5, x0))), some (mx_i x1)]) (st' := [mx_i (0 : Int32)]) (σ' := (hC I J h, μ)) rfl ?_
    rw [← Option.some.inj hf] at hk
    refine mx_WP.ret (v := some (mx_i (0 : Int32))) rfl ?_
    exact hk
def f63 (x0 : Nat) (x1 : Int32) (I : Nat → Nat → Nat → Int32) : Option (Bool × (Nat → Nat → Nat → Int32)) :=
  if x1 = (47 : Int32) then ((f58 x0 (8 : Int32) I).bind fun u2 =>
  some (u2.1, u2.2)) else if x1 = (62 : Int32) then ((f58 x0 (0 : Int32) I).bind fun u5 =>
  some (u5.1, u5.2)) else (f59 x1).bind fun u7 =>
  if u7 = true then ((f58 x0 (3 : Int32) I).bind fun u9 =>
  if u9.1 = true then (some (true, u9.2)) else some (false, u9.2)) else some (false, I)
theorem T63 {d : Nat} {x0 : Nat} {x1 : Int32} {I : Nat → Nat → Nat → Int32} {J : Nat → Nat → Nat → Int64} {h : Nat → Nat} {μ : mx_Rg × (Nat × (Nat → Int32)) × (Nat × Nat)} {Q : Option mx_V → mx_Hp → Prop} {o : Bool × (Nat → Nat → Nat → Int32)} (hf : f63 x0 x1 I = some o) (hk : Q (some (mx_i (b2i o.1))) (hC o.2 J h, μ)) : mx_WP (d + 1) 63 0 (mx_ent 63 [mx_r (some (0, 5, x0)), mx_i x1]) [] (hC I J h, μ) Q := by
  unfold f63 at hf
  refine mx_WP.go 1 (pc' := 1) (L' := [some (mx_r (some (0, 5, x0))), some (mx_i x1)]) (st' := [mx_i x1]) (σ' := (hC I J h, μ)) rfl ?_
  by_cases c1 : x1 = (47 : Int32)
  · rw [if_pos c1] at hf
    refine mx_WP.sw (c := (47 : Int32)) (q := 28) c1 (by rfl) ?_
    refine mx_WP.go 2 (pc' := 31) (L' := [some (mx_r (some (0, 5, x0))), some (mx_i x1)]) (st' := [mx_i (8 : Int32), mx_r (some (0, 5, x0))]) (σ' := (hC I J h, μ)) rfl ?_
    obtain ⟨u2, e3, hf⟩ := Option.bind_eq_some_iff.mp hf
    refine mx_WP.call (d := d + 0) (y := 58) (as := [mx_r (some (0, 5, x0)), mx_i (8 : Int32)]) (pc' := 34) (r := []) rfl rfl (T58 (d := d + 0)  e3 ?_)
    show mx_WP (d + 1) 63 34 [some (mx_r (some (0, 5, x0))), some (mx_i x1)] [mx_i (b2i u2.1)] (hC u2.2 J h, μ) Q
    rw [← Option.some.inj hf] at hk
    refine mx_WP.retz (b2i_01 _) (by rfl) (by rfl) ?_
    exact hk
  rw [if_neg c1] at hf
  by_cases c4 : x1 = (62 : Int32)
  · rw [if_pos c4] at hf
    refine mx_WP.sw (c := (62 : Int32)) (q := 35) c4 (by rfl) ?_
    refine mx_WP.go 2 (pc' := 37) (L' := [some (mx_r (some (0, 5, x0))), some (mx_i x1)]) (st' := [mx_i (0 : Int32), mx_r (some (0, 5, x0))]) (σ' := (hC I J h, μ)) rfl ?_
    obtain ⟨u5, e6, hf⟩ := Option.bind_eq_some_iff.mp hf
    refine mx_WP.call (d := d + 0) (y := 58) (as := [mx_r (some (0, 5, x0)), mx_i (0 : Int32)]) (pc' := 40) (r := []) rfl rfl (T58 (d := d + 0)  e6 ?_)
    show mx_WP (d + 1) 63 40 [some (mx_r (some (0, 5, x0))), some (mx_i x1)] [mx_i (b2i u5.1)] (hC u5.2 J h, μ) Q
    rw [← Option.some.inj hf] at hk
    refine mx_WP.retz (b2i_01 _) (by rfl) (by rfl) ?_
    exact hk
  rw [if_neg c4] at hf
  refine mx_WP.swl2 (q := 41) c1 c4 ⟨rfl, by decide, by decide⟩ rfl (by decide) ?_
  refine mx_WP.go 1 (pc' := 42) (L' := [some (mx_r (some (0, 5, x0))), some (mx_i x1)]) (st' := [mx_i x1]) (σ' := (hC I J h, μ)) rfl ?_
  obtain ⟨u7, e12, hf⟩ := Option.bind_eq_some_iff.mp hf
  refine mx_WP.call (d := d + 0) (y := 59) (as := [mx_i x1]) (pc' := 45) (r := []) rfl rfl (T59 (d := d + 0)  e12 ?_)
  show mx_WP (d + 1) 63 45 [some (mx_r (some (0, 5, x0))), some (mx_i x1)] [mx_i (b2i u7)] (hC I J h, μ) Q
  by_cases c8 : u7 = true
  · rw [if_pos c8] at hf
    refine mx_WP.zeq (b := u7) (q := 60) (p3 := 48) rfl (fun hh => absurd hh (by simp [c8])) (fun _ => ?_)
    refine mx_WP.go 2 (pc' := 50) (L' := [some (mx_r (some (0, 5, x0))), some (mx_i x1)]) (st' := [mx_i (3 : Int32), mx_r (some (0, 5, x0))]) (σ' := (hC I J h, μ)) rfl ?_
    obtain ⟨u9, e11, hf⟩ := Option.bind_eq_some_iff.mp hf
    refine mx_WP.call (d := d + 0) (y := 58) (as := [mx_r (some (0, 5, x0)), mx_i (3 : Int32)]) (pc' := 53) (r := []) rfl rfl (T58 (d := d + 0)  e11 ?_)
    show mx_WP (d + 1) 63 53 [some (mx_r (some (0, 5, x0))), some (mx_i x1)] [mx_i (b2i u9.1)] (hC u9.2 J h, μ) Q
    by_cases c10 : u9.1 = true
    · rw [if_pos c10] at hf
      refine mx_WP.zeq (b := u9.1) (q := 60) (p3 := 56) rfl (fun hh => absurd hh (by simp [c10])) (fun _ => ?_)
      refine mx_WP.go 2 (pc' := 61) (L' := [some (mx_r (some (0, 5, x0))), some (mx_i x1)]) (st' := [mx_i (1 : Int32)]) (σ' := (hC u9.2 J h, μ)) rfl ?_
      rw [← Option.some.inj hf] at hk
      refine mx_WP.ret (v := some (mx_i (1 : Int32))) rfl ?_
      exact hk
    · rw [if_neg c10] at hf
      refine mx_WP.zeq (b := u9.1) (q := 60) (p3 := 56) rfl (fun _ => ?_) (fun hh => absurd hh (by simp [c10]))
      refine mx_WP.go 1 (pc' := 61) (L' := [some (mx_r (some (0, 5, x0))), some (mx_i x1)]) (st' := [mx_i (0 : Int32)]) (σ' := (hC u9.2 J h, μ)) rfl ?_
      rw [← Option.some.inj hf] at hk
      refine mx_WP.ret (v := some (mx_i (0 : Int32))) rfl ?_
      exact hk
  · rw [if_neg c8] at hf
    refine mx_WP.zeq (b := u7) (q := 60) (p3 := 48) rfl (fun _ => ?_) (fun hh => absurd hh (by simp [c8]))
    refine mx_WP.go 1 (pc' := 61) (L' := [some (mx_r (some (0, 5, x0))), some (mx_i x1)]) (st' := [mx_i (0 : Int32)]) (σ' := (hC I J h, μ)) rfl ?_
    rw [← Option.some.inj hf] at hk
    refine mx_WP.ret (v := some (mx_i (0 : Int32))) rfl ?_
    exact hk
def f62 (x0 : Nat) (x1 : Int32) (I : Nat → Nat → Nat → Int32) (J : Nat → Nat → Nat → Int64) (h : Nat → Nat) : Option (Bool × (Nat → Nat → Nat → Int32) × (Nat → Nat → Nat → Int64)) :=
  (f8 x1).bind fun u1 =>
  if u1 = true then ((f64 x0 x1 I J).bind fun u3 =>
  some (u3.1, u3.2.1, (mx_u3 u3.2.2 3 (h x0) 7 (u3.2.2 5 x0 3)))) else (f63 x0 x1 I).bind fun u5 =>
  some (u5.1, u5.2, J)
theorem T62 {d : Nat} {x0 : Nat} {x1 : Int32} {I : Nat → Nat → Nat → Int32} {J : Nat → Nat → Nat → Int64} {h : Nat → Nat} {μ : mx_Rg × (Nat × (Nat → Int32)) × (Nat × Nat)} {Q : Option mx_V → mx_Hp → Prop} {o : Bool × (Nat → Nat → Nat → Int32) × (Nat → Nat → Nat → Int64)} (hf : f62 x0 x1 I J h = some o) (hk : Q (some (mx_i (b2i o.1))) (hC o.2.1 o.2.2 h, μ)) : mx_WP (d + 2) 62 0 (mx_ent 62 [mx_r (some (0, 5, x0)), mx_i x1]) [] (hC I J h, μ) Q := by
  unfold f62 at hf
  refine mx_WP.go 1 (pc' := 1) (L' := [some (mx_r (some (0, 5, x0))), some (mx_i x1), none]) (st' := [mx_i x1]) (σ' := (hC I J h, μ)) rfl ?_
  obtain ⟨u1, e7, hf⟩ := Option.bind_eq_some_iff.mp hf
  refine mx_WP.call (d := d + 1) (y := 8) (as := [mx_i x1]) (pc' := 4) (r := []) rfl rfl (T8 (d := d + 1)  e7 ?_)
  show mx_WP (d + 2) 62 4 [some (mx_r (some (0, 5, x0))), some (mx_i x1), none] [mx_i (b2i u1)] (hC I J h, μ) Q
  by_cases c2 : u1 = true
  · rw [if_pos c2] at hf
    refine mx_WP.zne (b := u1) (q := 13) (p3 := 7) rfl (fun _ => ?_) (fun hh => absurd hh (by simp [c2]))
    refine mx_WP.go 2 (pc' := 15) (L' := [some (mx_r (some (0, 5, x0))), some (mx_i x1), none]) (st' := [mx_i x1, mx_r (some (0, 5, x0))]) (σ' := (hC I J h, μ)) rfl ?_
    obtain ⟨u3, e4, hf⟩ := Option.bind_eq_some_iff.mp hf
    refine mx_WP.call (d := d + 1) (y := 64) (as := [mx_r (some (0, 5, x0)), mx_i x1]) (pc' := 18) (r := []) rfl rfl (T64 (d := d + 1)  e4 ?_)
    show mx_WP (d + 2) 62 18 [some (mx_r (some (0, 5, x0))), some (mx_i x1), none] [mx_i (b2i u3.1)] (hC u3.2.1 u3.2.2 h, μ) Q
    refine mx_WP.go 7 (pc' := 31) (L' := [some (mx_r (some (0, 5, x0))), some (mx_i x1), some (mx_i (b2i u3.1))]) (st' := [mx_i (b2i u3.1)]) (σ' := (hC u3.2.1 (mx_u3 u3.2.2 3 (h x0) 7 (u3.2.2 5 x0 3)) h, μ)) rfl ?_
    rw [← Option.some.inj hf] at hk
    refine mx_WP.retz (b2i_01 _) (by rfl) (by rfl) ?_
    exact hk
  · rw [if_neg c2] at hf
    refine mx_WP.zne (b := u1) (q := 13) (p3 := 7) rfl (fun hh => absurd hh (by simp [c2])) (fun _ => ?_)
    refine mx_WP.go 2 (pc' := 9) (L' := [some (mx_r (some (0, 5, x0))), some (mx_i x1), none]) (st' := [mx_i x1, mx_r (some (0, 5, x0))]) (σ' := (hC I J h, μ)) rfl ?_
    obtain ⟨u5, e6, hf⟩ := Option.bind_eq_some_iff.mp hf
    refine mx_WP.call (d := d + 1) (y := 63) (as := [mx_r (some (0, 5, x0)), mx_i x1]) (pc' := 12) (r := []) rfl rfl (T63 (d := d + 0)  e6 ?_)
    show mx_WP (d + 2) 62 12 [some (mx_r (some (0, 5, x0))), some (mx_i x1), none] [mx_i (b2i u5.1)] (hC u5.2 J h, μ) Q
    rw [← Option.some.inj hf] at hk
    refine mx_WP.retz (b2i_01 _) (by rfl) (by rfl) ?_
    exact hk
def f60 (x0 : Nat) (x1 : Int32) (I : Nat → Nat → Nat → Int32) (J : Nat → Nat → Nat → Int64) (h : Nat → Nat) : Option (Bool × (Nat → Nat → Nat → Int32) × (Nat → Nat → Nat → Int64) × (Nat → Nat)) :=
  if x1 = (47 : Int32) then (if (I 3 (h x0) 6) ≤ (0 : Int32) then (some (false, I, J, h)) else (f61 x0 (9 : Int32) I J).bind fun u3 =>
  if u3.1 = true then (some (true, u3.2.1, u3.2.2, h)) else some (false, u3.2.1, u3.2.2, h)) else (f8 x1).bind fun u6 =>
  if u6 = true then ((f49 x0 I).bind fun u8 =>
  if u8 = true then (if (I 3 (h x0) 6) < (4 : Int32) then ((f50 x0 (h x0) I J).bind fun u11 =>
  (f61 x0 (2 : Int32) u11.2.1 u11.2.2).bind fun u12 =>
  (f62 x0 x1 u12.2.1 u12.2.2 (mx_u1 h x0 u11.1)).bind fun u13 =>
  some (u13.1, u13.2.1, u13.2.2, (mx_u1 h x0 u11.1))) else some (false, I, J, h)) else some (false, I, J, h)) else some (false, I, J, h)
theorem T60 {d : Nat} {x0 : Nat} {x1 : Int32} {I : Nat → Nat → Nat → Int32} {J : Nat → Nat → Nat → Int64} {h : Nat → Nat} {μ : mx_Rg × (Nat × (Nat → Int32)) × (Nat × Nat)} {Q : Option mx_V → mx_Hp → Prop} {o : Bool × (Nat → Nat → Nat → Int32) × (Nat → Nat → Nat → Int64) × (Nat → Nat)} (hf : f60 x0 x1 I J h = some o) (hk : Q (some (mx_i (b2i o.1))) (hC o.2.1 o.2.2.1 o.2.2.2, μ)) : mx_WP (d + 3) 60 0 (mx_ent 60 [mx_r (some (0, 5, x0)), mx_i x1]) [] (hC I J h, μ) Q := by
  unfold f60 at hf
  refine mx_WP.go 2 (pc' := 3) (L' := [some (mx_r (some (0, 5, x0))), some (mx_i x1)]) (st' := [mx_i (47 : Int32), mx_i x1]) (σ' := (hC I J h, μ)) rfl ?_
  by_cases c1 : x1 = (47 : Int32)
  · rw [if_pos c1] at hf
    refine mx_WP.bne (x := x1) (y := (47 : Int32)) (q := 31) (p3 := 6) rfl (fun hh => absurd c1 hh) (fun _ => ?_)
    refine mx_WP.go 3 (pc' := 13) (L' := [some (mx_r (some (0, 5, x0))), some (mx_i x1)]) (st' := [mx_i (I 3 (h x0) 6)]) (σ' := (hC I J h, μ)) rfl ?_
    by_cases c2 : (I 3 (h x0) 6) ≤ (0 : Int32)
    · rw [if_pos c2] at hf
      refine mx_WP.ble (x := (I 3 (h x0) 6)) (y := (0 : Int32)) (q := 29) (p3 := 16) rfl (fun _ => ?_) (fun hh => absurd c2 hh)
      refine mx_WP.go 1 (pc' := 30) (L' := [some (mx_r (some (0, 5, x0))), some (mx_i x1)]) (st' := [mx_i (0 : Int32)]) (σ' := (hC I J h, μ)) rfl ?_
      rw [← Option.some.inj hf] at hk
      refine mx_WP.ret (v := some (mx_i (0 : Int32))) rfl ?_
      exact hk
    · rw [if_neg c2] at hf
      refine mx_WP.ble (x := (I 3 (h x0) 6)) (y := (0 : Int32)) (q := 29) (p3 := 16) rfl (fun hh => absurd hh c2) (fun _ => ?_)
      refine mx_WP.go 2 (pc' := 19) (L' := [some (mx_r (some (0, 5, x0))), some (mx_i x1)]) (st' := [mx_i (9 : Int32), mx_r (some (0, 5, x0))]) (σ' := (hC I J h, μ)) rfl ?_
      obtain ⟨u3, e5, hf⟩ := Option.bind_eq_some_iff.mp hf
      refine mx_WP.call (d := d + 2) (y := 61) (as := [mx_r (some (0, 5, x0)), mx_i (9 : Int32)]) (pc' := 22) (r := []) rfl rfl (T61 (d := d + 1)  e5 ?_)
      show mx_WP (d + 3) 60 22 [some (mx_r (some (0, 5, x0))), some (mx_i x1)] [mx_i (b2i u3.1)] (hC u3.2.1 u3.2.2 h, μ) Q
      by_cases c4 : u3.1 = true
      · rw [if_pos c4] at hf
        refine mx_WP.zeq (b := u3.1) (q := 29) (p3 := 25) rfl (fun hh => absurd hh (by simp [c4])) (fun _ => ?_)
        refine mx_WP.go 2 (pc' := 30) (L' := [some (mx_r (some (0, 5, x0))), some (mx_i x1)]) (st' := [mx_i (1 : Int32)]) (σ' := (hC u3.2.1 u3.2.2 h, μ)) rfl ?_
        rw [← Option.some.inj hf] at hk
        refine mx_WP.ret (v := some (mx_i (1 : Int32))) rfl ?_
        exact hk
      · rw [if_neg c4] at hf
        refine mx_WP.zeq (b := u3.1) (q := 29) (p3 := 25) rfl (fun _ => ?_) (fun hh => absurd hh (by simp [c4]))
        refine mx_WP.go 1 (pc' := 30) (L' := [some (mx_r (some (0, 5, x0))), some (mx_i x1)]) (st' := [mx_i (0 : Int32)]) (σ' := (hC u3.2.1 u3.2.2 h, μ)) rfl ?_
        rw [← Option.some.inj hf] at hk
        refine mx_WP.ret (v := some (mx_i (0 : Int32))) rfl ?_
        exact hk
  · rw [if_neg c1] at hf
    refine mx_WP.bne (x := x1) (y := (47 : Int32)) (q := 31) (p3 := 6) rfl (fun _ => ?_) (fun hh => absurd c1 hh)
    refine mx_WP.go 1 (pc' := 32) (L' := [some (mx_r (some (0, 5, x0))), some (mx_i x1)]) (st' := [mx_i x1]) (σ' := (hC I J h, μ)) rfl ?_
    obtain ⟨u6, e18, hf⟩ := Option.bind_eq_some_iff.mp hf
    refine mx_WP.call (d := d + 2) (y := 8) (as := [mx_i x1]) (pc' := 35) (r := []) rfl rfl (T8 (d := d + 2)  e18 ?_)
    show mx_WP (d + 3) 60 35 [some (mx_r (some (0, 5, x0))), some (mx_i x1)] [mx_i (b2i u6)] (hC I J h, μ) Q
    by_cases c7 : u6 = true
    · rw [if_pos c7] at hf
      refine mx_WP.zeq (b := u6) (q := 59) (p3 := 38) rfl (fun hh => absurd hh (by simp [c7])) (fun _ => ?_)
      refine mx_WP.go 2 (pc' := 42) (L' := [some (mx_r (some (0, 5, x0))), some (mx_i x1)]) (st' := [mx_r (some (0, 4, x0))]) (σ' := (hC I J h, μ)) rfl ?_
      obtain ⟨u8, e17, hf⟩ := Option.bind_eq_some_iff.mp hf
      refine mx_WP.call (d := d + 2) (y := 49) (as := [mx_r (some (0, 4, x0))]) (pc' := 45) (r := []) rfl rfl (T49 (d := d + 2)  e17 ?_)
      show mx_WP (d + 3) 60 45 [some (mx_r (some (0, 5, x0))), some (mx_i x1)] [mx_i (b2i u8)] (hC I J h, μ) Q
      by_cases c9 : u8 = true
      · rw [if_pos c9] at hf
        refine mx_WP.zeq (b := u8) (q := 59) (p3 := 48) rfl (fun hh => absurd hh (by simp [c9])) (fun _ => ?_)
        refine mx_WP.go 4 (pc' := 56) (L' := [some (mx_r (some (0, 5, x0))), some (mx_i x1)]) (st' := [mx_i (4 : Int32), mx_i (I 3 (h x0) 6)]) (σ' := (hC I J h, μ)) rfl ?_
        by_cases c10 : (I 3 (h x0) 6) < (4 : Int32)
        · rw [if_pos c10] at hf
          refine mx_WP.blt (x := (I 3 (h x0) 6)) (y := (4 : Int32)) (q := 61) (p3 := 59) rfl (fun _ => ?_) (fun hh => absurd c10 hh)
          refine mx_WP.go 5 (pc' := 70) (L' := [some (mx_r (some (0, 5, x0))), some (mx_i x1)]) (st' := [mx_r (some (0, 3, (h x0))), mx_r (some (0, 4, x0)), mx_r (some (0, 5, x0))]) (σ' := (hC I J h, μ)) rfl ?_
          obtain ⟨u11, e16, hf⟩ := Option.bind_eq_some_iff.mp hf
          refine mx_WP.call (d := d + 2) (y := 50) (as := [mx_r (some (0, 4, x0)), mx_r (some (0, 3, (h x0)))]) (pc' := 73) (r := [mx_r (some (0, 5, x0))]) rfl rfl (T50 (d := d + 1)  e16 ?_)
          show mx_WP (d + 3) 60 73 [some (mx_r (some (0, 5, x0))), some (mx_i x1)] [mx_r (some (0, 3, u11.1)), mx_r (some (0, 5, x0))] (hC u11.2.1 u11.2.2 h, μ) Q
          refine mx_WP.puth (by rfl) ?_
          show mx_WP (d + 3) 60 76 [some (mx_r (some (0, 5, x0))), some (mx_i x1)] [] (hC u11.2.1 u11.2.2 (mx_u1 h x0 u11.1), μ) Q
          refine mx_WP.go 2 (pc' := 78) (L' := [some (mx_r (some (0, 5, x0))), some (mx_i x1)]) (st' := [mx_i (2 : Int32), mx_r (some (0, 5, x0))]) (σ' := (hC u11.2.1 u11.2.2 (mx_u1 h x0 u11.1), μ)) rfl ?_
          obtain ⟨u12, e15, hf⟩ := Option.bind_eq_some_iff.mp hf
          refine mx_WP.call (d := d + 2) (y := 61) (as := [mx_r (some (0, 5, x0)), mx_i (2 : Int32)]) (pc' := 81) (r := []) rfl rfl (T61 (d := d + 1)  e15 ?_)
          show mx_WP (d + 3) 60 81 [some (mx_r (some (0, 5, x0))), some (mx_i x1)] [mx_i (b2i u12.1)] (hC u12.2.1 u12.2.2 (mx_u1 h x0 u11.1), μ) Q
          refine mx_WP.go 3 (pc' := 84) (L' := [some (mx_r (some (0, 5, x0))), some (mx_i x1)]) (st' := [mx_i x1, mx_r (some (0, 5, x0))]) (σ' := (hC u12.2.1 u12.2.2 (mx_u1 h x0 u11.1), μ)) rfl ?_
          obtain ⟨u13, e14, hf⟩ := Option.bind_eq_some_iff.mp hf
          refine mx_WP.call (d := d + 2) (y := 62) (as := [mx_r (some (0, 5, x0)), mx_i x1]) (pc' := 87) (r := []) rfl rfl (T62 (d := d + 0)  e14 ?_)
          show mx_WP (d + 3) 60 87 [some (mx_r (some (0, 5, x0))), some (mx_i x1)] [mx_i (b2i u13.1)] (hC u13.2.1 u13.2.2 (mx_u1 h x0 u11.1), μ) Q
          rw [← Option.some.inj hf] at hk
          refine mx_WP.retz (b2i_01 _) (by rfl) (by rfl) ?_
          exact hk
        · rw [if_neg c10] at hf
          refine mx_WP.blt (x := (I 3 (h x0) 6)) (y := (4 : Int32)) (q := 61) (p3 := 59) rfl (fun hh => absurd hh c10) (fun _ => ?_)
          refine mx_WP.go 1 (pc' := 60) (L' := [some (mx_r (some (0, 5, x0))), some (mx_i x1)]) (st' := [mx_i (0 : Int32)]) (σ' := (hC I J h, μ)) rfl ?_
          rw [← Option.some.inj hf] at hk
          refine mx_WP.ret (v := some (mx_i (0 : Int32))) rfl ?_
          exact hk
      · rw [if_neg c9] at hf
        refine mx_WP.zeq (b := u8) (q := 59) (p3 := 48) rfl (fun _ => ?_) (fun hh => absurd hh (by simp [c9]))
        refine mx_WP.go 1 (pc' := 60) (L' := [some (mx_r (some (0, 5, x0))), some (mx_i x1)]) (st' := [mx_i (0 : Int32)]) (σ' := (hC I J h, μ)) rfl ?_
        rw [← Option.some.inj hf] at hk
        refine mx_WP.ret (v := some (mx_i (0 : Int32))) rfl ?_
        exact hk
    · rw [if_neg c7] at hf
      refine mx_WP.zeq (b := u6) (q := 59) (p3 := 38) rfl (fun _ => ?_) (fun hh => absurd hh (by simp [c7]))
      refine mx_WP.go 1 (pc' := 60) (L' := [some (mx_r (some (0, 5, x0))), some (mx_i x1)]) (st' := [mx_i (0 : Int32)]) (σ' := (hC I J h, μ)) rfl ?_
      rw [← Option.some.inj hf] at hk
      refine mx_WP.ret (v := some (mx_i (0 : Int32))) rfl ?_
      exact hk
def f43 (x0 : Nat) (I : Nat → Nat → Nat → Int32) : Option (Bool) :=
  if (4 : Int32) ≤ (I 3 x0 2) then (some false) else some true
theorem T43 {d : Nat} {x0 : Nat} {I : Nat → Nat → Nat → Int32} {J : Nat → Nat → Nat → Int64} {h : Nat → Nat} {μ : mx_Rg × (Nat × (Nat → Int32)) × (Nat × Nat)} {Q : Option mx_V → mx_Hp → Prop} {o : Bool} (hf : f43 x0 I = some o) (hk : Q (some (mx_i (b2i o))) (hC I J h, μ)) : mx_WP (d + 0) 43 0 (mx_ent 43 [mx_r (some (0, 3, x0))]) [] (hC I J h, μ) Q := by
  unfold f43 at hf
  refine mx_WP.go 3 (pc' := 5) (L' := [some (mx_r (some (0, 3, x0)))]) (st' := [mx_i (4 : Int32), mx_i (I 3 x0 2)]) (σ' := (hC I J h, μ)) rfl ?_
  by_cases c1 : (4 : Int32) ≤ (I 3 x0 2)
  · rw [if_pos c1] at hf
    refine mx_WP.bge (x := (I 3 x0 2)) (y := (4 : Int32)) (q := 12) (p3 := 8) rfl (fun _ => ?_) (fun hh => absurd c1 hh)
    refine mx_WP.go 1 (pc' := 13) (L' := [some (mx_r (some (0, 3, x0)))]) (st' := [mx_i (0 : Int32)]) (σ' := (hC I J h, μ)) rfl ?_
    rw [← Option.some.inj hf] at hk
    refine mx_WP.ret (v := some (mx_i (0 : Int32))) rfl ?_
    exact hk
  · rw [if_neg c1] at hf
    refine mx_WP.bge (x := (I 3 x0 2)) (y := (4 : Int32)) (q := 12) (p3 := 8) rfl (fun hh => absurd hh c1) (fun _ => ?_)
    refine mx_WP.go 2 (pc' := 13) (L' := [some (mx_r (some (0, 3, x0)))]) (st' := [mx_i (1 : Int32)]) (σ' := (hC I J h, μ)) rfl ?_
    rw [← Option.some.inj hf] at hk
    refine mx_WP.ret (v := some (mx_i (1 : Int32))) rfl ?_
    exact hk
def f65 (x0 : Nat) (x1 : Int32) (I : Nat → Nat → Nat → Int32) (J : Nat → Nat → Nat → Int64) (h : Nat → Nat) : Option (Bool × (Nat → Nat → Nat → Int32) × (Nat → Nat → Nat → Int64)) :=
  (f8 x1).bind fun u1 =>
  if u1 = true then ((f43 (h x0) I).bind fun u3 =>
  if u3 = true then ((f61 x0 (4 : Int32) I J).bind fun u5 =>
  if u5.1 = true then ((f64 x0 x1 u5.2.1 u5.2.2).bind fun u7 =>
  if u7.1 = true then (some (true, u7.2.1, u7.2.2)) else some (false, u7.2.1, u7.2.2)) else some (false, u5.2.1, u5.2.2)) else some (false, I, J)) else (f63 x0 x1 I).bind fun u12 =>
  some (u12.1, u12.2, J)
theorem T65 {d : Nat} {x0 : Nat} {x1 : Int32} {I : Nat → Nat → Nat → Int32} {J : Nat → Nat → Nat → Int64} {h : Nat → Nat} {μ : mx_Rg × (Nat × (Nat → Int32)) × (Nat × Nat)} {Q : Option mx_V → mx_Hp → Prop} {o : Bool × (Nat → Nat → Nat → Int32) × (Nat → Nat → Nat → Int64)} (hf : f65 x0 x1 I J h = some o) (hk : Q (some (mx_i (b2i o.1))) (hC o.2.1 o.2.2 h, μ)) : mx_WP (d + 2) 65 0 (mx_ent 65 [mx_r (some (0, 5, x0)), mx_i x1]) [] (hC I J h, μ) Q := by
  unfold f65 at hf
  refine mx_WP.go 1 (pc' := 1) (L' := [some (mx_r (some (0, 5, x0))), some (mx_i x1)]) (st' := [mx_i x1]) (σ' := (hC I J h, μ)) rfl ?_
  obtain ⟨u1, e14, hf⟩ := Option.bind_eq_some_iff.mp hf
  refine mx_WP.call (d := d + 1) (y := 8) (as := [mx_i x1]) (pc' := 4) (r := []) rfl rfl (T8 (d := d + 1)  e14 ?_)
  show mx_WP (d + 2) 65 4 [some (mx_r (some (0, 5, x0))), some (mx_i x1)] [mx_i (b2i u1)] (hC I J h, μ) Q
  by_cases c2 : u1 = true
  · rw [if_pos c2] at hf
    refine mx_WP.zne (b := u1) (q := 13) (p3 := 7) rfl (fun _ => ?_) (fun hh => absurd hh (by simp [c2]))
    refine mx_WP.go 2 (pc' := 17) (L' := [some (mx_r (some (0, 5, x0))), some (mx_i x1)]) (st' := [mx_r (some (0, 3, (h x0)))]) (σ' := (hC I J h, μ)) rfl ?_
    obtain ⟨u3, e11, hf⟩ := Option.bind_eq_some_iff.mp hf
    refine mx_WP.call (d := d + 1) (y := 43) (as := [mx_r (some (0, 3, (h x0)))]) (pc' := 20) (r := []) rfl rfl (T43 (d := d + 1)  e11 ?_)
    show mx_WP (d + 2) 65 20 [some (mx_r (some (0, 5, x0))), some (mx_i x1)] [mx_i (b2i u3)] (hC I J h, μ) Q
    by_cases c4 : u3 = true
    · rw [if_pos c4] at hf
      refine mx_WP.zeq (b := u3) (q := 43) (p3 := 23) rfl (fun hh => absurd hh (by simp [c4])) (fun _ => ?_)
      refine mx_WP.go 2 (pc' := 25) (L' := [some (mx_r (some (0, 5, x0))), some (mx_i x1)]) (st' := [mx_i (4 : Int32), mx_r (some (0, 5, x0))]) (σ' := (hC I J h, μ)) rfl ?_
      obtain ⟨u5, e10, hf⟩ := Option.bind_eq_some_iff.mp hf
      refine mx_WP.call (d := d + 1) (y := 61) (as := [mx_r (some (0, 5, x0)), mx_i (4 : Int32)]) (pc' := 28) (r := []) rfl rfl (T61 (d := d + 0)  e10 ?_)
      show mx_WP (d + 2) 65 28 [some (mx_r (some (0, 5, x0))), some (mx_i x1)] [mx_i (b2i u5.1)] (hC u5.2.1 u5.2.2 h, μ) Q
      by_cases c6 : u5.1 = true
      · rw [if_pos c6] at hf
        refine mx_WP.zeq (b := u5.1) (q := 43) (p3 := 31) rfl (fun hh => absurd hh (by simp [c6])) (fun _ => ?_)
        refine mx_WP.go 2 (pc' := 33) (L' := [some (mx_r (some (0, 5, x0))), some (mx_i x1)]) (st' := [mx_i x1, mx_r (some (0, 5, x0))]) (σ' := (hC u5.2.1 u5.2.2 h, μ)) rfl ?_
        obtain ⟨u7, e9, hf⟩ := Option.bind_eq_some_iff.mp hf
        refine mx_WP.call (d := d + 1) (y := 64) (as := [mx_r (some (0, 5, x0)), mx_i x1]) (pc' := 36) (r := []) rfl rfl (T64 (d := d + 1)  e9 ?_)
        show mx_WP (d + 2) 65 36 [some (mx_r (some (0, 5, x0))), some (mx_i x1)] [mx_i (b2i u7.1)] (hC u7.2.1 u7.2.2 h, μ) Q
        by_cases c8 : u7.1 = true
        · rw [if_pos c8] at hf
          refine mx_WP.zeq (b := u7.1) (q := 43) (p3 := 39) rfl (fun hh => absurd hh (by simp [c8])) (fun _ => ?_)
          refine mx_WP.go 2 (pc' := 44) (L' := [some (mx_r (some (0, 5, x0))), some (mx_i x1)]) (st' := [mx_i (1 : Int32)]) (σ' := (hC u7.2.1 u7.2.2 h, μ)) rfl ?_
          rw [← Option.some.inj hf] at hk
          refine mx_WP.ret (v := some (mx_i (1 : Int32))) rfl ?_
          exact hk
        · rw [if_neg c8] at hf
          refine mx_WP.zeq (b := u7.1) (q := 43) (p3 := 39) rfl (fun _ => ?_) (fun hh => absurd hh (by simp [c8]))
          refine mx_WP.go 1 (pc' := 44) (L' := [some (mx_r (some (0, 5, x0))), some (mx_i x1)]) (st' := [mx_i (0 : Int32)]) (σ' := (hC u7.2.1 u7.2.2 h, μ)) rfl ?_
          rw [← Option.some.inj hf] at hk
          refine mx_WP.ret (v := some (mx_i (0 : Int32))) rfl ?_
          exact hk
      · rw [if_neg c6] at hf
        refine mx_WP.zeq (b := u5.1) (q := 43) (p3 := 31) rfl (fun _ => ?_) (fun hh => absurd hh (by simp [c6]))
        refine mx_WP.go 1 (pc' := 44) (L' := [some (mx_r (some (0, 5, x0))), some (mx_i x1)]) (st' := [mx_i (0 : Int32)]) (σ' := (hC u5.2.1 u5.2.2 h, μ)) rfl ?_
        rw [← Option.some.inj hf] at hk
        refine mx_WP.ret (v := some (mx_i (0 : Int32))) rfl ?_
        exact hk
    · rw [if_neg c4] at hf
      refine mx_WP.zeq (b := u3) (q := 43) (p3 := 23) rfl (fun _ => ?_) (fun hh => absurd hh (by simp [c4]))
      refine mx_WP.go 1 (pc' := 44) (L' := [some (mx_r (some (0, 5, x0))), some (mx_i x1)]) (st' := [mx_i (0 : Int32)]) (σ' := (hC I J h, μ)) rfl ?_
      rw [← Option.some.inj hf] at hk
      refine mx_WP.ret (v := some (mx_i (0 : Int32))) rfl ?_
      exact hk
  · rw [if_neg c2] at hf
    refine mx_WP.zne (b := u1) (q := 13) (p3 := 7) rfl (fun hh => absurd hh (by simp [c2])) (fun _ => ?_)
    refine mx_WP.go 2 (pc' := 9) (L' := [some (mx_r (some (0, 5, x0))), some (mx_i x1)]) (st' := [mx_i x1, mx_r (some (0, 5, x0))]) (σ' := (hC I J h, μ)) rfl ?_
    obtain ⟨u12, e13, hf⟩ := Option.bind_eq_some_iff.mp hf
    refine mx_WP.call (d := d + 1) (y := 63) (as := [mx_r (some (0, 5, x0)), mx_i x1]) (pc' := 12) (r := []) rfl rfl (T63 (d := d + 0)  e13 ?_)
    show mx_WP (d + 2) 65 12 [some (mx_r (some (0, 5, x0))), some (mx_i x1)] [mx_i (b2i u12.1)] (hC u12.2 J h, μ) Q
    rw [← Option.some.inj hf] at hk
    refine mx_WP.retz (b2i_01 _) (by rfl) (by rfl) ?_
    exact hk
def b45_2 (x0 : Nat) (x1 : Int64) (I : Nat → Nat → Nat → Int32) (J : Nat → Nat → Nat → Int64) (s : Int32) : Option ((Int32) ⊕ ((Int32) ⊕ (Int64))) :=
  if (I 3 x0 2) ≤ s then (some (Sum.inr (Sum.inl s))) else if s < 0 ∨ 4 ≤ s.toNatClampNeg then none else if (lg_cmp (J 70 x0 s.toNatClampNeg) x1) = (0 : Int32) then (if s < 0 ∨ 4 ≤ s.toNatClampNeg then none else some (Sum.inr (Sum.inr (J 71 x0 s.toNatClampNeg)))) else some (Sum.inl (s + 1))
theorem B45_2 {d : Nat} {x0 : Nat} {x1 : Int64} {I : Nat → Nat → Nat → Int32} {J : Nat → Nat → Nat → Int64} {h : Nat → Nat} {μ : mx_Rg × (Nat × (Nat → Int32)) × (Nat × Nat)} {Q : Option mx_V → mx_Hp → Prop} {s : Int32} {o : (Int32) ⊕ ((Int32) ⊕ (Int64))} (hf : b45_2 x0 x1 I J s = some o) (hk : Sum.elim (fun s : Int32 => mx_WP (d + 0) 45 2 [some (mx_r (some (0, 3, x0))), some (mx_l x1), none, some (mx_i s)] [] (hC I J h, μ) Q) (Sum.elim (fun x : Int32 => mx_WP (d + 0) 45 34 [some (mx_r (some (0, 3, x0))), some (mx_l x1), none, some (mx_i x)] [] (hC I J h, μ) Q) (fun x : Int64 => Q (some (mx_l x)) (hC I J h, μ))) o) : mx_WP (d + 0) 45 2 [some (mx_r (some (0, 3, x0))), some (mx_l x1), none, some (mx_i s)] [] (hC I J h, μ) Q := by
  unfold b45_2 at hf
  refine mx_WP.go 3 (pc' := 7) (L' := [some (mx_r (some (0, 3, x0))), some (mx_l x1), none, some (mx_i s)]) (st' := [mx_i (I 3 x0 2), mx_i s]) (σ' := (hC I J h, μ)) rfl ?_
  by_cases c101 : (I 3 x0 2) ≤ s
  · rw [if_pos c101] at hf
    refine mx_WP.bge (x := s) (y := (I 3 x0 2)) (q := 34) (p3 := 10) rfl (fun _ => ?_) (fun hh => absurd c101 hh)
    rw [← Option.some.inj hf] at hk
    exact hk
  · rw [if_neg c101] at hf
    refine mx_WP.bge (x := s) (y := (I 3 x0 2)) (q := 34) (p3 := 10) rfl (fun hh => absurd hh c101) (fun _ => ?_)
    refine mx_WP.go 3 (pc' := 15) (L' := [some (mx_r (some (0, 3, x0))), some (mx_l x1), none, some (mx_i s)]) (st' := [mx_i s, mx_r (some (0, 70, x0))]) (σ' := (hC I J h, μ)) rfl ?_
    by_cases c102 : s < 0 ∨ 4 ≤ s.toNatClampNeg
    · rw [if_pos c102] at hf
      cases hf
    rw [if_neg c102] at hf
    refine mx_WP.laldx c102 ?_
    show mx_WP (d + 0) 45 16 [some (mx_r (some (0, 3, x0))), some (mx_l x1), none, some (mx_i s)] [mx_l (J 70 x0 s.toNatClampNeg)] (hC I J h, μ) Q
    refine mx_WP.go 2 (pc' := 18) (L' := [some (mx_r (some (0, 3, x0))), some (mx_l x1), none, some (mx_i s)]) (st' := [mx_i (lg_cmp (J 70 x0 s.toNatClampNeg) x1)]) (σ' := (hC I J h, μ)) rfl ?_
    by_cases c103 : (lg_cmp (J 70 x0 s.toNatClampNeg) x1) = (0 : Int32)
    · rw [if_pos c103] at hf
      refine mx_WP.bne (x := (lg_cmp (J 70 x0 s.toNatClampNeg) x1)) (y := (0 : Int32)) (q := 28) (p3 := 21) rfl (fun hh => absurd c103 hh) (fun _ => ?_)
      refine mx_WP.go 3 (pc' := 26) (L' := [some (mx_r (some (0, 3, x0))), some (mx_l x1), none, some (mx_i s)]) (st' := [mx_i s, mx_r (some (0, 71, x0))]) (σ' := (hC I J h, μ)) rfl ?_
      by_cases c104 : s < 0 ∨ 4 ≤ s.toNatClampNeg
      · rw [if_pos c104] at hf
        cases hf
      rw [if_neg c104] at hf
      refine mx_WP.laldx c104 ?_
      show mx_WP (d + 0) 45 27 [some (mx_r (some (0, 3, x0))), some (mx_l x1), none, some (mx_i s)] [mx_l (J 71 x0 s.toNatClampNeg)] (hC I J h, μ) Q
      rw [← Option.some.inj hf] at hk
      refine mx_WP.ret (v := some (mx_l (J 71 x0 s.toNatClampNeg))) rfl ?_
      exact hk
    · rw [if_neg c103] at hf
      refine mx_WP.bne (x := (lg_cmp (J 70 x0 s.toNatClampNeg) x1)) (y := (0 : Int32)) (q := 28) (p3 := 21) rfl (fun _ => ?_) (fun hh => absurd c103 hh)
      refine mx_WP.go 2 (pc' := 2) (L' := [some (mx_r (some (0, 3, x0))), some (mx_l x1), none, some (mx_i (s + 1))]) (st' := []) (σ' := (hC I J h, μ)) rfl ?_
      rw [← Option.some.inj hf] at hk
      exact hk
theorem L45_2 {d : Nat} {x0 : Nat} {x1 : Int64} {I : Nat → Nat → Nat → Int32} {J : Nat → Nat → Nat → Int64} {h : Nat → Nat} {μ : mx_Rg × (Nat × (Nat → Int32)) × (Nat × Nat)} {Q : Option mx_V → mx_Hp → Prop} {n : Nat} {s : Int32} {o : (Int32) ⊕ (Int64)} (hf : mx_lp (b45_2 x0 x1 I J) n s = some o) (hk : (Sum.elim (fun x : Int32 => mx_WP (d + 0) 45 34 [some (mx_r (some (0, 3, x0))), some (mx_l x1), none, some (mx_i x)] [] (hC I J h, μ) Q) (fun x : Int64 => Q (some (mx_l x)) (hC I J h, μ))) o) : mx_WP (d + 0) 45 2 [some (mx_r (some (0, 3, x0))), some (mx_l x1), none, some (mx_i s)] [] (hC I J h, μ) Q := mx_lp_ok (P := fun s : Int32 => mx_WP (d + 0) 45 2 [some (mx_r (some (0, 3, x0))), some (mx_l x1), none, some (mx_i s)] [] (hC I J h, μ) Q) (E := (Sum.elim (fun x : Int32 => mx_WP (d + 0) 45 34 [some (mx_r (some (0, 3, x0))), some (mx_l x1), none, some (mx_i x)] [] (hC I J h, μ) Q) (fun x : Int64 => Q (some (mx_l x)) (hC I J h, μ)))) (fun s o hf hk => B45_2 hf hk) n s o hf hk
def f45 (x0 : Nat) (x1 : Int64) (I : Nat → Nat → Nat → Int32) (J : Nat → Nat → Nat → Int64) : Option (Int64) :=
  (mx_lp (b45_2 x0 x1 I J) mx_fu (0 : Int32)).bind fun u105 => Sum.elim (fun w107 =>
  some (-1 : Int64)) (fun y108 => some y108) u105
theorem T45 {d : Nat} {x0 : Nat} {x1 : Int64} {I : Nat → Nat → Nat → Int32} {J : Nat → Nat → Nat → Int64} {h : Nat → Nat} {μ : mx_Rg × (Nat × (Nat → Int32)) × (Nat × Nat)} {Q : Option mx_V → mx_Hp → Prop} {o : Int64} (hf : f45 x0 x1 I J = some o) (hk : Q (some (mx_l o)) (hC I J h, μ)) : mx_WP (d + 0) 45 0 (mx_ent 45 [mx_r (some (0, 3, x0)), mx_l x1]) [] (hC I J h, μ) Q := by
  unfold f45 at hf
  refine mx_WP.go 2 (pc' := 2) (L' := [some (mx_r (some (0, 3, x0))), some (mx_l x1), none, some (mx_i (0 : Int32))]) (st' := []) (σ' := (hC I J h, μ)) rfl ?_
  obtain ⟨u105, e106, hf⟩ := Option.bind_eq_some_iff.mp hf
  cases u105 with
  | inr y108 =>
    rw [Sum.elim_inr] at hf
    rw [← Option.some.inj hf] at hk
    exact (L45_2 (d := d) e106 hk)
  | inl w107 =>
    rw [Sum.elim_inl] at hf
    refine (L45_2 (d := d) e106 ?_)
    show mx_WP (d + 0) 45 34 [some (mx_r (some (0, 3, x0))), some (mx_l x1), none, some (mx_i w107)] [] (hC I J h, μ) Q
    refine mx_WP.go 1 (pc' := 37) (L' := [some (mx_r (some (0, 3, x0))), some (mx_l x1), none, some (mx_i w107)]) (st' := [mx_l (-1 : Int64)]) (σ' := (hC I J h, μ)) rfl ?_
    rw [← Option.some.inj hf] at hk
    refine mx_WP.ret (v := some (mx_l (-1 : Int64))) rfl ?_
    exact hk
def f44 (x0 : Nat) (x1 : Int64) (I : Nat → Nat → Nat → Int32) (J : Nat → Nat → Nat → Int64) : Option (Bool) :=
  (f45 x0 x1 I J).bind fun u1 =>
  if (lg_cmp u1 (0 : Int64)) < (0 : Int32) then (some false) else some true
theorem T44 {d : Nat} {x0 : Nat} {x1 : Int64} {I : Nat → Nat → Nat → Int32} {J : Nat → Nat → Nat → Int64} {h : Nat → Nat} {μ : mx_Rg × (Nat × (Nat → Int32)) × (Nat × Nat)} {Q : Option mx_V → mx_Hp → Prop} {o : Bool} (hf : f44 x0 x1 I J = some o) (hk : Q (some (mx_i (b2i o))) (hC I J h, μ)) : mx_WP (d + 1) 44 0 (mx_ent 44 [mx_r (some (0, 3, x0)), mx_l x1]) [] (hC I J h, μ) Q := by
  unfold f44 at hf
  refine mx_WP.go 2 (pc' := 2) (L' := [some (mx_r (some (0, 3, x0))), some (mx_l x1), none]) (st' := [mx_l x1, mx_r (some (0, 3, x0))]) (σ' := (hC I J h, μ)) rfl ?_
  obtain ⟨u1, e3, hf⟩ := Option.bind_eq_some_iff.mp hf
  refine mx_WP.call (d := d + 0) (y := 45) (as := [mx_r (some (0, 3, x0)), mx_l x1]) (pc' := 5) (r := []) rfl rfl (T45 (d := d + 0)  e3 ?_)
  show mx_WP (d + 1) 44 5 [some (mx_r (some (0, 3, x0))), some (mx_l x1), none] [mx_l u1] (hC I J h, μ) Q
  refine mx_WP.go 2 (pc' := 7) (L' := [some (mx_r (some (0, 3, x0))), some (mx_l x1), none]) (st' := [mx_i (lg_cmp u1 (0 : Int64))]) (σ' := (hC I J h, μ)) rfl ?_
  by_cases c2 : (lg_cmp u1 (0 : Int64)) < (0 : Int32)
  · rw [if_pos c2] at hf
    refine mx_WP.blt (x := (lg_cmp u1 (0 : Int64))) (y := (0 : Int32)) (q := 14) (p3 := 10) rfl (fun _ => ?_) (fun hh => absurd c2 hh)
    refine mx_WP.go 1 (pc' := 15) (L' := [some (mx_r (some (0, 3, x0))), some (mx_l x1), none]) (st' := [mx_i (0 : Int32)]) (σ' := (hC I J h, μ)) rfl ?_
    rw [← Option.some.inj hf] at hk
    refine mx_WP.ret (v := some (mx_i (0 : Int32))) rfl ?_
    exact hk
  · rw [if_neg c2] at hf
    refine mx_WP.blt (x := (lg_cmp u1 (0 : Int64))) (y := (0 : Int32)) (q := 14) (p3 := 10) rfl (fun hh => absurd hh c2) (fun _ => ?_)
    refine mx_WP.go 2 (pc' := 15) (L' := [some (mx_r (some (0, 3, x0))), some (mx_l x1), none]) (st' := [mx_i (1 : Int32)]) (σ' := (hC I J h, μ)) rfl ?_
    rw [← Option.some.inj hf] at hk
    refine mx_WP.ret (v := some (mx_i (1 : Int32))) rfl ?_
    exact hk
def f66 (x0 : Nat) (x1 : Int32) (I : Nat → Nat → Nat → Int32) (J : Nat → Nat → Nat → Int64) (h : Nat → Nat) : Option (Bool × (Nat → Nat → Nat → Int32) × (Nat → Nat → Nat → Int64)) :=
  (f8 x1).bind fun u1 =>
  if u1 = true then ((f64 x0 x1 I J).bind fun u3 =>
  if u3.1 = true then (if (u3.2.1 5 x0 4) < (8 : Int32) then (some (true, u3.2.1, u3.2.2)) else (f44 (h x0) (u3.2.2 5 x0 3) u3.2.1 u3.2.2).bind fun u6 =>
  if u6 = true then (some (false, u3.2.1, u3.2.2)) else some (true, u3.2.1, u3.2.2)) else some (false, u3.2.1, u3.2.2)) else if x1 = (61 : Int32) then ((f44 (h x0) (J 5 x0 3) I J).bind fun u11 =>
  if u11 = true then (some (false, I, J)) else (f58 x0 (5 : Int32) I).bind fun u13 =>
  some (u13.1, u13.2, (mx_u3 J 5 x0 5 (J 5 x0 3)))) else some (false, I, J)
theorem T66 {d : Nat} {x0 : Nat} {x1 : Int32} {I : Nat → Nat → Nat → Int32} {J : Nat → Nat → Nat → Int64} {h : Nat → Nat} {μ : mx_Rg × (Nat × (Nat → Int32)) × (Nat × Nat)} {Q : Option mx_V → mx_Hp → Prop} {o : Bool × (Nat → Nat → Nat → Int32) × (Nat → Nat → Nat → Int64)} (hf : f66 x0 x1 I J h = some o) (hk : Q (some (mx_i (b2i o.1))) (hC o.2.1 o.2.2 h, μ)) : mx_WP (d + 2) 66 0 (mx_ent 66 [mx_r (some (0, 5, x0)), mx_i x1]) [] (hC I J h, μ) Q := by
  unfold f66 at hf
  refine mx_WP.go 1 (pc' := 1) (L' := [some (mx_r (some (0, 5, x0))), some (mx_i x1)]) (st' := [mx_i x1]) (σ' := (hC I J h, μ)) rfl ?_
  obtain ⟨u1, e16, hf⟩ := Option.bind_eq_some_iff.mp hf
  refine mx_WP.call (d := d + 1) (y := 8) (as := [mx_i x1]) (pc' := 4) (r := []) rfl rfl (T8 (d := d + 1)  e16 ?_)
  show mx_WP (d + 2) 66 4 [some (mx_r (some (0, 5, x0))), some (mx_i x1)] [mx_i (b2i u1)] (hC I J h, μ) Q
  by_cases c2 : u1 = true
  · rw [if_pos c2] at hf
    refine mx_WP.zeq (b := u1) (q := 44) (p3 := 7) rfl (fun hh => absurd hh (by simp [c2])) (fun _ => ?_)
    refine mx_WP.go 2 (pc' := 9) (L' := [some (mx_r (some (0, 5, x0))), some (mx_i x1)]) (st' := [mx_i x1, mx_r (some (0, 5, x0))]) (σ' := (hC I J h, μ)) rfl ?_
    obtain ⟨u3, e9, hf⟩ := Option.bind_eq_some_iff.mp hf
    refine mx_WP.call (d := d + 1) (y := 64) (as := [mx_r (some (0, 5, x0)), mx_i x1]) (pc' := 12) (r := []) rfl rfl (T64 (d := d + 1)  e9 ?_)
    show mx_WP (d + 2) 66 12 [some (mx_r (some (0, 5, x0))), some (mx_i x1)] [mx_i (b2i u3.1)] (hC u3.2.1 u3.2.2 h, μ) Q
    by_cases c4 : u3.1 = true
    · rw [if_pos c4] at hf
      refine mx_WP.zeq (b := u3.1) (q := 42) (p3 := 15) rfl (fun hh => absurd hh (by simp [c4])) (fun _ => ?_)
      refine mx_WP.go 3 (pc' := 21) (L' := [some (mx_r (some (0, 5, x0))), some (mx_i x1)]) (st' := [mx_i (8 : Int32), mx_i (u3.2.1 5 x0 4)]) (σ' := (hC u3.2.1 u3.2.2 h, μ)) rfl ?_
      by_cases c5 : (u3.2.1 5 x0 4) < (8 : Int32)
      · rw [if_pos c5] at hf
        refine mx_WP.blt (x := (u3.2.1 5 x0 4)) (y := (8 : Int32)) (q := 38) (p3 := 24) rfl (fun _ => ?_) (fun hh => absurd c5 hh)
        refine mx_WP.go 2 (pc' := 43) (L' := [some (mx_r (some (0, 5, x0))), some (mx_i x1)]) (st' := [mx_i (1 : Int32)]) (σ' := (hC u3.2.1 u3.2.2 h, μ)) rfl ?_
        rw [← Option.some.inj hf] at hk
        refine mx_WP.ret (v := some (mx_i (1 : Int32))) rfl ?_
        exact hk
      · rw [if_neg c5] at hf
        refine mx_WP.blt (x := (u3.2.1 5 x0 4)) (y := (8 : Int32)) (q := 38) (p3 := 24) rfl (fun hh => absurd hh c5) (fun _ => ?_)
        refine mx_WP.go 4 (pc' := 32) (L' := [some (mx_r (some (0, 5, x0))), some (mx_i x1)]) (st' := [mx_l (u3.2.2 5 x0 3), mx_r (some (0, 3, (h x0)))]) (σ' := (hC u3.2.1 u3.2.2 h, μ)) rfl ?_
        obtain ⟨u6, e8, hf⟩ := Option.bind_eq_some_iff.mp hf
        refine mx_WP.call (d := d + 1) (y := 44) (as := [mx_r (some (0, 3, (h x0))), mx_l (u3.2.2 5 x0 3)]) (pc' := 35) (r := []) rfl rfl (T44 (d := d + 0)  e8 ?_)
        show mx_WP (d + 2) 66 35 [some (mx_r (some (0, 5, x0))), some (mx_i x1)] [mx_i (b2i u6)] (hC u3.2.1 u3.2.2 h, μ) Q
        by_cases c7 : u6 = true
        · rw [if_pos c7] at hf
          refine mx_WP.zne (b := u6) (q := 42) (p3 := 38) rfl (fun _ => ?_) (fun hh => absurd hh (by simp [c7]))
          refine mx_WP.go 1 (pc' := 43) (L' := [some (mx_r (some (0, 5, x0))), some (mx_i x1)]) (st' := [mx_i (0 : Int32)]) (σ' := (hC u3.2.1 u3.2.2 h, μ)) rfl ?_
          rw [← Option.some.inj hf] at hk
          refine mx_WP.ret (v := some (mx_i (0 : Int32))) rfl ?_
          exact hk
        · rw [if_neg c7] at hf
          refine mx_WP.zne (b := u6) (q := 42) (p3 := 38) rfl (fun hh => absurd hh (by simp [c7])) (fun _ => ?_)
          refine mx_WP.go 2 (pc' := 43) (L' := [some (mx_r (some (0, 5, x0))), some (mx_i x1)]) (st' := [mx_i (1 : Int32)]) (σ' := (hC u3.2.1 u3.2.2 h, μ)) rfl ?_
          rw [← Option.some.inj hf] at hk
          refine mx_WP.ret (v := some (mx_i (1 : Int32))) rfl ?_
          exact hk
    · rw [if_neg c4] at hf
      refine mx_WP.zeq (b := u3.1) (q := 42) (p3 := 15) rfl (fun _ => ?_) (fun hh => absurd hh (by simp [c4]))
      refine mx_WP.go 1 (pc' := 43) (L' := [some (mx_r (some (0, 5, x0))), some (mx_i x1)]) (st' := [mx_i (0 : Int32)]) (σ' := (hC u3.2.1 u3.2.2 h, μ)) rfl ?_
      rw [← Option.some.inj hf] at hk
      refine mx_WP.ret (v := some (mx_i (0 : Int32))) rfl ?_
      exact hk
  · rw [if_neg c2] at hf
    refine mx_WP.zeq (b := u1) (q := 44) (p3 := 7) rfl (fun _ => ?_) (fun hh => absurd hh (by simp [c2]))
    refine mx_WP.go 2 (pc' := 47) (L' := [some (mx_r (some (0, 5, x0))), some (mx_i x1)]) (st' := [mx_i (61 : Int32), mx_i x1]) (σ' := (hC I J h, μ)) rfl ?_
    by_cases c10 : x1 = (61 : Int32)
    · rw [if_pos c10] at hf
      refine mx_WP.bne (x := x1) (y := (61 : Int32)) (q := 64) (p3 := 50) rfl (fun hh => absurd c10 hh) (fun _ => ?_)
      refine mx_WP.go 4 (pc' := 58) (L' := [some (mx_r (some (0, 5, x0))), some (mx_i x1)]) (st' := [mx_l (J 5 x0 3), mx_r (some (0, 3, (h x0)))]) (σ' := (hC I J h, μ)) rfl ?_
      obtain ⟨u11, e15, hf⟩ := Option.bind_eq_some_iff.mp hf
      refine mx_WP.call (d := d + 1) (y := 44) (as := [mx_r (some (0, 3, (h x0))), mx_l (J 5 x0 3)]) (pc' := 61) (r := []) rfl rfl (T44 (d := d + 0)  e15 ?_)
      show mx_WP (d + 2) 66 61 [some (mx_r (some (0, 5, x0))), some (mx_i x1)] [mx_i (b2i u11)] (hC I J h, μ) Q
      by_cases c12 : u11 = true
      · rw [if_pos c12] at hf
        refine mx_WP.zeq (b := u11) (q := 66) (p3 := 64) rfl (fun hh => absurd hh (by simp [c12])) (fun _ => ?_)
        refine mx_WP.go 1 (pc' := 65) (L' := [some (mx_r (some (0, 5, x0))), some (mx_i x1)]) (st' := [mx_i (0 : Int32)]) (σ' := (hC I J h, μ)) rfl ?_
        rw [← Option.some.inj hf] at hk
        refine mx_WP.ret (v := some (mx_i (0 : Int32))) rfl ?_
        exact hk
      · rw [if_neg c12] at hf
        refine mx_WP.zeq (b := u11) (q := 66) (p3 := 64) rfl (fun _ => ?_) (fun hh => absurd hh (by simp [c12]))
        refine mx_WP.go 6 (pc' := 76) (L' := [some (mx_r (some (0, 5, x0))), some (mx_i x1)]) (st' := [mx_i (5 : Int32), mx_r (some (0, 5, x0))]) (σ' := (hC I (mx_u3 J 5 x0 5 (J 5 x0 3)) h, μ)) rfl ?_
        obtain ⟨u13, e14, hf⟩ := Option.bind_eq_some_iff.mp hf
        refine mx_WP.call (d := d + 1) (y := 58) (as := [mx_r (some (0, 5, x0)), mx_i (5 : Int32)]) (pc' := 79) (r := []) rfl rfl (T58 (d := d + 1)  e14 ?_)
        show mx_WP (d + 2) 66 79 [some (mx_r (some (0, 5, x0))), some (mx_i x1)] [mx_i (b2i u13.1)] (hC u13.2 (mx_u3 J 5 x0 5 (J 5 x0 3)) h, μ) Q
        rw [← Option.some.inj hf] at hk
        refine mx_WP.retz (b2i_01 _) (by rfl) (by rfl) ?_
        exact hk
    · rw [if_neg c10] at hf
      refine mx_WP.bne (x := x1) (y := (61 : Int32)) (q := 64) (p3 := 50) rfl (fun _ => ?_) (fun hh => absurd c10 hh)
      refine mx_WP.go 1 (pc' := 65) (L' := [some (mx_r (some (0, 5, x0))), some (mx_i x1)]) (st' := [mx_i (0 : Int32)]) (σ' := (hC I J h, μ)) rfl ?_
      rw [← Option.some.inj hf] at hk
      refine mx_WP.ret (v := some (mx_i (0 : Int32))) rfl ?_
      exact hk
def f46 (x0 : Nat) (x1 : Int64) (x2 : Int64) (I : Nat → Nat → Nat → Int32) (J : Nat → Nat → Nat → Int64) : Option ((Nat → Nat → Nat → Int32) × (Nat → Nat → Nat → Int64)) :=
  (f43 x0 I).bind fun u1 =>
  if u1 = true then (if (I 3 x0 2) < 0 ∨ 4 ≤ (I 3 x0 2).toNatClampNeg then none else if (I 3 x0 2) < 0 ∨ 4 ≤ (I 3 x0 2).toNatClampNeg then none else some ((mx_u3 I 3 x0 2 ((I 3 x0 2) + (1 : Int32))), (mx_u3 (mx_u3 J 70 x0 ((I 3 x0 2).toNatClampNeg) x1) 71 x0 ((I 3 x0 2).toNatClampNeg) x2))) else some (I, J)
theorem T46 {d : Nat} {x0 : Nat} {x1 : Int64} {x2 : Int64} {I : Nat → Nat → Nat → Int32} {J : Nat → Nat → Nat → Int64} {h : Nat → Nat} {μ : mx_Rg × (Nat × (Nat → Int32)) × (Nat × Nat)} {Q : Option mx_V → mx_Hp → Prop} {o : (Nat → Nat → Nat → Int32) × (Nat → Nat → Nat → Int64)} (hf : f46 x0 x1 x2 I J = some o) (hk : Q (none) (hC o.1 o.2 h, μ)) : mx_WP (d + 1) 46 0 (mx_ent 46 [mx_r (some (0, 3, x0)), mx_l x1, mx_l x2]) [] (hC I J h, μ) Q := by
  unfold f46 at hf
  refine mx_WP.go 1 (pc' := 1) (L' := [some (mx_r (some (0, 3, x0))), some (mx_l x1), none, some (mx_l x2), none]) (st' := [mx_r (some (0, 3, x0))]) (σ' := (hC I J h, μ)) rfl ?_
  obtain ⟨u1, e5, hf⟩ := Option.bind_eq_some_iff.mp hf
  refine mx_WP.call (d := d + 0) (y := 43) (as := [mx_r (some (0, 3, x0))]) (pc' := 4) (r := []) rfl rfl (T43 (d := d + 0)  e5 ?_)
  show mx_WP (d + 1) 46 4 [some (mx_r (some (0, 3, x0))), some (mx_l x1), none, some (mx_l x2), none] [mx_i (b2i u1)] (hC I J h, μ) Q
  by_cases c2 : u1 = true
  · rw [if_pos c2] at hf
    refine mx_WP.zeq (b := u1) (q := 37) (p3 := 7) rfl (fun hh => absurd hh (by simp [c2])) (fun _ => ?_)
    refine mx_WP.go 5 (pc' := 16) (L' := [some (mx_r (some (0, 3, x0))), some (mx_l x1), none, some (mx_l x2), none]) (st' := [mx_l x1, mx_i (I 3 x0 2), mx_r (some (0, 70, x0))]) (σ' := (hC I J h, μ)) rfl ?_
    by_cases c3 : (I 3 x0 2) < 0 ∨ 4 ≤ (I 3 x0 2).toNatClampNeg
    · rw [if_pos c3] at hf
      cases hf
    rw [if_neg c3] at hf
    refine mx_WP.lastx c3 ?_
    show mx_WP (d + 1) 46 17 [some (mx_r (some (0, 3, x0))), some (mx_l x1), none, some (mx_l x2), none] [] (hC I (mx_u3 J 70 x0 ((I 3 x0 2).toNatClampNeg) x1) h, μ) Q
    refine mx_WP.go 5 (pc' := 26) (L' := [some (mx_r (some (0, 3, x0))), some (mx_l x1), none, some (mx_l x2), none]) (st' := [mx_l x2, mx_i (I 3 x0 2), mx_r (some (0, 71, x0))]) (σ' := (hC I (mx_u3 J 70 x0 ((I 3 x0 2).toNatClampNeg) x1) h, μ)) rfl ?_
    by_cases c4 : (I 3 x0 2) < 0 ∨ 4 ≤ (I 3 x0 2).toNatClampNeg
    · rw [if_pos c4] at hf
      cases hf
    rw [if_neg c4] at hf
    refine mx_WP.lastx c4 ?_
    show mx_WP (d + 1) 46 27 [some (mx_r (some (0, 3, x0))), some (mx_l x1), none, some (mx_l x2), none] [] (hC I (mx_u3 (mx_u3 J 70 x0 ((I 3 x0 2).toNatClampNeg) x1) 71 x0 ((I 3 x0 2).toNatClampNeg) x2) h, μ) Q
    refine mx_WP.go 6 (pc' := 37) (L' := [some (mx_r (some (0, 3, x0))), some (mx_l x1), none, some (mx_l x2), none]) (st' := []) (σ' := (hC (mx_u3 I 3 x0 2 ((I 3 x0 2) + (1 : Int32))) (mx_u3 (mx_u3 J 70 x0 ((I 3 x0 2).toNatClampNeg) x1) 71 x0 ((I 3 x0 2).toNatClampNeg) x2) h, μ)) rfl ?_
    rw [← Option.some.inj hf] at hk
    refine mx_WP.ret (v := none) rfl ?_
    exact hk
  · rw [if_neg c2] at hf
    refine mx_WP.zeq (b := u1) (q := 37) (p3 := 7) rfl (fun _ => ?_) (fun hh => absurd hh (by simp [c2]))
    rw [← Option.some.inj hf] at hk
    refine mx_WP.ret (v := none) rfl ?_
    exact hk
def f67 (x0 : Nat) (x1 : Int32) (I : Nat → Nat → Nat → Int32) (J : Nat → Nat → Nat → Int64) (h : Nat → Nat) : Option (Bool × (Nat → Nat → Nat → Int32) × (Nat → Nat → Nat → Int64)) :=
  if x1 = (34 : Int32) then ((f46 (h x0) (J 5 x0 5) (J 5 x0 3) I J).bind fun u2 =>
  (f58 x0 (7 : Int32) u2.1).bind fun u3 =>
  some (u3.1, u3.2, u2.2)) else (f7 x1).bind fun u6 =>
  if u6 = true then ((f64 x0 x1 I J).bind fun u8 =>
  if u8.1 = true then (some (true, u8.2.1, u8.2.2)) else some (false, u8.2.1, u8.2.2)) else some (false, I, J)
theorem T67 {d : Nat} {x0 : Nat} {x1 : Int32} {I : Nat → Nat → Nat → Int32} {J : Nat → Nat → Nat → Int64} {h : Nat → Nat} {μ : mx_Rg × (Nat × (Nat → Int32)) × (Nat × Nat)} {Q : Option mx_V → mx_Hp → Prop} {o : Bool × (Nat → Nat → Nat → Int32) × (Nat → Nat → Nat → Int64)} (hf : f67 x0 x1 I J h = some o) (hk : Q (some (mx_i (b2i o.1))) (hC o.2.1 o.2.2 h, μ)) : mx_WP (d + 2) 67 0 (mx_ent 67 [mx_r (some (0, 5, x0)), mx_i x1]) [] (hC I J h, μ) Q := by
  unfold f67 at hf
  refine mx_WP.go 2 (pc' := 3) (L' := [some (mx_r (some (0, 5, x0))), some (mx_i x1)]) (st' := [mx_i (34 : Int32), mx_i x1]) (σ' := (hC I J h, μ)) rfl ?_
  by_cases c1 : x1 = (34 : Int32)
  · rw [if_pos c1] at hf
    refine mx_WP.bne (x := x1) (y := (34 : Int32)) (q := 28) (p3 := 6) rfl (fun hh => absurd c1 hh) (fun _ => ?_)
    refine mx_WP.go 6 (pc' := 18) (L' := [some (mx_r (some (0, 5, x0))), some (mx_i x1)]) (st' := [mx_l (J 5 x0 3), mx_l (J 5 x0 5), mx_r (some (0, 3, (h x0)))]) (σ' := (hC I J h, μ)) rfl ?_
    obtain ⟨u2, e5, hf⟩ := Option.bind_eq_some_iff.mp hf
    refine mx_WP.call (d := d + 1) (y := 46) (as := [mx_r (some (0, 3, (h x0))), mx_l (J 5 x0 5), mx_l (J 5 x0 3)]) (pc' := 21) (r := []) rfl rfl (T46 (d := d + 0)  e5 ?_)
    show mx_WP (d + 2) 67 21 [some (mx_r (some (0, 5, x0))), some (mx_i x1)] [] (hC u2.1 u2.2 h, μ) Q
    refine mx_WP.go 2 (pc' := 24) (L' := [some (mx_r (some (0, 5, x0))), some (mx_i x1)]) (st' := [mx_i (7 : Int32), mx_r (some (0, 5, x0))]) (σ' := (hC u2.1 u2.2 h, μ)) rfl ?_
    obtain ⟨u3, e4, hf⟩ := Option.bind_eq_some_iff.mp hf
    refine mx_WP.call (d := d + 1) (y := 58) (as := [mx_r (some (0, 5, x0)), mx_i (7 : Int32)]) (pc' := 27) (r := []) rfl rfl (T58 (d := d + 1)  e4 ?_)
    show mx_WP (d + 2) 67 27 [some (mx_r (some (0, 5, x0))), some (mx_i x1)] [mx_i (b2i u3.1)] (hC u3.2 u2.2 h, μ) Q
    rw [← Option.some.inj hf] at hk
    refine mx_WP.retz (b2i_01 _) (by rfl) (by rfl) ?_
    exact hk
  · rw [if_neg c1] at hf
    refine mx_WP.bne (x := x1) (y := (34 : Int32)) (q := 28) (p3 := 6) rfl (fun _ => ?_) (fun hh => absurd c1 hh)
    refine mx_WP.go 1 (pc' := 29) (L' := [some (mx_r (some (0, 5, x0))), some (mx_i x1)]) (st' := [mx_i x1]) (σ' := (hC I J h, μ)) rfl ?_
    obtain ⟨u6, e11, hf⟩ := Option.bind_eq_some_iff.mp hf
    refine mx_WP.call (d := d + 1) (y := 7) (as := [mx_i x1]) (pc' := 32) (r := []) rfl rfl (T7 (d := d + 0)  e11 ?_)
    show mx_WP (d + 2) 67 32 [some (mx_r (some (0, 5, x0))), some (mx_i x1)] [mx_i (b2i u6)] (hC I J h, μ) Q
    by_cases c7 : u6 = true
    · rw [if_pos c7] at hf
      refine mx_WP.zeq (b := u6) (q := 47) (p3 := 35) rfl (fun hh => absurd hh (by simp [c7])) (fun _ => ?_)
      refine mx_WP.go 2 (pc' := 37) (L' := [some (mx_r (some (0, 5, x0))), some (mx_i x1)]) (st' := [mx_i x1, mx_r (some (0, 5, x0))]) (σ' := (hC I J h, μ)) rfl ?_
      obtain ⟨u8, e10, hf⟩ := Option.bind_eq_some_iff.mp hf
      refine mx_WP.call (d := d + 1) (y := 64) (as := [mx_r (some (0, 5, x0)), mx_i x1]) (pc' := 40) (r := []) rfl rfl (T64 (d := d + 1)  e10 ?_)
      show mx_WP (d + 2) 67 40 [some (mx_r (some (0, 5, x0))), some (mx_i x1)] [mx_i (b2i u8.1)] (hC u8.2.1 u8.2.2 h, μ) Q
      by_cases c9 : u8.1 = true
      · rw [if_pos c9] at hf
        refine mx_WP.zeq (b := u8.1) (q := 47) (p3 := 43) rfl (fun hh => absurd hh (by simp [c9])) (fun _ => ?_)
        refine mx_WP.go 2 (pc' := 48) (L' := [some (mx_r (some (0, 5, x0))), some (mx_i x1)]) (st' := [mx_i (1 : Int32)]) (σ' := (hC u8.2.1 u8.2.2 h, μ)) rfl ?_
        rw [← Option.some.inj hf] at hk
        refine mx_WP.ret (v := some (mx_i (1 : Int32))) rfl ?_
        exact hk
      · rw [if_neg c9] at hf
        refine mx_WP.zeq (b := u8.1) (q := 47) (p3 := 43) rfl (fun _ => ?_) (fun hh => absurd hh (by simp [c9]))
        refine mx_WP.go 1 (pc' := 48) (L' := [some (mx_r (some (0, 5, x0))), some (mx_i x1)]) (st' := [mx_i (0 : Int32)]) (σ' := (hC u8.2.1 u8.2.2 h, μ)) rfl ?_
        rw [← Option.some.inj hf] at hk
        refine mx_WP.ret (v := some (mx_i (0 : Int32))) rfl ?_
        exact hk
    · rw [if_neg c7] at hf
      refine mx_WP.zeq (b := u6) (q := 47) (p3 := 35) rfl (fun _ => ?_) (fun hh => absurd hh (by simp [c7]))
      refine mx_WP.go 1 (pc' := 48) (L' := [some (mx_r (some (0, 5, x0))), some (mx_i x1)]) (st' := [mx_i (0 : Int32)]) (σ' := (hC I J h, μ)) rfl ?_
      rw [← Option.some.inj hf] at hk
      refine mx_WP.ret (v := some (mx_i (0 : Int32))) rfl ?_
      exact hk
def f51 (x0 : Nat) (x1 : Int32) (I : Nat → Nat → Nat → Int32) : Option (Nat) :=
  if x1 < (0 : Int32) then (some 0) else if (I 4 x0 2) ≤ x1 then (some 0) else if x1 < 0 ∨ 16 ≤ x1.toNatClampNeg then none else some (1 + 16 * x0 + x1.toNatClampNeg)
theorem T51 {d : Nat} {x0 : Nat} {x1 : Int32} {I : Nat → Nat → Nat → Int32} {J : Nat → Nat → Nat → Int64} {h : Nat → Nat} {μ : mx_Rg × (Nat × (Nat → Int32)) × (Nat × Nat)} {Q : Option mx_V → mx_Hp → Prop} {o : Nat} (hf : f51 x0 x1 I = some o) (hk : Q (some (mx_r (some (0, 3, o)))) (hC I J h, μ)) : mx_WP (d + 0) 51 0 (mx_ent 51 [mx_r (some (0, 4, x0)), mx_i x1]) [] (hC I J h, μ) Q := by
  unfold f51 at hf
  refine mx_WP.go 1 (pc' := 1) (L' := [some (mx_r (some (0, 4, x0))), some (mx_i x1)]) (st' := [mx_i x1]) (σ' := (hC I J h, μ)) rfl ?_
  by_cases c1 : x1 < (0 : Int32)
  · rw [if_pos c1] at hf
    refine mx_WP.blt (x := x1) (y := (0 : Int32)) (q := 21) (p3 := 4) rfl (fun _ => ?_) (fun hh => absurd c1 hh)
    refine mx_WP.go 2 (pc' := 25) (L' := [some (mx_r (some (0, 4, x0))), some (mx_i x1)]) (st' := [mx_r (some (0, 3, 0))]) (σ' := (hC I J h, μ)) rfl ?_
    rw [← Option.some.inj hf] at hk
    refine mx_WP.ret (v := some (mx_r (some (0, 3, 0)))) rfl ?_
    exact hk
  · rw [if_neg c1] at hf
    refine mx_WP.blt (x := x1) (y := (0 : Int32)) (q := 21) (p3 := 4) rfl (fun hh => absurd hh c1) (fun _ => ?_)
    refine mx_WP.go 3 (pc' := 9) (L' := [some (mx_r (some (0, 4, x0))), some (mx_i x1)]) (st' := [mx_i (I 4 x0 2), mx_i x1]) (σ' := (hC I J h, μ)) rfl ?_
    by_cases c2 : (I 4 x0 2) ≤ x1
    · rw [if_pos c2] at hf
      refine mx_WP.bge (x := x1) (y := (I 4 x0 2)) (q := 21) (p3 := 12) rfl (fun _ => ?_) (fun hh => absurd c2 hh)
      refine mx_WP.go 2 (pc' := 25) (L' := [some (mx_r (some (0, 4, x0))), some (mx_i x1)]) (st' := [mx_r (some (0, 3, 0))]) (σ' := (hC I J h, μ)) rfl ?_
      rw [← Option.some.inj hf] at hk
      refine mx_WP.ret (v := some (mx_r (some (0, 3, 0)))) rfl ?_
      exact hk
    · rw [if_neg c2] at hf
      refine mx_WP.bge (x := x1) (y := (I 4 x0 2)) (q := 21) (p3 := 12) rfl (fun hh => absurd hh c2) (fun _ => ?_)
      refine mx_WP.go 3 (pc' := 17) (L' := [some (mx_r (some (0, 4, x0))), some (mx_i x1)]) (st' := [mx_i x1, mx_r (some (0, 72, x0))]) (σ' := (hC I J h, μ)) rfl ?_
      by_cases c3 : x1 < 0 ∨ 16 ≤ x1.toNatClampNeg
      · rw [if_pos c3] at hf
        cases hf
      rw [if_neg c3] at hf
      refine mx_WP.aal72 c3 ?_
      show mx_WP (d + 0) 51 18 [some (mx_r (some (0, 4, x0))), some (mx_i x1)] [mx_r (some (0, 3, (1 + 16 * x0 + x1.toNatClampNeg)))] (hC I J h, μ) Q
      refine mx_WP.go 1 (pc' := 25) (L' := [some (mx_r (some (0, 4, x0))), some (mx_i x1)]) (st' := [mx_r (some (0, 3, (1 + 16 * x0 + x1.toNatClampNeg)))]) (σ' := (hC I J h, μ)) rfl ?_
      rw [← Option.some.inj hf] at hk
      refine mx_WP.ret (v := some (mx_r (some (0, 3, (1 + 16 * x0 + x1.toNatClampNeg))))) rfl ?_
      exact hk
def f68 (x0 : Nat) (I : Nat → Nat → Nat → Int32) (h : Nat → Nat) : Option (Bool × (Nat → Nat → Nat → Int32) × (Nat → Nat)) :=
  (f51 x0 (I 3 (h x0) 4) I).bind fun u1 =>
  (f58 x0 (0 : Int32) I).bind fun u2 =>
  some (u2.1, u2.2, (mx_u1 h x0 u1))
theorem T68 {d : Nat} {x0 : Nat} {I : Nat → Nat → Nat → Int32} {J : Nat → Nat → Nat → Int64} {h : Nat → Nat} {μ : mx_Rg × (Nat × (Nat → Int32)) × (Nat × Nat)} {Q : Option mx_V → mx_Hp → Prop} {o : Bool × (Nat → Nat → Nat → Int32) × (Nat → Nat)} (hf : f68 x0 I h = some o) (hk : Q (some (mx_i (b2i o.1))) (hC o.2.1 J o.2.2, μ)) : mx_WP (d + 1) 68 0 (mx_ent 68 [mx_r (some (0, 5, x0))]) [] (hC I J h, μ) Q := by
  unfold f68 at hf
  refine mx_WP.go 6 (pc' := 12) (L' := [some (mx_r (some (0, 5, x0)))]) (st' := [mx_i (I 3 (h x0) 4), mx_r (some (0, 4, x0)), mx_r (some (0, 5, x0))]) (σ' := (hC I J h, μ)) rfl ?_
  obtain ⟨u1, e4, hf⟩ := Option.bind_eq_some_iff.mp hf
  refine mx_WP.call (d := d + 0) (y := 51) (as := [mx_r (some (0, 4, x0)), mx_i (I 3 (h x0) 4)]) (pc' := 15) (r := [mx_r (some (0, 5, x0))]) rfl rfl (T51 (d := d + 0)  e4 ?_)
  show mx_WP (d + 1) 68 15 [some (mx_r (some (0, 5, x0)))] [mx_r (some (0, 3, u1)), mx_r (some (0, 5, x0))] (hC I J h, μ) Q
  refine mx_WP.puth (by rfl) ?_
  show mx_WP (d + 1) 68 18 [some (mx_r (some (0, 5, x0)))] [] (hC I J (mx_u1 h x0 u1), μ) Q
  refine mx_WP.go 2 (pc' := 20) (L' := [some (mx_r (some (0, 5, x0)))]) (st' := [mx_i (0 : Int32), mx_r (some (0, 5, x0))]) (σ' := (hC I J (mx_u1 h x0 u1), μ)) rfl ?_
  obtain ⟨u2, e3, hf⟩ := Option.bind_eq_some_iff.mp hf
  refine mx_WP.call (d := d + 0) (y := 58) (as := [mx_r (some (0, 5, x0)), mx_i (0 : Int32)]) (pc' := 23) (r := []) rfl rfl (T58 (d := d + 0)  e3 ?_)
  show mx_WP (d + 1) 68 23 [some (mx_r (some (0, 5, x0)))] [mx_i (b2i u2.1)] (hC u2.2 J (mx_u1 h x0 u1), μ) Q
  rw [← Option.some.inj hf] at hk
  refine mx_WP.retz (b2i_01 _) (by rfl) (by rfl) ?_
  exact hk
def f70 (x0 : Nat) (x1 : Int32) (I : Nat → Nat → Nat → Int32) (h : Nat → Nat) : Option (Bool × (Nat → Nat → Nat → Int32) × (Nat → Nat)) :=
  if x1 = (62 : Int32) then ((f68 x0 I h).bind fun u2 =>
  some (u2.1, u2.2.1, u2.2.2)) else (f59 x1).bind fun u4 =>
  if u4 = true then ((f58 x0 (10 : Int32) I).bind fun u6 =>
  if u6.1 = true then (some (true, u6.2, h)) else some (false, u6.2, h)) else some (false, I, h)
theorem T70 {d : Nat} {x0 : Nat} {x1 : Int32} {I : Nat → Nat → Nat → Int32} {J : Nat → Nat → Nat → Int64} {h : Nat → Nat} {μ : mx_Rg × (Nat × (Nat → Int32)) × (Nat × Nat)} {Q : Option mx_V → mx_Hp → Prop} {o : Bool × (Nat → Nat → Nat → Int32) × (Nat → Nat)} (hf : f70 x0 x1 I h = some o) (hk : Q (some (mx_i (b2i o.1))) (hC o.2.1 J o.2.2, μ)) : mx_WP (d + 2) 70 0 (mx_ent 70 [mx_r (some (0, 5, x0)), mx_i x1]) [] (hC I J h, μ) Q := by
  unfold f70 at hf
  refine mx_WP.go 2 (pc' := 3) (L' := [some (mx_r (some (0, 5, x0))), some (mx_i x1)]) (st' := [mx_i (62 : Int32), mx_i x1]) (σ' := (hC I J h, μ)) rfl ?_
  by_cases c1 : x1 = (62 : Int32)
  · rw [if_pos c1] at hf
    refine mx_WP.bne (x := x1) (y := (62 : Int32)) (q := 11) (p3 := 6) rfl (fun hh => absurd c1 hh) (fun _ => ?_)
    refine mx_WP.go 1 (pc' := 7) (L' := [some (mx_r (some (0, 5, x0))), some (mx_i x1)]) (st' := [mx_r (some (0, 5, x0))]) (σ' := (hC I J h, μ)) rfl ?_
    obtain ⟨u2, e3, hf⟩ := Option.bind_eq_some_iff.mp hf
    refine mx_WP.call (d := d + 1) (y := 68) (as := [mx_r (some (0, 5, x0))]) (pc' := 10) (r := []) rfl rfl (T68 (d := d + 0)  e3 ?_)
    show mx_WP (d + 2) 70 10 [some (mx_r (some (0, 5, x0))), some (mx_i x1)] [mx_i (b2i u2.1)] (hC u2.2.1 J u2.2.2, μ) Q
    rw [← Option.some.inj hf] at hk
    refine mx_WP.retz (b2i_01 _) (by rfl) (by rfl) ?_
    exact hk
  · rw [if_neg c1] at hf
    refine mx_WP.bne (x := x1) (y := (62 : Int32)) (q := 11) (p3 := 6) rfl (fun _ => ?_) (fun hh => absurd c1 hh)
    refine mx_WP.go 1 (pc' := 12) (L' := [some (mx_r (some (0, 5, x0))), some (mx_i x1)]) (st' := [mx_i x1]) (σ' := (hC I J h, μ)) rfl ?_
    obtain ⟨u4, e9, hf⟩ := Option.bind_eq_some_iff.mp hf
    refine mx_WP.call (d := d + 1) (y := 59) (as := [mx_i x1]) (pc' := 15) (r := []) rfl rfl (T59 (d := d + 1)  e9 ?_)
    show mx_WP (d + 2) 70 15 [some (mx_r (some (0, 5, x0))), some (mx_i x1)] [mx_i (b2i u4)] (hC I J h, μ) Q
    by_cases c5 : u4 = true
    · rw [if_pos c5] at hf
      refine mx_WP.zeq (b := u4) (q := 31) (p3 := 18) rfl (fun hh => absurd hh (by simp [c5])) (fun _ => ?_)
      refine mx_WP.go 2 (pc' := 21) (L' := [some (mx_r (some (0, 5, x0))), some (mx_i x1)]) (st' := [mx_i (10 : Int32), mx_r (some (0, 5, x0))]) (σ' := (hC I J h, μ)) rfl ?_
      obtain ⟨u6, e8, hf⟩ := Option.bind_eq_some_iff.mp hf
      refine mx_WP.call (d := d + 1) (y := 58) (as := [mx_r (some (0, 5, x0)), mx_i (10 : Int32)]) (pc' := 24) (r := []) rfl rfl (T58 (d := d + 1)  e8 ?_)
      show mx_WP (d + 2) 70 24 [some (mx_r (some (0, 5, x0))), some (mx_i x1)] [mx_i (b2i u6.1)] (hC u6.2 J h, μ) Q
      by_cases c7 : u6.1 = true
      · rw [if_pos c7] at hf
        refine mx_WP.zeq (b := u6.1) (q := 31) (p3 := 27) rfl (fun hh => absurd hh (by simp [c7])) (fun _ => ?_)
        refine mx_WP.go 2 (pc' := 32) (L' := [some (mx_r (some (0, 5, x0))), some (mx_i x1)]) (st' := [mx_i (1 : Int32)]) (σ' := (hC u6.2 J h, μ)) rfl ?_
        rw [← Option.some.inj hf] at hk
        refine mx_WP.ret (v := some (mx_i (1 : Int32))) rfl ?_
        exact hk
      · rw [if_neg c7] at hf
        refine mx_WP.zeq (b := u6.1) (q := 31) (p3 := 27) rfl (fun _ => ?_) (fun hh => absurd hh (by simp [c7]))
        refine mx_WP.go 1 (pc' := 32) (L' := [some (mx_r (some (0, 5, x0))), some (mx_i x1)]) (st' := [mx_i (0 : Int32)]) (σ' := (hC u6.2 J h, μ)) rfl ?_
        rw [← Option.some.inj hf] at hk
        refine mx_WP.ret (v := some (mx_i (0 : Int32))) rfl ?_
        exact hk
    · rw [if_neg c5] at hf
      refine mx_WP.zeq (b := u4) (q := 31) (p3 := 18) rfl (fun _ => ?_) (fun hh => absurd hh (by simp [c5]))
      refine mx_WP.go 1 (pc' := 32) (L' := [some (mx_r (some (0, 5, x0))), some (mx_i x1)]) (st' := [mx_i (0 : Int32)]) (σ' := (hC I J h, μ)) rfl ?_
      rw [← Option.some.inj hf] at hk
      refine mx_WP.ret (v := some (mx_i (0 : Int32))) rfl ?_
      exact hk
def f69 (x0 : Nat) (x1 : Int32) (I : Nat → Nat → Nat → Int32) (J : Nat → Nat → Nat → Int64) (h : Nat → Nat) : Option (Bool × (Nat → Nat → Nat → Int32) × (Nat → Nat → Nat → Int64) × (Nat → Nat)) :=
  if (lg_cmp (J 5 x0 3) (J 3 (h x0) 7)) = (0 : Int32) then ((f70 x0 x1 I h).bind fun u2 =>
  some (u2.1, u2.2.1, J, u2.2.2)) else (f2 (J 3 (h x0) 7) (I 5 x0 4)).bind fun u4 =>
  if x1 = u4 then ((f64 x0 x1 I J).bind fun u6 =>
  if u6.1 = true then (some (true, u6.2.1, u6.2.2, h)) else some (false, u6.2.1, u6.2.2, h)) else some (false, I, J, h)
theorem T69 {d : Nat} {x0 : Nat} {x1 : Int32} {I : Nat → Nat → Nat → Int32} {J : Nat → Nat → Nat → Int64} {h : Nat → Nat} {μ : mx_Rg × (Nat × (Nat → Int32)) × (Nat × Nat)} {Q : Option mx_V → mx_Hp → Prop} {o : Bool × (Nat → Nat → Nat → Int32) × (Nat → Nat → Nat → Int64) × (Nat → Nat)} (hf : f69 x0 x1 I J h = some o) (hk : Q (some (mx_i (b2i o.1))) (hC o.2.1 o.2.2.1 o.2.2.2, μ)) : mx_WP (d + 3) 69 0 (mx_ent 69 [mx_r (some (0, 5, x0)), mx_i x1]) [] (hC I J h, μ) Q := by
  unfold f69 at hf
  refine mx_WP.go 6 (pc' := 12) (L' := [some (mx_r (some (0, 5, x0))), some (mx_i x1)]) (st' := [mx_i (lg_cmp (J 5 x0 3) (J 3 (h x0) 7))]) (σ' := (hC I J h, μ)) rfl ?_
  by_cases c1 : (lg_cmp (J 5 x0 3) (J 3 (h x0) 7)) = (0 : Int32)
  · rw [if_pos c1] at hf
    refine mx_WP.bne (x := (lg_cmp (J 5 x0 3) (J 3 (h x0) 7))) (y := (0 : Int32)) (q := 21) (p3 := 15) rfl (fun hh => absurd c1 hh) (fun _ => ?_)
    refine mx_WP.go 2 (pc' := 17) (L' := [some (mx_r (some (0, 5, x0))), some (mx_i x1)]) (st' := [mx_i x1, mx_r (some (0, 5, x0))]) (σ' := (hC I J h, μ)) rfl ?_
    obtain ⟨u2, e3, hf⟩ := Option.bind_eq_some_iff.mp hf
    refine mx_WP.call (d := d + 2) (y := 70) (as := [mx_r (some (0, 5, x0)), mx_i x1]) (pc' := 20) (r := []) rfl rfl (T70 (d := d + 0)  e3 ?_)
    show mx_WP (d + 3) 69 20 [some (mx_r (some (0, 5, x0))), some (mx_i x1)] [mx_i (b2i u2.1)] (hC u2.2.1 J u2.2.2, μ) Q
    rw [← Option.some.inj hf] at hk
    refine mx_WP.retz (b2i_01 _) (by rfl) (by rfl) ?_
    exact hk
  · rw [if_neg c1] at hf
    refine mx_WP.bne (x := (lg_cmp (J 5 x0 3) (J 3 (h x0) 7))) (y := (0 : Int32)) (q := 21) (p3 := 15) rfl (fun _ => ?_) (fun hh => absurd c1 hh)
    refine mx_WP.go 6 (pc' := 33) (L' := [some (mx_r (some (0, 5, x0))), some (mx_i x1)]) (st' := [mx_i (I 5 x0 4), mx_l (J 3 (h x0) 7), mx_i x1]) (σ' := (hC I J h, μ)) rfl ?_
    obtain ⟨u4, e9, hf⟩ := Option.bind_eq_some_iff.mp hf
    refine mx_WP.call (d := d + 2) (y := 2) (as := [mx_l (J 3 (h x0) 7), mx_i (I 5 x0 4)]) (pc' := 36) (r := [mx_i x1]) rfl rfl (T2 (d := d + 2)  e9 ?_)
    show mx_WP (d + 3) 69 36 [some (mx_r (some (0, 5, x0))), some (mx_i x1)] [mx_i u4, mx_i x1] (hC I J h, μ) Q
    by_cases c5 : x1 = u4
    · rw [if_pos c5] at hf
      refine mx_WP.bne (x := x1) (y := u4) (q := 51) (p3 := 39) rfl (fun hh => absurd c5 hh) (fun _ => ?_)
      refine mx_WP.go 2 (pc' := 41) (L' := [some (mx_r (some (0, 5, x0))), some (mx_i x1)]) (st' := [mx_i x1, mx_r (some (0, 5, x0))]) (σ' := (hC I J h, μ)) rfl ?_
      obtain ⟨u6, e8, hf⟩ := Option.bind_eq_some_iff.mp hf
      refine mx_WP.call (d := d + 2) (y := 64) (as := [mx_r (some (0, 5, x0)), mx_i x1]) (pc' := 44) (r := []) rfl rfl (T64 (d := d + 2)  e8 ?_)
      show mx_WP (d + 3) 69 44 [some (mx_r (some (0, 5, x0))), some (mx_i x1)] [mx_i (b2i u6.1)] (hC u6.2.1 u6.2.2 h, μ) Q
      by_cases c7 : u6.1 = true
      · rw [if_pos c7] at hf
        refine mx_WP.zeq (b := u6.1) (q := 51) (p3 := 47) rfl (fun hh => absurd hh (by simp [c7])) (fun _ => ?_)
        refine mx_WP.go 2 (pc' := 52) (L' := [some (mx_r (some (0, 5, x0))), some (mx_i x1)]) (st' := [mx_i (1 : Int32)]) (σ' := (hC u6.2.1 u6.2.2 h, μ)) rfl ?_
        rw [← Option.some.inj hf] at hk
        refine mx_WP.ret (v := some (mx_i (1 : Int32))) rfl ?_
        exact hk
      · rw [if_neg c7] at hf
        refine mx_WP.zeq (b := u6.1) (q := 51) (p3 := 47) rfl (fun _ => ?_) (fun hh => absurd hh (by simp [c7]))
        refine mx_WP.go 1 (pc' := 52) (L' := [some (mx_r (some (0, 5, x0))), some (mx_i x1)]) (st' := [mx_i (0 : Int32)]) (σ' := (hC u6.2.1 u6.2.2 h, μ)) rfl ?_
        rw [← Option.some.inj hf] at hk
        refine mx_WP.ret (v := some (mx_i (0 : Int32))) rfl ?_
        exact hk
    · rw [if_neg c5] at hf
      refine mx_WP.bne (x := x1) (y := u4) (q := 51) (p3 := 39) rfl (fun _ => ?_) (fun hh => absurd c5 hh)
      refine mx_WP.go 1 (pc' := 52) (L' := [some (mx_r (some (0, 5, x0))), some (mx_i x1)]) (st' := [mx_i (0 : Int32)]) (σ' := (hC I J h, μ)) rfl ?_
      rw [← Option.some.inj hf] at hk
      refine mx_WP.ret (v := some (mx_i (0 : Int32))) rfl ?_
      exact hk
def f56 (x0 : Nat) (x1 : Int32) (I : Nat → Nat → Nat → Int32) (J : Nat → Nat → Nat → Int64) (h : Nat → Nat) : Option (Bool × (Nat → Nat → Nat → Int32) × (Nat → Nat → Nat → Int64) × (Nat → Nat)) :=
  if (I 5 x0 2) = (0 : Int32) then ((f57 x0 x1 I h).bind fun u2 =>
  some (u2.1, u2.2, J, h)) else if (I 5 x0 2) = (1 : Int32) then ((f60 x0 x1 I J h).bind fun u5 =>
  some (u5.1, u5.2.1, u5.2.2.1, u5.2.2.2)) else if (I 5 x0 2) = (2 : Int32) then ((f62 x0 x1 I J h).bind fun u8 =>
  some (u8.1, u8.2.1, u8.2.2, h)) else if (I 5 x0 2) = (3 : Int32) then ((f65 x0 x1 I J h).bind fun u11 =>
  some (u11.1, u11.2.1, u11.2.2, h)) else if (I 5 x0 2) = (4 : Int32) then ((f66 x0 x1 I J h).bind fun u14 =>
  some (u14.1, u14.2.1, u14.2.2, h)) else if (I 5 x0 2) = (5 : Int32) then (if x1 = (34 : Int32) then ((f61 x0 (6 : Int32) I J).bind fun u18 =>
  if u18.1 = true then (some (true, u18.2.1, u18.2.2, h)) else some (false, u18.2.1, u18.2.2, h)) else some (false, I, J, h)) else if (I 5 x0 2) = (6 : Int32) then ((f67 x0 x1 I J h).bind fun u22 =>
  some (u22.1, u22.2.1, u22.2.2, h)) else if (I 5 x0 2) = (7 : Int32) then ((f63 x0 x1 I).bind fun u25 =>
  some (u25.1, u25.2, J, h)) else if (I 5 x0 2) = (8 : Int32) then (if x1 = (62 : Int32) then ((f68 x0 I h).bind fun u29 =>
  if u29.1 = true then (some (true, u29.2.1, J, u29.2.2)) else some (false, u29.2.1, J, u29.2.2)) else some (false, I, J, h)) else if (I 5 x0 2) = (9 : Int32) then ((f69 x0 x1 I J h).bind fun u33 =>
  some (u33.1, u33.2.1, u33.2.2.1, u33.2.2.2)) else (f70 x0 x1 I h).bind fun u35 =>
  some (u35.1, u35.2.1, J, u35.2.2)
theorem T56 {d : Nat} {x0 : Nat} {x1 : Int32} {I : Nat → Nat → Nat → Int32} {J : Nat → Nat → Nat → Int64} {h : Nat → Nat} {μ : mx_Rg × (Nat × (Nat → Int32)) × (Nat × Nat)} {Q : Option mx_V → mx_Hp → Prop} {o : Bool × (Nat → Nat → Nat → Int32) × (Nat → Nat → Nat → Int64) × (Nat → Nat)} (hf : f56 x0 x1 I J h = some o) (hk : Q (some (mx_i (b2i o.1))) (hC o.2.1 o.2.2.1 o.2.2.2, μ)) : mx_WP (d + 4) 56 0 (mx_ent 56 [mx_r (some (0, 5, x0)), mx_i x1]) [] (hC I J h, μ) Q := by
  unfold f56 at hf
  refine mx_WP.go 2 (pc' := 4) (L' := [some (mx_r (some (0, 5, x0))), some (mx_i x1)]) (st' := [mx_i (I 5 x0 2)]) (σ' := (hC I J h, μ)) rfl ?_
  by_cases c1 : (I 5 x0 2) = (0 : Int32)
  · rw [if_pos c1] at hf
    refine mx_WP.sw (c := (0 : Int32)) (q := 60) c1 (by rfl) ?_
    refine mx_WP.go 2 (pc' := 62) (L' := [some (mx_r (some (0, 5, x0))), some (mx_i x1)]) (st' := [mx_i x1, mx_r (some (0, 5, x0))]) (σ' := (hC I J h, μ)) rfl ?_
    obtain ⟨u2, e3, hf⟩ := Option.bind_eq_some_iff.mp hf
    refine mx_WP.call (d := d + 3) (y := 57) (as := [mx_r (some (0, 5, x0)), mx_i x1]) (pc' := 65) (r := []) rfl rfl (T57 (d := d + 2)  e3 ?_)
    show mx_WP (d + 4) 56 65 [some (mx_r (some (0, 5, x0))), some (mx_i x1)] [mx_i (b2i u2.1)] (hC u2.2 J h, μ) Q
    rw [← Option.some.inj hf] at hk
    refine mx_WP.retz (b2i_01 _) (by rfl) (by rfl) ?_
    exact hk
  rw [if_neg c1] at hf
  by_cases c4 : (I 5 x0 2) = (1 : Int32)
  · rw [if_pos c4] at hf
    refine mx_WP.sw (c := (1 : Int32)) (q := 66) c4 (by rfl) ?_
    refine mx_WP.go 2 (pc' := 68) (L' := [some (mx_r (some (0, 5, x0))), some (mx_i x1)]) (st' := [mx_i x1, mx_r (some (0, 5, x0))]) (σ' := (hC I J h, μ)) rfl ?_
    obtain ⟨u5, e6, hf⟩ := Option.bind_eq_some_iff.mp hf
    refine mx_WP.call (d := d + 3) (y := 60) (as := [mx_r (some (0, 5, x0)), mx_i x1]) (pc' := 71) (r := []) rfl rfl (T60 (d := d + 0)  e6 ?_)
    show mx_WP (d + 4) 56 71 [some (mx_r (some (0, 5, x0))), some (mx_i x1)] [mx_i (b2i u5.1)] (hC u5.2.1 u5.2.2.1 u5.2.2.2, μ) Q
    rw [← Option.some.inj hf] at hk
    refine mx_WP.retz (b2i_01 _) (by rfl) (by rfl) ?_
    exact hk
  rw [if_neg c4] at hf
  by_cases c7 : (I 5 x0 2) = (2 : Int32)
  · rw [if_pos c7] at hf
    refine mx_WP.sw (c := (2 : Int32)) (q := 72) c7 (by rfl) ?_
    refine mx_WP.go 2 (pc' := 74) (L' := [some (mx_r (some (0, 5, x0))), some (mx_i x1)]) (st' := [mx_i x1, mx_r (some (0, 5, x0))]) (σ' := (hC I J h, μ)) rfl ?_
    obtain ⟨u8, e9, hf⟩ := Option.bind_eq_some_iff.mp hf
    refine mx_WP.call (d := d + 3) (y := 62) (as := [mx_r (some (0, 5, x0)), mx_i x1]) (pc' := 77) (r := []) rfl rfl (T62 (d := d + 1)  e9 ?_)
    show mx_WP (d + 4) 56 77 [some (mx_r (some (0, 5, x0))), some (mx_i x1)] [mx_i (b2i u8.1)] (hC u8.2.1 u8.2.2 h, μ) Q
    rw [← Option.some.inj hf] at hk
    refine mx_WP.retz (b2i_01 _) (by rfl) (by rfl) ?_
    exact hk
  rw [if_neg c7] at hf
  by_cases c10 : (I 5 x0 2) = (3 : Int32)
  · rw [if_pos c10] at hf
    refine mx_WP.sw (c := (3 : Int32)) (q := 78) c10 (by rfl) ?_
    refine mx_WP.go 2 (pc' := 80) (L' := [some (mx_r (some (0, 5, x0))), some (mx_i x1)]) (st' := [mx_i x1, mx_r (some (0, 5, x0))]) (σ' := (hC I J h, μ)) rfl ?_
    obtain ⟨u11, e12, hf⟩ := Option.bind_eq_some_iff.mp hf
    refine mx_WP.call (d := d + 3) (y := 65) (as := [mx_r (some (0, 5, x0)), mx_i x1]) (pc' := 83) (r := []) rfl rfl (T65 (d := d + 1)  e12 ?_)
    show mx_WP (d + 4) 56 83 [some (mx_r (some (0, 5, x0))), some (mx_i x1)] [mx_i (b2i u11.1)] (hC u11.2.1 u11.2.2 h, μ) Q
    rw [← Option.some.inj hf] at hk
    refine mx_WP.retz (b2i_01 _) (by rfl) (by rfl) ?_
    exact hk
  rw [if_neg c10] at hf
  by_cases c13 : (I 5 x0 2) = (4 : Int32)
  · rw [if_pos c13] at hf
    refine mx_WP.sw (c := (4 : Int32)) (q := 84) c13 (by rfl) ?_
    refine mx_WP.go 2 (pc' := 86) (L' := [some (mx_r (some (0, 5, x0))), some (mx_i x1)]) (st' := [mx_i x1, mx_r (some (0, 5, x0))]) (σ' := (hC I J h, μ)) rfl ?_
    obtain ⟨u14, e15, hf⟩ := Option.bind_eq_some_iff.mp hf
    refine mx_WP.call (d := d + 3) (y := 66) (as := [mx_r (some (0, 5, x0)), mx_i x1]) (pc' := 89) (r := []) rfl rfl (T66 (d := d + 1)  e15 ?_)
    show mx_WP (d + 4) 56 89 [some (mx_r (some (0, 5, x0))), some (mx_i x1)] [mx_i (b2i u14.1)] (hC u14.2.1 u14.2.2 h, μ) Q
    rw [← Option.some.inj hf] at hk
    refine mx_WP.retz (b2i_01 _) (by rfl) (by rfl) ?_
    exact hk
  rw [if_neg c13] at hf
  by_cases c16 : (I 5 x0 2) = (5 : Int32)
  · rw [if_pos c16] at hf
    refine mx_WP.sw (c := (5 : Int32)) (q := 90) c16 (by rfl) ?_
    refine mx_WP.go 2 (pc' := 93) (L' := [some (mx_r (some (0, 5, x0))), some (mx_i x1)]) (st' := [mx_i (34 : Int32), mx_i x1]) (σ' := (hC I J h, μ)) rfl ?_
    by_cases c17 : x1 = (34 : Int32)
    · rw [if_pos c17] at hf
      refine mx_WP.bne (x := x1) (y := (34 : Int32)) (q := 109) (p3 := 96) rfl (fun hh => absurd c17 hh) (fun _ => ?_)
      refine mx_WP.go 2 (pc' := 99) (L' := [some (mx_r (some (0, 5, x0))), some (mx_i x1)]) (st' := [mx_i (6 : Int32), mx_r (some (0, 5, x0))]) (σ' := (hC I J h, μ)) rfl ?_
      obtain ⟨u18, e20, hf⟩ := Option.bind_eq_some_iff.mp hf
      refine mx_WP.call (d := d + 3) (y := 61) (as := [mx_r (some (0, 5, x0)), mx_i (6 : Int32)]) (pc' := 102) (r := []) rfl rfl (T61 (d := d + 2)  e20 ?_)
      show mx_WP (d + 4) 56 102 [some (mx_r (some (0, 5, x0))), some (mx_i x1)] [mx_i (b2i u18.1)] (hC u18.2.1 u18.2.2 h, μ) Q
      by_cases c19 : u18.1 = true
      · rw [if_pos c19] at hf
        refine mx_WP.zeq (b := u18.1) (q := 109) (p3 := 105) rfl (fun hh => absurd hh (by simp [c19])) (fun _ => ?_)
        refine mx_WP.go 2 (pc' := 110) (L' := [some (mx_r (some (0, 5, x0))), some (mx_i x1)]) (st' := [mx_i (1 : Int32)]) (σ' := (hC u18.2.1 u18.2.2 h, μ)) rfl ?_
        rw [← Option.some.inj hf] at hk
        refine mx_WP.ret (v := some (mx_i (1 : Int32))) rfl ?_
        exact hk
      · rw [if_neg c19] at hf
        refine mx_WP.zeq (b := u18.1) (q := 109) (p3 := 105) rfl (fun _ => ?_) (fun hh => absurd hh (by simp [c19]))
        refine mx_WP.go 1 (pc' := 110) (L' := [some (mx_r (some (0, 5, x0))), some (mx_i x1)]) (st' := [mx_i (0 : Int32)]) (σ' := (hC u18.2.1 u18.2.2 h, μ)) rfl ?_
        rw [← Option.some.inj hf] at hk
        refine mx_WP.ret (v := some (mx_i (0 : Int32))) rfl ?_
        exact hk
    · rw [if_neg c17] at hf
      refine mx_WP.bne (x := x1) (y := (34 : Int32)) (q := 109) (p3 := 96) rfl (fun _ => ?_) (fun hh => absurd c17 hh)
      refine mx_WP.go 1 (pc' := 110) (L' := [some (mx_r (some (0, 5, x0))), some (mx_i x1)]) (st' := [mx_i (0 : Int32)]) (σ' := (hC I J h, μ)) rfl ?_
      rw [← Option.some.inj hf] at hk
      refine mx_WP.ret (v := some (mx_i (0 : Int32))) rfl ?_
      exact hk
  rw [if_neg c16] at hf
  by_cases c21 : (I 5 x0 2) = (6 : Int32)
  · rw [if_pos c21] at hf
    refine mx_WP.sw (c := (6 : Int32)) (q := 111) c21 (by rfl) ?_
    refine mx_WP.go 2 (pc' := 113) (L' := [some (mx_r (some (0, 5, x0))), some (mx_i x1)]) (st' := [mx_i x1, mx_r (some (0, 5, x0))]) (σ' := (hC I J h, μ)) rfl ?_
    obtain ⟨u22, e23, hf⟩ := Option.bind_eq_some_iff.mp hf
    refine mx_WP.call (d := d + 3) (y := 67) (as := [mx_r (some (0, 5, x0)), mx_i x1]) (pc' := 116) (r := []) rfl rfl (T67 (d := d + 1)  e23 ?_)
    show mx_WP (d + 4) 56 116 [some (mx_r (some (0, 5, x0))), some (mx_i x1)] [mx_i (b2i u22.1)] (hC u22.2.1 u22.2.2 h, μ) Q
    rw [← Option.some.inj hf] at hk
    refine mx_WP.retz (b2i_01 _) (by rfl) (by rfl) ?_
    exact hk
  rw [if_neg c21] at hf
  by_cases c24 : (I 5 x0 2) = (7 : Int32)
  · rw [if_pos c24] at hf
    refine mx_WP.sw (c := (7 : Int32)) (q := 117) c24 (by rfl) ?_
    refine mx_WP.go 2 (pc' := 119) (L' := [some (mx_r (some (0, 5, x0))), some (mx_i x1)]) (st' := [mx_i x1, mx_r (some (0, 5, x0))]) (σ' := (hC I J h, μ)) rfl ?_
    obtain ⟨u25, e26, hf⟩ := Option.bind_eq_some_iff.mp hf
    refine mx_WP.call (d := d + 3) (y := 63) (as := [mx_r (some (0, 5, x0)), mx_i x1]) (pc' := 122) (r := []) rfl rfl (T63 (d := d + 2)  e26 ?_)
    show mx_WP (d + 4) 56 122 [some (mx_r (some (0, 5, x0))), some (mx_i x1)] [mx_i (b2i u25.1)] (hC u25.2 J h, μ) Q
    rw [← Option.some.inj hf] at hk
    refine mx_WP.retz (b2i_01 _) (by rfl) (by rfl) ?_
    exact hk
  rw [if_neg c24] at hf
  by_cases c27 : (I 5 x0 2) = (8 : Int32)
  · rw [if_pos c27] at hf
    refine mx_WP.sw (c := (8 : Int32)) (q := 123) c27 (by rfl) ?_
    refine mx_WP.go 2 (pc' := 126) (L' := [some (mx_r (some (0, 5, x0))), some (mx_i x1)]) (st' := [mx_i (62 : Int32), mx_i x1]) (σ' := (hC I J h, μ)) rfl ?_
    by_cases c28 : x1 = (62 : Int32)
    · rw [if_pos c28] at hf
      refine mx_WP.bne (x := x1) (y := (62 : Int32)) (q := 140) (p3 := 129) rfl (fun hh => absurd c28 hh) (fun _ => ?_)
      refine mx_WP.go 1 (pc' := 130) (L' := [some (mx_r (some (0, 5, x0))), some (mx_i x1)]) (st' := [mx_r (some (0, 5, x0))]) (σ' := (hC I J h, μ)) rfl ?_
      obtain ⟨u29, e31, hf⟩ := Option.bind_eq_some_iff.mp hf
      refine mx_WP.call (d := d + 3) (y := 68) (as := [mx_r (some (0, 5, x0))]) (pc' := 133) (r := []) rfl rfl (T68 (d := d + 2)  e31 ?_)
      show mx_WP (d + 4) 56 133 [some (mx_r (some (0, 5, x0))), some (mx_i x1)] [mx_i (b2i u29.1)] (hC u29.2.1 J u29.2.2, μ) Q
      by_cases c30 : u29.1 = true
      · rw [if_pos c30] at hf
        refine mx_WP.zeq (b := u29.1) (q := 140) (p3 := 136) rfl (fun hh => absurd hh (by simp [c30])) (fun _ => ?_)
        refine mx_WP.go 2 (pc' := 141) (L' := [some (mx_r (some (0, 5, x0))), some (mx_i x1)]) (st' := [mx_i (1 : Int32)]) (σ' := (hC u29.2.1 J u29.2.2, μ)) rfl ?_
        rw [← Option.some.inj hf] at hk
        refine mx_WP.ret (v := some (mx_i (1 : Int32))) rfl ?_
        exact hk
      · rw [if_neg c30] at hf
        refine mx_WP.zeq (b := u29.1) (q := 140) (p3 := 136) rfl (fun _ => ?_) (fun hh => absurd hh (by simp [c30]))
        refine mx_WP.go 1 (pc' := 141) (L' := [some (mx_r (some (0, 5, x0))), some (mx_i x1)]) (st' := [mx_i (0 : Int32)]) (σ' := (hC u29.2.1 J u29.2.2, μ)) rfl ?_
        rw [← Option.some.inj hf] at hk
        refine mx_WP.ret (v := some (mx_i (0 : Int32))) rfl ?_
        exact hk
    · rw [if_neg c28] at hf
      refine mx_WP.bne (x := x1) (y := (62 : Int32)) (q := 140) (p3 := 129) rfl (fun _ => ?_) (fun hh => absurd c28 hh)
      refine mx_WP.go 1 (pc' := 141) (L' := [some (mx_r (some (0, 5, x0))), some (mx_i x1)]) (st' := [mx_i (0 : Int32)]) (σ' := (hC I J h, μ)) rfl ?_
      rw [← Option.some.inj hf] at hk
      refine mx_WP.ret (v := some (mx_i (0 : Int32))) rfl ?_
      exact hk
  rw [if_neg c27] at hf
  by_cases c32 : (I 5 x0 2) = (9 : Int32)
  · rw [if_pos c32] at hf
    refine mx_WP.sw (c := (9 : Int32)) (q := 142) c32 (by rfl) ?_
    refine mx_WP.go 2 (pc' := 144) (L' := [some (mx_r (some (0, 5, x0))), some (mx_i x1)]) (st' := [mx_i x1, mx_r (some (0, 5, x0))]) (σ' := (hC I J h, μ)) rfl ?_
    obtain ⟨u33, e34, hf⟩ := Option.bind_eq_some_iff.mp hf
    refine mx_WP.call (d := d + 3) (y := 69) (as := [mx_r (some (0, 5, x0)), mx_i x1]) (pc' := 147) (r := []) rfl rfl (T69 (d := d + 0)  e34 ?_)
    show mx_WP (d + 4) 56 147 [some (mx_r (some (0, 5, x0))), some (mx_i x1)] [mx_i (b2i u33.1)] (hC u33.2.1 u33.2.2.1 u33.2.2.2, μ) Q
    rw [← Option.some.inj hf] at hk
    refine mx_WP.retz (b2i_01 _) (by rfl) (by rfl) ?_
    exact hk
  rw [if_neg c32] at hf
  refine mx_WP.swt (q := 148) (mx_tso10 c1 c4 c7 c10 c13 c16 c21 c24 c27 c32) (by rfl) (by rfl) ?_
  refine mx_WP.go 2 (pc' := 150) (L' := [some (mx_r (some (0, 5, x0))), some (mx_i x1)]) (st' := [mx_i x1, mx_r (some (0, 5, x0))]) (σ' := (hC I J h, μ)) rfl ?_
  obtain ⟨u35, e36, hf⟩ := Option.bind_eq_some_iff.mp hf
  refine mx_WP.call (d := d + 3) (y := 70) (as := [mx_r (some (0, 5, x0)), mx_i x1]) (pc' := 153) (r := []) rfl rfl (T70 (d := d + 1)  e36 ?_)
  show mx_WP (d + 4) 56 153 [some (mx_r (some (0, 5, x0))), some (mx_i x1)] [mx_i (b2i u35.1)] (hC u35.2.1 J u35.2.2, μ) Q
  rw [← Option.some.inj hf] at hk
  refine mx_WP.retz (b2i_01 _) (by rfl) (by rfl) ?_
  exact hk
def b55_64_25 (x0 : Nat) (x2 : Int32) (I : Nat → Nat → Nat → Int32) (J : Nat → Nat → Nat → Int64) (h : Nat → Nat) (s : Int32 × (Nat → Nat → Nat → Int32) × (Nat → Nat → Nat → Int64) × (Nat → Nat)) : Option ((Int32 × (Nat → Nat → Nat → Int32) × (Nat → Nat → Nat → Int64) × (Nat → Nat)) ⊕ ((Int32 × (Nat → Nat → Nat → Int32) × (Nat → Nat → Nat → Int64) × (Nat → Nat)) ⊕ (Int32 × (Nat → Nat → Nat → Int32) × (Nat → Nat → Nat → Int64) × (Nat → Nat)))) :=
  if x2 ≤ s.1 then (some (Sum.inr (Sum.inl (s.1, s.2.1, s.2.2.1, s.2.2.2)))) else if (Int32.ofNat 200) ≤ s.1 then (some (Sum.inr (Sum.inl (s.1, s.2.1, s.2.2.1, s.2.2.2)))) else if s.1 < 0 ∨ 200 ≤ s.1.toNatClampNeg then none else (f56 x0 (s.2.1 64 0 s.1.toNatClampNeg) s.2.1 s.2.2.1 s.2.2.2).bind fun u105 =>
  if u105.1 = true then (some (Sum.inl (s.1 + 1, u105.2.1, u105.2.2.1, u105.2.2.2))) else some (Sum.inr (Sum.inr (s.1, u105.2.1, u105.2.2.1, u105.2.2.2)))
theorem B55_64_25 {d : Nat} {x0 : Nat} {x2 : Int32} {I : Nat → Nat → Nat → Int32} {J : Nat → Nat → Nat → Int64} {h : Nat → Nat} {μ : mx_Rg × (Nat × (Nat → Int32)) × (Nat × Nat)} {Q : Option mx_V → mx_Hp → Prop} {s : Int32 × (Nat → Nat → Nat → Int32) × (Nat → Nat → Nat → Int64) × (Nat → Nat)} {o : (Int32 × (Nat → Nat → Nat → Int32) × (Nat → Nat → Nat → Int64) × (Nat → Nat)) ⊕ ((Int32 × (Nat → Nat → Nat → Int32) × (Nat → Nat → Nat → Int64) × (Nat → Nat)) ⊕ (Int32 × (Nat → Nat → Nat → Int32) × (Nat → Nat → Nat → Int64) × (Nat → Nat)))} (hf : b55_64_25 x0 x2 I J h s = some o) (hk : Sum.elim (fun s : Int32 × (Nat → Nat → Nat → Int32) × (Nat → Nat → Nat → Int64) × (Nat → Nat) => mx_WP (d + 5) 55 25 [some (mx_r (some (0, 5, x0))), some (mx_r (some (0, 64, 0))), some (mx_i x2), some (mx_i s.1)] [] (hC s.2.1 s.2.2.1 s.2.2.2, μ) Q) (Sum.elim (fun x : Int32 × (Nat → Nat → Nat → Int32) × (Nat → Nat → Nat → Int64) × (Nat → Nat) => mx_WP (d + 5) 55 54 [some (mx_r (some (0, 5, x0))), some (mx_r (some (0, 64, 0))), some (mx_i x2), some (mx_i x.1)] [] (hC x.2.1 x.2.2.1 x.2.2.2, μ) Q) (fun x : Int32 × (Nat → Nat → Nat → Int32) × (Nat → Nat → Nat → Int64) × (Nat → Nat) => Q (some (mx_i x.1)) (hC x.2.1 x.2.2.1 x.2.2.2, μ))) o) : mx_WP (d + 5) 55 25 [some (mx_r (some (0, 5, x0))), some (mx_r (some (0, 64, 0))), some (mx_i x2), some (mx_i s.1)] [] (hC s.2.1 s.2.2.1 s.2.2.2, μ) Q := by
  unfold b55_64_25 at hf
  refine mx_WP.go 2 (pc' := 27) (L' := [some (mx_r (some (0, 5, x0))), some (mx_r (some (0, 64, 0))), some (mx_i x2), some (mx_i s.1)]) (st' := [mx_i x2, mx_i s.1]) (σ' := (hC s.2.1 s.2.2.1 s.2.2.2, μ)) rfl ?_
  by_cases c102 : x2 ≤ s.1
  · rw [if_pos c102] at hf
    refine mx_WP.bge (x := s.1) (y := x2) (q := 54) (p3 := 30) rfl (fun _ => ?_) (fun hh => absurd c102 hh)
    rw [← Option.some.inj hf] at hk
    exact hk
  · rw [if_neg c102] at hf
    refine mx_WP.bge (x := s.1) (y := x2) (q := 54) (p3 := 30) rfl (fun hh => absurd hh c102) (fun _ => ?_)
    refine mx_WP.go 3 (pc' := 33) (L' := [some (mx_r (some (0, 5, x0))), some (mx_r (some (0, 64, 0))), some (mx_i x2), some (mx_i s.1)]) (st' := [mx_i (Int32.ofNat 200), mx_i s.1]) (σ' := (hC s.2.1 s.2.2.1 s.2.2.2, μ)) rfl ?_
    by_cases c103 : (Int32.ofNat 200) ≤ s.1
    · rw [if_pos c103] at hf
      refine mx_WP.bge (x := s.1) (y := (Int32.ofNat 200)) (q := 54) (p3 := 36) rfl (fun _ => ?_) (fun hh => absurd c103 hh)
      rw [← Option.some.inj hf] at hk
      exact hk
    · rw [if_neg c103] at hf
      refine mx_WP.bge (x := s.1) (y := (Int32.ofNat 200)) (q := 54) (p3 := 36) rfl (fun hh => absurd hh c103) (fun _ => ?_)
      refine mx_WP.go 3 (pc' := 39) (L' := [some (mx_r (some (0, 5, x0))), some (mx_r (some (0, 64, 0))), some (mx_i x2), some (mx_i s.1)]) (st' := [mx_i s.1, mx_r (some (0, 64, 0)), mx_r (some (0, 5, x0))]) (σ' := (hC s.2.1 s.2.2.1 s.2.2.2, μ)) rfl ?_
      by_cases c104 : s.1 < 0 ∨ 200 ≤ s.1.toNatClampNeg
      · rw [if_pos c104] at hf
        cases hf
      rw [if_neg c104] at hf
      refine mx_WP.baldx c104 ?_
      show mx_WP (d + 5) 55 40 [some (mx_r (some (0, 5, x0))), some (mx_r (some (0, 64, 0))), some (mx_i x2), some (mx_i s.1)] [mx_i (s.2.1 64 0 s.1.toNatClampNeg), mx_r (some (0, 5, x0))] (hC s.2.1 s.2.2.1 s.2.2.2, μ) Q
      obtain ⟨u105, e107, hf⟩ := Option.bind_eq_some_iff.mp hf
      refine mx_WP.call (d := d + 4) (y := 56) (as := [mx_r (some (0, 5, x0)), mx_i (s.2.1 64 0 s.1.toNatClampNeg)]) (pc' := 43) (r := []) rfl rfl (T56 (d := d + 0)  e107 ?_)
      show mx_WP (d + 5) 55 43 [some (mx_r (some (0, 5, x0))), some (mx_r (some (0, 64, 0))), some (mx_i x2), some (mx_i s.1)] [mx_i (b2i u105.1)] (hC u105.2.1 u105.2.2.1 u105.2.2.2, μ) Q
      by_cases c106 : u105.1 = true
      · rw [if_pos c106] at hf
        refine mx_WP.zne (b := u105.1) (q := 48) (p3 := 46) rfl (fun _ => ?_) (fun hh => absurd hh (by simp [c106]))
        refine mx_WP.go 2 (pc' := 25) (L' := [some (mx_r (some (0, 5, x0))), some (mx_r (some (0, 64, 0))), some (mx_i x2), some (mx_i (s.1 + 1))]) (st' := []) (σ' := (hC u105.2.1 u105.2.2.1 u105.2.2.2, μ)) rfl ?_
        rw [← Option.some.inj hf] at hk
        exact hk
      · rw [if_neg c106] at hf
        refine mx_WP.zne (b := u105.1) (q := 48) (p3 := 46) rfl (fun hh => absurd hh (by simp [c106])) (fun _ => ?_)
        refine mx_WP.go 1 (pc' := 47) (L' := [some (mx_r (some (0, 5, x0))), some (mx_r (some (0, 64, 0))), some (mx_i x2), some (mx_i s.1)]) (st' := [mx_i s.1]) (σ' := (hC u105.2.1 u105.2.2.1 u105.2.2.2, μ)) rfl ?_
        rw [← Option.some.inj hf] at hk
        refine mx_WP.ret (v := some (mx_i s.1)) rfl ?_
        exact hk
theorem L55_64_25 {d : Nat} {x0 : Nat} {x2 : Int32} {I : Nat → Nat → Nat → Int32} {J : Nat → Nat → Nat → Int64} {h : Nat → Nat} {μ : mx_Rg × (Nat × (Nat → Int32)) × (Nat × Nat)} {Q : Option mx_V → mx_Hp → Prop} {n : Nat} {s : Int32 × (Nat → Nat → Nat → Int32) × (Nat → Nat → Nat → Int64) × (Nat → Nat)} {o : (Int32 × (Nat → Nat → Nat → Int32) × (Nat → Nat → Nat → Int64) × (Nat → Nat)) ⊕ (Int32 × (Nat → Nat → Nat → Int32) × (Nat → Nat → Nat → Int64) × (Nat → Nat))} (hf : mx_lp (b55_64_25 x0 x2 I J h) n s = some o) (hk : (Sum.elim (fun x : Int32 × (Nat → Nat → Nat → Int32) × (Nat → Nat → Nat → Int64) × (Nat → Nat) => mx_WP (d + 5) 55 54 [some (mx_r (some (0, 5, x0))), some (mx_r (some (0, 64, 0))), some (mx_i x2), some (mx_i x.1)] [] (hC x.2.1 x.2.2.1 x.2.2.2, μ) Q) (fun x : Int32 × (Nat → Nat → Nat → Int32) × (Nat → Nat → Nat → Int64) × (Nat → Nat) => Q (some (mx_i x.1)) (hC x.2.1 x.2.2.1 x.2.2.2, μ))) o) : mx_WP (d + 5) 55 25 [some (mx_r (some (0, 5, x0))), some (mx_r (some (0, 64, 0))), some (mx_i x2), some (mx_i s.1)] [] (hC s.2.1 s.2.2.1 s.2.2.2, μ) Q := mx_lp_ok (P := fun s : Int32 × (Nat → Nat → Nat → Int32) × (Nat → Nat → Nat → Int64) × (Nat → Nat) => mx_WP (d + 5) 55 25 [some (mx_r (some (0, 5, x0))), some (mx_r (some (0, 64, 0))), some (mx_i x2), some (mx_i s.1)] [] (hC s.2.1 s.2.2.1 s.2.2.2, μ) Q) (E := (Sum.elim (fun x : Int32 × (Nat → Nat → Nat → Int32) × (Nat → Nat → Nat → Int64) × (Nat → Nat) => mx_WP (d + 5) 55 54 [some (mx_r (some (0, 5, x0))), some (mx_r (some (0, 64, 0))), some (mx_i x2), some (mx_i x.1)] [] (hC x.2.1 x.2.2.1 x.2.2.2, μ) Q) (fun x : Int32 × (Nat → Nat → Nat → Int32) × (Nat → Nat → Nat → Int64) × (Nat → Nat) => Q (some (mx_i x.1)) (hC x.2.1 x.2.2.1 x.2.2.2, μ)))) (fun s o hf hk => B55_64_25 hf hk) n s o hf hk
def j55_64_54 (v0 : Nat) (v2 : Int32) (I : Nat → Nat → Nat → Int32) (J : Nat → Nat → Nat → Int64) (h : Nat → Nat) : Option (Int32 × (Nat → Nat → Nat → Int32) × (Nat → Nat → Nat → Int64) × (Nat → Nat)) :=
  if (I 5 v0 2) = (0 : Int32) then (if (I 3 (h v0) 6) = (0 : Int32) then (some ((-1 : Int32), I, J, h)) else some (v2, I, J, h)) else some (v2, I, J, h)
theorem J55_64_54 {d : Nat} {v0 : Nat} {v2 : Int32} {z1 : Option mx_V} {z3 : Option mx_V} {I : Nat → Nat → Nat → Int32} {J : Nat → Nat → Nat → Int64} {h : Nat → Nat} {μ : mx_Rg × (Nat × (Nat → Int32)) × (Nat × Nat)} {Q : Option mx_V → mx_Hp → Prop} {o : Int32 × (Nat → Nat → Nat → Int32) × (Nat → Nat → Nat → Int64) × (Nat → Nat)} (hf : j55_64_54 v0 v2 I J h = some o) (hk : Q (some (mx_i o.1)) (hC o.2.1 o.2.2.1 o.2.2.2, μ)) : mx_WP (d + 5) 55 54 [some (mx_r (some (0, 5, v0))), z1, some (mx_i v2), z3] [] (hC I J h, μ) Q := by
  unfold j55_64_54 at hf
  refine mx_WP.go 2 (pc' := 58) (L' := [some (mx_r (some (0, 5, v0))), z1, some (mx_i v2), z3]) (st' := [mx_i (I 5 v0 2)]) (σ' := (hC I J h, μ)) rfl ?_
  by_cases c1111 : (I 5 v0 2) = (0 : Int32)
  · rw [if_pos c1111] at hf
    refine mx_WP.bne (x := (I 5 v0 2)) (y := (0 : Int32)) (q := 75) (p3 := 61) rfl (fun hh => absurd c1111 hh) (fun _ => ?_)
    refine mx_WP.go 3 (pc' := 68) (L' := [some (mx_r (some (0, 5, v0))), z1, some (mx_i v2), z3]) (st' := [mx_i (I 3 (h v0) 6)]) (σ' := (hC I J h, μ)) rfl ?_
    by_cases c1112 : (I 3 (h v0) 6) = (0 : Int32)
    · rw [if_pos c1112] at hf
      refine mx_WP.bne (x := (I 3 (h v0) 6)) (y := (0 : Int32)) (q := 75) (p3 := 71) rfl (fun hh => absurd c1112 hh) (fun _ => ?_)
      refine mx_WP.go 2 (pc' := 76) (L' := [some (mx_r (some (0, 5, v0))), z1, some (mx_i v2), z3]) (st' := [mx_i (-1 : Int32)]) (σ' := (hC I J h, μ)) rfl ?_
      rw [← Option.some.inj hf] at hk
      refine mx_WP.ret (v := some (mx_i (-1 : Int32))) rfl ?_
      exact hk
    · rw [if_neg c1112] at hf
      refine mx_WP.bne (x := (I 3 (h v0) 6)) (y := (0 : Int32)) (q := 75) (p3 := 71) rfl (fun _ => ?_) (fun hh => absurd c1112 hh)
      refine mx_WP.go 1 (pc' := 76) (L' := [some (mx_r (some (0, 5, v0))), z1, some (mx_i v2), z3]) (st' := [mx_i v2]) (σ' := (hC I J h, μ)) rfl ?_
      rw [← Option.some.inj hf] at hk
      refine mx_WP.ret (v := some (mx_i v2)) rfl ?_
      exact hk
  · rw [if_neg c1111] at hf
    refine mx_WP.bne (x := (I 5 v0 2)) (y := (0 : Int32)) (q := 75) (p3 := 61) rfl (fun _ => ?_) (fun hh => absurd c1111 hh)
    refine mx_WP.go 1 (pc' := 76) (L' := [some (mx_r (some (0, 5, v0))), z1, some (mx_i v2), z3]) (st' := [mx_i v2]) (σ' := (hC I J h, μ)) rfl ?_
    rw [← Option.some.inj hf] at hk
    refine mx_WP.ret (v := some (mx_i v2)) rfl ?_
    exact hk
def f55_64 (x0 : Nat) (x2 : Int32) (I : Nat → Nat → Nat → Int32) (J : Nat → Nat → Nat → Int64) (h : Nat → Nat) : Option (Int32 × (Nat → Nat → Nat → Int32) × (Nat → Nat → Nat → Int64) × (Nat → Nat)) :=
  (f48 x0 I).bind fun u1 =>
  (mx_lp (b55_64_25 x0 x2 (mx_u3 u1 5 x0 2 (0 : Int32)) J (mx_u1 h x0 0)) mx_fu ((0 : Int32), (mx_u3 u1 5 x0 2 (0 : Int32)), J, (mx_u1 h x0 0))).bind fun u108 => Sum.elim (fun w110 =>
  j55_64_54 x0 x2 w110.2.1 w110.2.2.1 w110.2.2.2) (fun y1113 => some y1113) u108
theorem T55_64 {d : Nat} {x0 : Nat} {x2 : Int32} {I : Nat → Nat → Nat → Int32} {J : Nat → Nat → Nat → Int64} {h : Nat → Nat} {μ : mx_Rg × (Nat × (Nat → Int32)) × (Nat × Nat)} {Q : Option mx_V → mx_Hp → Prop} {o : Int32 × (Nat → Nat → Nat → Int32) × (Nat → Nat → Nat → Int64) × (Nat → Nat)} (hf : f55_64 x0 x2 I J h = some o) (hk : Q (some (mx_i o.1)) (hC o.2.1 o.2.2.1 o.2.2.2, μ)) : mx_WP (d + 5) 55 0 (mx_ent 55 [mx_r (some (0, 5, x0)), mx_r (some (0, 64, 0)), mx_i x2]) [] (hC I J h, μ) Q := by
  unfold f55_64 at hf
  refine mx_WP.go 2 (pc' := 4) (L' := [some (mx_r (some (0, 5, x0))), some (mx_r (some (0, 64, 0))), some (mx_i x2), none]) (st' := [mx_r (some (0, 4, x0))]) (σ' := (hC I J h, μ)) rfl ?_
  obtain ⟨u1, e1114, hf⟩ := Option.bind_eq_some_iff.mp hf
  refine mx_WP.call (d := d + 4) (y := 48) (as := [mx_r (some (0, 4, x0))]) (pc' := 7) (r := []) rfl rfl (T48 (d := d + 4)  e1114 ?_)
  show mx_WP (d + 5) 55 7 [some (mx_r (some (0, 5, x0))), some (mx_r (some (0, 64, 0))), some (mx_i x2), none] [] (hC u1 J h, μ) Q
  refine mx_WP.go 4 (pc' := 15) (L' := [some (mx_r (some (0, 5, x0))), some (mx_r (some (0, 64, 0))), some (mx_i x2), none]) (st' := [mx_r (some (0, 3, 0)), mx_r (some (0, 5, x0))]) (σ' := (hC u1 J h, μ)) rfl ?_
  refine mx_WP.puth (by rfl) ?_
  show mx_WP (d + 5) 55 18 [some (mx_r (some (0, 5, x0))), some (mx_r (some (0, 64, 0))), some (mx_i x2), none] [] (hC u1 J (mx_u1 h x0 0), μ) Q
  refine mx_WP.go 5 (pc' := 25) (L' := [some (mx_r (some (0, 5, x0))), some (mx_r (some (0, 64, 0))), some (mx_i x2), some (mx_i (0 : Int32))]) (st' := []) (σ' := (hC (mx_u3 u1 5 x0 2 (0 : Int32)) J (mx_u1 h x0 0), μ)) rfl ?_
  obtain ⟨u108, e109, hf⟩ := Option.bind_eq_some_iff.mp hf
  cases u108 with
  | inr y1113 =>
    rw [Sum.elim_inr] at hf
    rw [← Option.some.inj hf] at hk
    exact (L55_64_25 (d := d) e109 hk)
  | inl w110 =>
    rw [Sum.elim_inl] at hf
    refine (L55_64_25 (d := d) e109 ?_)
    show mx_WP (d + 5) 55 54 [some (mx_r (some (0, 5, x0))), some (mx_r (some (0, 64, 0))), some (mx_i x2), some (mx_i w110.1)] [] (hC w110.2.1 w110.2.2.1 w110.2.2.2, μ) Q
    exact J55_64_54 (d := d) hf hk
def b73_64_4 (x1 : Int32) (I : Nat → Nat → Nat → Int32) (s : Int32 × Int32) : Option ((Int32 × Int32) ⊕ (Int32 × Int32)) :=
  if x1 ≤ s.2 then (some (Sum.inr (s.1, s.2))) else if (Int32.ofNat 200) ≤ s.2 then (some (Sum.inr (s.1, s.2))) else if s.2 < 0 ∨ 200 ≤ s.2.toNatClampNeg then none else if (I 64 0 s.2.toNatClampNeg) = (10 : Int32) then (some (Sum.inl (s.1 + 1, s.2 + 1))) else some (Sum.inl (s.1, s.2 + 1))
theorem B73_64_4 {d : Nat} {x1 : Int32} {I : Nat → Nat → Nat → Int32} {J : Nat → Nat → Nat → Int64} {h : Nat → Nat} {μ : mx_Rg × (Nat × (Nat → Int32)) × (Nat × Nat)} {Q : Option mx_V → mx_Hp → Prop} {s : Int32 × Int32} {o : (Int32 × Int32) ⊕ (Int32 × Int32)} (hf : b73_64_4 x1 I s = some o) (hk : Sum.elim (fun s : Int32 × Int32 => mx_WP (d + 0) 73 4 [some (mx_r (some (0, 64, 0))), some (mx_i x1), some (mx_i s.1), some (mx_i s.2)] [] (hC I J h, μ) Q) (fun x : Int32 × Int32 => mx_WP (d + 0) 73 32 [some (mx_r (some (0, 64, 0))), some (mx_i x1), some (mx_i x.1), some (mx_i x.2)] [] (hC I J h, μ) Q) o) : mx_WP (d + 0) 73 4 [some (mx_r (some (0, 64, 0))), some (mx_i x1), some (mx_i s.1), some (mx_i s.2)] [] (hC I J h, μ) Q := by
  unfold b73_64_4 at hf
  refine mx_WP.go 2 (pc' := 6) (L' := [some (mx_r (some (0, 64, 0))), some (mx_i x1), some (mx_i s.1), some (mx_i s.2)]) (st' := [mx_i x1, mx_i s.2]) (σ' := (hC I J h, μ)) rfl ?_
  by_cases c101 : x1 ≤ s.2
  · rw [if_pos c101] at hf
    refine mx_WP.bge (x := s.2) (y := x1) (q := 32) (p3 := 9) rfl (fun _ => ?_) (fun hh => absurd c101 hh)
    rw [← Option.some.inj hf] at hk
    exact hk
  · rw [if_neg c101] at hf
    refine mx_WP.bge (x := s.2) (y := x1) (q := 32) (p3 := 9) rfl (fun hh => absurd hh c101) (fun _ => ?_)
    refine mx_WP.go 3 (pc' := 12) (L' := [some (mx_r (some (0, 64, 0))), some (mx_i x1), some (mx_i s.1), some (mx_i s.2)]) (st' := [mx_i (Int32.ofNat 200), mx_i s.2]) (σ' := (hC I J h, μ)) rfl ?_
    by_cases c102 : (Int32.ofNat 200) ≤ s.2
    · rw [if_pos c102] at hf
      refine mx_WP.bge (x := s.2) (y := (Int32.ofNat 200)) (q := 32) (p3 := 15) rfl (fun _ => ?_) (fun hh => absurd c102 hh)
      rw [← Option.some.inj hf] at hk
      exact hk
    · rw [if_neg c102] at hf
      refine mx_WP.bge (x := s.2) (y := (Int32.ofNat 200)) (q := 32) (p3 := 15) rfl (fun hh => absurd hh c102) (fun _ => ?_)
      refine mx_WP.go 2 (pc' := 17) (L' := [some (mx_r (some (0, 64, 0))), some (mx_i x1), some (mx_i s.1), some (mx_i s.2)]) (st' := [mx_i s.2, mx_r (some (0, 64, 0))]) (σ' := (hC I J h, μ)) rfl ?_
      by_cases c103 : s.2 < 0 ∨ 200 ≤ s.2.toNatClampNeg
      · rw [if_pos c103] at hf
        cases hf
      rw [if_neg c103] at hf
      refine mx_WP.baldx c103 ?_
      show mx_WP (d + 0) 73 18 [some (mx_r (some (0, 64, 0))), some (mx_i x1), some (mx_i s.1), some (mx_i s.2)] [mx_i (I 64 0 s.2.toNatClampNeg)] (hC I J h, μ) Q
      refine mx_WP.go 1 (pc' := 20) (L' := [some (mx_r (some (0, 64, 0))), some (mx_i x1), some (mx_i s.1), some (mx_i s.2)]) (st' := [mx_i (10 : Int32), mx_i (I 64 0 s.2.toNatClampNeg)]) (σ' := (hC I J h, μ)) rfl ?_
      by_cases c104 : (I 64 0 s.2.toNatClampNeg) = (10 : Int32)
      · rw [if_pos c104] at hf
        refine mx_WP.bne (x := (I 64 0 s.2.toNatClampNeg)) (y := (10 : Int32)) (q := 26) (p3 := 23) rfl (fun hh => absurd c104 hh) (fun _ => ?_)
        refine mx_WP.go 3 (pc' := 4) (L' := [some (mx_r (some (0, 64, 0))), some (mx_i x1), some (mx_i (s.1 + 1)), some (mx_i (s.2 + 1))]) (st' := []) (σ' := (hC I J h, μ)) rfl ?_
        rw [← Option.some.inj hf] at hk
        exact hk
      · rw [if_neg c104] at hf
        refine mx_WP.bne (x := (I 64 0 s.2.toNatClampNeg)) (y := (10 : Int32)) (q := 26) (p3 := 23) rfl (fun _ => ?_) (fun hh => absurd c104 hh)
        refine mx_WP.go 2 (pc' := 4) (L' := [some (mx_r (some (0, 64, 0))), some (mx_i x1), some (mx_i s.1), some (mx_i (s.2 + 1))]) (st' := []) (σ' := (hC I J h, μ)) rfl ?_
        rw [← Option.some.inj hf] at hk
        exact hk
theorem L73_64_4 {d : Nat} {x1 : Int32} {I : Nat → Nat → Nat → Int32} {J : Nat → Nat → Nat → Int64} {h : Nat → Nat} {μ : mx_Rg × (Nat × (Nat → Int32)) × (Nat × Nat)} {Q : Option mx_V → mx_Hp → Prop} {n : Nat} {s : Int32 × Int32} {o : Int32 × Int32} (hf : mx_lp (b73_64_4 x1 I) n s = some o) (hk : (fun x : Int32 × Int32 => mx_WP (d + 0) 73 32 [some (mx_r (some (0, 64, 0))), some (mx_i x1), some (mx_i x.1), some (mx_i x.2)] [] (hC I J h, μ) Q) o) : mx_WP (d + 0) 73 4 [some (mx_r (some (0, 64, 0))), some (mx_i x1), some (mx_i s.1), some (mx_i s.2)] [] (hC I J h, μ) Q := mx_lp_ok (P := fun s : Int32 × Int32 => mx_WP (d + 0) 73 4 [some (mx_r (some (0, 64, 0))), some (mx_i x1), some (mx_i s.1), some (mx_i s.2)] [] (hC I J h, μ) Q) (E := (fun x : Int32 × Int32 => mx_WP (d + 0) 73 32 [some (mx_r (some (0, 64, 0))), some (mx_i x1), some (mx_i x.1), some (mx_i x.2)] [] (hC I J h, μ) Q)) (fun s o hf hk => B73_64_4 hf hk) n s o hf hk
def f73_64 (x1 : Int32) (I : Nat → Nat → Nat → Int32) : Option (Int32) :=
  (mx_lp (b73_64_4 x1 I) mx_fu ((1 : Int32), (0 : Int32))).bind fun u105 =>
  some u105.1
theorem T73_64 {d : Nat} {x1 : Int32} {I : Nat → Nat → Nat → Int32} {J : Nat → Nat → Nat → Int64} {h : Nat → Nat} {μ : mx_Rg × (Nat × (Nat → Int32)) × (Nat × Nat)} {Q : Option mx_V → mx_Hp → Prop} {o : Int32} (hf : f73_64 x1 I = some o) (hk : Q (some (mx_i o)) (hC I J h, μ)) : mx_WP (d + 0) 73 0 (mx_ent 73 [mx_r (some (0, 64, 0)), mx_i x1]) [] (hC I J h, μ) Q := by
  unfold f73_64 at hf
  refine mx_WP.go 4 (pc' := 4) (L' := [some (mx_r (some (0, 64, 0))), some (mx_i x1), some (mx_i (1 : Int32)), some (mx_i (0 : Int32))]) (st' := []) (σ' := (hC I J h, μ)) rfl ?_
  obtain ⟨u105, e106, hf⟩ := Option.bind_eq_some_iff.mp hf
  refine L73_64_4 (d := d) e106 ?_
  show mx_WP (d + 0) 73 32 [some (mx_r (some (0, 64, 0))), some (mx_i x1), some (mx_i u105.1), some (mx_i u105.2)] [] (hC I J h, μ) Q
  refine mx_WP.go 1 (pc' := 33) (L' := [some (mx_r (some (0, 64, 0))), some (mx_i x1), some (mx_i u105.1), some (mx_i u105.2)]) (st' := [mx_i u105.1]) (σ' := (hC I J h, μ)) rfl ?_
  rw [← Option.some.inj hf] at hk
  refine mx_WP.ret (v := some (mx_i u105.1)) rfl ?_
  exact hk
def f72 (x0 : Nat) (x2 : Int32) (I : Nat → Nat → Nat → Int32) (J : Nat → Nat → Nat → Int64) (h : Nat → Nat) : Option ((Nat → Nat → Nat → Int32) × (Nat → Nat → Nat → Int64) × (Nat → Nat)) :=
  (f38 (x0 + 1) 0 (mx_u3 (mx_u3 (mx_u3 I 6 x0 3 (1 : Int32)) 6 x0 7 x2) 6 x0 8 (0 : Int32)) J).bind fun u1 =>
  (f55_64 x0 (u1.1 1 0 2) u1.1 u1.2 h).bind fun u2 =>
  if ((mx_u3 (mx_u3 u2.2.1 6 x0 9 u2.1) 6 x0 10 (-1 : Int32)) 6 x0 9) = (-1 : Int32) then (some ((mx_u3 (mx_u3 u2.2.1 6 x0 9 u2.1) 6 x0 10 (-1 : Int32)), u2.2.2.1, u2.2.2.2)) else (f48 x0 (mx_u3 (mx_u3 u2.2.1 6 x0 9 u2.1) 6 x0 10 (-1 : Int32))).bind fun u4 =>
  (f73_64 (u4 6 x0 9) u4).bind fun u5 =>
  some ((mx_u3 u4 6 x0 10 u5), u2.2.2.1, u2.2.2.2)
theorem T72 {d : Nat} {x0 : Nat} {x2 : Int32} {I : Nat → Nat → Nat → Int32} {J : Nat → Nat → Nat → Int64} {h : Nat → Nat} {μ : mx_Rg × (Nat × (Nat → Int32)) × (Nat × Nat)} {Q : Option mx_V → mx_Hp → Prop} {o : (Nat → Nat → Nat → Int32) × (Nat → Nat → Nat → Int64) × (Nat → Nat)} (hf : f72 x0 x2 I J h = some o) (hk : Q (none) (hC o.1 o.2.1 o.2.2, μ)) : mx_WP (d + 6) 72 0 (mx_ent 72 [mx_r (some (0, 6, x0)), mx_r (some (0, 1, 0)), mx_i x2]) [] (hC I J h, μ) Q := by
  unfold f72 at hf
  refine mx_WP.go 13 (pc' := 23) (L' := [some (mx_r (some (0, 6, x0))), some (mx_r (some (0, 1, 0))), some (mx_i x2)]) (st' := [mx_r (some (0, 2, 0)), mx_r (some (0, 2, (x0 + 1)))]) (σ' := (hC (mx_u3 (mx_u3 (mx_u3 I 6 x0 3 (1 : Int32)) 6 x0 7 x2) 6 x0 8 (0 : Int32)) J h, μ)) rfl ?_
  obtain ⟨u1, e9, hf⟩ := Option.bind_eq_some_iff.mp hf
  refine mx_WP.call (d := d + 5) (y := 38) (as := [mx_r (some (0, 2, (x0 + 1))), mx_r (some (0, 2, 0))]) (pc' := 26) (r := []) rfl rfl (T38 (d := d + 3)  e9 ?_)
  show mx_WP (d + 6) 72 26 [some (mx_r (some (0, 6, x0))), some (mx_r (some (0, 1, 0))), some (mx_i x2)] [] (hC u1.1 u1.2 h, μ) Q
  refine mx_WP.go 7 (pc' := 39) (L' := [some (mx_r (some (0, 6, x0))), some (mx_r (some (0, 1, 0))), some (mx_i x2)]) (st' := [mx_i (u1.1 1 0 2), mx_r (some (0, 64, 0)), mx_r (some (0, 5, x0)), mx_r (some (0, 6, x0))]) (σ' := (hC u1.1 u1.2 h, μ)) rfl ?_
  obtain ⟨u2, e8, hf⟩ := Option.bind_eq_some_iff.mp hf
  refine mx_WP.call (d := d + 5) (y := 55) (as := [mx_r (some (0, 5, x0)), mx_r (some (0, 64, 0)), mx_i (u1.1 1 0 2)]) (pc' := 42) (r := [mx_r (some (0, 6, x0))]) rfl rfl (T55_64 (d := d + 0)  e8 ?_)
  show mx_WP (d + 6) 72 42 [some (mx_r (some (0, 6, x0))), some (mx_r (some (0, 1, 0))), some (mx_i x2)] [mx_i u2.1, mx_r (some (0, 6, x0))] (hC u2.2.1 u2.2.2.1 u2.2.2.2, μ) Q
  refine mx_WP.go 7 (pc' := 55) (L' := [some (mx_r (some (0, 6, x0))), some (mx_r (some (0, 1, 0))), some (mx_i x2)]) (st' := [mx_i (-1 : Int32), mx_i ((mx_u3 (mx_u3 u2.2.1 6 x0 9 u2.1) 6 x0 10 (-1 : Int32)) 6 x0 9)]) (σ' := (hC (mx_u3 (mx_u3 u2.2.1 6 x0 9 u2.1) 6 x0 10 (-1 : Int32)) u2.2.2.1 u2.2.2.2, μ)) rfl ?_
  by_cases c3 : ((mx_u3 (mx_u3 u2.2.1 6 x0 9 u2.1) 6 x0 10 (-1 : Int32)) 6 x0 9) = (-1 : Int32)
  · rw [if_pos c3] at hf
    refine mx_WP.beq (x := ((mx_u3 (mx_u3 u2.2.1 6 x0 9 u2.1) 6 x0 10 (-1 : Int32)) 6 x0 9)) (y := (-1 : Int32)) (q := 80) (p3 := 58) rfl (fun _ => ?_) (fun hh => absurd c3 hh)
    rw [← Option.some.inj hf] at hk
    refine mx_WP.ret (v := none) rfl ?_
    exact hk
  · rw [if_neg c3] at hf
    refine mx_WP.beq (x := ((mx_u3 (mx_u3 u2.2.1 6 x0 9 u2.1) 6 x0 10 (-1 : Int32)) 6 x0 9)) (y := (-1 : Int32)) (q := 80) (p3 := 58) rfl (fun hh => absurd hh c3) (fun _ => ?_)
    refine mx_WP.go 2 (pc' := 62) (L' := [some (mx_r (some (0, 6, x0))), some (mx_r (some (0, 1, 0))), some (mx_i x2)]) (st' := [mx_r (some (0, 4, x0))]) (σ' := (hC (mx_u3 (mx_u3 u2.2.1 6 x0 9 u2.1) 6 x0 10 (-1 : Int32)) u2.2.2.1 u2.2.2.2, μ)) rfl ?_
    obtain ⟨u4, e7, hf⟩ := Option.bind_eq_some_iff.mp hf
    refine mx_WP.call (d := d + 5) (y := 48) (as := [mx_r (some (0, 4, x0))]) (pc' := 65) (r := []) rfl rfl (T48 (d := d + 5)  e7 ?_)
    show mx_WP (d + 6) 72 65 [some (mx_r (some (0, 6, x0))), some (mx_r (some (0, 1, 0))), some (mx_i x2)] [] (hC u4 u2.2.2.1 u2.2.2.2, μ) Q
    refine mx_WP.go 5 (pc' := 74) (L' := [some (mx_r (some (0, 6, x0))), some (mx_r (some (0, 1, 0))), some (mx_i x2)]) (st' := [mx_i (u4 6 x0 9), mx_r (some (0, 64, 0)), mx_r (some (0, 6, x0))]) (σ' := (hC u4 u2.2.2.1 u2.2.2.2, μ)) rfl ?_
    obtain ⟨u5, e6, hf⟩ := Option.bind_eq_some_iff.mp hf
    refine mx_WP.call (d := d + 5) (y := 73) (as := [mx_r (some (0, 64, 0)), mx_i (u4 6 x0 9)]) (pc' := 77) (r := [mx_r (some (0, 6, x0))]) rfl rfl (T73_64 (d := d + 5)  e6 ?_)
    show mx_WP (d + 6) 72 77 [some (mx_r (some (0, 6, x0))), some (mx_r (some (0, 1, 0))), some (mx_i x2)] [mx_i u5, mx_r (some (0, 6, x0))] (hC u4 u2.2.2.1 u2.2.2.2, μ) Q
    refine mx_WP.go 1 (pc' := 80) (L' := [some (mx_r (some (0, 6, x0))), some (mx_r (some (0, 1, 0))), some (mx_i x2)]) (st' := []) (σ' := (hC (mx_u3 u4 6 x0 10 u5) u2.2.2.1 u2.2.2.2, μ)) rfl ?_
    rw [← Option.some.inj hf] at hk
    refine mx_WP.ret (v := none) rfl ?_
    exact hk
def b78_10 (x2 : Int32) (I : Nat → Nat → Nat → Int32) (s : Int32 × (Nat → Nat → Nat → Int32)) : Option ((Int32 × (Nat → Nat → Nat → Int32)) ⊕ (Int32 × (Nat → Nat → Nat → Int32))) :=
  if x2 ≤ s.1 then (some (Sum.inr (s.1, s.2))) else if s.1 < 0 ∨ 8 ≤ s.1.toNatClampNeg then none else if (s.2 6 s.1.toNatClampNeg 3) = 0 ∨ (s.2 6 s.1.toNatClampNeg 3) = 1 then some (Sum.inl (s.1 + 1, (mx_u3 s.2 6 s.1.toNatClampNeg 4 (s.2 6 s.1.toNatClampNeg 3)))) else none
theorem B78_10 {d : Nat} {x2 : Int32} {I : Nat → Nat → Nat → Int32} {J : Nat → Nat → Nat → Int64} {h : Nat → Nat} {μ : mx_Rg × (Nat × (Nat → Int32)) × (Nat × Nat)} {Q : Option mx_V → mx_Hp → Prop} {s : Int32 × (Nat → Nat → Nat → Int32)} {o : (Int32 × (Nat → Nat → Nat → Int32)) ⊕ (Int32 × (Nat → Nat → Nat → Int32))} (hf : b78_10 x2 I s = some o) (hk : Sum.elim (fun s : Int32 × (Nat → Nat → Nat → Int32) => ∀ (z4 : Option mx_V), mx_WP (d + 1) 78 10 [some (mx_r (some (0, 7, 0))), some (mx_r (some (0, 73, 0))), some (mx_i x2), some (mx_i s.1), z4] [] (hC s.2 J h, μ) Q) (fun x : Int32 × (Nat → Nat → Nat → Int32) => ∀ (z4 : Option mx_V), mx_WP (d + 1) 78 36 [some (mx_r (some (0, 7, 0))), some (mx_r (some (0, 73, 0))), some (mx_i x2), some (mx_i x.1), z4] [] (hC x.2 J h, μ) Q) o) : ∀ (z4 : Option mx_V), mx_WP (d + 1) 78 10 [some (mx_r (some (0, 7, 0))), some (mx_r (some (0, 73, 0))), some (mx_i x2), some (mx_i s.1), z4] [] (hC s.2 J h, μ) Q := by
  intro z4
  unfold b78_10 at hf
  refine mx_WP.go 2 (pc' := 12) (L' := [some (mx_r (some (0, 7, 0))), some (mx_r (some (0, 73, 0))), some (mx_i x2), some (mx_i s.1), z4]) (st' := [mx_i x2, mx_i s.1]) (σ' := (hC s.2 J h, μ)) rfl ?_
  by_cases c101 : x2 ≤ s.1
  · rw [if_pos c101] at hf
    refine mx_WP.bge (x := s.1) (y := x2) (q := 36) (p3 := 15) rfl (fun _ => ?_) (fun hh => absurd c101 hh)
    rw [← Option.some.inj hf] at hk
    exact hk (z4)
  · rw [if_neg c101] at hf
    refine mx_WP.bge (x := s.1) (y := x2) (q := 36) (p3 := 15) rfl (fun hh => absurd hh c101) (fun _ => ?_)
    refine mx_WP.go 2 (pc' := 17) (L' := [some (mx_r (some (0, 7, 0))), some (mx_r (some (0, 73, 0))), some (mx_i x2), some (mx_i s.1), z4]) (st' := [mx_i s.1, mx_r (some (0, 73, 0))]) (σ' := (hC s.2 J h, μ)) rfl ?_
    by_cases c102 : s.1 < 0 ∨ 8 ≤ s.1.toNatClampNeg
    · rw [if_pos c102] at hf
      cases hf
    rw [if_neg c102] at hf
    refine mx_WP.aal73 c102 ?_
    show mx_WP (d + 1) 78 18 [some (mx_r (some (0, 7, 0))), some (mx_r (some (0, 73, 0))), some (mx_i x2), some (mx_i s.1), z4] [mx_r (some (0, 6, s.1.toNatClampNeg))] (hC s.2 J h, μ) Q
    refine mx_WP.go 4 (pc' := 27) (L' := [some (mx_r (some (0, 7, 0))), some (mx_r (some (0, 73, 0))), some (mx_i x2), some (mx_i s.1), some (mx_r (some (0, 6, s.1.toNatClampNeg)))]) (st' := [mx_i (s.2 6 s.1.toNatClampNeg 3), mx_r (some (0, 6, s.1.toNatClampNeg))]) (σ' := (hC s.2 J h, μ)) rfl ?_
    by_cases c103 : (s.2 6 s.1.toNatClampNeg 3) = 0 ∨ (s.2 6 s.1.toNatClampNeg 3) = 1
    case neg => rw [if_neg c103] at hf; cases hf
    rw [if_pos c103] at hf
    refine mx_WP.putz c103 (by rfl) (by rfl) (by rfl) (by rfl) ?_
    show mx_WP (d + 1) 78 30 [some (mx_r (some (0, 7, 0))), some (mx_r (some (0, 73, 0))), some (mx_i x2), some (mx_i s.1), some (mx_r (some (0, 6, s.1.toNatClampNeg)))] [] (hC (mx_u3 s.2 6 s.1.toNatClampNeg 4 (s.2 6 s.1.toNatClampNeg 3)) J h, μ) Q
    refine mx_WP.go 2 (pc' := 10) (L' := [some (mx_r (some (0, 7, 0))), some (mx_r (some (0, 73, 0))), some (mx_i x2), some (mx_i (s.1 + 1)), some (mx_r (some (0, 6, s.1.toNatClampNeg)))]) (st' := []) (σ' := (hC (mx_u3 s.2 6 s.1.toNatClampNeg 4 (s.2 6 s.1.toNatClampNeg 3)) J h, μ)) rfl ?_
    rw [← Option.some.inj hf] at hk
    exact hk (some (mx_r (some (0, 6, s.1.toNatClampNeg))))
theorem L78_10 {d : Nat} {x2 : Int32} {I : Nat → Nat → Nat → Int32} {J : Nat → Nat → Nat → Int64} {h : Nat → Nat} {μ : mx_Rg × (Nat × (Nat → Int32)) × (Nat × Nat)} {Q : Option mx_V → mx_Hp → Prop} {n : Nat} {s : Int32 × (Nat → Nat → Nat → Int32)} {o : Int32 × (Nat → Nat → Nat → Int32)} (hf : mx_lp (b78_10 x2 I) n s = some o) (hk : (fun x : Int32 × (Nat → Nat → Nat → Int32) => ∀ (z4 : Option mx_V), mx_WP (d + 1) 78 36 [some (mx_r (some (0, 7, 0))), some (mx_r (some (0, 73, 0))), some (mx_i x2), some (mx_i x.1), z4] [] (hC x.2 J h, μ) Q) o) : ∀ (z4 : Option mx_V), mx_WP (d + 1) 78 10 [some (mx_r (some (0, 7, 0))), some (mx_r (some (0, 73, 0))), some (mx_i x2), some (mx_i s.1), z4] [] (hC s.2 J h, μ) Q := mx_lp_ok (P := fun s : Int32 × (Nat → Nat → Nat → Int32) => ∀ (z4 : Option mx_V), mx_WP (d + 1) 78 10 [some (mx_r (some (0, 7, 0))), some (mx_r (some (0, 73, 0))), some (mx_i x2), some (mx_i s.1), z4] [] (hC s.2 J h, μ) Q) (E := (fun x : Int32 × (Nat → Nat → Nat → Int32) => ∀ (z4 : Option mx_V), mx_WP (d + 1) 78 36 [some (mx_r (some (0, 7, 0))), some (mx_r (some (0, 73, 0))), some (mx_i x2), some (mx_i x.1), z4] [] (hC x.2 J h, μ) Q)) (fun s o hf hk => B78_10 hf hk) n s o hf hk
def b79_12 (x2 : Nat) (I : Nat → Nat → Nat → Int32) (s : Int32) : Option ((Int32) ⊕ ((Int32) ⊕ (Int32))) :=
  if (I 2 x2 5) ≤ s then (some (Sum.inr (Sum.inl s))) else if s < 0 ∨ 3 ≤ s.toNatClampNeg then none else if (I 65 x2 s.toNatClampNeg) < 0 ∨ 8 ≤ (I 65 x2 s.toNatClampNeg).toNatClampNeg then none else if (I 6 ((I 65 x2 s.toNatClampNeg).toNatClampNeg) 4) = (0 : Int32) then (some (Sum.inr (Sum.inr (s + (1 : Int32))))) else if s < 0 ∨ 3 ≤ s.toNatClampNeg then none else if (I 6 ((I 65 x2 s.toNatClampNeg).toNatClampNeg) 7) < (I 66 x2 s.toNatClampNeg) then (some (Sum.inr (Sum.inr (s + (1 : Int32))))) else if s < 0 ∨ 3 ≤ s.toNatClampNeg then none else if (I 6 ((I 65 x2 s.toNatClampNeg).toNatClampNeg) 7) ≤ (I 67 x2 s.toNatClampNeg) then (some (Sum.inl (s + 1))) else some (Sum.inr (Sum.inr (s + (1 : Int32))))
theorem B79_12 {d : Nat} {x2 : Nat} {I : Nat → Nat → Nat → Int32} {J : Nat → Nat → Nat → Int64} {h : Nat → Nat} {μ : mx_Rg × (Nat × (Nat → Int32)) × (Nat × Nat)} {Q : Option mx_V → mx_Hp → Prop} {s : Int32} {o : (Int32) ⊕ ((Int32) ⊕ (Int32))} (hf : b79_12 x2 I s = some o) (hk : Sum.elim (fun s : Int32 => ∀ (z1 z4 : Option mx_V), mx_WP (d + 0) 79 12 [some (mx_r (some (0, 7, 0))), z1, some (mx_r (some (0, 2, x2))), some (mx_i s), z4] [] (hC I J h, μ) Q) (Sum.elim (fun x : Int32 => ∀ (z1 z4 : Option mx_V), mx_WP (d + 0) 79 79 [some (mx_r (some (0, 7, 0))), z1, some (mx_r (some (0, 2, x2))), some (mx_i x), z4] [] (hC I J h, μ) Q) (fun x : Int32 => Q (some (mx_i x)) (hC I J h, μ))) o) : ∀ (z1 z4 : Option mx_V), mx_WP (d + 0) 79 12 [some (mx_r (some (0, 7, 0))), z1, some (mx_r (some (0, 2, x2))), some (mx_i s), z4] [] (hC I J h, μ) Q := by
  intro z1 z4
  unfold b79_12 at hf
  refine mx_WP.go 3 (pc' := 17) (L' := [some (mx_r (some (0, 7, 0))), z1, some (mx_r (some (0, 2, x2))), some (mx_i s), z4]) (st' := [mx_i (I 2 x2 5), mx_i s]) (σ' := (hC I J h, μ)) rfl ?_
  by_cases c102 : (I 2 x2 5) ≤ s
  · rw [if_pos c102] at hf
    refine mx_WP.bge (x := s) (y := (I 2 x2 5)) (q := 79) (p3 := 20) rfl (fun _ => ?_) (fun hh => absurd c102 hh)
    rw [← Option.some.inj hf] at hk
    exact hk (z1) (z4)
  · rw [if_neg c102] at hf
    refine mx_WP.bge (x := s) (y := (I 2 x2 5)) (q := 79) (p3 := 20) rfl (fun hh => absurd hh c102) (fun _ => ?_)
    refine mx_WP.go 5 (pc' := 29) (L' := [some (mx_r (some (0, 7, 0))), z1, some (mx_r (some (0, 2, x2))), some (mx_i s), z4]) (st' := [mx_i s, mx_r (some (0, 65, x2)), mx_r (some (0, 73, 0))]) (σ' := (hC I J h, μ)) rfl ?_
    by_cases c103 : s < 0 ∨ 3 ≤ s.toNatClampNeg
    · rw [if_pos c103] at hf
      cases hf
    rw [if_neg c103] at hf
    refine mx_WP.ialdx c103 ?_
    show mx_WP (d + 0) 79 30 [some (mx_r (some (0, 7, 0))), z1, some (mx_r (some (0, 2, x2))), some (mx_i s), z4] [mx_i (I 65 x2 s.toNatClampNeg), mx_r (some (0, 73, 0))] (hC I J h, μ) Q
    by_cases c104 : (I 65 x2 s.toNatClampNeg) < 0 ∨ 8 ≤ (I 65 x2 s.toNatClampNeg).toNatClampNeg
    · rw [if_pos c104] at hf
      cases hf
    rw [if_neg c104] at hf
    refine mx_WP.aal73 c104 ?_
    show mx_WP (d + 0) 79 31 [some (mx_r (some (0, 7, 0))), z1, some (mx_r (some (0, 2, x2))), some (mx_i s), z4] [mx_r (some (0, 6, (I 65 x2 s.toNatClampNeg).toNatClampNeg))] (hC I J h, μ) Q
    refine mx_WP.go 3 (pc' := 38) (L' := [some (mx_r (some (0, 7, 0))), z1, some (mx_r (some (0, 2, x2))), some (mx_i s), some (mx_r (some (0, 6, (I 65 x2 s.toNatClampNeg).toNatClampNeg)))]) (st' := [mx_i (I 6 ((I 65 x2 s.toNatClampNeg).toNatClampNeg) 4)]) (σ' := (hC I J h, μ)) rfl ?_
    by_cases c105 : (I 6 ((I 65 x2 s.toNatClampNeg).toNatClampNeg) 4) = (0 : Int32)
    · rw [if_pos c105] at hf
      refine mx_WP.beq (x := (I 6 ((I 65 x2 s.toNatClampNeg).toNatClampNeg) 4)) (y := (0 : Int32)) (q := 69) (p3 := 41) rfl (fun _ => ?_) (fun hh => absurd c105 hh)
      refine mx_WP.go 3 (pc' := 72) (L' := [some (mx_r (some (0, 7, 0))), z1, some (mx_r (some (0, 2, x2))), some (mx_i s), some (mx_r (some (0, 6, (I 65 x2 s.toNatClampNeg).toNatClampNeg)))]) (st' := [mx_i (s + (1 : Int32))]) (σ' := (hC I J h, μ)) rfl ?_
      rw [← Option.some.inj hf] at hk
      refine mx_WP.ret (v := some (mx_i (s + (1 : Int32)))) rfl ?_
      exact hk
    · rw [if_neg c105] at hf
      refine mx_WP.beq (x := (I 6 ((I 65 x2 s.toNatClampNeg).toNatClampNeg) 4)) (y := (0 : Int32)) (q := 69) (p3 := 41) rfl (fun hh => absurd hh c105) (fun _ => ?_)
      refine mx_WP.go 5 (pc' := 51) (L' := [some (mx_r (some (0, 7, 0))), z1, some (mx_r (some (0, 2, x2))), some (mx_i s), some (mx_r (some (0, 6, (I 65 x2 s.toNatClampNeg).toNatClampNeg)))]) (st' := [mx_i s, mx_r (some (0, 66, x2)), mx_i (I 6 ((I 65 x2 s.toNatClampNeg).toNatClampNeg) 7)]) (σ' := (hC I J h, μ)) rfl ?_
      by_cases c106 : s < 0 ∨ 3 ≤ s.toNatClampNeg
      · rw [if_pos c106] at hf
        cases hf
      rw [if_neg c106] at hf
      refine mx_WP.ialdx c106 ?_
      show mx_WP (d + 0) 79 52 [some (mx_r (some (0, 7, 0))), z1, some (mx_r (some (0, 2, x2))), some (mx_i s), some (mx_r (some (0, 6, (I 65 x2 s.toNatClampNeg).toNatClampNeg)))] [mx_i (I 66 x2 s.toNatClampNeg), mx_i (I 6 ((I 65 x2 s.toNatClampNeg).toNatClampNeg) 7)] (hC I J h, μ) Q
      by_cases c107 : (I 6 ((I 65 x2 s.toNatClampNeg).toNatClampNeg) 7) < (I 66 x2 s.toNatClampNeg)
      · rw [if_pos c107] at hf
        refine mx_WP.blt (x := (I 6 ((I 65 x2 s.toNatClampNeg).toNatClampNeg) 7)) (y := (I 66 x2 s.toNatClampNeg)) (q := 69) (p3 := 55) rfl (fun _ => ?_) (fun hh => absurd c107 hh)
        refine mx_WP.go 3 (pc' := 72) (L' := [some (mx_r (some (0, 7, 0))), z1, some (mx_r (some (0, 2, x2))), some (mx_i s), some (mx_r (some (0, 6, (I 65 x2 s.toNatClampNeg).toNatClampNeg)))]) (st' := [mx_i (s + (1 : Int32))]) (σ' := (hC I J h, μ)) rfl ?_
        rw [← Option.some.inj hf] at hk
        refine mx_WP.ret (v := some (mx_i (s + (1 : Int32)))) rfl ?_
        exact hk
      · rw [if_neg c107] at hf
        refine mx_WP.blt (x := (I 6 ((I 65 x2 s.toNatClampNeg).toNatClampNeg) 7)) (y := (I 66 x2 s.toNatClampNeg)) (q := 69) (p3 := 55) rfl (fun hh => absurd hh c107) (fun _ => ?_)
        refine mx_WP.go 5 (pc' := 65) (L' := [some (mx_r (some (0, 7, 0))), z1, some (mx_r (some (0, 2, x2))), some (mx_i s), some (mx_r (some (0, 6, (I 65 x2 s.toNatClampNeg).toNatClampNeg)))]) (st' := [mx_i s, mx_r (some (0, 67, x2)), mx_i (I 6 ((I 65 x2 s.toNatClampNeg).toNatClampNeg) 7)]) (σ' := (hC I J h, μ)) rfl ?_
        by_cases c108 : s < 0 ∨ 3 ≤ s.toNatClampNeg
        · rw [if_pos c108] at hf
          cases hf
        rw [if_neg c108] at hf
        refine mx_WP.ialdx c108 ?_
        show mx_WP (d + 0) 79 66 [some (mx_r (some (0, 7, 0))), z1, some (mx_r (some (0, 2, x2))), some (mx_i s), some (mx_r (some (0, 6, (I 65 x2 s.toNatClampNeg).toNatClampNeg)))] [mx_i (I 67 x2 s.toNatClampNeg), mx_i (I 6 ((I 65 x2 s.toNatClampNeg).toNatClampNeg) 7)] (hC I J h, μ) Q
        by_cases c109 : (I 6 ((I 65 x2 s.toNatClampNeg).toNatClampNeg) 7) ≤ (I 67 x2 s.toNatClampNeg)
        · rw [if_pos c109] at hf
          refine mx_WP.ble (x := (I 6 ((I 65 x2 s.toNatClampNeg).toNatClampNeg) 7)) (y := (I 67 x2 s.toNatClampNeg)) (q := 73) (p3 := 69) rfl (fun _ => ?_) (fun hh => absurd c109 hh)
          refine mx_WP.go 2 (pc' := 12) (L' := [some (mx_r (some (0, 7, 0))), z1, some (mx_r (some (0, 2, x2))), some (mx_i (s + 1)), some (mx_r (some (0, 6, (I 65 x2 s.toNatClampNeg).toNatClampNeg)))]) (st' := []) (σ' := (hC I J h, μ)) rfl ?_
          rw [← Option.some.inj hf] at hk
          exact hk (z1) (some (mx_r (some (0, 6, (I 65 x2 s.toNatClampNeg).toNatClampNeg))))
        · rw [if_neg c109] at hf
          refine mx_WP.ble (x := (I 6 ((I 65 x2 s.toNatClampNeg).toNatClampNeg) 7)) (y := (I 67 x2 s.toNatClampNeg)) (q := 73) (p3 := 69) rfl (fun hh => absurd hh c109) (fun _ => ?_)
          refine mx_WP.go 3 (pc' := 72) (L' := [some (mx_r (some (0, 7, 0))), z1, some (mx_r (some (0, 2, x2))), some (mx_i s), some (mx_r (some (0, 6, (I 65 x2 s.toNatClampNeg).toNatClampNeg)))]) (st' := [mx_i (s + (1 : Int32))]) (σ' := (hC I J h, μ)) rfl ?_
          rw [← Option.some.inj hf] at hk
          refine mx_WP.ret (v := some (mx_i (s + (1 : Int32)))) rfl ?_
          exact hk
theorem L79_12 {d : Nat} {x2 : Nat} {I : Nat → Nat → Nat → Int32} {J : Nat → Nat → Nat → Int64} {h : Nat → Nat} {μ : mx_Rg × (Nat × (Nat → Int32)) × (Nat × Nat)} {Q : Option mx_V → mx_Hp → Prop} {n : Nat} {s : Int32} {o : (Int32) ⊕ (Int32)} (hf : mx_lp (b79_12 x2 I) n s = some o) (hk : (Sum.elim (fun x : Int32 => ∀ (z1 z4 : Option mx_V), mx_WP (d + 0) 79 79 [some (mx_r (some (0, 7, 0))), z1, some (mx_r (some (0, 2, x2))), some (mx_i x), z4] [] (hC I J h, μ) Q) (fun x : Int32 => Q (some (mx_i x)) (hC I J h, μ))) o) : ∀ (z1 z4 : Option mx_V), mx_WP (d + 0) 79 12 [some (mx_r (some (0, 7, 0))), z1, some (mx_r (some (0, 2, x2))), some (mx_i s), z4] [] (hC I J h, μ) Q := mx_lp_ok (P := fun s : Int32 => ∀ (z1 z4 : Option mx_V), mx_WP (d + 0) 79 12 [some (mx_r (some (0, 7, 0))), z1, some (mx_r (some (0, 2, x2))), some (mx_i s), z4] [] (hC I J h, μ) Q) (E := (Sum.elim (fun x : Int32 => ∀ (z1 z4 : Option mx_V), mx_WP (d + 0) 79 79 [some (mx_r (some (0, 7, 0))), z1, some (mx_r (some (0, 2, x2))), some (mx_i x), z4] [] (hC I J h, μ) Q) (fun x : Int32 => Q (some (mx_i x)) (hC I J h, μ)))) (fun s o hf hk => B79_12 hf hk) n s o hf hk
def f79 (x1 : Int32) (I : Nat → Nat → Nat → Int32) : Option (Int32) :=
  if x1 < 0 ∨ 8 ≤ x1.toNatClampNeg then none else (mx_lp (b79_12 (x1.toNatClampNeg + 1) I) mx_fu (0 : Int32)).bind fun u110 => Sum.elim (fun w112 =>
  some (0 : Int32)) (fun y113 => some y113) u110
theorem T79 {d : Nat} {x1 : Int32} {I : Nat → Nat → Nat → Int32} {J : Nat → Nat → Nat → Int64} {h : Nat → Nat} {μ : mx_Rg × (Nat × (Nat → Int32)) × (Nat × Nat)} {Q : Option mx_V → mx_Hp → Prop} {o : Int32} (hf : f79 x1 I = some o) (hk : Q (some (mx_i o)) (hC I J h, μ)) : mx_WP (d + 0) 79 0 (mx_ent 79 [mx_r (some (0, 7, 0)), mx_i x1]) [] (hC I J h, μ) Q := by
  unfold f79 at hf
  refine mx_WP.go 3 (pc' := 5) (L' := [some (mx_r (some (0, 7, 0))), some (mx_i x1), none, none, none]) (st' := [mx_i x1, mx_r (some (0, 73, 0))]) (σ' := (hC I J h, μ)) rfl ?_
  by_cases c1 : x1 < 0 ∨ 8 ≤ x1.toNatClampNeg
  · rw [if_pos c1] at hf
    cases hf
  rw [if_neg c1] at hf
  refine mx_WP.aal73 c1 ?_
  show mx_WP (d + 0) 79 6 [some (mx_r (some (0, 7, 0))), some (mx_i x1), none, none, none] [mx_r (some (0, 6, x1.toNatClampNeg))] (hC I J h, μ) Q
  refine mx_WP.go 4 (pc' := 12) (L' := [some (mx_r (some (0, 7, 0))), some (mx_i x1), some (mx_r (some (0, 2, (x1.toNatClampNeg + 1)))), some (mx_i (0 : Int32)), none]) (st' := []) (σ' := (hC I J h, μ)) rfl ?_
  obtain ⟨u110, e111, hf⟩ := Option.bind_eq_some_iff.mp hf
  cases u110 with
  | inr y113 =>
    rw [Sum.elim_inr] at hf
    rw [← Option.some.inj hf] at hk
    exact (L79_12 (d := d) e111 hk) (some (mx_i x1)) (none)
  | inl w112 =>
    rw [Sum.elim_inl] at hf
    refine (L79_12 (d := d) e111 ?_) (some (mx_i x1)) (none)
    intro z1 z4
    show mx_WP (d + 0) 79 79 [some (mx_r (some (0, 7, 0))), z1, some (mx_r (some (0, 2, (x1.toNatClampNeg + 1)))), some (mx_i w112), z4] [] (hC I J h, μ) Q
    refine mx_WP.go 1 (pc' := 80) (L' := [some (mx_r (some (0, 7, 0))), z1, some (mx_r (some (0, 2, (x1.toNatClampNeg + 1)))), some (mx_i w112), z4]) (st' := [mx_i (0 : Int32)]) (σ' := (hC I J h, μ)) rfl ?_
    rw [← Option.some.inj hf] at hk
    refine mx_WP.ret (v := some (mx_i (0 : Int32))) rfl ?_
    exact hk
def b78_46 (x1 : Int32) (I : Nat → Nat → Nat → Int32) (s : Int32 × (Nat → Nat → Nat → Int32)) : Option ((Int32 × (Nat → Nat → Nat → Int32)) ⊕ (Int32 × (Nat → Nat → Nat → Int32))) :=
  if (8 : Int32) ≤ s.1 then (some (Sum.inr (s.1, s.2))) else if s.1 < 0 ∨ 8 ≤ s.1.toNatClampNeg then none else if s.1 < 0 ∨ 8 ≤ s.1.toNatClampNeg then none else if (s.2 6 s.1.toNatClampNeg 4) = (0 : Int32) then (some (Sum.inl (s.1 + 1, (mx_u3 s.2 6 s.1.toNatClampNeg 4 (0 : Int32))))) else (f79 s.1 s.2).bind fun u311 =>
  if u311 = (0 : Int32) then (some (Sum.inl (s.1 + 1, (mx_u3 s.2 6 s.1.toNatClampNeg 4 (1 : Int32))))) else some (Sum.inl (s.1 + 1, (mx_u3 s.2 6 s.1.toNatClampNeg 4 (0 : Int32))))
theorem B78_46 {d : Nat} {x1 : Int32} {I : Nat → Nat → Nat → Int32} {J : Nat → Nat → Nat → Int64} {h : Nat → Nat} {μ : mx_Rg × (Nat × (Nat → Int32)) × (Nat × Nat)} {Q : Option mx_V → mx_Hp → Prop} {s : Int32 × (Nat → Nat → Nat → Int32)} {o : (Int32 × (Nat → Nat → Nat → Int32)) ⊕ (Int32 × (Nat → Nat → Nat → Int32))} (hf : b78_46 x1 I s = some o) (hk : Sum.elim (fun s : Int32 × (Nat → Nat → Nat → Int32) => ∀ (z3 z4 : Option mx_V), mx_WP (d + 1) 78 46 [some (mx_r (some (0, 7, 0))), some (mx_i x1), some (mx_i s.1), z3, z4] [] (hC s.2 J h, μ) Q) (fun x : Int32 × (Nat → Nat → Nat → Int32) => ∀ (z3 z4 : Option mx_V), mx_WP (d + 1) 78 92 [some (mx_r (some (0, 7, 0))), some (mx_i x1), some (mx_i x.1), z3, z4] [] (hC x.2 J h, μ) Q) o) : ∀ (z3 z4 : Option mx_V), mx_WP (d + 1) 78 46 [some (mx_r (some (0, 7, 0))), some (mx_i x1), some (mx_i s.1), z3, z4] [] (hC s.2 J h, μ) Q := by
  intro z3 z4
  unfold b78_46 at hf
  refine mx_WP.go 2 (pc' := 49) (L' := [some (mx_r (some (0, 7, 0))), some (mx_i x1), some (mx_i s.1), z3, z4]) (st' := [mx_i (8 : Int32), mx_i s.1]) (σ' := (hC s.2 J h, μ)) rfl ?_
  by_cases c307 : (8 : Int32) ≤ s.1
  · rw [if_pos c307] at hf
    refine mx_WP.bge (x := s.1) (y := (8 : Int32)) (q := 92) (p3 := 52) rfl (fun _ => ?_) (fun hh => absurd c307 hh)
    rw [← Option.some.inj hf] at hk
    exact hk (z3) (z4)
  · rw [if_neg c307] at hf
    refine mx_WP.bge (x := s.1) (y := (8 : Int32)) (q := 92) (p3 := 52) rfl (fun hh => absurd hh c307) (fun _ => ?_)
    refine mx_WP.go 3 (pc' := 57) (L' := [some (mx_r (some (0, 7, 0))), some (mx_i x1), some (mx_i s.1), z3, z4]) (st' := [mx_i s.1, mx_r (some (0, 73, 0))]) (σ' := (hC s.2 J h, μ)) rfl ?_
    by_cases c308 : s.1 < 0 ∨ 8 ≤ s.1.toNatClampNeg
    · rw [if_pos c308] at hf
      cases hf
    rw [if_neg c308] at hf
    refine mx_WP.aal73 c308 ?_
    show mx_WP (d + 1) 78 58 [some (mx_r (some (0, 7, 0))), some (mx_i x1), some (mx_i s.1), z3, z4] [mx_r (some (0, 6, s.1.toNatClampNeg))] (hC s.2 J h, μ) Q
    refine mx_WP.go 3 (pc' := 63) (L' := [some (mx_r (some (0, 7, 0))), some (mx_i x1), some (mx_i s.1), z3, z4]) (st' := [mx_i s.1, mx_r (some (0, 73, 0)), mx_r (some (0, 6, s.1.toNatClampNeg))]) (σ' := (hC s.2 J h, μ)) rfl ?_
    by_cases c309 : s.1 < 0 ∨ 8 ≤ s.1.toNatClampNeg
    · rw [if_pos c309] at hf
      cases hf
    rw [if_neg c309] at hf
    refine mx_WP.aal73 c309 ?_
    show mx_WP (d + 1) 78 64 [some (mx_r (some (0, 7, 0))), some (mx_i x1), some (mx_i s.1), z3, z4] [mx_r (some (0, 6, s.1.toNatClampNeg)), mx_r (some (0, 6, s.1.toNatClampNeg))] (hC s.2 J h, μ) Q
    refine mx_WP.go 1 (pc' := 67) (L' := [some (mx_r (some (0, 7, 0))), some (mx_i x1), some (mx_i s.1), z3, z4]) (st' := [mx_i (s.2 6 s.1.toNatClampNeg 4), mx_r (some (0, 6, s.1.toNatClampNeg))]) (σ' := (hC s.2 J h, μ)) rfl ?_
    by_cases c310 : (s.2 6 s.1.toNatClampNeg 4) = (0 : Int32)
    · rw [if_pos c310] at hf
      refine mx_WP.beq (x := (s.2 6 s.1.toNatClampNeg 4)) (y := (0 : Int32)) (q := 82) (p3 := 70) rfl (fun _ => ?_) (fun hh => absurd c310 hh)
      refine mx_WP.go 4 (pc' := 46) (L' := [some (mx_r (some (0, 7, 0))), some (mx_i x1), some (mx_i (s.1 + 1)), z3, z4]) (st' := []) (σ' := (hC (mx_u3 s.2 6 s.1.toNatClampNeg 4 (0 : Int32)) J h, μ)) rfl ?_
      rw [← Option.some.inj hf] at hk
      exact hk (z3) (z4)
    · rw [if_neg c310] at hf
      refine mx_WP.beq (x := (s.2 6 s.1.toNatClampNeg 4)) (y := (0 : Int32)) (q := 82) (p3 := 70) rfl (fun hh => absurd hh c310) (fun _ => ?_)
      refine mx_WP.go 2 (pc' := 72) (L' := [some (mx_r (some (0, 7, 0))), some (mx_i x1), some (mx_i s.1), z3, z4]) (st' := [mx_i s.1, mx_r (some (0, 7, 0)), mx_r (some (0, 6, s.1.toNatClampNeg))]) (σ' := (hC s.2 J h, μ)) rfl ?_
      obtain ⟨u311, e313, hf⟩ := Option.bind_eq_some_iff.mp hf
      refine mx_WP.call (d := d + 0) (y := 79) (as := [mx_r (some (0, 7, 0)), mx_i s.1]) (pc' := 75) (r := [mx_r (some (0, 6, s.1.toNatClampNeg))]) rfl rfl (T79 (d := d + 0)  e313 ?_)
      show mx_WP (d + 1) 78 75 [some (mx_r (some (0, 7, 0))), some (mx_i x1), some (mx_i s.1), z3, z4] [mx_i u311, mx_r (some (0, 6, s.1.toNatClampNeg))] (hC s.2 J h, μ) Q
      by_cases c312 : u311 = (0 : Int32)
      · rw [if_pos c312] at hf
        refine mx_WP.bne (x := u311) (y := (0 : Int32)) (q := 82) (p3 := 78) rfl (fun hh => absurd c312 hh) (fun _ => ?_)
        refine mx_WP.go 5 (pc' := 46) (L' := [some (mx_r (some (0, 7, 0))), some (mx_i x1), some (mx_i (s.1 + 1)), z3, z4]) (st' := []) (σ' := (hC (mx_u3 s.2 6 s.1.toNatClampNeg 4 (1 : Int32)) J h, μ)) rfl ?_
        rw [← Option.some.inj hf] at hk
        exact hk (z3) (z4)
      · rw [if_neg c312] at hf
        refine mx_WP.bne (x := u311) (y := (0 : Int32)) (q := 82) (p3 := 78) rfl (fun _ => ?_) (fun hh => absurd c312 hh)
        refine mx_WP.go 4 (pc' := 46) (L' := [some (mx_r (some (0, 7, 0))), some (mx_i x1), some (mx_i (s.1 + 1)), z3, z4]) (st' := []) (σ' := (hC (mx_u3 s.2 6 s.1.toNatClampNeg 4 (0 : Int32)) J h, μ)) rfl ?_
        rw [← Option.some.inj hf] at hk
        exact hk (z3) (z4)
theorem L78_46 {d : Nat} {x1 : Int32} {I : Nat → Nat → Nat → Int32} {J : Nat → Nat → Nat → Int64} {h : Nat → Nat} {μ : mx_Rg × (Nat × (Nat → Int32)) × (Nat × Nat)} {Q : Option mx_V → mx_Hp → Prop} {n : Nat} {s : Int32 × (Nat → Nat → Nat → Int32)} {o : Int32 × (Nat → Nat → Nat → Int32)} (hf : mx_lp (b78_46 x1 I) n s = some o) (hk : (fun x : Int32 × (Nat → Nat → Nat → Int32) => ∀ (z3 z4 : Option mx_V), mx_WP (d + 1) 78 92 [some (mx_r (some (0, 7, 0))), some (mx_i x1), some (mx_i x.1), z3, z4] [] (hC x.2 J h, μ) Q) o) : ∀ (z3 z4 : Option mx_V), mx_WP (d + 1) 78 46 [some (mx_r (some (0, 7, 0))), some (mx_i x1), some (mx_i s.1), z3, z4] [] (hC s.2 J h, μ) Q := mx_lp_ok (P := fun s : Int32 × (Nat → Nat → Nat → Int32) => ∀ (z3 z4 : Option mx_V), mx_WP (d + 1) 78 46 [some (mx_r (some (0, 7, 0))), some (mx_i x1), some (mx_i s.1), z3, z4] [] (hC s.2 J h, μ) Q) (E := (fun x : Int32 × (Nat → Nat → Nat → Int32) => ∀ (z3 z4 : Option mx_V), mx_WP (d + 1) 78 92 [some (mx_r (some (0, 7, 0))), some (mx_i x1), some (mx_i x.1), z3, z4] [] (hC x.2 J h, μ) Q)) (fun s o hf hk => B78_46 hf hk) n s o hf hk
def b78_38  (I : Nat → Nat → Nat → Int32) (s : Int32 × (Nat → Nat → Nat → Int32)) : Option ((Int32 × (Nat → Nat → Nat → Int32)) ⊕ (Int32 × (Nat → Nat → Nat → Int32))) :=
  if (8 : Int32) ≤ s.1 then (some (Sum.inr (s.1, s.2))) else (mx_lp (b78_46 s.1 s.2) mx_fu ((0 : Int32), s.2)).bind fun u314 =>
  some (Sum.inl (s.1 + 1, u314.2))
theorem B78_38 {d : Nat}  {I : Nat → Nat → Nat → Int32} {J : Nat → Nat → Nat → Int64} {h : Nat → Nat} {μ : mx_Rg × (Nat × (Nat → Int32)) × (Nat × Nat)} {Q : Option mx_V → mx_Hp → Prop} {s : Int32 × (Nat → Nat → Nat → Int32)} {o : (Int32 × (Nat → Nat → Nat → Int32)) ⊕ (Int32 × (Nat → Nat → Nat → Int32))} (hf : b78_38 I s = some o) (hk : Sum.elim (fun s : Int32 × (Nat → Nat → Nat → Int32) => ∀ (z2 z3 z4 : Option mx_V), mx_WP (d + 1) 78 38 [some (mx_r (some (0, 7, 0))), some (mx_i s.1), z2, z3, z4] [] (hC s.2 J h, μ) Q) (fun x : Int32 × (Nat → Nat → Nat → Int32) => ∀ (z2 z3 z4 : Option mx_V), mx_WP (d + 1) 78 98 [some (mx_r (some (0, 7, 0))), some (mx_i x.1), z2, z3, z4] [] (hC x.2 J h, μ) Q) o) : ∀ (z2 z3 z4 : Option mx_V), mx_WP (d + 1) 78 38 [some (mx_r (some (0, 7, 0))), some (mx_i s.1), z2, z3, z4] [] (hC s.2 J h, μ) Q := by
  intro z2 z3 z4
  unfold b78_38 at hf
  refine mx_WP.go 2 (pc' := 41) (L' := [some (mx_r (some (0, 7, 0))), some (mx_i s.1), z2, z3, z4]) (st' := [mx_i (8 : Int32), mx_i s.1]) (σ' := (hC s.2 J h, μ)) rfl ?_
  by_cases c206 : (8 : Int32) ≤ s.1
  · rw [if_pos c206] at hf
    refine mx_WP.bge (x := s.1) (y := (8 : Int32)) (q := 98) (p3 := 44) rfl (fun _ => ?_) (fun hh => absurd c206 hh)
    rw [← Option.some.inj hf] at hk
    exact hk (z2) (z3) (z4)
  · rw [if_neg c206] at hf
    refine mx_WP.bge (x := s.1) (y := (8 : Int32)) (q := 98) (p3 := 44) rfl (fun hh => absurd hh c206) (fun _ => ?_)
    refine mx_WP.go 2 (pc' := 46) (L' := [some (mx_r (some (0, 7, 0))), some (mx_i s.1), some (mx_i (0 : Int32)), z3, z4]) (st' := []) (σ' := (hC s.2 J h, μ)) rfl ?_
    obtain ⟨u314, e315, hf⟩ := Option.bind_eq_some_iff.mp hf
    refine (L78_46 (d := d) e315 ?_) (z3) (z4)
    intro z3 z4
    show mx_WP (d + 1) 78 92 [some (mx_r (some (0, 7, 0))), some (mx_i s.1), some (mx_i u314.1), z3, z4] [] (hC u314.2 J h, μ) Q
    refine mx_WP.go 2 (pc' := 38) (L' := [some (mx_r (some (0, 7, 0))), some (mx_i (s.1 + 1)), some (mx_i u314.1), z3, z4]) (st' := []) (σ' := (hC u314.2 J h, μ)) rfl ?_
    rw [← Option.some.inj hf] at hk
    exact hk (some (mx_i u314.1)) (z3) (z4)
theorem L78_38 {d : Nat}  {I : Nat → Nat → Nat → Int32} {J : Nat → Nat → Nat → Int64} {h : Nat → Nat} {μ : mx_Rg × (Nat × (Nat → Int32)) × (Nat × Nat)} {Q : Option mx_V → mx_Hp → Prop} {n : Nat} {s : Int32 × (Nat → Nat → Nat → Int32)} {o : Int32 × (Nat → Nat → Nat → Int32)} (hf : mx_lp (b78_38 I) n s = some o) (hk : (fun x : Int32 × (Nat → Nat → Nat → Int32) => ∀ (z2 z3 z4 : Option mx_V), mx_WP (d + 1) 78 98 [some (mx_r (some (0, 7, 0))), some (mx_i x.1), z2, z3, z4] [] (hC x.2 J h, μ) Q) o) : ∀ (z2 z3 z4 : Option mx_V), mx_WP (d + 1) 78 38 [some (mx_r (some (0, 7, 0))), some (mx_i s.1), z2, z3, z4] [] (hC s.2 J h, μ) Q := mx_lp_ok (P := fun s : Int32 × (Nat → Nat → Nat → Int32) => ∀ (z2 z3 z4 : Option mx_V), mx_WP (d + 1) 78 38 [some (mx_r (some (0, 7, 0))), some (mx_i s.1), z2, z3, z4] [] (hC s.2 J h, μ) Q) (E := (fun x : Int32 × (Nat → Nat → Nat → Int32) => ∀ (z2 z3 z4 : Option mx_V), mx_WP (d + 1) 78 98 [some (mx_r (some (0, 7, 0))), some (mx_i x.1), z2, z3, z4] [] (hC x.2 J h, μ) Q)) (fun s o hf hk => B78_38 hf hk) n s o hf hk
def f78 (I : Nat → Nat → Nat → Int32) : Option ((Nat → Nat → Nat → Int32)) :=
  (mx_lp (b78_10 (Int32.ofNat 8) I) mx_fu ((0 : Int32), I)).bind fun u104 =>
  (mx_lp (b78_38 u104.2) mx_fu ((0 : Int32), u104.2)).bind fun u316 =>
  some u316.2
theorem T78 {d : Nat} {I : Nat → Nat → Nat → Int32} {J : Nat → Nat → Nat → Int64} {h : Nat → Nat} {μ : mx_Rg × (Nat × (Nat → Int32)) × (Nat × Nat)} {Q : Option mx_V → mx_Hp → Prop} {o : (Nat → Nat → Nat → Int32)} (hf : f78 I = some o) (hk : Q (none) (hC o J h, μ)) : mx_WP (d + 1) 78 0 (mx_ent 78 [mx_r (some (0, 7, 0))]) [] (hC I J h, μ) Q := by
  unfold f78 at hf
  refine mx_WP.go 8 (pc' := 10) (L' := [some (mx_r (some (0, 7, 0))), some (mx_r (some (0, 73, 0))), some (mx_i (Int32.ofNat 8)), some (mx_i (0 : Int32)), none]) (st' := []) (σ' := (hC I J h, μ)) rfl ?_
  obtain ⟨u104, e105, hf⟩ := Option.bind_eq_some_iff.mp hf
  refine (L78_10 (d := d) e105 ?_) (none)
  intro z4
  show mx_WP (d + 1) 78 36 [some (mx_r (some (0, 7, 0))), some (mx_r (some (0, 73, 0))), some (mx_i (Int32.ofNat 8)), some (mx_i u104.1), z4] [] (hC u104.2 J h, μ) Q
  refine mx_WP.go 2 (pc' := 38) (L' := [some (mx_r (some (0, 7, 0))), some (mx_i (0 : Int32)), some (mx_i (Int32.ofNat 8)), some (mx_i u104.1), z4]) (st' := []) (σ' := (hC u104.2 J h, μ)) rfl ?_
  obtain ⟨u316, e317, hf⟩ := Option.bind_eq_some_iff.mp hf
  refine (L78_38 (d := d) e317 ?_) (some (mx_i (Int32.ofNat 8))) (some (mx_i u104.1)) (z4)
  intro z2 z3 z4
  show mx_WP (d + 1) 78 98 [some (mx_r (some (0, 7, 0))), some (mx_i u316.1), z2, z3, z4] [] (hC u316.2 J h, μ) Q
  rw [← Option.some.inj hf] at hk
  refine mx_WP.ret (v := none) rfl ?_
  exact hk
def b98_2  (I : Nat → Nat → Nat → Int32) (J : Nat → Nat → Nat → Int64) (s : Int32 × (Nat → Nat → Nat → Int32)) : Option ((Int32 × (Nat → Nat → Nat → Int32)) ⊕ (Int32 × (Nat → Nat → Nat → Int32))) :=
  if (128 : Int32) ≤ s.1 then (some (Sum.inr (s.1, s.2))) else if s.1 < 0 ∨ 128 ≤ s.1.toNatClampNeg then none else some (Sum.inl (s.1 + 1, (mx_u3 s.2 74 0 s.1.toNatClampNeg (vp_nar .boolean (0 : Int32)))))
theorem B98_2 {d : Nat}  {I : Nat → Nat → Nat → Int32} {J : Nat → Nat → Nat → Int64} {h : Nat → Nat} {μ : mx_Rg × (Nat × (Nat → Int32)) × (Nat × Nat)} {Q : Option mx_V → mx_Hp → Prop} {s : Int32 × (Nat → Nat → Nat → Int32)} {o : (Int32 × (Nat → Nat → Nat → Int32)) ⊕ (Int32 × (Nat → Nat → Nat → Int32))} (hf : b98_2 I J s = some o) (hk : Sum.elim (fun s : Int32 × (Nat → Nat → Nat → Int32) => ∀ (z2 z3 : Option mx_V), mx_WP (d + 3) 98 2 [some (mx_r (some (0, 8, 0))), some (mx_i s.1), z2, z3] [] (hC s.2 J h, μ) Q) (fun x : Int32 × (Nat → Nat → Nat → Int32) => ∀ (z2 z3 : Option mx_V), mx_WP (d + 3) 98 22 [some (mx_r (some (0, 8, 0))), some (mx_i x.1), z2, z3] [] (hC x.2 J h, μ) Q) o) : ∀ (z2 z3 : Option mx_V), mx_WP (d + 3) 98 2 [some (mx_r (some (0, 8, 0))), some (mx_i s.1), z2, z3] [] (hC s.2 J h, μ) Q := by
  intro z2 z3
  unfold b98_2 at hf
  refine mx_WP.go 2 (pc' := 6) (L' := [some (mx_r (some (0, 8, 0))), some (mx_i s.1), z2, z3]) (st' := [mx_i (128 : Int32), mx_i s.1]) (σ' := (hC s.2 J h, μ)) rfl ?_
  by_cases c101 : (128 : Int32) ≤ s.1
  · rw [if_pos c101] at hf
    refine mx_WP.bge (x := s.1) (y := (128 : Int32)) (q := 22) (p3 := 9) rfl (fun _ => ?_) (fun hh => absurd c101 hh)
    rw [← Option.some.inj hf] at hk
    exact hk (z2) (z3)
  · rw [if_neg c101] at hf
    refine mx_WP.bge (x := s.1) (y := (128 : Int32)) (q := 22) (p3 := 9) rfl (fun hh => absurd hh c101) (fun _ => ?_)
    refine mx_WP.go 4 (pc' := 15) (L' := [some (mx_r (some (0, 8, 0))), some (mx_i s.1), z2, z3]) (st' := [mx_i (0 : Int32), mx_i s.1, mx_r (some (0, 74, 0))]) (σ' := (hC s.2 J h, μ)) rfl ?_
    by_cases c102 : s.1 < 0 ∨ 128 ≤ s.1.toNatClampNeg
    · rw [if_pos c102] at hf
      cases hf
    rw [if_neg c102] at hf
    refine mx_WP.bastx c102 ?_
    show mx_WP (d + 3) 98 16 [some (mx_r (some (0, 8, 0))), some (mx_i s.1), z2, z3] [] (hC (mx_u3 s.2 74 0 s.1.toNatClampNeg (vp_nar .boolean (0 : Int32))) J h, μ) Q
    refine mx_WP.go 2 (pc' := 2) (L' := [some (mx_r (some (0, 8, 0))), some (mx_i (s.1 + 1)), z2, z3]) (st' := []) (σ' := (hC (mx_u3 s.2 74 0 s.1.toNatClampNeg (vp_nar .boolean (0 : Int32))) J h, μ)) rfl ?_
    rw [← Option.some.inj hf] at hk
    exact hk (z2) (z3)
theorem L98_2 {d : Nat}  {I : Nat → Nat → Nat → Int32} {J : Nat → Nat → Nat → Int64} {h : Nat → Nat} {μ : mx_Rg × (Nat × (Nat → Int32)) × (Nat × Nat)} {Q : Option mx_V → mx_Hp → Prop} {n : Nat} {s : Int32 × (Nat → Nat → Nat → Int32)} {o : Int32 × (Nat → Nat → Nat → Int32)} (hf : mx_lp (b98_2 I J) n s = some o) (hk : (fun x : Int32 × (Nat → Nat → Nat → Int32) => ∀ (z2 z3 : Option mx_V), mx_WP (d + 3) 98 22 [some (mx_r (some (0, 8, 0))), some (mx_i x.1), z2, z3] [] (hC x.2 J h, μ) Q) o) : ∀ (z2 z3 : Option mx_V), mx_WP (d + 3) 98 2 [some (mx_r (some (0, 8, 0))), some (mx_i s.1), z2, z3] [] (hC s.2 J h, μ) Q := mx_lp_ok (P := fun s : Int32 × (Nat → Nat → Nat → Int32) => ∀ (z2 z3 : Option mx_V), mx_WP (d + 3) 98 2 [some (mx_r (some (0, 8, 0))), some (mx_i s.1), z2, z3] [] (hC s.2 J h, μ) Q) (E := (fun x : Int32 × (Nat → Nat → Nat → Int32) => ∀ (z2 z3 : Option mx_V), mx_WP (d + 3) 98 22 [some (mx_r (some (0, 8, 0))), some (mx_i x.1), z2, z3] [] (hC x.2 J h, μ) Q)) (fun s o hf hk => B98_2 hf hk) n s o hf hk
def f81 (x1 : Int32) : Option (Nat) :=
  if ((x1 / (16 : Int32)) &&& (7 : Int32)) < 0 ∨ 8 ≤ ((x1 / (16 : Int32)) &&& (7 : Int32)).toNatClampNeg then none else some (((x1 / (16 : Int32)) &&& (7 : Int32)).toNatClampNeg)
theorem T81 {d : Nat} {x1 : Int32} {I : Nat → Nat → Nat → Int32} {J : Nat → Nat → Nat → Int64} {h : Nat → Nat} {μ : mx_Rg × (Nat × (Nat → Int32)) × (Nat × Nat)} {Q : Option mx_V → mx_Hp → Prop} {o : Nat} (hf : f81 x1 = some o) (hk : Q (some (mx_r (some (0, 4, o)))) (hC I J h, μ)) : mx_WP (d + 0) 81 0 (mx_ent 81 [mx_r (some (0, 7, 0)), mx_i x1]) [] (hC I J h, μ) Q := by
  unfold f81 at hf
  refine mx_WP.go 7 (pc' := 11) (L' := [some (mx_r (some (0, 7, 0))), some (mx_i x1)]) (st' := [mx_i ((x1 / (16 : Int32)) &&& (7 : Int32)), mx_r (some (0, 73, 0))]) (σ' := (hC I J h, μ)) rfl ?_
  by_cases c1 : ((x1 / (16 : Int32)) &&& (7 : Int32)) < 0 ∨ 8 ≤ ((x1 / (16 : Int32)) &&& (7 : Int32)).toNatClampNeg
  · rw [if_pos c1] at hf
    cases hf
  rw [if_neg c1] at hf
  refine mx_WP.aal73 c1 ?_
  show mx_WP (d + 0) 81 12 [some (mx_r (some (0, 7, 0))), some (mx_i x1)] [mx_r (some (0, 6, ((x1 / (16 : Int32)) &&& (7 : Int32)).toNatClampNeg))] (hC I J h, μ) Q
  refine mx_WP.go 1 (pc' := 15) (L' := [some (mx_r (some (0, 7, 0))), some (mx_i x1)]) (st' := [mx_r (some (0, 4, ((x1 / (16 : Int32)) &&& (7 : Int32)).toNatClampNeg))]) (σ' := (hC I J h, μ)) rfl ?_
  rw [← Option.some.inj hf] at hk
  refine mx_WP.ret (v := some (mx_r (some (0, 4, ((x1 / (16 : Int32)) &&& (7 : Int32)).toNatClampNeg)))) rfl ?_
  exact hk
def f80 (x1 : Int32) (I : Nat → Nat → Nat → Int32) : Option (Nat) :=
  if x1 < (0 : Int32) then (some 0) else if (128 : Int32) ≤ x1 then (some 0) else (f81 x1).bind fun u3 =>
  (f51 u3 (x1 - x1 / (16 : Int32) * (16 : Int32)) I).bind fun u4 =>
  some u4
theorem T80 {d : Nat} {x1 : Int32} {I : Nat → Nat → Nat → Int32} {J : Nat → Nat → Nat → Int64} {h : Nat → Nat} {μ : mx_Rg × (Nat × (Nat → Int32)) × (Nat × Nat)} {Q : Option mx_V → mx_Hp → Prop} {o : Nat} (hf : f80 x1 I = some o) (hk : Q (some (mx_r (some (0, 3, o)))) (hC I J h, μ)) : mx_WP (d + 1) 80 0 (mx_ent 80 [mx_r (some (0, 7, 0)), mx_i x1]) [] (hC I J h, μ) Q := by
  unfold f80 at hf
  refine mx_WP.go 1 (pc' := 1) (L' := [some (mx_r (some (0, 7, 0))), some (mx_i x1)]) (st' := [mx_i x1]) (σ' := (hC I J h, μ)) rfl ?_
  by_cases c1 : x1 < (0 : Int32)
  · rw [if_pos c1] at hf
    refine mx_WP.blt (x := x1) (y := (0 : Int32)) (q := 26) (p3 := 4) rfl (fun _ => ?_) (fun hh => absurd c1 hh)
    refine mx_WP.go 2 (pc' := 30) (L' := [some (mx_r (some (0, 7, 0))), some (mx_i x1)]) (st' := [mx_r (some (0, 3, 0))]) (σ' := (hC I J h, μ)) rfl ?_
    rw [← Option.some.inj hf] at hk
    refine mx_WP.ret (v := some (mx_r (some (0, 3, 0)))) rfl ?_
    exact hk
  · rw [if_neg c1] at hf
    refine mx_WP.blt (x := x1) (y := (0 : Int32)) (q := 26) (p3 := 4) rfl (fun hh => absurd hh c1) (fun _ => ?_)
    refine mx_WP.go 2 (pc' := 8) (L' := [some (mx_r (some (0, 7, 0))), some (mx_i x1)]) (st' := [mx_i (128 : Int32), mx_i x1]) (σ' := (hC I J h, μ)) rfl ?_
    by_cases c2 : (128 : Int32) ≤ x1
    · rw [if_pos c2] at hf
      refine mx_WP.bge (x := x1) (y := (128 : Int32)) (q := 26) (p3 := 11) rfl (fun _ => ?_) (fun hh => absurd c2 hh)
      refine mx_WP.go 2 (pc' := 30) (L' := [some (mx_r (some (0, 7, 0))), some (mx_i x1)]) (st' := [mx_r (some (0, 3, 0))]) (σ' := (hC I J h, μ)) rfl ?_
      rw [← Option.some.inj hf] at hk
      refine mx_WP.ret (v := some (mx_r (some (0, 3, 0)))) rfl ?_
      exact hk
    · rw [if_neg c2] at hf
      refine mx_WP.bge (x := x1) (y := (128 : Int32)) (q := 26) (p3 := 11) rfl (fun hh => absurd hh c2) (fun _ => ?_)
      refine mx_WP.go 2 (pc' := 13) (L' := [some (mx_r (some (0, 7, 0))), some (mx_i x1)]) (st' := [mx_i x1, mx_r (some (0, 7, 0))]) (σ' := (hC I J h, μ)) rfl ?_
      obtain ⟨u3, e6, hf⟩ := Option.bind_eq_some_iff.mp hf
      refine mx_WP.call (d := d + 0) (y := 81) (as := [mx_r (some (0, 7, 0)), mx_i x1]) (pc' := 16) (r := []) rfl rfl (T81 (d := d + 0)  e6 ?_)
      show mx_WP (d + 1) 80 16 [some (mx_r (some (0, 7, 0))), some (mx_i x1)] [mx_r (some (0, 4, u3))] (hC I J h, μ) Q
      refine mx_WP.go 3 (pc' := 20) (L' := [some (mx_r (some (0, 7, 0))), some (mx_i x1)]) (st' := [mx_i (x1 - x1 / (16 : Int32) * (16 : Int32)), mx_r (some (0, 4, u3))]) (σ' := (hC I J h, μ)) rfl ?_
      obtain ⟨u4, e5, hf⟩ := Option.bind_eq_some_iff.mp hf
      refine mx_WP.call (d := d + 0) (y := 51) (as := [mx_r (some (0, 4, u3)), mx_i (x1 - x1 / (16 : Int32) * (16 : Int32))]) (pc' := 23) (r := []) rfl rfl (T51 (d := d + 0)  e5 ?_)
      show mx_WP (d + 1) 80 23 [some (mx_r (some (0, 7, 0))), some (mx_i x1)] [mx_r (some (0, 3, u4))] (hC I J h, μ) Q
      refine mx_WP.go 1 (pc' := 30) (L' := [some (mx_r (some (0, 7, 0))), some (mx_i x1)]) (st' := [mx_r (some (0, 3, u4))]) (σ' := (hC I J h, μ)) rfl ?_
      rw [← Option.some.inj hf] at hk
      refine mx_WP.ret (v := some (mx_r (some (0, 3, u4)))) rfl ?_
      exact hk
def f99 (x1 : Int32) (x2 : Int64) (I : Nat → Nat → Nat → Int32) (J : Nat → Nat → Nat → Int64) : Option (Bool) :=
  (f80 x1 I).bind fun u1 =>
  if (I 3 u1 6) = (1 : Int32) then (if (lg_cmp (J 3 u1 7) x2) = (0 : Int32) then (if (x1 / (16 : Int32)) < 0 ∨ 8 ≤ (x1 / (16 : Int32)).toNatClampNeg then none else if (I 6 ((x1 / (16 : Int32)).toNatClampNeg) 4) = (0 : Int32) then (some false) else some true) else some false) else some false
theorem T99 {d : Nat} {x1 : Int32} {x2 : Int64} {I : Nat → Nat → Nat → Int32} {J : Nat → Nat → Nat → Int64} {h : Nat → Nat} {μ : mx_Rg × (Nat × (Nat → Int32)) × (Nat × Nat)} {Q : Option mx_V → mx_Hp → Prop} {o : Bool} (hf : f99 x1 x2 I J = some o) (hk : Q (some (mx_i (b2i o))) (hC I J h, μ)) : mx_WP (d + 2) 99 0 (mx_ent 99 [mx_r (some (0, 8, 0)), mx_i x1, mx_l x2]) [] (hC I J h, μ) Q := by
  unfold f99 at hf
  refine mx_WP.go 3 (pc' := 5) (L' := [some (mx_r (some (0, 8, 0))), some (mx_i x1), some (mx_l x2), none, none]) (st' := [mx_i x1, mx_r (some (0, 7, 0))]) (σ' := (hC I J h, μ)) rfl ?_
  obtain ⟨u1, e6, hf⟩ := Option.bind_eq_some_iff.mp hf
  refine mx_WP.call (d := d + 1) (y := 80) (as := [mx_r (some (0, 7, 0)), mx_i x1]) (pc' := 8) (r := []) rfl rfl (T80 (d := d + 0)  e6 ?_)
  show mx_WP (d + 2) 99 8 [some (mx_r (some (0, 8, 0))), some (mx_i x1), some (mx_l x2), none, none] [mx_r (some (0, 3, u1))] (hC I J h, μ) Q
  refine mx_WP.go 4 (pc' := 16) (L' := [some (mx_r (some (0, 8, 0))), some (mx_i x1), some (mx_l x2), none, some (mx_r (some (0, 3, u1)))]) (st' := [mx_i (1 : Int32), mx_i (I 3 u1 6)]) (σ' := (hC I J h, μ)) rfl ?_
  by_cases c2 : (I 3 u1 6) = (1 : Int32)
  · rw [if_pos c2] at hf
    refine mx_WP.bne (x := (I 3 u1 6)) (y := (1 : Int32)) (q := 51) (p3 := 19) rfl (fun hh => absurd c2 hh) (fun _ => ?_)
    refine mx_WP.go 4 (pc' := 26) (L' := [some (mx_r (some (0, 8, 0))), some (mx_i x1), some (mx_l x2), none, some (mx_r (some (0, 3, u1)))]) (st' := [mx_i (lg_cmp (J 3 u1 7) x2)]) (σ' := (hC I J h, μ)) rfl ?_
    by_cases c3 : (lg_cmp (J 3 u1 7) x2) = (0 : Int32)
    · rw [if_pos c3] at hf
      refine mx_WP.bne (x := (lg_cmp (J 3 u1 7) x2)) (y := (0 : Int32)) (q := 51) (p3 := 29) rfl (fun hh => absurd c3 hh) (fun _ => ?_)
      refine mx_WP.go 6 (pc' := 40) (L' := [some (mx_r (some (0, 8, 0))), some (mx_i x1), some (mx_l x2), none, some (mx_r (some (0, 3, u1)))]) (st' := [mx_i (x1 / (16 : Int32)), mx_r (some (0, 73, 0))]) (σ' := (hC I J h, μ)) rfl ?_
      by_cases c4 : (x1 / (16 : Int32)) < 0 ∨ 8 ≤ (x1 / (16 : Int32)).toNatClampNeg
      · rw [if_pos c4] at hf
        cases hf
      rw [if_neg c4] at hf
      refine mx_WP.aal73 c4 ?_
      show mx_WP (d + 2) 99 41 [some (mx_r (some (0, 8, 0))), some (mx_i x1), some (mx_l x2), none, some (mx_r (some (0, 3, u1)))] [mx_r (some (0, 6, (x1 / (16 : Int32)).toNatClampNeg))] (hC I J h, μ) Q
      refine mx_WP.go 1 (pc' := 44) (L' := [some (mx_r (some (0, 8, 0))), some (mx_i x1), some (mx_l x2), none, some (mx_r (some (0, 3, u1)))]) (st' := [mx_i (I 6 ((x1 / (16 : Int32)).toNatClampNeg) 4)]) (σ' := (hC I J h, μ)) rfl ?_
      by_cases c5 : (I 6 ((x1 / (16 : Int32)).toNatClampNeg) 4) = (0 : Int32)
      · rw [if_pos c5] at hf
        refine mx_WP.beq (x := (I 6 ((x1 / (16 : Int32)).toNatClampNeg) 4)) (y := (0 : Int32)) (q := 51) (p3 := 47) rfl (fun _ => ?_) (fun hh => absurd c5 hh)
        refine mx_WP.go 1 (pc' := 52) (L' := [some (mx_r (some (0, 8, 0))), some (mx_i x1), some (mx_l x2), none, some (mx_r (some (0, 3, u1)))]) (st' := [mx_i (0 : Int32)]) (σ' := (hC I J h, μ)) rfl ?_
        rw [← Option.some.inj hf] at hk
        refine mx_WP.ret (v := some (mx_i (0 : Int32))) rfl ?_
        exact hk
      · rw [if_neg c5] at hf
        refine mx_WP.beq (x := (I 6 ((x1 / (16 : Int32)).toNatClampNeg) 4)) (y := (0 : Int32)) (q := 51) (p3 := 47) rfl (fun hh => absurd hh c5) (fun _ => ?_)
        refine mx_WP.go 2 (pc' := 52) (L' := [some (mx_r (some (0, 8, 0))), some (mx_i x1), some (mx_l x2), none, some (mx_r (some (0, 3, u1)))]) (st' := [mx_i (1 : Int32)]) (σ' := (hC I J h, μ)) rfl ?_
        rw [← Option.some.inj hf] at hk
        refine mx_WP.ret (v := some (mx_i (1 : Int32))) rfl ?_
        exact hk
    · rw [if_neg c3] at hf
      refine mx_WP.bne (x := (lg_cmp (J 3 u1 7) x2)) (y := (0 : Int32)) (q := 51) (p3 := 29) rfl (fun _ => ?_) (fun hh => absurd c3 hh)
      refine mx_WP.go 1 (pc' := 52) (L' := [some (mx_r (some (0, 8, 0))), some (mx_i x1), some (mx_l x2), none, some (mx_r (some (0, 3, u1)))]) (st' := [mx_i (0 : Int32)]) (σ' := (hC I J h, μ)) rfl ?_
      rw [← Option.some.inj hf] at hk
      refine mx_WP.ret (v := some (mx_i (0 : Int32))) rfl ?_
      exact hk
  · rw [if_neg c2] at hf
    refine mx_WP.bne (x := (I 3 u1 6)) (y := (1 : Int32)) (q := 51) (p3 := 19) rfl (fun _ => ?_) (fun hh => absurd c2 hh)
    refine mx_WP.go 1 (pc' := 52) (L' := [some (mx_r (some (0, 8, 0))), some (mx_i x1), some (mx_l x2), none, some (mx_r (some (0, 3, u1)))]) (st' := [mx_i (0 : Int32)]) (σ' := (hC I J h, μ)) rfl ?_
    rw [← Option.some.inj hf] at hk
    refine mx_WP.ret (v := some (mx_i (0 : Int32))) rfl ?_
    exact hk
def b100_2 (x1 : Int64) (I : Nat → Nat → Nat → Int32) (J : Nat → Nat → Nat → Int64) (s : Int32) : Option ((Int32) ⊕ ((Int32) ⊕ (Int32))) :=
  if (128 : Int32) ≤ s then (some (Sum.inr (Sum.inl s))) else if s < 0 ∨ 128 ≤ s.toNatClampNeg then none else if (I 74 0 s.toNatClampNeg) = (0 : Int32) then (some (Sum.inl (s + 1))) else (f80 s I).bind fun u104 =>
  (f45 u104 (25705 : Int64) I J).bind fun u105 =>
  if (lg_cmp u105 x1) = (0 : Int32) then (some (Sum.inr (Sum.inr s))) else some (Sum.inl (s + 1))
theorem B100_2 {d : Nat} {x1 : Int64} {I : Nat → Nat → Nat → Int32} {J : Nat → Nat → Nat → Int64} {h : Nat → Nat} {μ : mx_Rg × (Nat × (Nat → Int32)) × (Nat × Nat)} {Q : Option mx_V → mx_Hp → Prop} {s : Int32} {o : (Int32) ⊕ ((Int32) ⊕ (Int32))} (hf : b100_2 x1 I J s = some o) (hk : Sum.elim (fun s : Int32 => mx_WP (d + 2) 100 2 [some (mx_r (some (0, 8, 0))), some (mx_l x1), none, some (mx_i s)] [] (hC I J h, μ) Q) (Sum.elim (fun x : Int32 => mx_WP (d + 2) 100 45 [some (mx_r (some (0, 8, 0))), some (mx_l x1), none, some (mx_i x)] [] (hC I J h, μ) Q) (fun x : Int32 => Q (some (mx_i x)) (hC I J h, μ))) o) : mx_WP (d + 2) 100 2 [some (mx_r (some (0, 8, 0))), some (mx_l x1), none, some (mx_i s)] [] (hC I J h, μ) Q := by
  unfold b100_2 at hf
  refine mx_WP.go 2 (pc' := 6) (L' := [some (mx_r (some (0, 8, 0))), some (mx_l x1), none, some (mx_i s)]) (st' := [mx_i (128 : Int32), mx_i s]) (σ' := (hC I J h, μ)) rfl ?_
  by_cases c101 : (128 : Int32) ≤ s
  · rw [if_pos c101] at hf
    refine mx_WP.bge (x := s) (y := (128 : Int32)) (q := 45) (p3 := 9) rfl (fun _ => ?_) (fun hh => absurd c101 hh)
    rw [← Option.some.inj hf] at hk
    exact hk
  · rw [if_neg c101] at hf
    refine mx_WP.bge (x := s) (y := (128 : Int32)) (q := 45) (p3 := 9) rfl (fun hh => absurd hh c101) (fun _ => ?_)
    refine mx_WP.go 3 (pc' := 14) (L' := [some (mx_r (some (0, 8, 0))), some (mx_l x1), none, some (mx_i s)]) (st' := [mx_i s, mx_r (some (0, 74, 0))]) (σ' := (hC I J h, μ)) rfl ?_
    by_cases c102 : s < 0 ∨ 128 ≤ s.toNatClampNeg
    · rw [if_pos c102] at hf
      cases hf
    rw [if_neg c102] at hf
    refine mx_WP.baldx c102 ?_
    show mx_WP (d + 2) 100 15 [some (mx_r (some (0, 8, 0))), some (mx_l x1), none, some (mx_i s)] [mx_i (I 74 0 s.toNatClampNeg)] (hC I J h, μ) Q
    by_cases c103 : (I 74 0 s.toNatClampNeg) = (0 : Int32)
    · rw [if_pos c103] at hf
      refine mx_WP.beq (x := (I 74 0 s.toNatClampNeg)) (y := (0 : Int32)) (q := 39) (p3 := 18) rfl (fun _ => ?_) (fun hh => absurd c103 hh)
      refine mx_WP.go 2 (pc' := 2) (L' := [some (mx_r (some (0, 8, 0))), some (mx_l x1), none, some (mx_i (s + 1))]) (st' := []) (σ' := (hC I J h, μ)) rfl ?_
      rw [← Option.some.inj hf] at hk
      exact hk
    · rw [if_neg c103] at hf
      refine mx_WP.beq (x := (I 74 0 s.toNatClampNeg)) (y := (0 : Int32)) (q := 39) (p3 := 18) rfl (fun hh => absurd hh c103) (fun _ => ?_)
      refine mx_WP.go 3 (pc' := 23) (L' := [some (mx_r (some (0, 8, 0))), some (mx_l x1), none, some (mx_i s)]) (st' := [mx_i s, mx_r (some (0, 7, 0))]) (σ' := (hC I J h, μ)) rfl ?_
      obtain ⟨u104, e108, hf⟩ := Option.bind_eq_some_iff.mp hf
      refine mx_WP.call (d := d + 1) (y := 80) (as := [mx_r (some (0, 7, 0)), mx_i s]) (pc' := 26) (r := []) rfl rfl (T80 (d := d + 0)  e108 ?_)
      show mx_WP (d + 2) 100 26 [some (mx_r (some (0, 8, 0))), some (mx_l x1), none, some (mx_i s)] [mx_r (some (0, 3, u104))] (hC I J h, μ) Q
      refine mx_WP.go 1 (pc' := 29) (L' := [some (mx_r (some (0, 8, 0))), some (mx_l x1), none, some (mx_i s)]) (st' := [mx_l (25705 : Int64), mx_r (some (0, 3, u104))]) (σ' := (hC I J h, μ)) rfl ?_
      obtain ⟨u105, e107, hf⟩ := Option.bind_eq_some_iff.mp hf
      refine mx_WP.call (d := d + 1) (y := 45) (as := [mx_r (some (0, 3, u104)), mx_l (25705 : Int64)]) (pc' := 32) (r := []) rfl rfl (T45 (d := d + 1)  e107 ?_)
      show mx_WP (d + 2) 100 32 [some (mx_r (some (0, 8, 0))), some (mx_l x1), none, some (mx_i s)] [mx_l u105] (hC I J h, μ) Q
      refine mx_WP.go 2 (pc' := 34) (L' := [some (mx_r (some (0, 8, 0))), some (mx_l x1), none, some (mx_i s)]) (st' := [mx_i (lg_cmp u105 x1)]) (σ' := (hC I J h, μ)) rfl ?_
      by_cases c106 : (lg_cmp u105 x1) = (0 : Int32)
      · rw [if_pos c106] at hf
        refine mx_WP.bne (x := (lg_cmp u105 x1)) (y := (0 : Int32)) (q := 39) (p3 := 37) rfl (fun hh => absurd c106 hh) (fun _ => ?_)
        refine mx_WP.go 1 (pc' := 38) (L' := [some (mx_r (some (0, 8, 0))), some (mx_l x1), none, some (mx_i s)]) (st' := [mx_i s]) (σ' := (hC I J h, μ)) rfl ?_
        rw [← Option.some.inj hf] at hk
        refine mx_WP.ret (v := some (mx_i s)) rfl ?_
        exact hk
      · rw [if_neg c106] at hf
        refine mx_WP.bne (x := (lg_cmp u105 x1)) (y := (0 : Int32)) (q := 39) (p3 := 37) rfl (fun _ => ?_) (fun hh => absurd c106 hh)
        refine mx_WP.go 2 (pc' := 2) (L' := [some (mx_r (some (0, 8, 0))), some (mx_l x1), none, some (mx_i (s + 1))]) (st' := []) (σ' := (hC I J h, μ)) rfl ?_
        rw [← Option.some.inj hf] at hk
        exact hk
theorem L100_2 {d : Nat} {x1 : Int64} {I : Nat → Nat → Nat → Int32} {J : Nat → Nat → Nat → Int64} {h : Nat → Nat} {μ : mx_Rg × (Nat × (Nat → Int32)) × (Nat × Nat)} {Q : Option mx_V → mx_Hp → Prop} {n : Nat} {s : Int32} {o : (Int32) ⊕ (Int32)} (hf : mx_lp (b100_2 x1 I J) n s = some o) (hk : (Sum.elim (fun x : Int32 => mx_WP (d + 2) 100 45 [some (mx_r (some (0, 8, 0))), some (mx_l x1), none, some (mx_i x)] [] (hC I J h, μ) Q) (fun x : Int32 => Q (some (mx_i x)) (hC I J h, μ))) o) : mx_WP (d + 2) 100 2 [some (mx_r (some (0, 8, 0))), some (mx_l x1), none, some (mx_i s)] [] (hC I J h, μ) Q := mx_lp_ok (P := fun s : Int32 => mx_WP (d + 2) 100 2 [some (mx_r (some (0, 8, 0))), some (mx_l x1), none, some (mx_i s)] [] (hC I J h, μ) Q) (E := (Sum.elim (fun x : Int32 => mx_WP (d + 2) 100 45 [some (mx_r (some (0, 8, 0))), some (mx_l x1), none, some (mx_i x)] [] (hC I J h, μ) Q) (fun x : Int32 => Q (some (mx_i x)) (hC I J h, μ)))) (fun s o hf hk => B100_2 hf hk) n s o hf hk
def f100 (x1 : Int64) (I : Nat → Nat → Nat → Int32) (J : Nat → Nat → Nat → Int64) : Option (Int32) :=
  (mx_lp (b100_2 x1 I J) mx_fu (0 : Int32)).bind fun u109 => Sum.elim (fun w111 =>
  some (-1 : Int32)) (fun y112 => some y112) u109
theorem T100 {d : Nat} {x1 : Int64} {I : Nat → Nat → Nat → Int32} {J : Nat → Nat → Nat → Int64} {h : Nat → Nat} {μ : mx_Rg × (Nat × (Nat → Int32)) × (Nat × Nat)} {Q : Option mx_V → mx_Hp → Prop} {o : Int32} (hf : f100 x1 I J = some o) (hk : Q (some (mx_i o)) (hC I J h, μ)) : mx_WP (d + 2) 100 0 (mx_ent 100 [mx_r (some (0, 8, 0)), mx_l x1]) [] (hC I J h, μ) Q := by
  unfold f100 at hf
  refine mx_WP.go 2 (pc' := 2) (L' := [some (mx_r (some (0, 8, 0))), some (mx_l x1), none, some (mx_i (0 : Int32))]) (st' := []) (σ' := (hC I J h, μ)) rfl ?_
  obtain ⟨u109, e110, hf⟩ := Option.bind_eq_some_iff.mp hf
  cases u109 with
  | inr y112 =>
    rw [Sum.elim_inr] at hf
    rw [← Option.some.inj hf] at hk
    exact (L100_2 (d := d) e110 hk)
  | inl w111 =>
    rw [Sum.elim_inl] at hf
    refine (L100_2 (d := d) e110 ?_)
    show mx_WP (d + 2) 100 45 [some (mx_r (some (0, 8, 0))), some (mx_l x1), none, some (mx_i w111)] [] (hC I J h, μ) Q
    refine mx_WP.go 1 (pc' := 46) (L' := [some (mx_r (some (0, 8, 0))), some (mx_l x1), none, some (mx_i w111)]) (st' := [mx_i (-1 : Int32)]) (σ' := (hC I J h, μ)) rfl ?_
    rw [← Option.some.inj hf] at hk
    refine mx_WP.ret (v := some (mx_i (-1 : Int32))) rfl ?_
    exact hk
def b98_24  (I : Nat → Nat → Nat → Int32) (J : Nat → Nat → Nat → Int64) (s : Int32 × (Nat → Nat → Nat → Int32)) : Option ((Int32 × (Nat → Nat → Nat → Int32)) ⊕ (Int32 × (Nat → Nat → Nat → Int32))) :=
  if (128 : Int32) ≤ s.1 then (some (Sum.inr (s.1, s.2))) else (f80 s.1 s.2).bind fun u206 =>
  (f45 u206 (25705 : Int64) s.2 J).bind fun u207 =>
  if (lg_cmp u207 (0 : Int64)) ≤ (0 : Int32) then (if s.1 < 0 ∨ 128 ≤ s.1.toNatClampNeg then none else some (Sum.inl (s.1 + 1, (mx_u3 s.2 74 0 s.1.toNatClampNeg (vp_nar .boolean (0 : Int32)))))) else (f99 s.1 (500068609904 : Int64) s.2 J).bind fun u210 =>
  if u210 = true then ((f100 u207 s.2 J).bind fun u212 =>
  if u212 = (-1 : Int32) then (if s.1 < 0 ∨ 128 ≤ s.1.toNatClampNeg then none else some (Sum.inl (s.1 + 1, (mx_u3 s.2 74 0 s.1.toNatClampNeg (vp_nar .boolean (1 : Int32)))))) else if s.1 < 0 ∨ 128 ≤ s.1.toNatClampNeg then none else some (Sum.inl (s.1 + 1, (mx_u3 s.2 74 0 s.1.toNatClampNeg (vp_nar .boolean (0 : Int32)))))) else if s.1 < 0 ∨ 128 ≤ s.1.toNatClampNeg then none else some (Sum.inl (s.1 + 1, (mx_u3 s.2 74 0 s.1.toNatClampNeg (vp_nar .boolean (0 : Int32)))))
theorem B98_24 {d : Nat}  {I : Nat → Nat → Nat → Int32} {J : Nat → Nat → Nat → Int64} {h : Nat → Nat} {μ : mx_Rg × (Nat × (Nat → Int32)) × (Nat × Nat)} {Q : Option mx_V → mx_Hp → Prop} {s : Int32 × (Nat → Nat → Nat → Int32)} {o : (Int32 × (Nat → Nat → Nat → Int32)) ⊕ (Int32 × (Nat → Nat → Nat → Int32))} (hf : b98_24 I J s = some o) (hk : Sum.elim (fun s : Int32 × (Nat → Nat → Nat → Int32) => ∀ (z2 z3 : Option mx_V), mx_WP (d + 3) 98 24 [some (mx_r (some (0, 8, 0))), some (mx_i s.1), z2, z3] [] (hC s.2 J h, μ) Q) (fun x : Int32 × (Nat → Nat → Nat → Int32) => ∀ (z2 z3 : Option mx_V), mx_WP (d + 3) 98 89 [some (mx_r (some (0, 8, 0))), some (mx_i x.1), z2, z3] [] (hC x.2 J h, μ) Q) o) : ∀ (z2 z3 : Option mx_V), mx_WP (d + 3) 98 24 [some (mx_r (some (0, 8, 0))), some (mx_i s.1), z2, z3] [] (hC s.2 J h, μ) Q := by
  intro z2 z3
  unfold b98_24 at hf
  refine mx_WP.go 2 (pc' := 28) (L' := [some (mx_r (some (0, 8, 0))), some (mx_i s.1), z2, z3]) (st' := [mx_i (128 : Int32), mx_i s.1]) (σ' := (hC s.2 J h, μ)) rfl ?_
  by_cases c205 : (128 : Int32) ≤ s.1
  · rw [if_pos c205] at hf
    refine mx_WP.bge (x := s.1) (y := (128 : Int32)) (q := 89) (p3 := 31) rfl (fun _ => ?_) (fun hh => absurd c205 hh)
    rw [← Option.some.inj hf] at hk
    exact hk (z2) (z3)
  · rw [if_neg c205] at hf
    refine mx_WP.bge (x := s.1) (y := (128 : Int32)) (q := 89) (p3 := 31) rfl (fun hh => absurd hh c205) (fun _ => ?_)
    refine mx_WP.go 3 (pc' := 36) (L' := [some (mx_r (some (0, 8, 0))), some (mx_i s.1), z2, z3]) (st' := [mx_i s.1, mx_r (some (0, 7, 0))]) (σ' := (hC s.2 J h, μ)) rfl ?_
    obtain ⟨u206, e220, hf⟩ := Option.bind_eq_some_iff.mp hf
    refine mx_WP.call (d := d + 2) (y := 80) (as := [mx_r (some (0, 7, 0)), mx_i s.1]) (pc' := 39) (r := []) rfl rfl (T80 (d := d + 1)  e220 ?_)
    show mx_WP (d + 3) 98 39 [some (mx_r (some (0, 8, 0))), some (mx_i s.1), z2, z3] [mx_r (some (0, 3, u206))] (hC s.2 J h, μ) Q
    refine mx_WP.go 1 (pc' := 42) (L' := [some (mx_r (some (0, 8, 0))), some (mx_i s.1), z2, z3]) (st' := [mx_l (25705 : Int64), mx_r (some (0, 3, u206))]) (σ' := (hC s.2 J h, μ)) rfl ?_
    obtain ⟨u207, e219, hf⟩ := Option.bind_eq_some_iff.mp hf
    refine mx_WP.call (d := d + 2) (y := 45) (as := [mx_r (some (0, 3, u206)), mx_l (25705 : Int64)]) (pc' := 45) (r := []) rfl rfl (T45 (d := d + 2)  e219 ?_)
    show mx_WP (d + 3) 98 45 [some (mx_r (some (0, 8, 0))), some (mx_i s.1), z2, z3] [mx_l u207] (hC s.2 J h, μ) Q
    refine mx_WP.go 7 (pc' := 54) (L' := [some (mx_r (some (0, 8, 0))), some (mx_i s.1), some (mx_l u207), none]) (st' := [mx_i (lg_cmp u207 (0 : Int64)), mx_i s.1, mx_r (some (0, 74, 0))]) (σ' := (hC s.2 J h, μ)) rfl ?_
    by_cases c208 : (lg_cmp u207 (0 : Int64)) ≤ (0 : Int32)
    · rw [if_pos c208] at hf
      refine mx_WP.ble (x := (lg_cmp u207 (0 : Int64))) (y := (0 : Int32)) (q := 81) (p3 := 57) rfl (fun _ => ?_) (fun hh => absurd c208 hh)
      refine mx_WP.go 1 (pc' := 82) (L' := [some (mx_r (some (0, 8, 0))), some (mx_i s.1), some (mx_l u207), none]) (st' := [mx_i (0 : Int32), mx_i s.1, mx_r (some (0, 74, 0))]) (σ' := (hC s.2 J h, μ)) rfl ?_
      by_cases c209 : s.1 < 0 ∨ 128 ≤ s.1.toNatClampNeg
      · rw [if_pos c209] at hf
        cases hf
      rw [if_neg c209] at hf
      refine mx_WP.bastx c209 ?_
      show mx_WP (d + 3) 98 83 [some (mx_r (some (0, 8, 0))), some (mx_i s.1), some (mx_l u207), none] [] (hC (mx_u3 s.2 74 0 s.1.toNatClampNeg (vp_nar .boolean (0 : Int32))) J h, μ) Q
      refine mx_WP.go 2 (pc' := 24) (L' := [some (mx_r (some (0, 8, 0))), some (mx_i (s.1 + 1)), some (mx_l u207), none]) (st' := []) (σ' := (hC (mx_u3 s.2 74 0 s.1.toNatClampNeg (vp_nar .boolean (0 : Int32))) J h, μ)) rfl ?_
      rw [← Option.some.inj hf] at hk
      exact hk (some (mx_l u207)) (none)
    · rw [if_neg c208] at hf
      refine mx_WP.ble (x := (lg_cmp u207 (0 : Int64))) (y := (0 : Int32)) (q := 81) (p3 := 57) rfl (fun hh => absurd hh c208) (fun _ => ?_)
      refine mx_WP.go 3 (pc' := 62) (L' := [some (mx_r (some (0, 8, 0))), some (mx_i s.1), some (mx_l u207), none]) (st' := [mx_l (500068609904 : Int64), mx_i s.1, mx_r (some (0, 8, 0)), mx_i s.1, mx_r (some (0, 74, 0))]) (σ' := (hC s.2 J h, μ)) rfl ?_
      obtain ⟨u210, e218, hf⟩ := Option.bind_eq_some_iff.mp hf
      refine mx_WP.call (d := d + 2) (y := 99) (as := [mx_r (some (0, 8, 0)), mx_i s.1, mx_l (500068609904 : Int64)]) (pc' := 65) (r := [mx_i s.1, mx_r (some (0, 74, 0))]) rfl rfl (T99 (d := d + 0)  e218 ?_)
      show mx_WP (d + 3) 98 65 [some (mx_r (some (0, 8, 0))), some (mx_i s.1), some (mx_l u207), none] [mx_i (b2i u210), mx_i s.1, mx_r (some (0, 74, 0))] (hC s.2 J h, μ) Q
      by_cases c211 : u210 = true
      · rw [if_pos c211] at hf
        refine mx_WP.zeq (b := u210) (q := 81) (p3 := 68) rfl (fun hh => absurd hh (by simp [c211])) (fun _ => ?_)
        refine mx_WP.go 2 (pc' := 70) (L' := [some (mx_r (some (0, 8, 0))), some (mx_i s.1), some (mx_l u207), none]) (st' := [mx_l u207, mx_r (some (0, 8, 0)), mx_i s.1, mx_r (some (0, 74, 0))]) (σ' := (hC s.2 J h, μ)) rfl ?_
        obtain ⟨u212, e216, hf⟩ := Option.bind_eq_some_iff.mp hf
        refine mx_WP.call (d := d + 2) (y := 100) (as := [mx_r (some (0, 8, 0)), mx_l u207]) (pc' := 73) (r := [mx_i s.1, mx_r (some (0, 74, 0))]) rfl rfl (T100 (d := d + 0)  e216 ?_)
        show mx_WP (d + 3) 98 73 [some (mx_r (some (0, 8, 0))), some (mx_i s.1), some (mx_l u207), none] [mx_i u212, mx_i s.1, mx_r (some (0, 74, 0))] (hC s.2 J h, μ) Q
        refine mx_WP.go 1 (pc' := 74) (L' := [some (mx_r (some (0, 8, 0))), some (mx_i s.1), some (mx_l u207), none]) (st' := [mx_i (-1 : Int32), mx_i u212, mx_i s.1, mx_r (some (0, 74, 0))]) (σ' := (hC s.2 J h, μ)) rfl ?_
        by_cases c213 : u212 = (-1 : Int32)
        · rw [if_pos c213] at hf
          refine mx_WP.bne (x := u212) (y := (-1 : Int32)) (q := 81) (p3 := 77) rfl (fun hh => absurd c213 hh) (fun _ => ?_)
          refine mx_WP.go 2 (pc' := 82) (L' := [some (mx_r (some (0, 8, 0))), some (mx_i s.1), some (mx_l u207), none]) (st' := [mx_i (1 : Int32), mx_i s.1, mx_r (some (0, 74, 0))]) (σ' := (hC s.2 J h, μ)) rfl ?_
          by_cases c214 : s.1 < 0 ∨ 128 ≤ s.1.toNatClampNeg
          · rw [if_pos c214] at hf
            cases hf
          rw [if_neg c214] at hf
          refine mx_WP.bastx c214 ?_
          show mx_WP (d + 3) 98 83 [some (mx_r (some (0, 8, 0))), some (mx_i s.1), some (mx_l u207), none] [] (hC (mx_u3 s.2 74 0 s.1.toNatClampNeg (vp_nar .boolean (1 : Int32))) J h, μ) Q
          refine mx_WP.go 2 (pc' := 24) (L' := [some (mx_r (some (0, 8, 0))), some (mx_i (s.1 + 1)), some (mx_l u207), none]) (st' := []) (σ' := (hC (mx_u3 s.2 74 0 s.1.toNatClampNeg (vp_nar .boolean (1 : Int32))) J h, μ)) rfl ?_
          rw [← Option.some.inj hf] at hk
          exact hk (some (mx_l u207)) (none)
        · rw [if_neg c213] at hf
          refine mx_WP.bne (x := u212) (y := (-1 : Int32)) (q := 81) (p3 := 77) rfl (fun _ => ?_) (fun hh => absurd c213 hh)
          refine mx_WP.go 1 (pc' := 82) (L' := [some (mx_r (some (0, 8, 0))), some (mx_i s.1), some (mx_l u207), none]) (st' := [mx_i (0 : Int32), mx_i s.1, mx_r (some (0, 74, 0))]) (σ' := (hC s.2 J h, μ)) rfl ?_
          by_cases c215 : s.1 < 0 ∨ 128 ≤ s.1.toNatClampNeg
          · rw [if_pos c215] at hf
            cases hf
          rw [if_neg c215] at hf
          refine mx_WP.bastx c215 ?_
          show mx_WP (d + 3) 98 83 [some (mx_r (some (0, 8, 0))), some (mx_i s.1), some (mx_l u207), none] [] (hC (mx_u3 s.2 74 0 s.1.toNatClampNeg (vp_nar .boolean (0 : Int32))) J h, μ) Q
          refine mx_WP.go 2 (pc' := 24) (L' := [some (mx_r (some (0, 8, 0))), some (mx_i (s.1 + 1)), some (mx_l u207), none]) (st' := []) (σ' := (hC (mx_u3 s.2 74 0 s.1.toNatClampNeg (vp_nar .boolean (0 : Int32))) J h, μ)) rfl ?_
          rw [← Option.some.inj hf] at hk
          exact hk (some (mx_l u207)) (none)
      · rw [if_neg c211] at hf
        refine mx_WP.zeq (b := u210) (q := 81) (p3 := 68) rfl (fun _ => ?_) (fun hh => absurd hh (by simp [c211]))
        refine mx_WP.go 1 (pc' := 82) (L' := [some (mx_r (some (0, 8, 0))), some (mx_i s.1), some (mx_l u207), none]) (st' := [mx_i (0 : Int32), mx_i s.1, mx_r (some (0, 74, 0))]) (σ' := (hC s.2 J h, μ)) rfl ?_
        by_cases c217 : s.1 < 0 ∨ 128 ≤ s.1.toNatClampNeg
        · rw [if_pos c217] at hf
          cases hf
        rw [if_neg c217] at hf
        refine mx_WP.bastx c217 ?_
        show mx_WP (d + 3) 98 83 [some (mx_r (some (0, 8, 0))), some (mx_i s.1), some (mx_l u207), none] [] (hC (mx_u3 s.2 74 0 s.1.toNatClampNeg (vp_nar .boolean (0 : Int32))) J h, μ) Q
        refine mx_WP.go 2 (pc' := 24) (L' := [some (mx_r (some (0, 8, 0))), some (mx_i (s.1 + 1)), some (mx_l u207), none]) (st' := []) (σ' := (hC (mx_u3 s.2 74 0 s.1.toNatClampNeg (vp_nar .boolean (0 : Int32))) J h, μ)) rfl ?_
        rw [← Option.some.inj hf] at hk
        exact hk (some (mx_l u207)) (none)
theorem L98_24 {d : Nat}  {I : Nat → Nat → Nat → Int32} {J : Nat → Nat → Nat → Int64} {h : Nat → Nat} {μ : mx_Rg × (Nat × (Nat → Int32)) × (Nat × Nat)} {Q : Option mx_V → mx_Hp → Prop} {n : Nat} {s : Int32 × (Nat → Nat → Nat → Int32)} {o : Int32 × (Nat → Nat → Nat → Int32)} (hf : mx_lp (b98_24 I J) n s = some o) (hk : (fun x : Int32 × (Nat → Nat → Nat → Int32) => ∀ (z2 z3 : Option mx_V), mx_WP (d + 3) 98 89 [some (mx_r (some (0, 8, 0))), some (mx_i x.1), z2, z3] [] (hC x.2 J h, μ) Q) o) : ∀ (z2 z3 : Option mx_V), mx_WP (d + 3) 98 24 [some (mx_r (some (0, 8, 0))), some (mx_i s.1), z2, z3] [] (hC s.2 J h, μ) Q := mx_lp_ok (P := fun s : Int32 × (Nat → Nat → Nat → Int32) => ∀ (z2 z3 : Option mx_V), mx_WP (d + 3) 98 24 [some (mx_r (some (0, 8, 0))), some (mx_i s.1), z2, z3] [] (hC s.2 J h, μ) Q) (E := (fun x : Int32 × (Nat → Nat → Nat → Int32) => ∀ (z2 z3 : Option mx_V), mx_WP (d + 3) 98 89 [some (mx_r (some (0, 8, 0))), some (mx_i x.1), z2, z3] [] (hC x.2 J h, μ) Q)) (fun s o hf hk => B98_24 hf hk) n s o hf hk
def f98 (I : Nat → Nat → Nat → Int32) (J : Nat → Nat → Nat → Int64) : Option ((Nat → Nat → Nat → Int32)) :=
  (mx_lp (b98_2 I J) mx_fu ((0 : Int32), I)).bind fun u103 =>
  (mx_lp (b98_24 u103.2 J) mx_fu ((0 : Int32), u103.2)).bind fun u221 =>
  some u221.2
theorem T98 {d : Nat} {I : Nat → Nat → Nat → Int32} {J : Nat → Nat → Nat → Int64} {h : Nat → Nat} {μ : mx_Rg × (Nat × (Nat → Int32)) × (Nat × Nat)} {Q : Option mx_V → mx_Hp → Prop} {o : (Nat → Nat → Nat → Int32)} (hf : f98 I J = some o) (hk : Q (none) (hC o J h, μ)) : mx_WP (d + 3) 98 0 (mx_ent 98 [mx_r (some (0, 8, 0))]) [] (hC I J h, μ) Q := by
  unfold f98 at hf
  refine mx_WP.go 2 (pc' := 2) (L' := [some (mx_r (some (0, 8, 0))), some (mx_i (0 : Int32)), none, none]) (st' := []) (σ' := (hC I J h, μ)) rfl ?_
  obtain ⟨u103, e104, hf⟩ := Option.bind_eq_some_iff.mp hf
  refine (L98_2 (d := d) e104 ?_) (none) (none)
  intro z2 z3
  show mx_WP (d + 3) 98 22 [some (mx_r (some (0, 8, 0))), some (mx_i u103.1), z2, z3] [] (hC u103.2 J h, μ) Q
  refine mx_WP.go 2 (pc' := 24) (L' := [some (mx_r (some (0, 8, 0))), some (mx_i (0 : Int32)), z2, z3]) (st' := []) (σ' := (hC u103.2 J h, μ)) rfl ?_
  obtain ⟨u221, e222, hf⟩ := Option.bind_eq_some_iff.mp hf
  refine (L98_24 (d := d) e222 ?_) (z2) (z3)
  intro z2 z3
  show mx_WP (d + 3) 98 89 [some (mx_r (some (0, 8, 0))), some (mx_i u221.1), z2, z3] [] (hC u221.2 J h, μ) Q
  rw [← Option.some.inj hf] at hk
  refine mx_WP.ret (v := none) rfl ?_
  exact hk
def f103 (x0 : Nat) (x1 : Int32) (I : Nat → Nat → Nat → Int32) (J : Nat → Nat → Nat → Int64) : Option (Bool) :=
  if (I 3 x0 4) = (x1 - x1 / (16 : Int32) * (16 : Int32)) then (if (lg_cmp (J 3 x0 7) (1835365481 : Int64)) = (0 : Int32) then ((f45 x0 (1701667182 : Int64) I J).bind fun u3 =>
  if (lg_cmp u3 (0 : Int64)) ≤ (0 : Int32) then (some false) else some true) else some false) else some false
theorem T103 {d : Nat} {x0 : Nat} {x1 : Int32} {I : Nat → Nat → Nat → Int32} {J : Nat → Nat → Nat → Int64} {h : Nat → Nat} {μ : mx_Rg × (Nat × (Nat → Int32)) × (Nat × Nat)} {Q : Option mx_V → mx_Hp → Prop} {o : Bool} (hf : f103 x0 x1 I J = some o) (hk : Q (some (mx_i (b2i o))) (hC I J h, μ)) : mx_WP (d + 1) 103 0 (mx_ent 103 [mx_r (some (0, 3, x0)), mx_i x1]) [] (hC I J h, μ) Q := by
  unfold f103 at hf
  refine mx_WP.go 5 (pc' := 8) (L' := [some (mx_r (some (0, 3, x0))), some (mx_i x1)]) (st' := [mx_i (x1 - x1 / (16 : Int32) * (16 : Int32)), mx_i (I 3 x0 4)]) (σ' := (hC I J h, μ)) rfl ?_
  by_cases c1 : (I 3 x0 4) = (x1 - x1 / (16 : Int32) * (16 : Int32))
  · rw [if_pos c1] at hf
    refine mx_WP.bne (x := (I 3 x0 4)) (y := (x1 - x1 / (16 : Int32) * (16 : Int32))) (q := 38) (p3 := 11) rfl (fun hh => absurd c1 hh) (fun _ => ?_)
    refine mx_WP.go 4 (pc' := 19) (L' := [some (mx_r (some (0, 3, x0))), some (mx_i x1)]) (st' := [mx_i (lg_cmp (J 3 x0 7) (1835365481 : Int64))]) (σ' := (hC I J h, μ)) rfl ?_
    by_cases c2 : (lg_cmp (J 3 x0 7) (1835365481 : Int64)) = (0 : Int32)
    · rw [if_pos c2] at hf
      refine mx_WP.bne (x := (lg_cmp (J 3 x0 7) (1835365481 : Int64))) (y := (0 : Int32)) (q := 38) (p3 := 22) rfl (fun hh => absurd c2 hh) (fun _ => ?_)
      refine mx_WP.go 2 (pc' := 26) (L' := [some (mx_r (some (0, 3, x0))), some (mx_i x1)]) (st' := [mx_l (1701667182 : Int64), mx_r (some (0, 3, x0))]) (σ' := (hC I J h, μ)) rfl ?_
      obtain ⟨u3, e5, hf⟩ := Option.bind_eq_some_iff.mp hf
      refine mx_WP.call (d := d + 0) (y := 45) (as := [mx_r (some (0, 3, x0)), mx_l (1701667182 : Int64)]) (pc' := 29) (r := []) rfl rfl (T45 (d := d + 0)  e5 ?_)
      show mx_WP (d + 1) 103 29 [some (mx_r (some (0, 3, x0))), some (mx_i x1)] [mx_l u3] (hC I J h, μ) Q
      refine mx_WP.go 2 (pc' := 31) (L' := [some (mx_r (some (0, 3, x0))), some (mx_i x1)]) (st' := [mx_i (lg_cmp u3 (0 : Int64))]) (σ' := (hC I J h, μ)) rfl ?_
      by_cases c4 : (lg_cmp u3 (0 : Int64)) ≤ (0 : Int32)
      · rw [if_pos c4] at hf
        refine mx_WP.ble (x := (lg_cmp u3 (0 : Int64))) (y := (0 : Int32)) (q := 38) (p3 := 34) rfl (fun _ => ?_) (fun hh => absurd c4 hh)
        refine mx_WP.go 1 (pc' := 39) (L' := [some (mx_r (some (0, 3, x0))), some (mx_i x1)]) (st' := [mx_i (0 : Int32)]) (σ' := (hC I J h, μ)) rfl ?_
        rw [← Option.some.inj hf] at hk
        refine mx_WP.ret (v := some (mx_i (0 : Int32))) rfl ?_
        exact hk
      · rw [if_neg c4] at hf
        refine mx_WP.ble (x := (lg_cmp u3 (0 : Int64))) (y := (0 : Int32)) (q := 38) (p3 := 34) rfl (fun hh => absurd hh c4) (fun _ => ?_)
        refine mx_WP.go 2 (pc' := 39) (L' := [some (mx_r (some (0, 3, x0))), some (mx_i x1)]) (st' := [mx_i (1 : Int32)]) (σ' := (hC I J h, μ)) rfl ?_
        rw [← Option.some.inj hf] at hk
        refine mx_WP.ret (v := some (mx_i (1 : Int32))) rfl ?_
        exact hk
    · rw [if_neg c2] at hf
      refine mx_WP.bne (x := (lg_cmp (J 3 x0 7) (1835365481 : Int64))) (y := (0 : Int32)) (q := 38) (p3 := 22) rfl (fun _ => ?_) (fun hh => absurd c2 hh)
      refine mx_WP.go 1 (pc' := 39) (L' := [some (mx_r (some (0, 3, x0))), some (mx_i x1)]) (st' := [mx_i (0 : Int32)]) (σ' := (hC I J h, μ)) rfl ?_
      rw [← Option.some.inj hf] at hk
      refine mx_WP.ret (v := some (mx_i (0 : Int32))) rfl ?_
      exact hk
  · rw [if_neg c1] at hf
    refine mx_WP.bne (x := (I 3 x0 4)) (y := (x1 - x1 / (16 : Int32) * (16 : Int32))) (q := 38) (p3 := 11) rfl (fun _ => ?_) (fun hh => absurd c1 hh)
    refine mx_WP.go 1 (pc' := 39) (L' := [some (mx_r (some (0, 3, x0))), some (mx_i x1)]) (st' := [mx_i (0 : Int32)]) (σ' := (hC I J h, μ)) rfl ?_
    rw [← Option.some.inj hf] at hk
    refine mx_WP.ret (v := some (mx_i (0 : Int32))) rfl ?_
    exact hk
def b102_11 (x1 : Int32) (x2 : Nat) (I : Nat → Nat → Nat → Int32) (J : Nat → Nat → Nat → Int64) (s : Int32) : Option ((Int32) ⊕ ((Int32) ⊕ (Bool))) :=
  if (I 4 x2 2) ≤ s then (some (Sum.inr (Sum.inl s))) else (f51 x2 s I).bind fun u103 =>
  (f103 u103 x1 I J).bind fun u104 =>
  if u104 = true then (some (Sum.inr (Sum.inr true))) else some (Sum.inl (s + 1))
theorem B102_11 {d : Nat} {x1 : Int32} {x2 : Nat} {I : Nat → Nat → Nat → Int32} {J : Nat → Nat → Nat → Int64} {h : Nat → Nat} {μ : mx_Rg × (Nat × (Nat → Int32)) × (Nat × Nat)} {Q : Option mx_V → mx_Hp → Prop} {s : Int32} {o : (Int32) ⊕ ((Int32) ⊕ (Bool))} (hf : b102_11 x1 x2 I J s = some o) (hk : Sum.elim (fun s : Int32 => ∀ (z0 : Option mx_V), mx_WP (d + 2) 102 11 [z0, some (mx_i x1), some (mx_r (some (0, 4, x2))), some (mx_i s)] [] (hC I J h, μ) Q) (Sum.elim (fun x : Int32 => ∀ (z0 : Option mx_V), mx_WP (d + 2) 102 39 [z0, some (mx_i x1), some (mx_r (some (0, 4, x2))), some (mx_i x)] [] (hC I J h, μ) Q) (fun x : Bool => Q (some (mx_i (b2i x))) (hC I J h, μ))) o) : ∀ (z0 : Option mx_V), mx_WP (d + 2) 102 11 [z0, some (mx_i x1), some (mx_r (some (0, 4, x2))), some (mx_i s)] [] (hC I J h, μ) Q := by
  intro z0
  unfold b102_11 at hf
  refine mx_WP.go 3 (pc' := 16) (L' := [z0, some (mx_i x1), some (mx_r (some (0, 4, x2))), some (mx_i s)]) (st' := [mx_i (I 4 x2 2), mx_i s]) (σ' := (hC I J h, μ)) rfl ?_
  by_cases c102 : (I 4 x2 2) ≤ s
  · rw [if_pos c102] at hf
    refine mx_WP.bge (x := s) (y := (I 4 x2 2)) (q := 39) (p3 := 19) rfl (fun _ => ?_) (fun hh => absurd c102 hh)
    rw [← Option.some.inj hf] at hk
    exact hk (z0)
  · rw [if_neg c102] at hf
    refine mx_WP.bge (x := s) (y := (I 4 x2 2)) (q := 39) (p3 := 19) rfl (fun hh => absurd hh c102) (fun _ => ?_)
    refine mx_WP.go 2 (pc' := 21) (L' := [z0, some (mx_i x1), some (mx_r (some (0, 4, x2))), some (mx_i s)]) (st' := [mx_i s, mx_r (some (0, 4, x2))]) (σ' := (hC I J h, μ)) rfl ?_
    obtain ⟨u103, e107, hf⟩ := Option.bind_eq_some_iff.mp hf
    refine mx_WP.call (d := d + 1) (y := 51) (as := [mx_r (some (0, 4, x2)), mx_i s]) (pc' := 24) (r := []) rfl rfl (T51 (d := d + 1)  e107 ?_)
    show mx_WP (d + 2) 102 24 [z0, some (mx_i x1), some (mx_r (some (0, 4, x2))), some (mx_i s)] [mx_r (some (0, 3, u103))] (hC I J h, μ) Q
    refine mx_WP.go 1 (pc' := 25) (L' := [z0, some (mx_i x1), some (mx_r (some (0, 4, x2))), some (mx_i s)]) (st' := [mx_i x1, mx_r (some (0, 3, u103))]) (σ' := (hC I J h, μ)) rfl ?_
    obtain ⟨u104, e106, hf⟩ := Option.bind_eq_some_iff.mp hf
    refine mx_WP.call (d := d + 1) (y := 103) (as := [mx_r (some (0, 3, u103)), mx_i x1]) (pc' := 28) (r := []) rfl rfl (T103 (d := d + 0)  e106 ?_)
    show mx_WP (d + 2) 102 28 [z0, some (mx_i x1), some (mx_r (some (0, 4, x2))), some (mx_i s)] [mx_i (b2i u104)] (hC I J h, μ) Q
    by_cases c105 : u104 = true
    · rw [if_pos c105] at hf
      refine mx_WP.zeq (b := u104) (q := 33) (p3 := 31) rfl (fun hh => absurd hh (by simp [c105])) (fun _ => ?_)
      refine mx_WP.go 1 (pc' := 32) (L' := [z0, some (mx_i x1), some (mx_r (some (0, 4, x2))), some (mx_i s)]) (st' := [mx_i (1 : Int32)]) (σ' := (hC I J h, μ)) rfl ?_
      rw [← Option.some.inj hf] at hk
      refine mx_WP.ret (v := some (mx_i (1 : Int32))) rfl ?_
      exact hk
    · rw [if_neg c105] at hf
      refine mx_WP.zeq (b := u104) (q := 33) (p3 := 31) rfl (fun _ => ?_) (fun hh => absurd hh (by simp [c105]))
      refine mx_WP.go 2 (pc' := 11) (L' := [z0, some (mx_i x1), some (mx_r (some (0, 4, x2))), some (mx_i (s + 1))]) (st' := []) (σ' := (hC I J h, μ)) rfl ?_
      rw [← Option.some.inj hf] at hk
      exact hk (z0)
theorem L102_11 {d : Nat} {x1 : Int32} {x2 : Nat} {I : Nat → Nat → Nat → Int32} {J : Nat → Nat → Nat → Int64} {h : Nat → Nat} {μ : mx_Rg × (Nat × (Nat → Int32)) × (Nat × Nat)} {Q : Option mx_V → mx_Hp → Prop} {n : Nat} {s : Int32} {o : (Int32) ⊕ (Bool)} (hf : mx_lp (b102_11 x1 x2 I J) n s = some o) (hk : (Sum.elim (fun x : Int32 => ∀ (z0 : Option mx_V), mx_WP (d + 2) 102 39 [z0, some (mx_i x1), some (mx_r (some (0, 4, x2))), some (mx_i x)] [] (hC I J h, μ) Q) (fun x : Bool => Q (some (mx_i (b2i x))) (hC I J h, μ))) o) : ∀ (z0 : Option mx_V), mx_WP (d + 2) 102 11 [z0, some (mx_i x1), some (mx_r (some (0, 4, x2))), some (mx_i s)] [] (hC I J h, μ) Q := mx_lp_ok (P := fun s : Int32 => ∀ (z0 : Option mx_V), mx_WP (d + 2) 102 11 [z0, some (mx_i x1), some (mx_r (some (0, 4, x2))), some (mx_i s)] [] (hC I J h, μ) Q) (E := (Sum.elim (fun x : Int32 => ∀ (z0 : Option mx_V), mx_WP (d + 2) 102 39 [z0, some (mx_i x1), some (mx_r (some (0, 4, x2))), some (mx_i x)] [] (hC I J h, μ) Q) (fun x : Bool => Q (some (mx_i (b2i x))) (hC I J h, μ)))) (fun s o hf hk => B102_11 hf hk) n s o hf hk
def f102 (x1 : Int32) (I : Nat → Nat → Nat → Int32) (J : Nat → Nat → Nat → Int64) : Option (Bool) :=
  (f81 x1).bind fun u1 =>
  (mx_lp (b102_11 x1 u1 I J) mx_fu (0 : Int32)).bind fun u108 => Sum.elim (fun w110 =>
  some false) (fun y111 => some y111) u108
theorem T102 {d : Nat} {x1 : Int32} {I : Nat → Nat → Nat → Int32} {J : Nat → Nat → Nat → Int64} {h : Nat → Nat} {μ : mx_Rg × (Nat × (Nat → Int32)) × (Nat × Nat)} {Q : Option mx_V → mx_Hp → Prop} {o : Bool} (hf : f102 x1 I J = some o) (hk : Q (some (mx_i (b2i o))) (hC I J h, μ)) : mx_WP (d + 2) 102 0 (mx_ent 102 [mx_r (some (0, 8, 0)), mx_i x1]) [] (hC I J h, μ) Q := by
  unfold f102 at hf
  refine mx_WP.go 3 (pc' := 5) (L' := [some (mx_r (some (0, 8, 0))), some (mx_i x1), none, none]) (st' := [mx_i x1, mx_r (some (0, 7, 0))]) (σ' := (hC I J h, μ)) rfl ?_
  obtain ⟨u1, e112, hf⟩ := Option.bind_eq_some_iff.mp hf
  refine mx_WP.call (d := d + 1) (y := 81) (as := [mx_r (some (0, 7, 0)), mx_i x1]) (pc' := 8) (r := []) rfl rfl (T81 (d := d + 1)  e112 ?_)
  show mx_WP (d + 2) 102 8 [some (mx_r (some (0, 8, 0))), some (mx_i x1), none, none] [mx_r (some (0, 4, u1))] (hC I J h, μ) Q
  refine mx_WP.go 3 (pc' := 11) (L' := [some (mx_r (some (0, 8, 0))), some (mx_i x1), some (mx_r (some (0, 4, u1))), some (mx_i (0 : Int32))]) (st' := []) (σ' := (hC I J h, μ)) rfl ?_
  obtain ⟨u108, e109, hf⟩ := Option.bind_eq_some_iff.mp hf
  cases u108 with
  | inr y111 =>
    rw [Sum.elim_inr] at hf
    rw [← Option.some.inj hf] at hk
    exact (L102_11 (d := d) e109 hk) (some (mx_r (some (0, 8, 0))))
  | inl w110 =>
    rw [Sum.elim_inl] at hf
    refine (L102_11 (d := d) e109 ?_) (some (mx_r (some (0, 8, 0))))
    intro z0
    show mx_WP (d + 2) 102 39 [z0, some (mx_i x1), some (mx_r (some (0, 4, u1))), some (mx_i w110)] [] (hC I J h, μ) Q
    refine mx_WP.go 1 (pc' := 40) (L' := [z0, some (mx_i x1), some (mx_r (some (0, 4, u1))), some (mx_i w110)]) (st' := [mx_i (0 : Int32)]) (σ' := (hC I J h, μ)) rfl ?_
    rw [← Option.some.inj hf] at hk
    refine mx_WP.ret (v := some (mx_i (0 : Int32))) rfl ?_
    exact hk
def b104_12 (x1 : Nat) (x2 : Int32) (x3 : Nat) (I : Nat → Nat → Nat → Int32) (J : Nat → Nat → Nat → Int64) (s : Int32) : Option ((Int32) ⊕ ((Int32) ⊕ (Bool))) :=
  if (I 4 x3 2) ≤ s then (some (Sum.inr (Sum.inl s))) else (f51 x3 s I).bind fun u103 =>
  (f103 u103 x2 I J).bind fun u104 =>
  if u104 = true then ((f45 u103 (1701667182 : Int64) I J).bind fun u106 =>
  if (lg_cmp u106 (J 3 x1 7)) = (0 : Int32) then ((f45 u103 (1953723757 : Int64) I J).bind fun u108 =>
  if (lg_cmp u108 (0 : Int64)) ≤ (0 : Int32) then (some (Sum.inr (Sum.inr true))) else (f44 x1 u108 I J).bind fun u110 =>
  if u110 = true then (some (Sum.inr (Sum.inr true))) else some (Sum.inr (Sum.inr false))) else some (Sum.inl (s + 1))) else some (Sum.inl (s + 1))
theorem B104_12 {d : Nat} {x1 : Nat} {x2 : Int32} {x3 : Nat} {I : Nat → Nat → Nat → Int32} {J : Nat → Nat → Nat → Int64} {h : Nat → Nat} {μ : mx_Rg × (Nat × (Nat → Int32)) × (Nat × Nat)} {Q : Option mx_V → mx_Hp → Prop} {s : Int32} {o : (Int32) ⊕ ((Int32) ⊕ (Bool))} (hf : b104_12 x1 x2 x3 I J s = some o) (hk : Sum.elim (fun s : Int32 => ∀ (z0 z5 z6 z7 : Option mx_V), mx_WP (d + 2) 104 12 [z0, some (mx_r (some (0, 3, x1))), some (mx_i x2), some (mx_r (some (0, 4, x3))), some (mx_i s), z5, z6, z7] [] (hC I J h, μ) Q) (Sum.elim (fun x : Int32 => ∀ (z0 z5 z6 z7 : Option mx_V), mx_WP (d + 2) 104 92 [z0, some (mx_r (some (0, 3, x1))), some (mx_i x2), some (mx_r (some (0, 4, x3))), some (mx_i x), z5, z6, z7] [] (hC I J h, μ) Q) (fun x : Bool => Q (some (mx_i (b2i x))) (hC I J h, μ))) o) : ∀ (z0 z5 z6 z7 : Option mx_V), mx_WP (d + 2) 104 12 [z0, some (mx_r (some (0, 3, x1))), some (mx_i x2), some (mx_r (some (0, 4, x3))), some (mx_i s), z5, z6, z7] [] (hC I J h, μ) Q := by
  intro z0 z5 z6 z7
  unfold b104_12 at hf
  refine mx_WP.go 3 (pc' := 18) (L' := [z0, some (mx_r (some (0, 3, x1))), some (mx_i x2), some (mx_r (some (0, 4, x3))), some (mx_i s), z5, z6, z7]) (st' := [mx_i (I 4 x3 2), mx_i s]) (σ' := (hC I J h, μ)) rfl ?_
  by_cases c102 : (I 4 x3 2) ≤ s
  · rw [if_pos c102] at hf
    refine mx_WP.bge (x := s) (y := (I 4 x3 2)) (q := 92) (p3 := 21) rfl (fun _ => ?_) (fun hh => absurd c102 hh)
    rw [← Option.some.inj hf] at hk
    exact hk (z0) (z5) (z6) (z7)
  · rw [if_neg c102] at hf
    refine mx_WP.bge (x := s) (y := (I 4 x3 2)) (q := 92) (p3 := 21) rfl (fun hh => absurd hh c102) (fun _ => ?_)
    refine mx_WP.go 2 (pc' := 24) (L' := [z0, some (mx_r (some (0, 3, x1))), some (mx_i x2), some (mx_r (some (0, 4, x3))), some (mx_i s), z5, z6, z7]) (st' := [mx_i s, mx_r (some (0, 4, x3))]) (σ' := (hC I J h, μ)) rfl ?_
    obtain ⟨u103, e116, hf⟩ := Option.bind_eq_some_iff.mp hf
    refine mx_WP.call (d := d + 1) (y := 51) (as := [mx_r (some (0, 4, x3)), mx_i s]) (pc' := 27) (r := []) rfl rfl (T51 (d := d + 1)  e116 ?_)
    show mx_WP (d + 2) 104 27 [z0, some (mx_r (some (0, 3, x1))), some (mx_i x2), some (mx_r (some (0, 4, x3))), some (mx_i s), z5, z6, z7] [mx_r (some (0, 3, u103))] (hC I J h, μ) Q
    refine mx_WP.go 3 (pc' := 32) (L' := [z0, some (mx_r (some (0, 3, x1))), some (mx_i x2), some (mx_r (some (0, 4, x3))), some (mx_i s), some (mx_r (some (0, 3, u103))), z6, z7]) (st' := [mx_i x2, mx_r (some (0, 3, u103))]) (σ' := (hC I J h, μ)) rfl ?_
    obtain ⟨u104, e115, hf⟩ := Option.bind_eq_some_iff.mp hf
    refine mx_WP.call (d := d + 1) (y := 103) (as := [mx_r (some (0, 3, u103)), mx_i x2]) (pc' := 35) (r := []) rfl rfl (T103 (d := d + 0)  e115 ?_)
    show mx_WP (d + 2) 104 35 [z0, some (mx_r (some (0, 3, x1))), some (mx_i x2), some (mx_r (some (0, 4, x3))), some (mx_i s), some (mx_r (some (0, 3, u103))), z6, z7] [mx_i (b2i u104)] (hC I J h, μ) Q
    by_cases c105 : u104 = true
    · rw [if_pos c105] at hf
      refine mx_WP.zeq (b := u104) (q := 86) (p3 := 38) rfl (fun hh => absurd hh (by simp [c105])) (fun _ => ?_)
      refine mx_WP.go 2 (pc' := 43) (L' := [z0, some (mx_r (some (0, 3, x1))), some (mx_i x2), some (mx_r (some (0, 4, x3))), some (mx_i s), some (mx_r (some (0, 3, u103))), z6, z7]) (st' := [mx_l (1701667182 : Int64), mx_r (some (0, 3, u103))]) (σ' := (hC I J h, μ)) rfl ?_
      obtain ⟨u106, e114, hf⟩ := Option.bind_eq_some_iff.mp hf
      refine mx_WP.call (d := d + 1) (y := 45) (as := [mx_r (some (0, 3, u103)), mx_l (1701667182 : Int64)]) (pc' := 46) (r := []) rfl rfl (T45 (d := d + 1)  e114 ?_)
      show mx_WP (d + 2) 104 46 [z0, some (mx_r (some (0, 3, x1))), some (mx_i x2), some (mx_r (some (0, 4, x3))), some (mx_i s), some (mx_r (some (0, 3, u103))), z6, z7] [mx_l u106] (hC I J h, μ) Q
      refine mx_WP.go 3 (pc' := 51) (L' := [z0, some (mx_r (some (0, 3, x1))), some (mx_i x2), some (mx_r (some (0, 4, x3))), some (mx_i s), some (mx_r (some (0, 3, u103))), z6, z7]) (st' := [mx_i (lg_cmp u106 (J 3 x1 7))]) (σ' := (hC I J h, μ)) rfl ?_
      by_cases c107 : (lg_cmp u106 (J 3 x1 7)) = (0 : Int32)
      · rw [if_pos c107] at hf
        refine mx_WP.bne (x := (lg_cmp u106 (J 3 x1 7))) (y := (0 : Int32)) (q := 86) (p3 := 54) rfl (fun hh => absurd c107 hh) (fun _ => ?_)
        refine mx_WP.go 2 (pc' := 59) (L' := [z0, some (mx_r (some (0, 3, x1))), some (mx_i x2), some (mx_r (some (0, 4, x3))), some (mx_i s), some (mx_r (some (0, 3, u103))), z6, z7]) (st' := [mx_l (1953723757 : Int64), mx_r (some (0, 3, u103))]) (σ' := (hC I J h, μ)) rfl ?_
        obtain ⟨u108, e113, hf⟩ := Option.bind_eq_some_iff.mp hf
        refine mx_WP.call (d := d + 1) (y := 45) (as := [mx_r (some (0, 3, u103)), mx_l (1953723757 : Int64)]) (pc' := 62) (r := []) rfl rfl (T45 (d := d + 1)  e113 ?_)
        show mx_WP (d + 2) 104 62 [z0, some (mx_r (some (0, 3, x1))), some (mx_i x2), some (mx_r (some (0, 4, x3))), some (mx_i s), some (mx_r (some (0, 3, u103))), z6, z7] [mx_l u108] (hC I J h, μ) Q
        refine mx_WP.go 4 (pc' := 68) (L' := [z0, some (mx_r (some (0, 3, x1))), some (mx_i x2), some (mx_r (some (0, 4, x3))), some (mx_i s), some (mx_r (some (0, 3, u103))), some (mx_l u108), none]) (st' := [mx_i (lg_cmp u108 (0 : Int64))]) (σ' := (hC I J h, μ)) rfl ?_
        by_cases c109 : (lg_cmp u108 (0 : Int64)) ≤ (0 : Int32)
        · rw [if_pos c109] at hf
          refine mx_WP.ble (x := (lg_cmp u108 (0 : Int64))) (y := (0 : Int32)) (q := 80) (p3 := 71) rfl (fun _ => ?_) (fun hh => absurd c109 hh)
          refine mx_WP.go 2 (pc' := 85) (L' := [z0, some (mx_r (some (0, 3, x1))), some (mx_i x2), some (mx_r (some (0, 4, x3))), some (mx_i s), some (mx_r (some (0, 3, u103))), some (mx_l u108), none]) (st' := [mx_i (1 : Int32)]) (σ' := (hC I J h, μ)) rfl ?_
          rw [← Option.some.inj hf] at hk
          refine mx_WP.ret (v := some (mx_i (1 : Int32))) rfl ?_
          exact hk
        · rw [if_neg c109] at hf
          refine mx_WP.ble (x := (lg_cmp u108 (0 : Int64))) (y := (0 : Int32)) (q := 80) (p3 := 71) rfl (fun hh => absurd hh c109) (fun _ => ?_)
          refine mx_WP.go 2 (pc' := 74) (L' := [z0, some (mx_r (some (0, 3, x1))), some (mx_i x2), some (mx_r (some (0, 4, x3))), some (mx_i s), some (mx_r (some (0, 3, u103))), some (mx_l u108), none]) (st' := [mx_l u108, mx_r (some (0, 3, x1))]) (σ' := (hC I J h, μ)) rfl ?_
          obtain ⟨u110, e112, hf⟩ := Option.bind_eq_some_iff.mp hf
          refine mx_WP.call (d := d + 1) (y := 44) (as := [mx_r (some (0, 3, x1)), mx_l u108]) (pc' := 77) (r := []) rfl rfl (T44 (d := d + 0)  e112 ?_)
          show mx_WP (d + 2) 104 77 [z0, some (mx_r (some (0, 3, x1))), some (mx_i x2), some (mx_r (some (0, 4, x3))), some (mx_i s), some (mx_r (some (0, 3, u103))), some (mx_l u108), none] [mx_i (b2i u110)] (hC I J h, μ) Q
          by_cases c111 : u110 = true
          · rw [if_pos c111] at hf
            refine mx_WP.zeq (b := u110) (q := 84) (p3 := 80) rfl (fun hh => absurd hh (by simp [c111])) (fun _ => ?_)
            refine mx_WP.go 2 (pc' := 85) (L' := [z0, some (mx_r (some (0, 3, x1))), some (mx_i x2), some (mx_r (some (0, 4, x3))), some (mx_i s), some (mx_r (some (0, 3, u103))), some (mx_l u108), none]) (st' := [mx_i (1 : Int32)]) (σ' := (hC I J h, μ)) rfl ?_
            rw [← Option.some.inj hf] at hk
            refine mx_WP.ret (v := some (mx_i (1 : Int32))) rfl ?_
            exact hk
          · rw [if_neg c111] at hf
            refine mx_WP.zeq (b := u110) (q := 84) (p3 := 80) rfl (fun _ => ?_) (fun hh => absurd hh (by simp [c111]))
            refine mx_WP.go 1 (pc' := 85) (L' := [z0, some (mx_r (some (0, 3, x1))), some (mx_i x2), some (mx_r (some (0, 4, x3))), some (mx_i s), some (mx_r (some (0, 3, u103))), some (mx_l u108), none]) (st' := [mx_i (0 : Int32)]) (σ' := (hC I J h, μ)) rfl ?_
            rw [← Option.some.inj hf] at hk
            refine mx_WP.ret (v := some (mx_i (0 : Int32))) rfl ?_
            exact hk
      · rw [if_neg c107] at hf
        refine mx_WP.bne (x := (lg_cmp u106 (J 3 x1 7))) (y := (0 : Int32)) (q := 86) (p3 := 54) rfl (fun _ => ?_) (fun hh => absurd c107 hh)
        refine mx_WP.go 2 (pc' := 12) (L' := [z0, some (mx_r (some (0, 3, x1))), some (mx_i x2), some (mx_r (some (0, 4, x3))), some (mx_i (s + 1)), some (mx_r (some (0, 3, u103))), z6, z7]) (st' := []) (σ' := (hC I J h, μ)) rfl ?_
        rw [← Option.some.inj hf] at hk
        exact hk (z0) (some (mx_r (some (0, 3, u103)))) (z6) (z7)
    · rw [if_neg c105] at hf
      refine mx_WP.zeq (b := u104) (q := 86) (p3 := 38) rfl (fun _ => ?_) (fun hh => absurd hh (by simp [c105]))
      refine mx_WP.go 2 (pc' := 12) (L' := [z0, some (mx_r (some (0, 3, x1))), some (mx_i x2), some (mx_r (some (0, 4, x3))), some (mx_i (s + 1)), some (mx_r (some (0, 3, u103))), z6, z7]) (st' := []) (σ' := (hC I J h, μ)) rfl ?_
      rw [← Option.some.inj hf] at hk
      exact hk (z0) (some (mx_r (some (0, 3, u103)))) (z6) (z7)
theorem L104_12 {d : Nat} {x1 : Nat} {x2 : Int32} {x3 : Nat} {I : Nat → Nat → Nat → Int32} {J : Nat → Nat → Nat → Int64} {h : Nat → Nat} {μ : mx_Rg × (Nat × (Nat → Int32)) × (Nat × Nat)} {Q : Option mx_V → mx_Hp → Prop} {n : Nat} {s : Int32} {o : (Int32) ⊕ (Bool)} (hf : mx_lp (b104_12 x1 x2 x3 I J) n s = some o) (hk : (Sum.elim (fun x : Int32 => ∀ (z0 z5 z6 z7 : Option mx_V), mx_WP (d + 2) 104 92 [z0, some (mx_r (some (0, 3, x1))), some (mx_i x2), some (mx_r (some (0, 4, x3))), some (mx_i x), z5, z6, z7] [] (hC I J h, μ) Q) (fun x : Bool => Q (some (mx_i (b2i x))) (hC I J h, μ))) o) : ∀ (z0 z5 z6 z7 : Option mx_V), mx_WP (d + 2) 104 12 [z0, some (mx_r (some (0, 3, x1))), some (mx_i x2), some (mx_r (some (0, 4, x3))), some (mx_i s), z5, z6, z7] [] (hC I J h, μ) Q := mx_lp_ok (P := fun s : Int32 => ∀ (z0 z5 z6 z7 : Option mx_V), mx_WP (d + 2) 104 12 [z0, some (mx_r (some (0, 3, x1))), some (mx_i x2), some (mx_r (some (0, 4, x3))), some (mx_i s), z5, z6, z7] [] (hC I J h, μ) Q) (E := (Sum.elim (fun x : Int32 => ∀ (z0 z5 z6 z7 : Option mx_V), mx_WP (d + 2) 104 92 [z0, some (mx_r (some (0, 3, x1))), some (mx_i x2), some (mx_r (some (0, 4, x3))), some (mx_i x), z5, z6, z7] [] (hC I J h, μ) Q) (fun x : Bool => Q (some (mx_i (b2i x))) (hC I J h, μ)))) (fun s o hf hk => B104_12 hf hk) n s o hf hk
def f104 (x1 : Nat) (x2 : Int32) (I : Nat → Nat → Nat → Int32) (J : Nat → Nat → Nat → Int64) : Option (Bool) :=
  (f81 x2).bind fun u1 =>
  (mx_lp (b104_12 x1 x2 u1 I J) mx_fu (0 : Int32)).bind fun u117 => Sum.elim (fun w119 =>
  some false) (fun y120 => some y120) u117
theorem T104 {d : Nat} {x1 : Nat} {x2 : Int32} {I : Nat → Nat → Nat → Int32} {J : Nat → Nat → Nat → Int64} {h : Nat → Nat} {μ : mx_Rg × (Nat × (Nat → Int32)) × (Nat × Nat)} {Q : Option mx_V → mx_Hp → Prop} {o : Bool} (hf : f104 x1 x2 I J = some o) (hk : Q (some (mx_i (b2i o))) (hC I J h, μ)) : mx_WP (d + 2) 104 0 (mx_ent 104 [mx_r (some (0, 8, 0)), mx_r (some (0, 3, x1)), mx_i x2]) [] (hC I J h, μ) Q := by
  unfold f104 at hf
  refine mx_WP.go 3 (pc' := 5) (L' := [some (mx_r (some (0, 8, 0))), some (mx_r (some (0, 3, x1))), some (mx_i x2), none, none, none, none, none]) (st' := [mx_i x2, mx_r (some (0, 7, 0))]) (σ' := (hC I J h, μ)) rfl ?_
  obtain ⟨u1, e121, hf⟩ := Option.bind_eq_some_iff.mp hf
  refine mx_WP.call (d := d + 1) (y := 81) (as := [mx_r (some (0, 7, 0)), mx_i x2]) (pc' := 8) (r := []) rfl rfl (T81 (d := d + 1)  e121 ?_)
  show mx_WP (d + 2) 104 8 [some (mx_r (some (0, 8, 0))), some (mx_r (some (0, 3, x1))), some (mx_i x2), none, none, none, none, none] [mx_r (some (0, 4, u1))] (hC I J h, μ) Q
  refine mx_WP.go 3 (pc' := 12) (L' := [some (mx_r (some (0, 8, 0))), some (mx_r (some (0, 3, x1))), some (mx_i x2), some (mx_r (some (0, 4, u1))), some (mx_i (0 : Int32)), none, none, none]) (st' := []) (σ' := (hC I J h, μ)) rfl ?_
  obtain ⟨u117, e118, hf⟩ := Option.bind_eq_some_iff.mp hf
  cases u117 with
  | inr y120 =>
    rw [Sum.elim_inr] at hf
    rw [← Option.some.inj hf] at hk
    exact (L104_12 (d := d) e118 hk) (some (mx_r (some (0, 8, 0)))) (none) (none) (none)
  | inl w119 =>
    rw [Sum.elim_inl] at hf
    refine (L104_12 (d := d) e118 ?_) (some (mx_r (some (0, 8, 0)))) (none) (none) (none)
    intro z0 z5 z6 z7
    show mx_WP (d + 2) 104 92 [z0, some (mx_r (some (0, 3, x1))), some (mx_i x2), some (mx_r (some (0, 4, u1))), some (mx_i w119), z5, z6, z7] [] (hC I J h, μ) Q
    refine mx_WP.go 1 (pc' := 93) (L' := [z0, some (mx_r (some (0, 3, x1))), some (mx_i x2), some (mx_r (some (0, 4, u1))), some (mx_i w119), z5, z6, z7]) (st' := [mx_i (0 : Int32)]) (σ' := (hC I J h, μ)) rfl ?_
    rw [← Option.some.inj hf] at hk
    refine mx_WP.ret (v := some (mx_i (0 : Int32))) rfl ?_
    exact hk
def b101_48 (x1 : Int32) (x2 : Int32) (x3 : Nat) (I : Nat → Nat → Nat → Int32) (J : Nat → Nat → Nat → Int64) (s : Int32) : Option ((Int32) ⊕ ((Int32) ⊕ (Bool))) :=
  if (I 4 x3 2) ≤ s then (some (Sum.inr (Sum.inl s))) else (f51 x3 s I).bind fun u109 =>
  if (I 3 u109 4) = (x1 - x1 / (16 : Int32) * (16 : Int32)) then ((f51 x3 s I).bind fun u111 =>
  (f104 u111 x2 I J).bind fun u112 =>
  if u112 = true then (some (Sum.inl (s + 1))) else some (Sum.inr (Sum.inr false))) else some (Sum.inl (s + 1))
theorem B101_48 {d : Nat} {x1 : Int32} {x2 : Int32} {x3 : Nat} {I : Nat → Nat → Nat → Int32} {J : Nat → Nat → Nat → Int64} {h : Nat → Nat} {μ : mx_Rg × (Nat × (Nat → Int32)) × (Nat × Nat)} {Q : Option mx_V → mx_Hp → Prop} {s : Int32} {o : (Int32) ⊕ ((Int32) ⊕ (Bool))} (hf : b101_48 x1 x2 x3 I J s = some o) (hk : Sum.elim (fun s : Int32 => mx_WP (d + 3) 101 48 [some (mx_r (some (0, 8, 0))), some (mx_i x1), some (mx_i x2), some (mx_r (some (0, 4, x3))), some (mx_i s)] [] (hC I J h, μ) Q) (Sum.elim (fun x : Int32 => mx_WP (d + 3) 101 95 [some (mx_r (some (0, 8, 0))), some (mx_i x1), some (mx_i x2), some (mx_r (some (0, 4, x3))), some (mx_i x)] [] (hC I J h, μ) Q) (fun x : Bool => Q (some (mx_i (b2i x))) (hC I J h, μ))) o) : mx_WP (d + 3) 101 48 [some (mx_r (some (0, 8, 0))), some (mx_i x1), some (mx_i x2), some (mx_r (some (0, 4, x3))), some (mx_i s)] [] (hC I J h, μ) Q := by
  unfold b101_48 at hf
  refine mx_WP.go 3 (pc' := 54) (L' := [some (mx_r (some (0, 8, 0))), some (mx_i x1), some (mx_i x2), some (mx_r (some (0, 4, x3))), some (mx_i s)]) (st' := [mx_i (I 4 x3 2), mx_i s]) (σ' := (hC I J h, μ)) rfl ?_
  by_cases c108 : (I 4 x3 2) ≤ s
  · rw [if_pos c108] at hf
    refine mx_WP.bge (x := s) (y := (I 4 x3 2)) (q := 95) (p3 := 57) rfl (fun _ => ?_) (fun hh => absurd c108 hh)
    rw [← Option.some.inj hf] at hk
    exact hk
  · rw [if_neg c108] at hf
    refine mx_WP.bge (x := s) (y := (I 4 x3 2)) (q := 95) (p3 := 57) rfl (fun hh => absurd hh c108) (fun _ => ?_)
    refine mx_WP.go 2 (pc' := 60) (L' := [some (mx_r (some (0, 8, 0))), some (mx_i x1), some (mx_i x2), some (mx_r (some (0, 4, x3))), some (mx_i s)]) (st' := [mx_i s, mx_r (some (0, 4, x3))]) (σ' := (hC I J h, μ)) rfl ?_
    obtain ⟨u109, e116, hf⟩ := Option.bind_eq_some_iff.mp hf
    refine mx_WP.call (d := d + 2) (y := 51) (as := [mx_r (some (0, 4, x3)), mx_i s]) (pc' := 63) (r := []) rfl rfl (T51 (d := d + 2)  e116 ?_)
    show mx_WP (d + 3) 101 63 [some (mx_r (some (0, 8, 0))), some (mx_i x1), some (mx_i x2), some (mx_r (some (0, 4, x3))), some (mx_i s)] [mx_r (some (0, 3, u109))] (hC I J h, μ) Q
    refine mx_WP.go 4 (pc' := 70) (L' := [some (mx_r (some (0, 8, 0))), some (mx_i x1), some (mx_i x2), some (mx_r (some (0, 4, x3))), some (mx_i s)]) (st' := [mx_i (x1 - x1 / (16 : Int32) * (16 : Int32)), mx_i (I 3 u109 4)]) (σ' := (hC I J h, μ)) rfl ?_
    by_cases c110 : (I 3 u109 4) = (x1 - x1 / (16 : Int32) * (16 : Int32))
    · rw [if_pos c110] at hf
      refine mx_WP.bne (x := (I 3 u109 4)) (y := (x1 - x1 / (16 : Int32) * (16 : Int32))) (q := 89) (p3 := 73) rfl (fun hh => absurd c110 hh) (fun _ => ?_)
      refine mx_WP.go 3 (pc' := 77) (L' := [some (mx_r (some (0, 8, 0))), some (mx_i x1), some (mx_i x2), some (mx_r (some (0, 4, x3))), some (mx_i s)]) (st' := [mx_i s, mx_r (some (0, 4, x3)), mx_r (some (0, 8, 0))]) (σ' := (hC I J h, μ)) rfl ?_
      obtain ⟨u111, e115, hf⟩ := Option.bind_eq_some_iff.mp hf
      refine mx_WP.call (d := d + 2) (y := 51) (as := [mx_r (some (0, 4, x3)), mx_i s]) (pc' := 80) (r := [mx_r (some (0, 8, 0))]) rfl rfl (T51 (d := d + 2)  e115 ?_)
      show mx_WP (d + 3) 101 80 [some (mx_r (some (0, 8, 0))), some (mx_i x1), some (mx_i x2), some (mx_r (some (0, 4, x3))), some (mx_i s)] [mx_r (some (0, 3, u111)), mx_r (some (0, 8, 0))] (hC I J h, μ) Q
      refine mx_WP.go 1 (pc' := 81) (L' := [some (mx_r (some (0, 8, 0))), some (mx_i x1), some (mx_i x2), some (mx_r (some (0, 4, x3))), some (mx_i s)]) (st' := [mx_i x2, mx_r (some (0, 3, u111)), mx_r (some (0, 8, 0))]) (σ' := (hC I J h, μ)) rfl ?_
      obtain ⟨u112, e114, hf⟩ := Option.bind_eq_some_iff.mp hf
      refine mx_WP.call (d := d + 2) (y := 104) (as := [mx_r (some (0, 8, 0)), mx_r (some (0, 3, u111)), mx_i x2]) (pc' := 84) (r := []) rfl rfl (T104 (d := d + 0)  e114 ?_)
      show mx_WP (d + 3) 101 84 [some (mx_r (some (0, 8, 0))), some (mx_i x1), some (mx_i x2), some (mx_r (some (0, 4, x3))), some (mx_i s)] [mx_i (b2i u112)] (hC I J h, μ) Q
      by_cases c113 : u112 = true
      · rw [if_pos c113] at hf
        refine mx_WP.zne (b := u112) (q := 89) (p3 := 87) rfl (fun _ => ?_) (fun hh => absurd hh (by simp [c113]))
        refine mx_WP.go 2 (pc' := 48) (L' := [some (mx_r (some (0, 8, 0))), some (mx_i x1), some (mx_i x2), some (mx_r (some (0, 4, x3))), some (mx_i (s + 1))]) (st' := []) (σ' := (hC I J h, μ)) rfl ?_
        rw [← Option.some.inj hf] at hk
        exact hk
      · rw [if_neg c113] at hf
        refine mx_WP.zne (b := u112) (q := 89) (p3 := 87) rfl (fun hh => absurd hh (by simp [c113])) (fun _ => ?_)
        refine mx_WP.go 1 (pc' := 88) (L' := [some (mx_r (some (0, 8, 0))), some (mx_i x1), some (mx_i x2), some (mx_r (some (0, 4, x3))), some (mx_i s)]) (st' := [mx_i (0 : Int32)]) (σ' := (hC I J h, μ)) rfl ?_
        rw [← Option.some.inj hf] at hk
        refine mx_WP.ret (v := some (mx_i (0 : Int32))) rfl ?_
        exact hk
    · rw [if_neg c110] at hf
      refine mx_WP.bne (x := (I 3 u109 4)) (y := (x1 - x1 / (16 : Int32) * (16 : Int32))) (q := 89) (p3 := 73) rfl (fun _ => ?_) (fun hh => absurd c110 hh)
      refine mx_WP.go 2 (pc' := 48) (L' := [some (mx_r (some (0, 8, 0))), some (mx_i x1), some (mx_i x2), some (mx_r (some (0, 4, x3))), some (mx_i (s + 1))]) (st' := []) (σ' := (hC I J h, μ)) rfl ?_
      rw [← Option.some.inj hf] at hk
      exact hk
theorem L101_48 {d : Nat} {x1 : Int32} {x2 : Int32} {x3 : Nat} {I : Nat → Nat → Nat → Int32} {J : Nat → Nat → Nat → Int64} {h : Nat → Nat} {μ : mx_Rg × (Nat × (Nat → Int32)) × (Nat × Nat)} {Q : Option mx_V → mx_Hp → Prop} {n : Nat} {s : Int32} {o : (Int32) ⊕ (Bool)} (hf : mx_lp (b101_48 x1 x2 x3 I J) n s = some o) (hk : (Sum.elim (fun x : Int32 => mx_WP (d + 3) 101 95 [some (mx_r (some (0, 8, 0))), some (mx_i x1), some (mx_i x2), some (mx_r (some (0, 4, x3))), some (mx_i x)] [] (hC I J h, μ) Q) (fun x : Bool => Q (some (mx_i (b2i x))) (hC I J h, μ))) o) : mx_WP (d + 3) 101 48 [some (mx_r (some (0, 8, 0))), some (mx_i x1), some (mx_i x2), some (mx_r (some (0, 4, x3))), some (mx_i s)] [] (hC I J h, μ) Q := mx_lp_ok (P := fun s : Int32 => mx_WP (d + 3) 101 48 [some (mx_r (some (0, 8, 0))), some (mx_i x1), some (mx_i x2), some (mx_r (some (0, 4, x3))), some (mx_i s)] [] (hC I J h, μ) Q) (E := (Sum.elim (fun x : Int32 => mx_WP (d + 3) 101 95 [some (mx_r (some (0, 8, 0))), some (mx_i x1), some (mx_i x2), some (mx_r (some (0, 4, x3))), some (mx_i x)] [] (hC I J h, μ) Q) (fun x : Bool => Q (some (mx_i (b2i x))) (hC I J h, μ)))) (fun s o hf hk => B101_48 hf hk) n s o hf hk
def f101 (x1 : Int32) (I : Nat → Nat → Nat → Int32) (J : Nat → Nat → Nat → Int64) : Option (Bool) :=
  (f80 x1 I).bind fun u1 =>
  (f45 u1 (500068609904 : Int64) I J).bind fun u2 =>
  (f100 u2 I J).bind fun u3 =>
  if u3 = (-1 : Int32) then (some false) else (f102 u3 I J).bind fun u5 =>
  if u5 = true then ((f81 x1).bind fun u7 =>
  (mx_lp (b101_48 x1 u3 u7 I J) mx_fu (0 : Int32)).bind fun u117 => Sum.elim (fun w119 =>
  some true) (fun y120 => some y120) u117) else some true
theorem T101 {d : Nat} {x1 : Int32} {I : Nat → Nat → Nat → Int32} {J : Nat → Nat → Nat → Int64} {h : Nat → Nat} {μ : mx_Rg × (Nat × (Nat → Int32)) × (Nat × Nat)} {Q : Option mx_V → mx_Hp → Prop} {o : Bool} (hf : f101 x1 I J = some o) (hk : Q (some (mx_i (b2i o))) (hC I J h, μ)) : mx_WP (d + 3) 101 0 (mx_ent 101 [mx_r (some (0, 8, 0)), mx_i x1]) [] (hC I J h, μ) Q := by
  unfold f101 at hf
  refine mx_WP.go 4 (pc' := 6) (L' := [some (mx_r (some (0, 8, 0))), some (mx_i x1), none, none, none]) (st' := [mx_i x1, mx_r (some (0, 7, 0)), mx_r (some (0, 8, 0))]) (σ' := (hC I J h, μ)) rfl ?_
  obtain ⟨u1, e125, hf⟩ := Option.bind_eq_some_iff.mp hf
  refine mx_WP.call (d := d + 2) (y := 80) (as := [mx_r (some (0, 7, 0)), mx_i x1]) (pc' := 9) (r := [mx_r (some (0, 8, 0))]) rfl rfl (T80 (d := d + 1)  e125 ?_)
  show mx_WP (d + 3) 101 9 [some (mx_r (some (0, 8, 0))), some (mx_i x1), none, none, none] [mx_r (some (0, 3, u1)), mx_r (some (0, 8, 0))] (hC I J h, μ) Q
  refine mx_WP.go 1 (pc' := 12) (L' := [some (mx_r (some (0, 8, 0))), some (mx_i x1), none, none, none]) (st' := [mx_l (500068609904 : Int64), mx_r (some (0, 3, u1)), mx_r (some (0, 8, 0))]) (σ' := (hC I J h, μ)) rfl ?_
  obtain ⟨u2, e124, hf⟩ := Option.bind_eq_some_iff.mp hf
  refine mx_WP.call (d := d + 2) (y := 45) (as := [mx_r (some (0, 3, u1)), mx_l (500068609904 : Int64)]) (pc' := 15) (r := [mx_r (some (0, 8, 0))]) rfl rfl (T45 (d := d + 2)  e124 ?_)
  show mx_WP (d + 3) 101 15 [some (mx_r (some (0, 8, 0))), some (mx_i x1), none, none, none] [mx_l u2, mx_r (some (0, 8, 0))] (hC I J h, μ) Q
  obtain ⟨u3, e123, hf⟩ := Option.bind_eq_some_iff.mp hf
  refine mx_WP.call (d := d + 2) (y := 100) (as := [mx_r (some (0, 8, 0)), mx_l u2]) (pc' := 18) (r := []) rfl rfl (T100 (d := d + 0)  e123 ?_)
  show mx_WP (d + 3) 101 18 [some (mx_r (some (0, 8, 0))), some (mx_i x1), none, none, none] [mx_i u3] (hC I J h, μ) Q
  refine mx_WP.go 3 (pc' := 21) (L' := [some (mx_r (some (0, 8, 0))), some (mx_i x1), some (mx_i u3), none, none]) (st' := [mx_i (-1 : Int32), mx_i u3]) (σ' := (hC I J h, μ)) rfl ?_
  by_cases c4 : u3 = (-1 : Int32)
  · rw [if_pos c4] at hf
    refine mx_WP.bne (x := u3) (y := (-1 : Int32)) (q := 26) (p3 := 24) rfl (fun hh => absurd c4 hh) (fun _ => ?_)
    refine mx_WP.go 1 (pc' := 25) (L' := [some (mx_r (some (0, 8, 0))), some (mx_i x1), some (mx_i u3), none, none]) (st' := [mx_i (0 : Int32)]) (σ' := (hC I J h, μ)) rfl ?_
    rw [← Option.some.inj hf] at hk
    refine mx_WP.ret (v := some (mx_i (0 : Int32))) rfl ?_
    exact hk
  · rw [if_neg c4] at hf
    refine mx_WP.bne (x := u3) (y := (-1 : Int32)) (q := 26) (p3 := 24) rfl (fun _ => ?_) (fun hh => absurd c4 hh)
    refine mx_WP.go 2 (pc' := 28) (L' := [some (mx_r (some (0, 8, 0))), some (mx_i x1), some (mx_i u3), none, none]) (st' := [mx_i u3, mx_r (some (0, 8, 0))]) (σ' := (hC I J h, μ)) rfl ?_
    obtain ⟨u5, e122, hf⟩ := Option.bind_eq_some_iff.mp hf
    refine mx_WP.call (d := d + 2) (y := 102) (as := [mx_r (some (0, 8, 0)), mx_i u3]) (pc' := 31) (r := []) rfl rfl (T102 (d := d + 0)  e122 ?_)
    show mx_WP (d + 3) 101 31 [some (mx_r (some (0, 8, 0))), some (mx_i x1), some (mx_i u3), none, none] [mx_i (b2i u5)] (hC I J h, μ) Q
    by_cases c6 : u5 = true
    · rw [if_pos c6] at hf
      refine mx_WP.zne (b := u5) (q := 36) (p3 := 34) rfl (fun _ => ?_) (fun hh => absurd hh (by simp [c6]))
      refine mx_WP.go 3 (pc' := 41) (L' := [some (mx_r (some (0, 8, 0))), some (mx_i x1), some (mx_i u3), none, none]) (st' := [mx_i x1, mx_r (some (0, 7, 0))]) (σ' := (hC I J h, μ)) rfl ?_
      obtain ⟨u7, e121, hf⟩ := Option.bind_eq_some_iff.mp hf
      refine mx_WP.call (d := d + 2) (y := 81) (as := [mx_r (some (0, 7, 0)), mx_i x1]) (pc' := 44) (r := []) rfl rfl (T81 (d := d + 2)  e121 ?_)
      show mx_WP (d + 3) 101 44 [some (mx_r (some (0, 8, 0))), some (mx_i x1), some (mx_i u3), none, none] [mx_r (some (0, 4, u7))] (hC I J h, μ) Q
      refine mx_WP.go 3 (pc' := 48) (L' := [some (mx_r (some (0, 8, 0))), some (mx_i x1), some (mx_i u3), some (mx_r (some (0, 4, u7))), some (mx_i (0 : Int32))]) (st' := []) (σ' := (hC I J h, μ)) rfl ?_
      obtain ⟨u117, e118, hf⟩ := Option.bind_eq_some_iff.mp hf
      cases u117 with
      | inr y120 =>
        rw [Sum.elim_inr] at hf
        rw [← Option.some.inj hf] at hk
        exact (L101_48 (d := d) e118 hk)
      | inl w119 =>
        rw [Sum.elim_inl] at hf
        refine (L101_48 (d := d) e118 ?_)
        show mx_WP (d + 3) 101 95 [some (mx_r (some (0, 8, 0))), some (mx_i x1), some (mx_i u3), some (mx_r (some (0, 4, u7))), some (mx_i w119)] [] (hC I J h, μ) Q
        refine mx_WP.go 1 (pc' := 96) (L' := [some (mx_r (some (0, 8, 0))), some (mx_i x1), some (mx_i u3), some (mx_r (some (0, 4, u7))), some (mx_i w119)]) (st' := [mx_i (1 : Int32)]) (σ' := (hC I J h, μ)) rfl ?_
        rw [← Option.some.inj hf] at hk
        refine mx_WP.ret (v := some (mx_i (1 : Int32))) rfl ?_
        exact hk
    · rw [if_neg c6] at hf
      refine mx_WP.zne (b := u5) (q := 36) (p3 := 34) rfl (fun hh => absurd hh (by simp [c6])) (fun _ => ?_)
      refine mx_WP.go 1 (pc' := 35) (L' := [some (mx_r (some (0, 8, 0))), some (mx_i x1), some (mx_i u3), none, none]) (st' := [mx_i (1 : Int32)]) (σ' := (hC I J h, μ)) rfl ?_
      rw [← Option.some.inj hf] at hk
      refine mx_WP.ret (v := some (mx_i (1 : Int32))) rfl ?_
      exact hk
def b97_6 (x1 : Nat) (I : Nat → Nat → Nat → Int32) (J : Nat → Nat → Nat → Int64) (s : Int32 × (Nat → Nat → Nat → Int32)) : Option ((Int32 × (Nat → Nat → Nat → Int32)) ⊕ (Int32 × (Nat → Nat → Nat → Int32))) :=
  if (128 : Int32) ≤ s.1 then (some (Sum.inr (s.1, s.2))) else if s.1 < 0 ∨ 128 ≤ s.1.toNatClampNeg then none else if s.1 < 0 ∨ 128 ≤ s.1.toNatClampNeg then none else (f99 s.1 (7632997 : Int64) (mx_u3 s.2 76 0 s.1.toNatClampNeg (vp_nar .boolean (s.2 75 0 s.1.toNatClampNeg))) J).bind fun u105 =>
  if u105 = true then ((f101 s.1 (mx_u3 s.2 76 0 s.1.toNatClampNeg (vp_nar .boolean (s.2 75 0 s.1.toNatClampNeg))) J).bind fun u107 =>
  if u107 = true then (if s.1 < 0 ∨ 128 ≤ s.1.toNatClampNeg then none else some (Sum.inl (s.1 + 1, (mx_u3 (mx_u3 s.2 76 0 s.1.toNatClampNeg (vp_nar .boolean (s.2 75 0 s.1.toNatClampNeg))) 75 0 s.1.toNatClampNeg (vp_nar .boolean (1 : Int32)))))) else if s.1 < 0 ∨ 128 ≤ s.1.toNatClampNeg then none else some (Sum.inl (s.1 + 1, (mx_u3 (mx_u3 s.2 76 0 s.1.toNatClampNeg (vp_nar .boolean (s.2 75 0 s.1.toNatClampNeg))) 75 0 s.1.toNatClampNeg (vp_nar .boolean (0 : Int32)))))) else if s.1 < 0 ∨ 128 ≤ s.1.toNatClampNeg then none else some (Sum.inl (s.1 + 1, (mx_u3 (mx_u3 s.2 76 0 s.1.toNatClampNeg (vp_nar .boolean (s.2 75 0 s.1.toNatClampNeg))) 75 0 s.1.toNatClampNeg (vp_nar .boolean (0 : Int32)))))
theorem B97_6 {d : Nat} {x1 : Nat} {I : Nat → Nat → Nat → Int32} {J : Nat → Nat → Nat → Int64} {h : Nat → Nat} {μ : mx_Rg × (Nat × (Nat → Int32)) × (Nat × Nat)} {Q : Option mx_V → mx_Hp → Prop} {s : Int32 × (Nat → Nat → Nat → Int32)} {o : (Int32 × (Nat → Nat → Nat → Int32)) ⊕ (Int32 × (Nat → Nat → Nat → Int32))} (hf : b97_6 x1 I J s = some o) (hk : Sum.elim (fun s : Int32 × (Nat → Nat → Nat → Int32) => mx_WP (d + 4) 97 6 [some (mx_r (some (0, 8, 0))), some (mx_r (some (0, 10, x1))), some (mx_i s.1)] [] (hC s.2 J h, μ) Q) (fun x : Int32 × (Nat → Nat → Nat → Int32) => mx_WP (d + 4) 97 61 [some (mx_r (some (0, 8, 0))), some (mx_r (some (0, 10, x1))), some (mx_i x.1)] [] (hC x.2 J h, μ) Q) o) : mx_WP (d + 4) 97 6 [some (mx_r (some (0, 8, 0))), some (mx_r (some (0, 10, x1))), some (mx_i s.1)] [] (hC s.2 J h, μ) Q := by
  unfold b97_6 at hf
  refine mx_WP.go 2 (pc' := 10) (L' := [some (mx_r (some (0, 8, 0))), some (mx_r (some (0, 10, x1))), some (mx_i s.1)]) (st' := [mx_i (128 : Int32), mx_i s.1]) (σ' := (hC s.2 J h, μ)) rfl ?_
  by_cases c102 : (128 : Int32) ≤ s.1
  · rw [if_pos c102] at hf
    refine mx_WP.bge (x := s.1) (y := (128 : Int32)) (q := 61) (p3 := 13) rfl (fun _ => ?_) (fun hh => absurd c102 hh)
    rw [← Option.some.inj hf] at hk
    exact hk
  · rw [if_neg c102] at hf
    refine mx_WP.bge (x := s.1) (y := (128 : Int32)) (q := 61) (p3 := 13) rfl (fun hh => absurd hh c102) (fun _ => ?_)
    refine mx_WP.go 6 (pc' := 23) (L' := [some (mx_r (some (0, 8, 0))), some (mx_r (some (0, 10, x1))), some (mx_i s.1)]) (st' := [mx_i s.1, mx_r (some (0, 75, 0)), mx_i s.1, mx_r (some (0, 76, 0))]) (σ' := (hC s.2 J h, μ)) rfl ?_
    by_cases c103 : s.1 < 0 ∨ 128 ≤ s.1.toNatClampNeg
    · rw [if_pos c103] at hf
      cases hf
    rw [if_neg c103] at hf
    refine mx_WP.baldx c103 ?_
    show mx_WP (d + 4) 97 24 [some (mx_r (some (0, 8, 0))), some (mx_r (some (0, 10, x1))), some (mx_i s.1)] [mx_i (s.2 75 0 s.1.toNatClampNeg), mx_i s.1, mx_r (some (0, 76, 0))] (hC s.2 J h, μ) Q
    by_cases c104 : s.1 < 0 ∨ 128 ≤ s.1.toNatClampNeg
    · rw [if_pos c104] at hf
      cases hf
    rw [if_neg c104] at hf
    refine mx_WP.bastx c104 ?_
    show mx_WP (d + 4) 97 25 [some (mx_r (some (0, 8, 0))), some (mx_r (some (0, 10, x1))), some (mx_i s.1)] [] (hC (mx_u3 s.2 76 0 s.1.toNatClampNeg (vp_nar .boolean (s.2 75 0 s.1.toNatClampNeg))) J h, μ) Q
    refine mx_WP.go 6 (pc' := 35) (L' := [some (mx_r (some (0, 8, 0))), some (mx_r (some (0, 10, x1))), some (mx_i s.1)]) (st' := [mx_l (7632997 : Int64), mx_i s.1, mx_r (some (0, 8, 0)), mx_i s.1, mx_r (some (0, 75, 0))]) (σ' := (hC (mx_u3 s.2 76 0 s.1.toNatClampNeg (vp_nar .boolean (s.2 75 0 s.1.toNatClampNeg))) J h, μ)) rfl ?_
    obtain ⟨u105, e113, hf⟩ := Option.bind_eq_some_iff.mp hf
    refine mx_WP.call (d := d + 3) (y := 99) (as := [mx_r (some (0, 8, 0)), mx_i s.1, mx_l (7632997 : Int64)]) (pc' := 38) (r := [mx_i s.1, mx_r (some (0, 75, 0))]) rfl rfl (T99 (d := d + 1)  e113 ?_)
    show mx_WP (d + 4) 97 38 [some (mx_r (some (0, 8, 0))), some (mx_r (some (0, 10, x1))), some (mx_i s.1)] [mx_i (b2i u105), mx_i s.1, mx_r (some (0, 75, 0))] (hC (mx_u3 s.2 76 0 s.1.toNatClampNeg (vp_nar .boolean (s.2 75 0 s.1.toNatClampNeg))) J h, μ) Q
    by_cases c106 : u105 = true
    · rw [if_pos c106] at hf
      refine mx_WP.zeq (b := u105) (q := 53) (p3 := 41) rfl (fun hh => absurd hh (by simp [c106])) (fun _ => ?_)
      refine mx_WP.go 2 (pc' := 43) (L' := [some (mx_r (some (0, 8, 0))), some (mx_r (some (0, 10, x1))), some (mx_i s.1)]) (st' := [mx_i s.1, mx_r (some (0, 8, 0)), mx_i s.1, mx_r (some (0, 75, 0))]) (σ' := (hC (mx_u3 s.2 76 0 s.1.toNatClampNeg (vp_nar .boolean (s.2 75 0 s.1.toNatClampNeg))) J h, μ)) rfl ?_
      obtain ⟨u107, e111, hf⟩ := Option.bind_eq_some_iff.mp hf
      refine mx_WP.call (d := d + 3) (y := 101) (as := [mx_r (some (0, 8, 0)), mx_i s.1]) (pc' := 46) (r := [mx_i s.1, mx_r (some (0, 75, 0))]) rfl rfl (T101 (d := d + 0)  e111 ?_)
      show mx_WP (d + 4) 97 46 [some (mx_r (some (0, 8, 0))), some (mx_r (some (0, 10, x1))), some (mx_i s.1)] [mx_i (b2i u107), mx_i s.1, mx_r (some (0, 75, 0))] (hC (mx_u3 s.2 76 0 s.1.toNatClampNeg (vp_nar .boolean (s.2 75 0 s.1.toNatClampNeg))) J h, μ) Q
      by_cases c108 : u107 = true
      · rw [if_pos c108] at hf
        refine mx_WP.zeq (b := u107) (q := 53) (p3 := 49) rfl (fun hh => absurd hh (by simp [c108])) (fun _ => ?_)
        refine mx_WP.go 2 (pc' := 54) (L' := [some (mx_r (some (0, 8, 0))), some (mx_r (some (0, 10, x1))), some (mx_i s.1)]) (st' := [mx_i (1 : Int32), mx_i s.1, mx_r (some (0, 75, 0))]) (σ' := (hC (mx_u3 s.2 76 0 s.1.toNatClampNeg (vp_nar .boolean (s.2 75 0 s.1.toNatClampNeg))) J h, μ)) rfl ?_
        by_cases c109 : s.1 < 0 ∨ 128 ≤ s.1.toNatClampNeg
        · rw [if_pos c109] at hf
          cases hf
        rw [if_neg c109] at hf
        refine mx_WP.bastx c109 ?_
        show mx_WP (d + 4) 97 55 [some (mx_r (some (0, 8, 0))), some (mx_r (some (0, 10, x1))), some (mx_i s.1)] [] (hC (mx_u3 (mx_u3 s.2 76 0 s.1.toNatClampNeg (vp_nar .boolean (s.2 75 0 s.1.toNatClampNeg))) 75 0 s.1.toNatClampNeg (vp_nar .boolean (1 : Int32))) J h, μ) Q
        refine mx_WP.go 2 (pc' := 6) (L' := [some (mx_r (some (0, 8, 0))), some (mx_r (some (0, 10, x1))), some (mx_i (s.1 + 1))]) (st' := []) (σ' := (hC (mx_u3 (mx_u3 s.2 76 0 s.1.toNatClampNeg (vp_nar .boolean (s.2 75 0 s.1.toNatClampNeg))) 75 0 s.1.toNatClampNeg (vp_nar .boolean (1 : Int32))) J h, μ)) rfl ?_
        rw [← Option.some.inj hf] at hk
        exact hk
      · rw [if_neg c108] at hf
        refine mx_WP.zeq (b := u107) (q := 53) (p3 := 49) rfl (fun _ => ?_) (fun hh => absurd hh (by simp [c108]))
        refine mx_WP.go 1 (pc' := 54) (L' := [some (mx_r (some (0, 8, 0))), some (mx_r (some (0, 10, x1))), some (mx_i s.1)]) (st' := [mx_i (0 : Int32), mx_i s.1, mx_r (some (0, 75, 0))]) (σ' := (hC (mx_u3 s.2 76 0 s.1.toNatClampNeg (vp_nar .boolean (s.2 75 0 s.1.toNatClampNeg))) J h, μ)) rfl ?_
        by_cases c110 : s.1 < 0 ∨ 128 ≤ s.1.toNatClampNeg
        · rw [if_pos c110] at hf
          cases hf
        rw [if_neg c110] at hf
        refine mx_WP.bastx c110 ?_
        show mx_WP (d + 4) 97 55 [some (mx_r (some (0, 8, 0))), some (mx_r (some (0, 10, x1))), some (mx_i s.1)] [] (hC (mx_u3 (mx_u3 s.2 76 0 s.1.toNatClampNeg (vp_nar .boolean (s.2 75 0 s.1.toNatClampNeg))) 75 0 s.1.toNatClampNeg (vp_nar .boolean (0 : Int32))) J h, μ) Q
        refine mx_WP.go 2 (pc' := 6) (L' := [some (mx_r (some (0, 8, 0))), some (mx_r (some (0, 10, x1))), some (mx_i (s.1 + 1))]) (st' := []) (σ' := (hC (mx_u3 (mx_u3 s.2 76 0 s.1.toNatClampNeg (vp_nar .boolean (s.2 75 0 s.1.toNatClampNeg))) 75 0 s.1.toNatClampNeg (vp_nar .boolean (0 : Int32))) J h, μ)) rfl ?_
        rw [← Option.some.inj hf] at hk
        exact hk
    · rw [if_neg c106] at hf
      refine mx_WP.zeq (b := u105) (q := 53) (p3 := 41) rfl (fun _ => ?_) (fun hh => absurd hh (by simp [c106]))
      refine mx_WP.go 1 (pc' := 54) (L' := [some (mx_r (some (0, 8, 0))), some (mx_r (some (0, 10, x1))), some (mx_i s.1)]) (st' := [mx_i (0 : Int32), mx_i s.1, mx_r (some (0, 75, 0))]) (σ' := (hC (mx_u3 s.2 76 0 s.1.toNatClampNeg (vp_nar .boolean (s.2 75 0 s.1.toNatClampNeg))) J h, μ)) rfl ?_
      by_cases c112 : s.1 < 0 ∨ 128 ≤ s.1.toNatClampNeg
      · rw [if_pos c112] at hf
        cases hf
      rw [if_neg c112] at hf
      refine mx_WP.bastx c112 ?_
      show mx_WP (d + 4) 97 55 [some (mx_r (some (0, 8, 0))), some (mx_r (some (0, 10, x1))), some (mx_i s.1)] [] (hC (mx_u3 (mx_u3 s.2 76 0 s.1.toNatClampNeg (vp_nar .boolean (s.2 75 0 s.1.toNatClampNeg))) 75 0 s.1.toNatClampNeg (vp_nar .boolean (0 : Int32))) J h, μ) Q
      refine mx_WP.go 2 (pc' := 6) (L' := [some (mx_r (some (0, 8, 0))), some (mx_r (some (0, 10, x1))), some (mx_i (s.1 + 1))]) (st' := []) (σ' := (hC (mx_u3 (mx_u3 s.2 76 0 s.1.toNatClampNeg (vp_nar .boolean (s.2 75 0 s.1.toNatClampNeg))) 75 0 s.1.toNatClampNeg (vp_nar .boolean (0 : Int32))) J h, μ)) rfl ?_
      rw [← Option.some.inj hf] at hk
      exact hk
theorem L97_6 {d : Nat} {x1 : Nat} {I : Nat → Nat → Nat → Int32} {J : Nat → Nat → Nat → Int64} {h : Nat → Nat} {μ : mx_Rg × (Nat × (Nat → Int32)) × (Nat × Nat)} {Q : Option mx_V → mx_Hp → Prop} {n : Nat} {s : Int32 × (Nat → Nat → Nat → Int32)} {o : Int32 × (Nat → Nat → Nat → Int32)} (hf : mx_lp (b97_6 x1 I J) n s = some o) (hk : (fun x : Int32 × (Nat → Nat → Nat → Int32) => mx_WP (d + 4) 97 61 [some (mx_r (some (0, 8, 0))), some (mx_r (some (0, 10, x1))), some (mx_i x.1)] [] (hC x.2 J h, μ) Q) o) : mx_WP (d + 4) 97 6 [some (mx_r (some (0, 8, 0))), some (mx_r (some (0, 10, x1))), some (mx_i s.1)] [] (hC s.2 J h, μ) Q := mx_lp_ok (P := fun s : Int32 × (Nat → Nat → Nat → Int32) => mx_WP (d + 4) 97 6 [some (mx_r (some (0, 8, 0))), some (mx_r (some (0, 10, x1))), some (mx_i s.1)] [] (hC s.2 J h, μ) Q) (E := (fun x : Int32 × (Nat → Nat → Nat → Int32) => mx_WP (d + 4) 97 61 [some (mx_r (some (0, 8, 0))), some (mx_r (some (0, 10, x1))), some (mx_i x.1)] [] (hC x.2 J h, μ) Q)) (fun s o hf hk => B97_6 hf hk) n s o hf hk
def f114 (x0 : Nat) (x1 : Int32) (I : Nat → Nat → Nat → Int32) : Option ((Nat → Nat → Nat → Int32)) :=
  if (I 10 x0 1) < 0 ∨ (hC_n 81 x0) ≤ (I 10 x0 1).toNatClampNeg then none else if (Int32.ofNat (hC_n 81 x0)) ≤ ((I 10 x0 1) + (1 : Int32)) then (some (mx_u3 (mx_u3 (mx_u3 I 81 x0 ((I 10 x0 1).toNatClampNeg) x1) 10 x0 1 (0 : Int32)) 10 x0 2 (((mx_u3 (mx_u3 I 81 x0 ((I 10 x0 1).toNatClampNeg) x1) 10 x0 1 (0 : Int32)) 10 x0 2) + (1 : Int32)))) else some (mx_u3 (mx_u3 (mx_u3 I 81 x0 ((I 10 x0 1).toNatClampNeg) x1) 10 x0 1 ((I 10 x0 1) + (1 : Int32))) 10 x0 2 (((mx_u3 (mx_u3 I 81 x0 ((I 10 x0 1).toNatClampNeg) x1) 10 x0 1 ((I 10 x0 1) + (1 : Int32))) 10 x0 2) + (1 : Int32)))
theorem T114 {d : Nat} {x0 : Nat} {x1 : Int32} {I : Nat → Nat → Nat → Int32} {J : Nat → Nat → Nat → Int64} {h : Nat → Nat} {μ : mx_Rg × (Nat × (Nat → Int32)) × (Nat × Nat)} {Q : Option mx_V → mx_Hp → Prop} {o : (Nat → Nat → Nat → Int32)} (hf : f114 x0 x1 I = some o) (hk : Q (none) (hC o J h, μ)) : mx_WP (d + 0) 114 0 (mx_ent 114 [mx_r (some (0, 10, x0)), mx_i x1]) [] (hC I J h, μ) Q := by
  unfold f114 at hf
  refine mx_WP.go 5 (pc' := 9) (L' := [some (mx_r (some (0, 10, x0))), some (mx_i x1)]) (st' := [mx_i x1, mx_i (I 10 x0 1), mx_r (some (0, 81, x0))]) (σ' := (hC I J h, μ)) rfl ?_
  by_cases c1 : (I 10 x0 1) < 0 ∨ (hC_n 81 x0) ≤ (I 10 x0 1).toNatClampNeg
  · rw [if_pos c1] at hf
    cases hf
  rw [if_neg c1] at hf
  refine mx_WP.iastx c1 ?_
  show mx_WP (d + 0) 114 10 [some (mx_r (some (0, 10, x0))), some (mx_i x1)] [] (hC (mx_u3 I 81 x0 ((I 10 x0 1).toNatClampNeg) x1) J h, μ) Q
  refine mx_WP.go 8 (pc' := 22) (L' := [some (mx_r (some (0, 10, x0))), some (mx_i x1)]) (st' := [mx_i (Int32.ofNat (hC_n 81 x0)), mx_i ((I 10 x0 1) + (1 : Int32)), mx_r (some (0, 10, x0))]) (σ' := (hC (mx_u3 I 81 x0 ((I 10 x0 1).toNatClampNeg) x1) J h, μ)) rfl ?_
  by_cases c2 : (Int32.ofNat (hC_n 81 x0)) ≤ ((I 10 x0 1) + (1 : Int32))
  · rw [if_pos c2] at hf
    refine mx_WP.bge (x := ((I 10 x0 1) + (1 : Int32))) (y := (Int32.ofNat (hC_n 81 x0))) (q := 34) (p3 := 25) rfl (fun _ => ?_) (fun hh => absurd c2 hh)
    refine mx_WP.go 8 (pc' := 48) (L' := [some (mx_r (some (0, 10, x0))), some (mx_i x1)]) (st' := []) (σ' := (hC (mx_u3 (mx_u3 (mx_u3 I 81 x0 ((I 10 x0 1).toNatClampNeg) x1) 10 x0 1 (0 : Int32)) 10 x0 2 (((mx_u3 (mx_u3 I 81 x0 ((I 10 x0 1).toNatClampNeg) x1) 10 x0 1 (0 : Int32)) 10 x0 2) + (1 : Int32))) J h, μ)) rfl ?_
    rw [← Option.some.inj hf] at hk
    refine mx_WP.ret (v := none) rfl ?_
    exact hk
  · rw [if_neg c2] at hf
    refine mx_WP.bge (x := ((I 10 x0 1) + (1 : Int32))) (y := (Int32.ofNat (hC_n 81 x0))) (q := 34) (p3 := 25) rfl (fun hh => absurd hh c2) (fun _ => ?_)
    refine mx_WP.go 12 (pc' := 48) (L' := [some (mx_r (some (0, 10, x0))), some (mx_i x1)]) (st' := []) (σ' := (hC (mx_u3 (mx_u3 (mx_u3 I 81 x0 ((I 10 x0 1).toNatClampNeg) x1) 10 x0 1 ((I 10 x0 1) + (1 : Int32))) 10 x0 2 (((mx_u3 (mx_u3 I 81 x0 ((I 10 x0 1).toNatClampNeg) x1) 10 x0 1 ((I 10 x0 1) + (1 : Int32))) 10 x0 2) + (1 : Int32))) J h, μ)) rfl ?_
    rw [← Option.some.inj hf] at hk
    refine mx_WP.ret (v := none) rfl ?_
    exact hk
def b105_7 (x1 : Nat) (x2 : Int32) (I : Nat → Nat → Nat → Int32) (s : Int32 × (Nat → Nat → Nat → Int32)) : Option ((Int32 × (Nat → Nat → Nat → Int32)) ⊕ (Int32 × (Nat → Nat → Nat → Int32))) :=
  if (128 : Int32) ≤ s.1 then (some (Sum.inr (s.1, s.2))) else if s.1 < 0 ∨ 128 ≤ s.1.toNatClampNeg then none else if (s.2 76 0 s.1.toNatClampNeg) = (0 : Int32) then (some (Sum.inl (s.1 + 1, s.2))) else if s.1 < 0 ∨ 128 ≤ s.1.toNatClampNeg then none else if (s.2 75 0 s.1.toNatClampNeg) = (0 : Int32) then ((f114 x1 s.1 s.2).bind fun u106 =>
  some (Sum.inl (s.1 + 1, u106))) else some (Sum.inl (s.1 + 1, s.2))
theorem B105_7 {d : Nat} {x1 : Nat} {x2 : Int32} {I : Nat → Nat → Nat → Int32} {J : Nat → Nat → Nat → Int64} {h : Nat → Nat} {μ : mx_Rg × (Nat × (Nat → Int32)) × (Nat × Nat)} {Q : Option mx_V → mx_Hp → Prop} {s : Int32 × (Nat → Nat → Nat → Int32)} {o : (Int32 × (Nat → Nat → Nat → Int32)) ⊕ (Int32 × (Nat → Nat → Nat → Int32))} (hf : b105_7 x1 x2 I s = some o) (hk : Sum.elim (fun s : Int32 × (Nat → Nat → Nat → Int32) => mx_WP (d + 1) 105 7 [some (mx_r (some (0, 8, 0))), some (mx_r (some (0, 10, x1))), some (mx_i x2), some (mx_i s.1)] [] (hC s.2 J h, μ) Q) (fun x : Int32 × (Nat → Nat → Nat → Int32) => mx_WP (d + 1) 105 43 [some (mx_r (some (0, 8, 0))), some (mx_r (some (0, 10, x1))), some (mx_i x2), some (mx_i x.1)] [] (hC x.2 J h, μ) Q) o) : mx_WP (d + 1) 105 7 [some (mx_r (some (0, 8, 0))), some (mx_r (some (0, 10, x1))), some (mx_i x2), some (mx_i s.1)] [] (hC s.2 J h, μ) Q := by
  unfold b105_7 at hf
  refine mx_WP.go 2 (pc' := 11) (L' := [some (mx_r (some (0, 8, 0))), some (mx_r (some (0, 10, x1))), some (mx_i x2), some (mx_i s.1)]) (st' := [mx_i (128 : Int32), mx_i s.1]) (σ' := (hC s.2 J h, μ)) rfl ?_
  by_cases c101 : (128 : Int32) ≤ s.1
  · rw [if_pos c101] at hf
    refine mx_WP.bge (x := s.1) (y := (128 : Int32)) (q := 43) (p3 := 14) rfl (fun _ => ?_) (fun hh => absurd c101 hh)
    rw [← Option.some.inj hf] at hk
    exact hk
  · rw [if_neg c101] at hf
    refine mx_WP.bge (x := s.1) (y := (128 : Int32)) (q := 43) (p3 := 14) rfl (fun hh => absurd hh c101) (fun _ => ?_)
    refine mx_WP.go 3 (pc' := 19) (L' := [some (mx_r (some (0, 8, 0))), some (mx_r (some (0, 10, x1))), some (mx_i x2), some (mx_i s.1)]) (st' := [mx_i s.1, mx_r (some (0, 76, 0))]) (σ' := (hC s.2 J h, μ)) rfl ?_
    by_cases c102 : s.1 < 0 ∨ 128 ≤ s.1.toNatClampNeg
    · rw [if_pos c102] at hf
      cases hf
    rw [if_neg c102] at hf
    refine mx_WP.baldx c102 ?_
    show mx_WP (d + 1) 105 20 [some (mx_r (some (0, 8, 0))), some (mx_r (some (0, 10, x1))), some (mx_i x2), some (mx_i s.1)] [mx_i (s.2 76 0 s.1.toNatClampNeg)] (hC s.2 J h, μ) Q
    by_cases c103 : (s.2 76 0 s.1.toNatClampNeg) = (0 : Int32)
    · rw [if_pos c103] at hf
      refine mx_WP.beq (x := (s.2 76 0 s.1.toNatClampNeg)) (y := (0 : Int32)) (q := 37) (p3 := 23) rfl (fun _ => ?_) (fun hh => absurd c103 hh)
      refine mx_WP.go 2 (pc' := 7) (L' := [some (mx_r (some (0, 8, 0))), some (mx_r (some (0, 10, x1))), some (mx_i x2), some (mx_i (s.1 + 1))]) (st' := []) (σ' := (hC s.2 J h, μ)) rfl ?_
      rw [← Option.some.inj hf] at hk
      exact hk
    · rw [if_neg c103] at hf
      refine mx_WP.beq (x := (s.2 76 0 s.1.toNatClampNeg)) (y := (0 : Int32)) (q := 37) (p3 := 23) rfl (fun hh => absurd hh c103) (fun _ => ?_)
      refine mx_WP.go 3 (pc' := 28) (L' := [some (mx_r (some (0, 8, 0))), some (mx_r (some (0, 10, x1))), some (mx_i x2), some (mx_i s.1)]) (st' := [mx_i s.1, mx_r (some (0, 75, 0))]) (σ' := (hC s.2 J h, μ)) rfl ?_
      by_cases c104 : s.1 < 0 ∨ 128 ≤ s.1.toNatClampNeg
      · rw [if_pos c104] at hf
        cases hf
      rw [if_neg c104] at hf
      refine mx_WP.baldx c104 ?_
      show mx_WP (d + 1) 105 29 [some (mx_r (some (0, 8, 0))), some (mx_r (some (0, 10, x1))), some (mx_i x2), some (mx_i s.1)] [mx_i (s.2 75 0 s.1.toNatClampNeg)] (hC s.2 J h, μ) Q
      by_cases c105 : (s.2 75 0 s.1.toNatClampNeg) = (0 : Int32)
      · rw [if_pos c105] at hf
        refine mx_WP.bne (x := (s.2 75 0 s.1.toNatClampNeg)) (y := (0 : Int32)) (q := 37) (p3 := 32) rfl (fun hh => absurd c105 hh) (fun _ => ?_)
        refine mx_WP.go 2 (pc' := 34) (L' := [some (mx_r (some (0, 8, 0))), some (mx_r (some (0, 10, x1))), some (mx_i x2), some (mx_i s.1)]) (st' := [mx_i s.1, mx_r (some (0, 10, x1))]) (σ' := (hC s.2 J h, μ)) rfl ?_
        obtain ⟨u106, e107, hf⟩ := Option.bind_eq_some_iff.mp hf
        refine mx_WP.call (d := d + 0) (y := 114) (as := [mx_r (some (0, 10, x1)), mx_i s.1]) (pc' := 37) (r := []) rfl rfl (T114 (d := d + 0)  e107 ?_)
        show mx_WP (d + 1) 105 37 [some (mx_r (some (0, 8, 0))), some (mx_r (some (0, 10, x1))), some (mx_i x2), some (mx_i s.1)] [] (hC u106 J h, μ) Q
        refine mx_WP.go 2 (pc' := 7) (L' := [some (mx_r (some (0, 8, 0))), some (mx_r (some (0, 10, x1))), some (mx_i x2), some (mx_i (s.1 + 1))]) (st' := []) (σ' := (hC u106 J h, μ)) rfl ?_
        rw [← Option.some.inj hf] at hk
        exact hk
      · rw [if_neg c105] at hf
        refine mx_WP.bne (x := (s.2 75 0 s.1.toNatClampNeg)) (y := (0 : Int32)) (q := 37) (p3 := 32) rfl (fun _ => ?_) (fun hh => absurd c105 hh)
        refine mx_WP.go 2 (pc' := 7) (L' := [some (mx_r (some (0, 8, 0))), some (mx_r (some (0, 10, x1))), some (mx_i x2), some (mx_i (s.1 + 1))]) (st' := []) (σ' := (hC s.2 J h, μ)) rfl ?_
        rw [← Option.some.inj hf] at hk
        exact hk
theorem L105_7 {d : Nat} {x1 : Nat} {x2 : Int32} {I : Nat → Nat → Nat → Int32} {J : Nat → Nat → Nat → Int64} {h : Nat → Nat} {μ : mx_Rg × (Nat × (Nat → Int32)) × (Nat × Nat)} {Q : Option mx_V → mx_Hp → Prop} {n : Nat} {s : Int32 × (Nat → Nat → Nat → Int32)} {o : Int32 × (Nat → Nat → Nat → Int32)} (hf : mx_lp (b105_7 x1 x2 I) n s = some o) (hk : (fun x : Int32 × (Nat → Nat → Nat → Int32) => mx_WP (d + 1) 105 43 [some (mx_r (some (0, 8, 0))), some (mx_r (some (0, 10, x1))), some (mx_i x2), some (mx_i x.1)] [] (hC x.2 J h, μ) Q) o) : mx_WP (d + 1) 105 7 [some (mx_r (some (0, 8, 0))), some (mx_r (some (0, 10, x1))), some (mx_i x2), some (mx_i s.1)] [] (hC s.2 J h, μ) Q := mx_lp_ok (P := fun s : Int32 × (Nat → Nat → Nat → Int32) => mx_WP (d + 1) 105 7 [some (mx_r (some (0, 8, 0))), some (mx_r (some (0, 10, x1))), some (mx_i x2), some (mx_i s.1)] [] (hC s.2 J h, μ) Q) (E := (fun x : Int32 × (Nat → Nat → Nat → Int32) => mx_WP (d + 1) 105 43 [some (mx_r (some (0, 8, 0))), some (mx_r (some (0, 10, x1))), some (mx_i x2), some (mx_i x.1)] [] (hC x.2 J h, μ) Q)) (fun s o hf hk => B105_7 hf hk) n s o hf hk
def b105_45 (x1 : Nat) (x2 : Int32) (I : Nat → Nat → Nat → Int32) (s : Int32 × (Nat → Nat → Nat → Int32)) : Option ((Int32 × (Nat → Nat → Nat → Int32)) ⊕ (Int32 × (Nat → Nat → Nat → Int32))) :=
  if (128 : Int32) ≤ s.1 then (some (Sum.inr (s.1, s.2))) else if s.1 < 0 ∨ 128 ≤ s.1.toNatClampNeg then none else if (s.2 75 0 s.1.toNatClampNeg) = (0 : Int32) then (some (Sum.inl (s.1 + 1, s.2))) else if s.1 < 0 ∨ 128 ≤ s.1.toNatClampNeg then none else if (s.2 76 0 s.1.toNatClampNeg) = (0 : Int32) then ((f114 x1 (s.1 + (128 : Int32)) s.2).bind fun u215 =>
  some (Sum.inl (s.1 + 1, u215))) else some (Sum.inl (s.1 + 1, s.2))
theorem B105_45 {d : Nat} {x1 : Nat} {x2 : Int32} {I : Nat → Nat → Nat → Int32} {J : Nat → Nat → Nat → Int64} {h : Nat → Nat} {μ : mx_Rg × (Nat × (Nat → Int32)) × (Nat × Nat)} {Q : Option mx_V → mx_Hp → Prop} {s : Int32 × (Nat → Nat → Nat → Int32)} {o : (Int32 × (Nat → Nat → Nat → Int32)) ⊕ (Int32 × (Nat → Nat → Nat → Int32))} (hf : b105_45 x1 x2 I s = some o) (hk : Sum.elim (fun s : Int32 × (Nat → Nat → Nat → Int32) => mx_WP (d + 1) 105 45 [some (mx_r (some (0, 8, 0))), some (mx_r (some (0, 10, x1))), some (mx_i x2), some (mx_i s.1)] [] (hC s.2 J h, μ) Q) (fun x : Int32 × (Nat → Nat → Nat → Int32) => mx_WP (d + 1) 105 85 [some (mx_r (some (0, 8, 0))), some (mx_r (some (0, 10, x1))), some (mx_i x2), some (mx_i x.1)] [] (hC x.2 J h, μ) Q) o) : mx_WP (d + 1) 105 45 [some (mx_r (some (0, 8, 0))), some (mx_r (some (0, 10, x1))), some (mx_i x2), some (mx_i s.1)] [] (hC s.2 J h, μ) Q := by
  unfold b105_45 at hf
  refine mx_WP.go 2 (pc' := 49) (L' := [some (mx_r (some (0, 8, 0))), some (mx_r (some (0, 10, x1))), some (mx_i x2), some (mx_i s.1)]) (st' := [mx_i (128 : Int32), mx_i s.1]) (σ' := (hC s.2 J h, μ)) rfl ?_
  by_cases c210 : (128 : Int32) ≤ s.1
  · rw [if_pos c210] at hf
    refine mx_WP.bge (x := s.1) (y := (128 : Int32)) (q := 85) (p3 := 52) rfl (fun _ => ?_) (fun hh => absurd c210 hh)
    rw [← Option.some.inj hf] at hk
    exact hk
  · rw [if_neg c210] at hf
    refine mx_WP.bge (x := s.1) (y := (128 : Int32)) (q := 85) (p3 := 52) rfl (fun hh => absurd hh c210) (fun _ => ?_)
    refine mx_WP.go 3 (pc' := 57) (L' := [some (mx_r (some (0, 8, 0))), some (mx_r (some (0, 10, x1))), some (mx_i x2), some (mx_i s.1)]) (st' := [mx_i s.1, mx_r (some (0, 75, 0))]) (σ' := (hC s.2 J h, μ)) rfl ?_
    by_cases c211 : s.1 < 0 ∨ 128 ≤ s.1.toNatClampNeg
    · rw [if_pos c211] at hf
      cases hf
    rw [if_neg c211] at hf
    refine mx_WP.baldx c211 ?_
    show mx_WP (d + 1) 105 58 [some (mx_r (some (0, 8, 0))), some (mx_r (some (0, 10, x1))), some (mx_i x2), some (mx_i s.1)] [mx_i (s.2 75 0 s.1.toNatClampNeg)] (hC s.2 J h, μ) Q
    by_cases c212 : (s.2 75 0 s.1.toNatClampNeg) = (0 : Int32)
    · rw [if_pos c212] at hf
      refine mx_WP.beq (x := (s.2 75 0 s.1.toNatClampNeg)) (y := (0 : Int32)) (q := 79) (p3 := 61) rfl (fun _ => ?_) (fun hh => absurd c212 hh)
      refine mx_WP.go 2 (pc' := 45) (L' := [some (mx_r (some (0, 8, 0))), some (mx_r (some (0, 10, x1))), some (mx_i x2), some (mx_i (s.1 + 1))]) (st' := []) (σ' := (hC s.2 J h, μ)) rfl ?_
      rw [← Option.some.inj hf] at hk
      exact hk
    · rw [if_neg c212] at hf
      refine mx_WP.beq (x := (s.2 75 0 s.1.toNatClampNeg)) (y := (0 : Int32)) (q := 79) (p3 := 61) rfl (fun hh => absurd hh c212) (fun _ => ?_)
      refine mx_WP.go 3 (pc' := 66) (L' := [some (mx_r (some (0, 8, 0))), some (mx_r (some (0, 10, x1))), some (mx_i x2), some (mx_i s.1)]) (st' := [mx_i s.1, mx_r (some (0, 76, 0))]) (σ' := (hC s.2 J h, μ)) rfl ?_
      by_cases c213 : s.1 < 0 ∨ 128 ≤ s.1.toNatClampNeg
      · rw [if_pos c213] at hf
        cases hf
      rw [if_neg c213] at hf
      refine mx_WP.baldx c213 ?_
      show mx_WP (d + 1) 105 67 [some (mx_r (some (0, 8, 0))), some (mx_r (some (0, 10, x1))), some (mx_i x2), some (mx_i s.1)] [mx_i (s.2 76 0 s.1.toNatClampNeg)] (hC s.2 J h, μ) Q
      by_cases c214 : (s.2 76 0 s.1.toNatClampNeg) = (0 : Int32)
      · rw [if_pos c214] at hf
        refine mx_WP.bne (x := (s.2 76 0 s.1.toNatClampNeg)) (y := (0 : Int32)) (q := 79) (p3 := 70) rfl (fun hh => absurd c214 hh) (fun _ => ?_)
        refine mx_WP.go 4 (pc' := 76) (L' := [some (mx_r (some (0, 8, 0))), some (mx_r (some (0, 10, x1))), some (mx_i x2), some (mx_i s.1)]) (st' := [mx_i (s.1 + (128 : Int32)), mx_r (some (0, 10, x1))]) (σ' := (hC s.2 J h, μ)) rfl ?_
        obtain ⟨u215, e216, hf⟩ := Option.bind_eq_some_iff.mp hf
        refine mx_WP.call (d := d + 0) (y := 114) (as := [mx_r (some (0, 10, x1)), mx_i (s.1 + (128 : Int32))]) (pc' := 79) (r := []) rfl rfl (T114 (d := d + 0)  e216 ?_)
        show mx_WP (d + 1) 105 79 [some (mx_r (some (0, 8, 0))), some (mx_r (some (0, 10, x1))), some (mx_i x2), some (mx_i s.1)] [] (hC u215 J h, μ) Q
        refine mx_WP.go 2 (pc' := 45) (L' := [some (mx_r (some (0, 8, 0))), some (mx_r (some (0, 10, x1))), some (mx_i x2), some (mx_i (s.1 + 1))]) (st' := []) (σ' := (hC u215 J h, μ)) rfl ?_
        rw [← Option.some.inj hf] at hk
        exact hk
      · rw [if_neg c214] at hf
        refine mx_WP.bne (x := (s.2 76 0 s.1.toNatClampNeg)) (y := (0 : Int32)) (q := 79) (p3 := 70) rfl (fun _ => ?_) (fun hh => absurd c214 hh)
        refine mx_WP.go 2 (pc' := 45) (L' := [some (mx_r (some (0, 8, 0))), some (mx_r (some (0, 10, x1))), some (mx_i x2), some (mx_i (s.1 + 1))]) (st' := []) (σ' := (hC s.2 J h, μ)) rfl ?_
        rw [← Option.some.inj hf] at hk
        exact hk
theorem L105_45 {d : Nat} {x1 : Nat} {x2 : Int32} {I : Nat → Nat → Nat → Int32} {J : Nat → Nat → Nat → Int64} {h : Nat → Nat} {μ : mx_Rg × (Nat × (Nat → Int32)) × (Nat × Nat)} {Q : Option mx_V → mx_Hp → Prop} {n : Nat} {s : Int32 × (Nat → Nat → Nat → Int32)} {o : Int32 × (Nat → Nat → Nat → Int32)} (hf : mx_lp (b105_45 x1 x2 I) n s = some o) (hk : (fun x : Int32 × (Nat → Nat → Nat → Int32) => mx_WP (d + 1) 105 85 [some (mx_r (some (0, 8, 0))), some (mx_r (some (0, 10, x1))), some (mx_i x2), some (mx_i x.1)] [] (hC x.2 J h, μ) Q) o) : mx_WP (d + 1) 105 45 [some (mx_r (some (0, 8, 0))), some (mx_r (some (0, 10, x1))), some (mx_i x2), some (mx_i s.1)] [] (hC s.2 J h, μ) Q := mx_lp_ok (P := fun s : Int32 × (Nat → Nat → Nat → Int32) => mx_WP (d + 1) 105 45 [some (mx_r (some (0, 8, 0))), some (mx_r (some (0, 10, x1))), some (mx_i x2), some (mx_i s.1)] [] (hC s.2 J h, μ) Q) (E := (fun x : Int32 × (Nat → Nat → Nat → Int32) => mx_WP (d + 1) 105 85 [some (mx_r (some (0, 8, 0))), some (mx_r (some (0, 10, x1))), some (mx_i x2), some (mx_i x.1)] [] (hC x.2 J h, μ) Q)) (fun s o hf hk => B105_45 hf hk) n s o hf hk
def f105 (x1 : Nat) (I : Nat → Nat → Nat → Int32) : Option (Int32 × (Nat → Nat → Nat → Int32)) :=
  (mx_lp (b105_7 x1 (I 10 x1 2) I) mx_fu ((0 : Int32), I)).bind fun u108 =>
  (mx_lp (b105_45 x1 (I 10 x1 2) u108.2) mx_fu ((0 : Int32), u108.2)).bind fun u217 =>
  some ((u217.2 10 x1 2) - (I 10 x1 2), u217.2)
theorem T105 {d : Nat} {x1 : Nat} {I : Nat → Nat → Nat → Int32} {J : Nat → Nat → Nat → Int64} {h : Nat → Nat} {μ : mx_Rg × (Nat × (Nat → Int32)) × (Nat × Nat)} {Q : Option mx_V → mx_Hp → Prop} {o : Int32 × (Nat → Nat → Nat → Int32)} (hf : f105 x1 I = some o) (hk : Q (some (mx_i o.1)) (hC o.2 J h, μ)) : mx_WP (d + 1) 105 0 (mx_ent 105 [mx_r (some (0, 8, 0)), mx_r (some (0, 10, x1))]) [] (hC I J h, μ) Q := by
  unfold f105 at hf
  refine mx_WP.go 5 (pc' := 7) (L' := [some (mx_r (some (0, 8, 0))), some (mx_r (some (0, 10, x1))), some (mx_i (I 10 x1 2)), some (mx_i (0 : Int32))]) (st' := []) (σ' := (hC I J h, μ)) rfl ?_
  obtain ⟨u108, e109, hf⟩ := Option.bind_eq_some_iff.mp hf
  refine L105_7 (d := d) e109 ?_
  show mx_WP (d + 1) 105 43 [some (mx_r (some (0, 8, 0))), some (mx_r (some (0, 10, x1))), some (mx_i (I 10 x1 2)), some (mx_i u108.1)] [] (hC u108.2 J h, μ) Q
  refine mx_WP.go 2 (pc' := 45) (L' := [some (mx_r (some (0, 8, 0))), some (mx_r (some (0, 10, x1))), some (mx_i (I 10 x1 2)), some (mx_i (0 : Int32))]) (st' := []) (σ' := (hC u108.2 J h, μ)) rfl ?_
  obtain ⟨u217, e218, hf⟩ := Option.bind_eq_some_iff.mp hf
  refine L105_45 (d := d) e218 ?_
  show mx_WP (d + 1) 105 85 [some (mx_r (some (0, 8, 0))), some (mx_r (some (0, 10, x1))), some (mx_i (I 10 x1 2)), some (mx_i u217.1)] [] (hC u217.2 J h, μ) Q
  refine mx_WP.go 4 (pc' := 91) (L' := [some (mx_r (some (0, 8, 0))), some (mx_r (some (0, 10, x1))), some (mx_i (I 10 x1 2)), some (mx_i u217.1)]) (st' := [mx_i ((u217.2 10 x1 2) - (I 10 x1 2))]) (σ' := (hC u217.2 J h, μ)) rfl ?_
  rw [← Option.some.inj hf] at hk
  refine mx_WP.ret (v := some (mx_i ((u217.2 10 x1 2) - (I 10 x1 2)))) rfl ?_
  exact hk
def f97 (x1 : Nat) (I : Nat → Nat → Nat → Int32) (J : Nat → Nat → Nat → Int64) : Option (Int32 × (Nat → Nat → Nat → Int32)) :=
  (f98 I J).bind fun u1 =>
  (mx_lp (b97_6 x1 u1 J) mx_fu ((0 : Int32), u1)).bind fun u114 =>
  (f105 x1 u114.2).bind fun u116 =>
  some (u116.1, u116.2)
theorem T97 {d : Nat} {x1 : Nat} {I : Nat → Nat → Nat → Int32} {J : Nat → Nat → Nat → Int64} {h : Nat → Nat} {μ : mx_Rg × (Nat × (Nat → Int32)) × (Nat × Nat)} {Q : Option mx_V → mx_Hp → Prop} {o : Int32 × (Nat → Nat → Nat → Int32)} (hf : f97 x1 I J = some o) (hk : Q (some (mx_i o.1)) (hC o.2 J h, μ)) : mx_WP (d + 4) 97 0 (mx_ent 97 [mx_r (some (0, 8, 0)), mx_r (some (0, 10, x1))]) [] (hC I J h, μ) Q := by
  unfold f97 at hf
  refine mx_WP.go 1 (pc' := 1) (L' := [some (mx_r (some (0, 8, 0))), some (mx_r (some (0, 10, x1))), none]) (st' := [mx_r (some (0, 8, 0))]) (σ' := (hC I J h, μ)) rfl ?_
  obtain ⟨u1, e118, hf⟩ := Option.bind_eq_some_iff.mp hf
  refine mx_WP.call (d := d + 3) (y := 98) (as := [mx_r (some (0, 8, 0))]) (pc' := 4) (r := []) rfl rfl (T98 (d := d + 0)  e118 ?_)
  show mx_WP (d + 4) 97 4 [some (mx_r (some (0, 8, 0))), some (mx_r (some (0, 10, x1))), none] [] (hC u1 J h, μ) Q
  refine mx_WP.go 2 (pc' := 6) (L' := [some (mx_r (some (0, 8, 0))), some (mx_r (some (0, 10, x1))), some (mx_i (0 : Int32))]) (st' := []) (σ' := (hC u1 J h, μ)) rfl ?_
  obtain ⟨u114, e115, hf⟩ := Option.bind_eq_some_iff.mp hf
  refine L97_6 (d := d) e115 ?_
  show mx_WP (d + 4) 97 61 [some (mx_r (some (0, 8, 0))), some (mx_r (some (0, 10, x1))), some (mx_i u114.1)] [] (hC u114.2 J h, μ) Q
  refine mx_WP.go 2 (pc' := 63) (L' := [some (mx_r (some (0, 8, 0))), some (mx_r (some (0, 10, x1))), some (mx_i u114.1)]) (st' := [mx_r (some (0, 10, x1)), mx_r (some (0, 8, 0))]) (σ' := (hC u114.2 J h, μ)) rfl ?_
  obtain ⟨u116, e117, hf⟩ := Option.bind_eq_some_iff.mp hf
  refine mx_WP.call (d := d + 3) (y := 105) (as := [mx_r (some (0, 8, 0)), mx_r (some (0, 10, x1))]) (pc' := 66) (r := []) rfl rfl (T105 (d := d + 2)  e117 ?_)
  show mx_WP (d + 4) 97 66 [some (mx_r (some (0, 8, 0))), some (mx_r (some (0, 10, x1))), some (mx_i u114.1)] [mx_i u116.1] (hC u116.2 J h, μ) Q
  rw [← Option.some.inj hf] at hk
  refine mx_WP.ret (v := some (mx_i u116.1)) rfl ?_
  exact hk
def b110_75_2  (I : Nat → Nat → Nat → Int32) (s : Int32 × (Nat → Nat → Nat → Int32)) : Option ((Int32 × (Nat → Nat → Nat → Int32)) ⊕ (Int32 × (Nat → Nat → Nat → Int32))) :=
  if (s.2 9 0 4) ≤ s.1 then (some (Sum.inr (s.1, s.2))) else if s.1 < 0 ∨ 24 ≤ s.1.toNatClampNeg then none else if (s.2 78 0 s.1.toNatClampNeg) < 0 ∨ 128 ≤ (s.2 78 0 s.1.toNatClampNeg).toNatClampNeg then none else if (s.2 75 0 ((s.2 78 0 s.1.toNatClampNeg).toNatClampNeg)) = (0 : Int32) then (if s.1 < 0 ∨ 24 ≤ s.1.toNatClampNeg then none else some (Sum.inl (s.1 + 1, (mx_u3 s.2 80 0 s.1.toNatClampNeg (vp_nar .boolean (1 : Int32)))))) else some (Sum.inl (s.1 + 1, s.2))
theorem B110_75_2 {d : Nat}  {I : Nat → Nat → Nat → Int32} {J : Nat → Nat → Nat → Int64} {h : Nat → Nat} {μ : mx_Rg × (Nat × (Nat → Int32)) × (Nat × Nat)} {Q : Option mx_V → mx_Hp → Prop} {s : Int32 × (Nat → Nat → Nat → Int32)} {o : (Int32 × (Nat → Nat → Nat → Int32)) ⊕ (Int32 × (Nat → Nat → Nat → Int32))} (hf : b110_75_2 I s = some o) (hk : Sum.elim (fun s : Int32 × (Nat → Nat → Nat → Int32) => mx_WP (d + 0) 110 2 [some (mx_r (some (0, 9, 0))), some (mx_r (some (0, 75, 0))), some (mx_i s.1)] [] (hC s.2 J h, μ) Q) (fun x : Int32 × (Nat → Nat → Nat → Int32) => mx_WP (d + 0) 110 34 [some (mx_r (some (0, 9, 0))), some (mx_r (some (0, 75, 0))), some (mx_i x.1)] [] (hC x.2 J h, μ) Q) o) : mx_WP (d + 0) 110 2 [some (mx_r (some (0, 9, 0))), some (mx_r (some (0, 75, 0))), some (mx_i s.1)] [] (hC s.2 J h, μ) Q := by
  unfold b110_75_2 at hf
  refine mx_WP.go 3 (pc' := 7) (L' := [some (mx_r (some (0, 9, 0))), some (mx_r (some (0, 75, 0))), some (mx_i s.1)]) (st' := [mx_i (s.2 9 0 4), mx_i s.1]) (σ' := (hC s.2 J h, μ)) rfl ?_
  by_cases c101 : (s.2 9 0 4) ≤ s.1
  · rw [if_pos c101] at hf
    refine mx_WP.bge (x := s.1) (y := (s.2 9 0 4)) (q := 34) (p3 := 10) rfl (fun _ => ?_) (fun hh => absurd c101 hh)
    rw [← Option.some.inj hf] at hk
    exact hk
  · rw [if_neg c101] at hf
    refine mx_WP.bge (x := s.1) (y := (s.2 9 0 4)) (q := 34) (p3 := 10) rfl (fun hh => absurd hh c101) (fun _ => ?_)
    refine mx_WP.go 4 (pc' := 16) (L' := [some (mx_r (some (0, 9, 0))), some (mx_r (some (0, 75, 0))), some (mx_i s.1)]) (st' := [mx_i s.1, mx_r (some (0, 78, 0)), mx_r (some (0, 75, 0))]) (σ' := (hC s.2 J h, μ)) rfl ?_
    by_cases c102 : s.1 < 0 ∨ 24 ≤ s.1.toNatClampNeg
    · rw [if_pos c102] at hf
      cases hf
    rw [if_neg c102] at hf
    refine mx_WP.ialdx c102 ?_
    show mx_WP (d + 0) 110 17 [some (mx_r (some (0, 9, 0))), some (mx_r (some (0, 75, 0))), some (mx_i s.1)] [mx_i (s.2 78 0 s.1.toNatClampNeg), mx_r (some (0, 75, 0))] (hC s.2 J h, μ) Q
    by_cases c103 : (s.2 78 0 s.1.toNatClampNeg) < 0 ∨ 128 ≤ (s.2 78 0 s.1.toNatClampNeg).toNatClampNeg
    · rw [if_pos c103] at hf
      cases hf
    rw [if_neg c103] at hf
    refine mx_WP.baldx c103 ?_
    show mx_WP (d + 0) 110 18 [some (mx_r (some (0, 9, 0))), some (mx_r (some (0, 75, 0))), some (mx_i s.1)] [mx_i (s.2 75 0 ((s.2 78 0 s.1.toNatClampNeg).toNatClampNeg))] (hC s.2 J h, μ) Q
    by_cases c104 : (s.2 75 0 ((s.2 78 0 s.1.toNatClampNeg).toNatClampNeg)) = (0 : Int32)
    · rw [if_pos c104] at hf
      refine mx_WP.bne (x := (s.2 75 0 ((s.2 78 0 s.1.toNatClampNeg).toNatClampNeg))) (y := (0 : Int32)) (q := 28) (p3 := 21) rfl (fun hh => absurd c104 hh) (fun _ => ?_)
      refine mx_WP.go 4 (pc' := 27) (L' := [some (mx_r (some (0, 9, 0))), some (mx_r (some (0, 75, 0))), some (mx_i s.1)]) (st' := [mx_i (1 : Int32), mx_i s.1, mx_r (some (0, 80, 0))]) (σ' := (hC s.2 J h, μ)) rfl ?_
      by_cases c105 : s.1 < 0 ∨ 24 ≤ s.1.toNatClampNeg
      · rw [if_pos c105] at hf
        cases hf
      rw [if_neg c105] at hf
      refine mx_WP.bastx c105 ?_
      show mx_WP (d + 0) 110 28 [some (mx_r (some (0, 9, 0))), some (mx_r (some (0, 75, 0))), some (mx_i s.1)] [] (hC (mx_u3 s.2 80 0 s.1.toNatClampNeg (vp_nar .boolean (1 : Int32))) J h, μ) Q
      refine mx_WP.go 2 (pc' := 2) (L' := [some (mx_r (some (0, 9, 0))), some (mx_r (some (0, 75, 0))), some (mx_i (s.1 + 1))]) (st' := []) (σ' := (hC (mx_u3 s.2 80 0 s.1.toNatClampNeg (vp_nar .boolean (1 : Int32))) J h, μ)) rfl ?_
      rw [← Option.some.inj hf] at hk
      exact hk
    · rw [if_neg c104] at hf
      refine mx_WP.bne (x := (s.2 75 0 ((s.2 78 0 s.1.toNatClampNeg).toNatClampNeg))) (y := (0 : Int32)) (q := 28) (p3 := 21) rfl (fun _ => ?_) (fun hh => absurd c104 hh)
      refine mx_WP.go 2 (pc' := 2) (L' := [some (mx_r (some (0, 9, 0))), some (mx_r (some (0, 75, 0))), some (mx_i (s.1 + 1))]) (st' := []) (σ' := (hC s.2 J h, μ)) rfl ?_
      rw [← Option.some.inj hf] at hk
      exact hk
theorem L110_75_2 {d : Nat}  {I : Nat → Nat → Nat → Int32} {J : Nat → Nat → Nat → Int64} {h : Nat → Nat} {μ : mx_Rg × (Nat × (Nat → Int32)) × (Nat × Nat)} {Q : Option mx_V → mx_Hp → Prop} {n : Nat} {s : Int32 × (Nat → Nat → Nat → Int32)} {o : Int32 × (Nat → Nat → Nat → Int32)} (hf : mx_lp (b110_75_2 I) n s = some o) (hk : (fun x : Int32 × (Nat → Nat → Nat → Int32) => mx_WP (d + 0) 110 34 [some (mx_r (some (0, 9, 0))), some (mx_r (some (0, 75, 0))), some (mx_i x.1)] [] (hC x.2 J h, μ) Q) o) : mx_WP (d + 0) 110 2 [some (mx_r (some (0, 9, 0))), some (mx_r (some (0, 75, 0))), some (mx_i s.1)] [] (hC s.2 J h, μ) Q := mx_lp_ok (P := fun s : Int32 × (Nat → Nat → Nat → Int32) => mx_WP (d + 0) 110 2 [some (mx_r (some (0, 9, 0))), some (mx_r (some (0, 75, 0))), some (mx_i s.1)] [] (hC s.2 J h, μ) Q) (E := (fun x : Int32 × (Nat → Nat → Nat → Int32) => mx_WP (d + 0) 110 34 [some (mx_r (some (0, 9, 0))), some (mx_r (some (0, 75, 0))), some (mx_i x.1)] [] (hC x.2 J h, μ) Q)) (fun s o hf hk => B110_75_2 hf hk) n s o hf hk
def f110_75 (I : Nat → Nat → Nat → Int32) : Option ((Nat → Nat → Nat → Int32)) :=
  (mx_lp (b110_75_2 I) mx_fu ((0 : Int32), I)).bind fun u106 =>
  some u106.2
theorem T110_75 {d : Nat} {I : Nat → Nat → Nat → Int32} {J : Nat → Nat → Nat → Int64} {h : Nat → Nat} {μ : mx_Rg × (Nat × (Nat → Int32)) × (Nat × Nat)} {Q : Option mx_V → mx_Hp → Prop} {o : (Nat → Nat → Nat → Int32)} (hf : f110_75 I = some o) (hk : Q (none) (hC o J h, μ)) : mx_WP (d + 0) 110 0 (mx_ent 110 [mx_r (some (0, 9, 0)), mx_r (some (0, 75, 0))]) [] (hC I J h, μ) Q := by
  unfold f110_75 at hf
  refine mx_WP.go 2 (pc' := 2) (L' := [some (mx_r (some (0, 9, 0))), some (mx_r (some (0, 75, 0))), some (mx_i (0 : Int32))]) (st' := []) (σ' := (hC I J h, μ)) rfl ?_
  obtain ⟨u106, e107, hf⟩ := Option.bind_eq_some_iff.mp hf
  refine L110_75_2 (d := d) e107 ?_
  show mx_WP (d + 0) 110 34 [some (mx_r (some (0, 9, 0))), some (mx_r (some (0, 75, 0))), some (mx_i u106.1)] [] (hC u106.2 J h, μ) Q
  rw [← Option.some.inj hf] at hk
  refine mx_WP.ret (v := none) rfl ?_
  exact hk
def f12 (I : Nat → Nat → Nat → Int32) (J : Nat → Nat → Nat → Int64) : Option (Int32 × (Nat → Nat → Nat → Int32)) :=
  (f97 1 I J).bind fun u1 =>
  (f110_75 u1.2).bind fun u2 =>
  some (u1.1, u2)
theorem T12 {d : Nat} {I : Nat → Nat → Nat → Int32} {J : Nat → Nat → Nat → Int64} {h : Nat → Nat} {μ : mx_Rg × (Nat × (Nat → Int32)) × (Nat × Nat)} {Q : Option mx_V → mx_Hp → Prop} {o : Int32 × (Nat → Nat → Nat → Int32)} (hf : f12 I J = some o) (hk : Q (some (mx_i o.1)) (hC o.2 J h, μ)) : mx_WP (d + 5) 12 0 (mx_ent 12 [mx_r (some (0, 0, 0))]) [] (hC I J h, μ) Q := by
  unfold f12 at hf
  refine mx_WP.go 4 (pc' := 8) (L' := [some (mx_r (some (0, 0, 0))), none]) (st' := [mx_r (some (0, 10, 1)), mx_r (some (0, 8, 0))]) (σ' := (hC I J h, μ)) rfl ?_
  obtain ⟨u1, e4, hf⟩ := Option.bind_eq_some_iff.mp hf
  refine mx_WP.call (d := d + 4) (y := 97) (as := [mx_r (some (0, 8, 0)), mx_r (some (0, 10, 1))]) (pc' := 11) (r := []) rfl rfl (T97 (d := d + 0)  e4 ?_)
  show mx_WP (d + 5) 12 11 [some (mx_r (some (0, 0, 0))), none] [mx_i u1.1] (hC u1.2 J h, μ) Q
  refine mx_WP.go 6 (pc' := 23) (L' := [some (mx_r (some (0, 0, 0))), some (mx_i u1.1)]) (st' := [mx_r (some (0, 75, 0)), mx_r (some (0, 9, 0))]) (σ' := (hC u1.2 J h, μ)) rfl ?_
  obtain ⟨u2, e3, hf⟩ := Option.bind_eq_some_iff.mp hf
  refine mx_WP.call (d := d + 4) (y := 110) (as := [mx_r (some (0, 9, 0)), mx_r (some (0, 75, 0))]) (pc' := 26) (r := []) rfl rfl (T110_75 (d := d + 4)  e3 ?_)
  show mx_WP (d + 5) 12 26 [some (mx_r (some (0, 0, 0))), some (mx_i u1.1)] [] (hC u2 J h, μ) Q
  refine mx_WP.go 1 (pc' := 27) (L' := [some (mx_r (some (0, 0, 0))), some (mx_i u1.1)]) (st' := [mx_i u1.1]) (σ' := (hC u2 J h, μ)) rfl ?_
  rw [← Option.some.inj hf] at hk
  refine mx_WP.ret (v := some (mx_i u1.1)) rfl ?_
  exact hk
def f74 (x0 : Nat) (I : Nat → Nat → Nat → Int32) : Option (Int32) :=
  if (I 6 x0 9) = (-1 : Int32) then (some (0 : Int32)) else some (1 : Int32)
theorem T74 {d : Nat} {x0 : Nat} {I : Nat → Nat → Nat → Int32} {J : Nat → Nat → Nat → Int64} {h : Nat → Nat} {μ : mx_Rg × (Nat × (Nat → Int32)) × (Nat × Nat)} {Q : Option mx_V → mx_Hp → Prop} {o : Int32} (hf : f74 x0 I = some o) (hk : Q (some (mx_i o)) (hC I J h, μ)) : mx_WP (d + 0) 74 0 (mx_ent 74 [mx_r (some (0, 6, x0))]) [] (hC I J h, μ) Q := by
  unfold f74 at hf
  refine mx_WP.go 3 (pc' := 5) (L' := [some (mx_r (some (0, 6, x0)))]) (st' := [mx_i (-1 : Int32), mx_i (I 6 x0 9)]) (σ' := (hC I J h, μ)) rfl ?_
  by_cases c1 : (I 6 x0 9) = (-1 : Int32)
  · rw [if_pos c1] at hf
    refine mx_WP.bne (x := (I 6 x0 9)) (y := (-1 : Int32)) (q := 12) (p3 := 8) rfl (fun hh => absurd c1 hh) (fun _ => ?_)
    refine mx_WP.go 2 (pc' := 13) (L' := [some (mx_r (some (0, 6, x0)))]) (st' := [mx_i (0 : Int32)]) (σ' := (hC I J h, μ)) rfl ?_
    rw [← Option.some.inj hf] at hk
    refine mx_WP.ret (v := some (mx_i (0 : Int32))) rfl ?_
    exact hk
  · rw [if_neg c1] at hf
    refine mx_WP.bne (x := (I 6 x0 9)) (y := (-1 : Int32)) (q := 12) (p3 := 8) rfl (fun _ => ?_) (fun hh => absurd c1 hh)
    refine mx_WP.go 1 (pc' := 13) (L' := [some (mx_r (some (0, 6, x0)))]) (st' := [mx_i (1 : Int32)]) (σ' := (hC I J h, μ)) rfl ?_
    rw [← Option.some.inj hf] at hk
    refine mx_WP.ret (v := some (mx_i (1 : Int32))) rfl ?_
    exact hk
def f11 (x1 : Int32) (x2 : Int32) (I : Nat → Nat → Nat → Int32) (J : Nat → Nat → Nat → Int64) (h : Nat → Nat) : Option (Int32 × (Nat → Nat → Nat → Int32) × (Nat → Nat → Nat → Int64) × (Nat → Nat)) :=
  (f4 x1).bind fun u1 =>
  if u1 = true then (if x2 < (0 : Int32) then (some ((-1 : Int32), I, J, h)) else if x2 ≤ (255 : Int32) then (if x1 < 0 ∨ 8 ≤ x1.toNatClampNeg then none else if (I 6 x1.toNatClampNeg 3) = (0 : Int32) then ((f72 x1.toNatClampNeg x2 I J h).bind fun u7 =>
  (f32 u7.1 u7.2.1).bind fun u8 =>
  (f78 u8.1).bind fun u9 =>
  (f12 u9 u8.2).bind fun u10 =>
  (f74 x1.toNatClampNeg u10.2).bind fun u11 =>
  some (u11, u10.2, u8.2, u7.2.2)) else some ((-3 : Int32), I, J, h)) else some ((-1 : Int32), I, J, h)) else some ((-1 : Int32), I, J, h)
theorem T11 {d : Nat} {x1 : Int32} {x2 : Int32} {I : Nat → Nat → Nat → Int32} {J : Nat → Nat → Nat → Int64} {h : Nat → Nat} {μ : mx_Rg × (Nat × (Nat → Int32)) × (Nat × Nat)} {Q : Option mx_V → mx_Hp → Prop} {o : Int32 × (Nat → Nat → Nat → Int32) × (Nat → Nat → Nat → Int64) × (Nat → Nat)} (hf : f11 x1 x2 I J h = some o) (hk : Q (some (mx_i o.1)) (hC o.2.1 o.2.2.1 o.2.2.2, μ)) : mx_WP (d + 7) 11 0 (mx_ent 11 [mx_r (some (0, 0, 0)), mx_i x1, mx_i x2]) [] (hC I J h, μ) Q := by
  unfold f11 at hf
  refine mx_WP.go 1 (pc' := 1) (L' := [some (mx_r (some (0, 0, 0))), some (mx_i x1), some (mx_i x2), none]) (st' := [mx_i x1]) (σ' := (hC I J h, μ)) rfl ?_
  obtain ⟨u1, e17, hf⟩ := Option.bind_eq_some_iff.mp hf
  refine mx_WP.call (d := d + 6) (y := 4) (as := [mx_i x1]) (pc' := 4) (r := []) rfl rfl (T4 (d := d + 6)  e17 ?_)
  show mx_WP (d + 7) 11 4 [some (mx_r (some (0, 0, 0))), some (mx_i x1), some (mx_i x2), none] [mx_i (b2i u1)] (hC I J h, μ) Q
  by_cases c2 : u1 = true
  · rw [if_pos c2] at hf
    refine mx_WP.zeq (b := u1) (q := 18) (p3 := 7) rfl (fun hh => absurd hh (by simp [c2])) (fun _ => ?_)
    refine mx_WP.go 1 (pc' := 8) (L' := [some (mx_r (some (0, 0, 0))), some (mx_i x1), some (mx_i x2), none]) (st' := [mx_i x2]) (σ' := (hC I J h, μ)) rfl ?_
    by_cases c3 : x2 < (0 : Int32)
    · rw [if_pos c3] at hf
      refine mx_WP.blt (x := x2) (y := (0 : Int32)) (q := 18) (p3 := 11) rfl (fun _ => ?_) (fun hh => absurd c3 hh)
      refine mx_WP.go 1 (pc' := 19) (L' := [some (mx_r (some (0, 0, 0))), some (mx_i x1), some (mx_i x2), none]) (st' := [mx_i (-1 : Int32)]) (σ' := (hC I J h, μ)) rfl ?_
      rw [← Option.some.inj hf] at hk
      refine mx_WP.ret (v := some (mx_i (-1 : Int32))) rfl ?_
      exact hk
    · rw [if_neg c3] at hf
      refine mx_WP.blt (x := x2) (y := (0 : Int32)) (q := 18) (p3 := 11) rfl (fun hh => absurd hh c3) (fun _ => ?_)
      refine mx_WP.go 2 (pc' := 15) (L' := [some (mx_r (some (0, 0, 0))), some (mx_i x1), some (mx_i x2), none]) (st' := [mx_i (255 : Int32), mx_i x2]) (σ' := (hC I J h, μ)) rfl ?_
      by_cases c4 : x2 ≤ (255 : Int32)
      · rw [if_pos c4] at hf
        refine mx_WP.ble (x := x2) (y := (255 : Int32)) (q := 20) (p3 := 18) rfl (fun _ => ?_) (fun hh => absurd c4 hh)
        refine mx_WP.go 4 (pc' := 28) (L' := [some (mx_r (some (0, 0, 0))), some (mx_i x1), some (mx_i x2), none]) (st' := [mx_i x1, mx_r (some (0, 73, 0))]) (σ' := (hC I J h, μ)) rfl ?_
        by_cases c5 : x1 < 0 ∨ 8 ≤ x1.toNatClampNeg
        · rw [if_pos c5] at hf
          cases hf
        rw [if_neg c5] at hf
        refine mx_WP.aal73 c5 ?_
        show mx_WP (d + 7) 11 29 [some (mx_r (some (0, 0, 0))), some (mx_i x1), some (mx_i x2), none] [mx_r (some (0, 6, x1.toNatClampNeg))] (hC I J h, μ) Q
        refine mx_WP.go 3 (pc' := 34) (L' := [some (mx_r (some (0, 0, 0))), some (mx_i x1), some (mx_i x2), some (mx_r (some (0, 6, x1.toNatClampNeg)))]) (st' := [mx_i (I 6 x1.toNatClampNeg 3)]) (σ' := (hC I J h, μ)) rfl ?_
        by_cases c6 : (I 6 x1.toNatClampNeg 3) = (0 : Int32)
        · rw [if_pos c6] at hf
          refine mx_WP.beq (x := (I 6 x1.toNatClampNeg 3)) (y := (0 : Int32)) (q := 40) (p3 := 37) rfl (fun _ => ?_) (fun hh => absurd c6 hh)
          refine mx_WP.go 4 (pc' := 46) (L' := [some (mx_r (some (0, 0, 0))), some (mx_i x1), some (mx_i x2), some (mx_r (some (0, 6, x1.toNatClampNeg)))]) (st' := [mx_i x2, mx_r (some (0, 1, 0)), mx_r (some (0, 6, x1.toNatClampNeg))]) (σ' := (hC I J h, μ)) rfl ?_
          obtain ⟨u7, e16, hf⟩ := Option.bind_eq_some_iff.mp hf
          refine mx_WP.call (d := d + 6) (y := 72) (as := [mx_r (some (0, 6, x1.toNatClampNeg)), mx_r (some (0, 1, 0)), mx_i x2]) (pc' := 49) (r := []) rfl rfl (T72 (d := d + 0)  e16 ?_)
          show mx_WP (d + 7) 11 49 [some (mx_r (some (0, 0, 0))), some (mx_i x1), some (mx_i x2), some (mx_r (some (0, 6, x1.toNatClampNeg)))] [] (hC u7.1 u7.2.1 u7.2.2, μ) Q
          refine mx_WP.go 2 (pc' := 53) (L' := [some (mx_r (some (0, 0, 0))), some (mx_i x1), some (mx_i x2), some (mx_r (some (0, 6, x1.toNatClampNeg)))]) (st' := [mx_r (some (0, 1, 0))]) (σ' := (hC u7.1 u7.2.1 u7.2.2, μ)) rfl ?_
          obtain ⟨u8, e15, hf⟩ := Option.bind_eq_some_iff.mp hf
          refine mx_WP.call (d := d + 6) (y := 32) (as := [mx_r (some (0, 1, 0))]) (pc' := 56) (r := []) rfl rfl (T32 (d := d + 4)  e15 ?_)
          show mx_WP (d + 7) 11 56 [some (mx_r (some (0, 0, 0))), some (mx_i x1), some (mx_i x2), some (mx_r (some (0, 6, x1.toNatClampNeg)))] [] (hC u8.1 u8.2 u7.2.2, μ) Q
          refine mx_WP.go 2 (pc' := 60) (L' := [some (mx_r (some (0, 0, 0))), some (mx_i x1), some (mx_i x2), some (mx_r (some (0, 6, x1.toNatClampNeg)))]) (st' := [mx_r (some (0, 7, 0))]) (σ' := (hC u8.1 u8.2 u7.2.2, μ)) rfl ?_
          obtain ⟨u9, e14, hf⟩ := Option.bind_eq_some_iff.mp hf
          refine mx_WP.call (d := d + 6) (y := 78) (as := [mx_r (some (0, 7, 0))]) (pc' := 63) (r := []) rfl rfl (T78 (d := d + 5)  e14 ?_)
          show mx_WP (d + 7) 11 63 [some (mx_r (some (0, 0, 0))), some (mx_i x1), some (mx_i x2), some (mx_r (some (0, 6, x1.toNatClampNeg)))] [] (hC u9 u8.2 u7.2.2, μ) Q
          refine mx_WP.go 1 (pc' := 64) (L' := [some (mx_r (some (0, 0, 0))), some (mx_i x1), some (mx_i x2), some (mx_r (some (0, 6, x1.toNatClampNeg)))]) (st' := [mx_r (some (0, 0, 0))]) (σ' := (hC u9 u8.2 u7.2.2, μ)) rfl ?_
          obtain ⟨u10, e13, hf⟩ := Option.bind_eq_some_iff.mp hf
          refine mx_WP.call (d := d + 6) (y := 12) (as := [mx_r (some (0, 0, 0))]) (pc' := 67) (r := []) rfl rfl (T12 (d := d + 1)  e13 ?_)
          show mx_WP (d + 7) 11 67 [some (mx_r (some (0, 0, 0))), some (mx_i x1), some (mx_i x2), some (mx_r (some (0, 6, x1.toNatClampNeg)))] [mx_i u10.1] (hC u10.2 u8.2 u7.2.2, μ) Q
          refine mx_WP.go 2 (pc' := 69) (L' := [some (mx_r (some (0, 0, 0))), some (mx_i x1), some (mx_i x2), some (mx_r (some (0, 6, x1.toNatClampNeg)))]) (st' := [mx_r (some (0, 6, x1.toNatClampNeg))]) (σ' := (hC u10.2 u8.2 u7.2.2, μ)) rfl ?_
          obtain ⟨u11, e12, hf⟩ := Option.bind_eq_some_iff.mp hf
          refine mx_WP.call (d := d + 6) (y := 74) (as := [mx_r (some (0, 6, x1.toNatClampNeg))]) (pc' := 72) (r := []) rfl rfl (T74 (d := d + 6)  e12 ?_)
          show mx_WP (d + 7) 11 72 [some (mx_r (some (0, 0, 0))), some (mx_i x1), some (mx_i x2), some (mx_r (some (0, 6, x1.toNatClampNeg)))] [mx_i u11] (hC u10.2 u8.2 u7.2.2, μ) Q
          rw [← Option.some.inj hf] at hk
          refine mx_WP.ret (v := some (mx_i u11)) rfl ?_
          exact hk
        · rw [if_neg c6] at hf
          refine mx_WP.beq (x := (I 6 x1.toNatClampNeg 3)) (y := (0 : Int32)) (q := 40) (p3 := 37) rfl (fun hh => absurd hh c6) (fun _ => ?_)
          refine mx_WP.go 1 (pc' := 39) (L' := [some (mx_r (some (0, 0, 0))), some (mx_i x1), some (mx_i x2), some (mx_r (some (0, 6, x1.toNatClampNeg)))]) (st' := [mx_i (-3 : Int32)]) (σ' := (hC I J h, μ)) rfl ?_
          rw [← Option.some.inj hf] at hk
          refine mx_WP.ret (v := some (mx_i (-3 : Int32))) rfl ?_
          exact hk
      · rw [if_neg c4] at hf
        refine mx_WP.ble (x := x2) (y := (255 : Int32)) (q := 20) (p3 := 18) rfl (fun hh => absurd hh c4) (fun _ => ?_)
        refine mx_WP.go 1 (pc' := 19) (L' := [some (mx_r (some (0, 0, 0))), some (mx_i x1), some (mx_i x2), none]) (st' := [mx_i (-1 : Int32)]) (σ' := (hC I J h, μ)) rfl ?_
        rw [← Option.some.inj hf] at hk
        refine mx_WP.ret (v := some (mx_i (-1 : Int32))) rfl ?_
        exact hk
  · rw [if_neg c2] at hf
    refine mx_WP.zeq (b := u1) (q := 18) (p3 := 7) rfl (fun _ => ?_) (fun hh => absurd hh (by simp [c2]))
    refine mx_WP.go 1 (pc' := 19) (L' := [some (mx_r (some (0, 0, 0))), some (mx_i x1), some (mx_i x2), none]) (st' := [mx_i (-1 : Int32)]) (σ' := (hC I J h, μ)) rfl ?_
    rw [← Option.some.inj hf] at hk
    refine mx_WP.ret (v := some (mx_i (-1 : Int32))) rfl ?_
    exact hk
def f82 (x1 : Int32) (I : Nat → Nat → Nat → Int32) : Option ((Nat → Nat → Nat → Int32)) :=
  if x1 < 0 ∨ 8 ≤ x1.toNatClampNeg then none else if (I 6 x1.toNatClampNeg 6) = (0 : Int32) then (some I) else if x1 < 0 ∨ 8 ≤ x1.toNatClampNeg then none else (f114 0 x1 (mx_u3 I 6 x1.toNatClampNeg 6 (0 : Int32))).bind fun u4 =>
  some u4
theorem T82 {d : Nat} {x1 : Int32} {I : Nat → Nat → Nat → Int32} {J : Nat → Nat → Nat → Int64} {h : Nat → Nat} {μ : mx_Rg × (Nat × (Nat → Int32)) × (Nat × Nat)} {Q : Option mx_V → mx_Hp → Prop} {o : (Nat → Nat → Nat → Int32)} (hf : f82 x1 I = some o) (hk : Q (none) (hC o J h, μ)) : mx_WP (d + 1) 82 0 (mx_ent 82 [mx_r (some (0, 7, 0)), mx_i x1]) [] (hC I J h, μ) Q := by
  unfold f82 at hf
  refine mx_WP.go 3 (pc' := 5) (L' := [some (mx_r (some (0, 7, 0))), some (mx_i x1)]) (st' := [mx_i x1, mx_r (some (0, 73, 0))]) (σ' := (hC I J h, μ)) rfl ?_
  by_cases c1 : x1 < 0 ∨ 8 ≤ x1.toNatClampNeg
  · rw [if_pos c1] at hf
    cases hf
  rw [if_neg c1] at hf
  refine mx_WP.aal73 c1 ?_
  show mx_WP (d + 1) 82 6 [some (mx_r (some (0, 7, 0))), some (mx_i x1)] [mx_r (some (0, 6, x1.toNatClampNeg))] (hC I J h, μ) Q
  refine mx_WP.go 1 (pc' := 9) (L' := [some (mx_r (some (0, 7, 0))), some (mx_i x1)]) (st' := [mx_i (I 6 x1.toNatClampNeg 6)]) (σ' := (hC I J h, μ)) rfl ?_
  by_cases c2 : (I 6 x1.toNatClampNeg 6) = (0 : Int32)
  · rw [if_pos c2] at hf
    refine mx_WP.beq (x := (I 6 x1.toNatClampNeg 6)) (y := (0 : Int32)) (q := 30) (p3 := 12) rfl (fun _ => ?_) (fun hh => absurd c2 hh)
    rw [← Option.some.inj hf] at hk
    refine mx_WP.ret (v := none) rfl ?_
    exact hk
  · rw [if_neg c2] at hf
    refine mx_WP.beq (x := (I 6 x1.toNatClampNeg 6)) (y := (0 : Int32)) (q := 30) (p3 := 12) rfl (fun hh => absurd hh c2) (fun _ => ?_)
    refine mx_WP.go 3 (pc' := 17) (L' := [some (mx_r (some (0, 7, 0))), some (mx_i x1)]) (st' := [mx_i x1, mx_r (some (0, 73, 0))]) (σ' := (hC I J h, μ)) rfl ?_
    by_cases c3 : x1 < 0 ∨ 8 ≤ x1.toNatClampNeg
    · rw [if_pos c3] at hf
      cases hf
    rw [if_neg c3] at hf
    refine mx_WP.aal73 c3 ?_
    show mx_WP (d + 1) 82 18 [some (mx_r (some (0, 7, 0))), some (mx_i x1)] [mx_r (some (0, 6, x1.toNatClampNeg))] (hC I J h, μ) Q
    refine mx_WP.go 5 (pc' := 27) (L' := [some (mx_r (some (0, 7, 0))), some (mx_i x1)]) (st' := [mx_i x1, mx_r (some (0, 10, 0))]) (σ' := (hC (mx_u3 I 6 x1.toNatClampNeg 6 (0 : Int32)) J h, μ)) rfl ?_
    obtain ⟨u4, e5, hf⟩ := Option.bind_eq_some_iff.mp hf
    refine mx_WP.call (d := d + 0) (y := 114) (as := [mx_r (some (0, 10, 0)), mx_i x1]) (pc' := 30) (r := []) rfl rfl (T114 (d := d + 0)  e5 ?_)
    show mx_WP (d + 1) 82 30 [some (mx_r (some (0, 7, 0))), some (mx_i x1)] [] (hC u4 J h, μ) Q
    rw [← Option.some.inj hf] at hk
    refine mx_WP.ret (v := none) rfl ?_
    exact hk
def f75 (x0 : Nat) (I : Nat → Nat → Nat → Int32) : Option ((Nat → Nat → Nat → Int32)) :=
  (f48 x0 (mx_u3 I 6 x0 3 (0 : Int32))).bind fun u1 =>
  some u1
theorem T75 {d : Nat} {x0 : Nat} {I : Nat → Nat → Nat → Int32} {J : Nat → Nat → Nat → Int64} {h : Nat → Nat} {μ : mx_Rg × (Nat × (Nat → Int32)) × (Nat × Nat)} {Q : Option mx_V → mx_Hp → Prop} {o : (Nat → Nat → Nat → Int32)} (hf : f75 x0 I = some o) (hk : Q (none) (hC o J h, μ)) : mx_WP (d + 1) 75 0 (mx_ent 75 [mx_r (some (0, 6, x0))]) [] (hC I J h, μ) Q := by
  unfold f75 at hf
  refine mx_WP.go 5 (pc' := 9) (L' := [some (mx_r (some (0, 6, x0)))]) (st' := [mx_r (some (0, 4, x0))]) (σ' := (hC (mx_u3 I 6 x0 3 (0 : Int32)) J h, μ)) rfl ?_
  obtain ⟨u1, e2, hf⟩ := Option.bind_eq_some_iff.mp hf
  refine mx_WP.call (d := d + 0) (y := 48) (as := [mx_r (some (0, 4, x0))]) (pc' := 12) (r := []) rfl rfl (T48 (d := d + 0)  e2 ?_)
  show mx_WP (d + 1) 75 12 [some (mx_r (some (0, 6, x0)))] [] (hC u1 J h, μ) Q
  rw [← Option.some.inj hf] at hk
  refine mx_WP.ret (v := none) rfl ?_
  exact hk
def b83_2  (I : Nat → Nat → Nat → Int32) (s : Int32 × (Nat → Nat → Nat → Int32)) : Option ((Int32 × (Nat → Nat → Nat → Int32)) ⊕ (Int32 × (Nat → Nat → Nat → Int32))) :=
  if (8 : Int32) ≤ s.1 then (some (Sum.inr (s.1, s.2))) else if s.1 < 0 ∨ 8 ≤ s.1.toNatClampNeg then none else if (s.2 6 s.1.toNatClampNeg 4) = (0 : Int32) then ((f82 s.1 s.2).bind fun u104 =>
  some (Sum.inl (s.1 + 1, u104))) else some (Sum.inl (s.1 + 1, s.2))
theorem B83_2 {d : Nat}  {I : Nat → Nat → Nat → Int32} {J : Nat → Nat → Nat → Int64} {h : Nat → Nat} {μ : mx_Rg × (Nat × (Nat → Int32)) × (Nat × Nat)} {Q : Option mx_V → mx_Hp → Prop} {s : Int32 × (Nat → Nat → Nat → Int32)} {o : (Int32 × (Nat → Nat → Nat → Int32)) ⊕ (Int32 × (Nat → Nat → Nat → Int32))} (hf : b83_2 I s = some o) (hk : Sum.elim (fun s : Int32 × (Nat → Nat → Nat → Int32) => mx_WP (d + 2) 83 2 [some (mx_r (some (0, 7, 0))), some (mx_i s.1)] [] (hC s.2 J h, μ) Q) (fun x : Int32 × (Nat → Nat → Nat → Int32) => mx_WP (d + 2) 83 31 [some (mx_r (some (0, 7, 0))), some (mx_i x.1)] [] (hC x.2 J h, μ) Q) o) : mx_WP (d + 2) 83 2 [some (mx_r (some (0, 7, 0))), some (mx_i s.1)] [] (hC s.2 J h, μ) Q := by
  unfold b83_2 at hf
  refine mx_WP.go 2 (pc' := 5) (L' := [some (mx_r (some (0, 7, 0))), some (mx_i s.1)]) (st' := [mx_i (8 : Int32), mx_i s.1]) (σ' := (hC s.2 J h, μ)) rfl ?_
  by_cases c101 : (8 : Int32) ≤ s.1
  · rw [if_pos c101] at hf
    refine mx_WP.bge (x := s.1) (y := (8 : Int32)) (q := 31) (p3 := 8) rfl (fun _ => ?_) (fun hh => absurd c101 hh)
    rw [← Option.some.inj hf] at hk
    exact hk
  · rw [if_neg c101] at hf
    refine mx_WP.bge (x := s.1) (y := (8 : Int32)) (q := 31) (p3 := 8) rfl (fun hh => absurd hh c101) (fun _ => ?_)
    refine mx_WP.go 3 (pc' := 13) (L' := [some (mx_r (some (0, 7, 0))), some (mx_i s.1)]) (st' := [mx_i s.1, mx_r (some (0, 73, 0))]) (σ' := (hC s.2 J h, μ)) rfl ?_
    by_cases c102 : s.1 < 0 ∨ 8 ≤ s.1.toNatClampNeg
    · rw [if_pos c102] at hf
      cases hf
    rw [if_neg c102] at hf
    refine mx_WP.aal73 c102 ?_
    show mx_WP (d + 2) 83 14 [some (mx_r (some (0, 7, 0))), some (mx_i s.1)] [mx_r (some (0, 6, s.1.toNatClampNeg))] (hC s.2 J h, μ) Q
    refine mx_WP.go 1 (pc' := 17) (L' := [some (mx_r (some (0, 7, 0))), some (mx_i s.1)]) (st' := [mx_i (s.2 6 s.1.toNatClampNeg 4)]) (σ' := (hC s.2 J h, μ)) rfl ?_
    by_cases c103 : (s.2 6 s.1.toNatClampNeg 4) = (0 : Int32)
    · rw [if_pos c103] at hf
      refine mx_WP.bne (x := (s.2 6 s.1.toNatClampNeg 4)) (y := (0 : Int32)) (q := 25) (p3 := 20) rfl (fun hh => absurd c103 hh) (fun _ => ?_)
      refine mx_WP.go 2 (pc' := 22) (L' := [some (mx_r (some (0, 7, 0))), some (mx_i s.1)]) (st' := [mx_i s.1, mx_r (some (0, 7, 0))]) (σ' := (hC s.2 J h, μ)) rfl ?_
      obtain ⟨u104, e105, hf⟩ := Option.bind_eq_some_iff.mp hf
      refine mx_WP.call (d := d + 1) (y := 82) (as := [mx_r (some (0, 7, 0)), mx_i s.1]) (pc' := 25) (r := []) rfl rfl (T82 (d := d + 0)  e105 ?_)
      show mx_WP (d + 2) 83 25 [some (mx_r (some (0, 7, 0))), some (mx_i s.1)] [] (hC u104 J h, μ) Q
      refine mx_WP.go 2 (pc' := 2) (L' := [some (mx_r (some (0, 7, 0))), some (mx_i (s.1 + 1))]) (st' := []) (σ' := (hC u104 J h, μ)) rfl ?_
      rw [← Option.some.inj hf] at hk
      exact hk
    · rw [if_neg c103] at hf
      refine mx_WP.bne (x := (s.2 6 s.1.toNatClampNeg 4)) (y := (0 : Int32)) (q := 25) (p3 := 20) rfl (fun _ => ?_) (fun hh => absurd c103 hh)
      refine mx_WP.go 2 (pc' := 2) (L' := [some (mx_r (some (0, 7, 0))), some (mx_i (s.1 + 1))]) (st' := []) (σ' := (hC s.2 J h, μ)) rfl ?_
      rw [← Option.some.inj hf] at hk
      exact hk
theorem L83_2 {d : Nat}  {I : Nat → Nat → Nat → Int32} {J : Nat → Nat → Nat → Int64} {h : Nat → Nat} {μ : mx_Rg × (Nat × (Nat → Int32)) × (Nat × Nat)} {Q : Option mx_V → mx_Hp → Prop} {n : Nat} {s : Int32 × (Nat → Nat → Nat → Int32)} {o : Int32 × (Nat → Nat → Nat → Int32)} (hf : mx_lp (b83_2 I) n s = some o) (hk : (fun x : Int32 × (Nat → Nat → Nat → Int32) => mx_WP (d + 2) 83 31 [some (mx_r (some (0, 7, 0))), some (mx_i x.1)] [] (hC x.2 J h, μ) Q) o) : mx_WP (d + 2) 83 2 [some (mx_r (some (0, 7, 0))), some (mx_i s.1)] [] (hC s.2 J h, μ) Q := mx_lp_ok (P := fun s : Int32 × (Nat → Nat → Nat → Int32) => mx_WP (d + 2) 83 2 [some (mx_r (some (0, 7, 0))), some (mx_i s.1)] [] (hC s.2 J h, μ) Q) (E := (fun x : Int32 × (Nat → Nat → Nat → Int32) => mx_WP (d + 2) 83 31 [some (mx_r (some (0, 7, 0))), some (mx_i x.1)] [] (hC x.2 J h, μ) Q)) (fun s o hf hk => B83_2 hf hk) n s o hf hk
def f83 (I : Nat → Nat → Nat → Int32) : Option ((Nat → Nat → Nat → Int32)) :=
  (mx_lp (b83_2 I) mx_fu ((0 : Int32), I)).bind fun u106 =>
  some u106.2
theorem T83 {d : Nat} {I : Nat → Nat → Nat → Int32} {J : Nat → Nat → Nat → Int64} {h : Nat → Nat} {μ : mx_Rg × (Nat × (Nat → Int32)) × (Nat × Nat)} {Q : Option mx_V → mx_Hp → Prop} {o : (Nat → Nat → Nat → Int32)} (hf : f83 I = some o) (hk : Q (none) (hC o J h, μ)) : mx_WP (d + 2) 83 0 (mx_ent 83 [mx_r (some (0, 7, 0))]) [] (hC I J h, μ) Q := by
  unfold f83 at hf
  refine mx_WP.go 2 (pc' := 2) (L' := [some (mx_r (some (0, 7, 0))), some (mx_i (0 : Int32))]) (st' := []) (σ' := (hC I J h, μ)) rfl ?_
  obtain ⟨u106, e107, hf⟩ := Option.bind_eq_some_iff.mp hf
  refine L83_2 (d := d) e107 ?_
  show mx_WP (d + 2) 83 31 [some (mx_r (some (0, 7, 0))), some (mx_i u106.1)] [] (hC u106.2 J h, μ) Q
  rw [← Option.some.inj hf] at hk
  refine mx_WP.ret (v := none) rfl ?_
  exact hk
def f13 (x1 : Int32) (I : Nat → Nat → Nat → Int32) (J : Nat → Nat → Nat → Int64) : Option (Int32 × (Nat → Nat → Nat → Int32)) :=
  (f4 x1).bind fun u1 =>
  if u1 = true then (if x1 < 0 ∨ 8 ≤ x1.toNatClampNeg then none else if (I 6 x1.toNatClampNeg 3) = (0 : Int32) then (some ((-1 : Int32), I)) else (f82 x1 I).bind fun u5 =>
  if x1 < 0 ∨ 8 ≤ x1.toNatClampNeg then none else (f75 x1.toNatClampNeg u5).bind fun u7 =>
  (f78 u7).bind fun u8 =>
  (f83 u8).bind fun u9 =>
  (f12 u9 J).bind fun u10 =>
  some (u10.1, u10.2)) else some ((-1 : Int32), I)
theorem T13 {d : Nat} {x1 : Int32} {I : Nat → Nat → Nat → Int32} {J : Nat → Nat → Nat → Int64} {h : Nat → Nat} {μ : mx_Rg × (Nat × (Nat → Int32)) × (Nat × Nat)} {Q : Option mx_V → mx_Hp → Prop} {o : Int32 × (Nat → Nat → Nat → Int32)} (hf : f13 x1 I J = some o) (hk : Q (some (mx_i o.1)) (hC o.2 J h, μ)) : mx_WP (d + 6) 13 0 (mx_ent 13 [mx_r (some (0, 0, 0)), mx_i x1]) [] (hC I J h, μ) Q := by
  unfold f13 at hf
  refine mx_WP.go 1 (pc' := 1) (L' := [some (mx_r (some (0, 0, 0))), some (mx_i x1)]) (st' := [mx_i x1]) (σ' := (hC I J h, μ)) rfl ?_
  obtain ⟨u1, e16, hf⟩ := Option.bind_eq_some_iff.mp hf
  refine mx_WP.call (d := d + 5) (y := 4) (as := [mx_i x1]) (pc' := 4) (r := []) rfl rfl (T4 (d := d + 5)  e16 ?_)
  show mx_WP (d + 6) 13 4 [some (mx_r (some (0, 0, 0))), some (mx_i x1)] [mx_i (b2i u1)] (hC I J h, μ) Q
  by_cases c2 : u1 = true
  · rw [if_pos c2] at hf
    refine mx_WP.zeq (b := u1) (q := 22) (p3 := 7) rfl (fun hh => absurd hh (by simp [c2])) (fun _ => ?_)
    refine mx_WP.go 4 (pc' := 15) (L' := [some (mx_r (some (0, 0, 0))), some (mx_i x1)]) (st' := [mx_i x1, mx_r (some (0, 73, 0))]) (σ' := (hC I J h, μ)) rfl ?_
    by_cases c3 : x1 < 0 ∨ 8 ≤ x1.toNatClampNeg
    · rw [if_pos c3] at hf
      cases hf
    rw [if_neg c3] at hf
    refine mx_WP.aal73 c3 ?_
    show mx_WP (d + 6) 13 16 [some (mx_r (some (0, 0, 0))), some (mx_i x1)] [mx_r (some (0, 6, x1.toNatClampNeg))] (hC I J h, μ) Q
    refine mx_WP.go 1 (pc' := 19) (L' := [some (mx_r (some (0, 0, 0))), some (mx_i x1)]) (st' := [mx_i (I 6 x1.toNatClampNeg 3)]) (σ' := (hC I J h, μ)) rfl ?_
    by_cases c4 : (I 6 x1.toNatClampNeg 3) = (0 : Int32)
    · rw [if_pos c4] at hf
      refine mx_WP.bne (x := (I 6 x1.toNatClampNeg 3)) (y := (0 : Int32)) (q := 24) (p3 := 22) rfl (fun hh => absurd c4 hh) (fun _ => ?_)
      refine mx_WP.go 1 (pc' := 23) (L' := [some (mx_r (some (0, 0, 0))), some (mx_i x1)]) (st' := [mx_i (-1 : Int32)]) (σ' := (hC I J h, μ)) rfl ?_
      rw [← Option.some.inj hf] at hk
      refine mx_WP.ret (v := some (mx_i (-1 : Int32))) rfl ?_
      exact hk
    · rw [if_neg c4] at hf
      refine mx_WP.bne (x := (I 6 x1.toNatClampNeg 3)) (y := (0 : Int32)) (q := 24) (p3 := 22) rfl (fun _ => ?_) (fun hh => absurd c4 hh)
      refine mx_WP.go 3 (pc' := 29) (L' := [some (mx_r (some (0, 0, 0))), some (mx_i x1)]) (st' := [mx_i x1, mx_r (some (0, 7, 0))]) (σ' := (hC I J h, μ)) rfl ?_
      obtain ⟨u5, e15, hf⟩ := Option.bind_eq_some_iff.mp hf
      refine mx_WP.call (d := d + 5) (y := 82) (as := [mx_r (some (0, 7, 0)), mx_i x1]) (pc' := 32) (r := []) rfl rfl (T82 (d := d + 4)  e15 ?_)
      show mx_WP (d + 6) 13 32 [some (mx_r (some (0, 0, 0))), some (mx_i x1)] [] (hC u5 J h, μ) Q
      refine mx_WP.go 4 (pc' := 40) (L' := [some (mx_r (some (0, 0, 0))), some (mx_i x1)]) (st' := [mx_i x1, mx_r (some (0, 73, 0))]) (σ' := (hC u5 J h, μ)) rfl ?_
      by_cases c6 : x1 < 0 ∨ 8 ≤ x1.toNatClampNeg
      · rw [if_pos c6] at hf
        cases hf
      rw [if_neg c6] at hf
      refine mx_WP.aal73 c6 ?_
      show mx_WP (d + 6) 13 41 [some (mx_r (some (0, 0, 0))), some (mx_i x1)] [mx_r (some (0, 6, x1.toNatClampNeg))] (hC u5 J h, μ) Q
      obtain ⟨u7, e14, hf⟩ := Option.bind_eq_some_iff.mp hf
      refine mx_WP.call (d := d + 5) (y := 75) (as := [mx_r (some (0, 6, x1.toNatClampNeg))]) (pc' := 44) (r := []) rfl rfl (T75 (d := d + 4)  e14 ?_)
      show mx_WP (d + 6) 13 44 [some (mx_r (some (0, 0, 0))), some (mx_i x1)] [] (hC u7 J h, μ) Q
      refine mx_WP.go 2 (pc' := 48) (L' := [some (mx_r (some (0, 0, 0))), some (mx_i x1)]) (st' := [mx_r (some (0, 7, 0))]) (σ' := (hC u7 J h, μ)) rfl ?_
      obtain ⟨u8, e13, hf⟩ := Option.bind_eq_some_iff.mp hf
      refine mx_WP.call (d := d + 5) (y := 78) (as := [mx_r (some (0, 7, 0))]) (pc' := 51) (r := []) rfl rfl (T78 (d := d + 4)  e13 ?_)
      show mx_WP (d + 6) 13 51 [some (mx_r (some (0, 0, 0))), some (mx_i x1)] [] (hC u8 J h, μ) Q
      refine mx_WP.go 2 (pc' := 55) (L' := [some (mx_r (some (0, 0, 0))), some (mx_i x1)]) (st' := [mx_r (some (0, 7, 0))]) (σ' := (hC u8 J h, μ)) rfl ?_
      obtain ⟨u9, e12, hf⟩ := Option.bind_eq_some_iff.mp hf
      refine mx_WP.call (d := d + 5) (y := 83) (as := [mx_r (some (0, 7, 0))]) (pc' := 58) (r := []) rfl rfl (T83 (d := d + 3)  e12 ?_)
      show mx_WP (d + 6) 13 58 [some (mx_r (some (0, 0, 0))), some (mx_i x1)] [] (hC u9 J h, μ) Q
      refine mx_WP.go 1 (pc' := 59) (L' := [some (mx_r (some (0, 0, 0))), some (mx_i x1)]) (st' := [mx_r (some (0, 0, 0))]) (σ' := (hC u9 J h, μ)) rfl ?_
      obtain ⟨u10, e11, hf⟩ := Option.bind_eq_some_iff.mp hf
      refine mx_WP.call (d := d + 5) (y := 12) (as := [mx_r (some (0, 0, 0))]) (pc' := 62) (r := []) rfl rfl (T12 (d := d + 0)  e11 ?_)
      show mx_WP (d + 6) 13 62 [some (mx_r (some (0, 0, 0))), some (mx_i x1)] [mx_i u10.1] (hC u10.2 J h, μ) Q
      rw [← Option.some.inj hf] at hk
      refine mx_WP.ret (v := some (mx_i u10.1)) rfl ?_
      exact hk
  · rw [if_neg c2] at hf
    refine mx_WP.zeq (b := u1) (q := 22) (p3 := 7) rfl (fun _ => ?_) (fun hh => absurd hh (by simp [c2]))
    refine mx_WP.go 1 (pc' := 23) (L' := [some (mx_r (some (0, 0, 0))), some (mx_i x1)]) (st' := [mx_i (-1 : Int32)]) (σ' := (hC I J h, μ)) rfl ?_
    rw [← Option.some.inj hf] at hk
    refine mx_WP.ret (v := some (mx_i (-1 : Int32))) rfl ?_
    exact hk
def f76 (x0 : Nat) (I : Nat → Nat → Nat → Int32) : Option (Int32) :=
  if (I 6 x0 3) = (0 : Int32) then (some (0 : Int32)) else if (I 6 x0 4) = (0 : Int32) then (some (1 : Int32)) else if (I 6 x0 6) = (0 : Int32) then (some (2 : Int32)) else some (3 : Int32)
theorem T76 {d : Nat} {x0 : Nat} {I : Nat → Nat → Nat → Int32} {J : Nat → Nat → Nat → Int64} {h : Nat → Nat} {μ : mx_Rg × (Nat × (Nat → Int32)) × (Nat × Nat)} {Q : Option mx_V → mx_Hp → Prop} {o : Int32} (hf : f76 x0 I = some o) (hk : Q (some (mx_i o)) (hC I J h, μ)) : mx_WP (d + 0) 76 0 (mx_ent 76 [mx_r (some (0, 6, x0))]) [] (hC I J h, μ) Q := by
  unfold f76 at hf
  refine mx_WP.go 2 (pc' := 4) (L' := [some (mx_r (some (0, 6, x0)))]) (st' := [mx_i (I 6 x0 3)]) (σ' := (hC I J h, μ)) rfl ?_
  by_cases c1 : (I 6 x0 3) = (0 : Int32)
  · rw [if_pos c1] at hf
    refine mx_WP.bne (x := (I 6 x0 3)) (y := (0 : Int32)) (q := 9) (p3 := 7) rfl (fun hh => absurd c1 hh) (fun _ => ?_)
    refine mx_WP.go 1 (pc' := 8) (L' := [some (mx_r (some (0, 6, x0)))]) (st' := [mx_i (0 : Int32)]) (σ' := (hC I J h, μ)) rfl ?_
    rw [← Option.some.inj hf] at hk
    refine mx_WP.ret (v := some (mx_i (0 : Int32))) rfl ?_
    exact hk
  · rw [if_neg c1] at hf
    refine mx_WP.bne (x := (I 6 x0 3)) (y := (0 : Int32)) (q := 9) (p3 := 7) rfl (fun _ => ?_) (fun hh => absurd c1 hh)
    refine mx_WP.go 2 (pc' := 13) (L' := [some (mx_r (some (0, 6, x0)))]) (st' := [mx_i (I 6 x0 4)]) (σ' := (hC I J h, μ)) rfl ?_
    by_cases c2 : (I 6 x0 4) = (0 : Int32)
    · rw [if_pos c2] at hf
      refine mx_WP.bne (x := (I 6 x0 4)) (y := (0 : Int32)) (q := 18) (p3 := 16) rfl (fun hh => absurd c2 hh) (fun _ => ?_)
      refine mx_WP.go 1 (pc' := 17) (L' := [some (mx_r (some (0, 6, x0)))]) (st' := [mx_i (1 : Int32)]) (σ' := (hC I J h, μ)) rfl ?_
      rw [← Option.some.inj hf] at hk
      refine mx_WP.ret (v := some (mx_i (1 : Int32))) rfl ?_
      exact hk
    · rw [if_neg c2] at hf
      refine mx_WP.bne (x := (I 6 x0 4)) (y := (0 : Int32)) (q := 18) (p3 := 16) rfl (fun _ => ?_) (fun hh => absurd c2 hh)
      refine mx_WP.go 2 (pc' := 22) (L' := [some (mx_r (some (0, 6, x0)))]) (st' := [mx_i (I 6 x0 6)]) (σ' := (hC I J h, μ)) rfl ?_
      by_cases c3 : (I 6 x0 6) = (0 : Int32)
      · rw [if_pos c3] at hf
        refine mx_WP.beq (x := (I 6 x0 6)) (y := (0 : Int32)) (q := 29) (p3 := 25) rfl (fun _ => ?_) (fun hh => absurd c3 hh)
        refine mx_WP.go 1 (pc' := 30) (L' := [some (mx_r (some (0, 6, x0)))]) (st' := [mx_i (2 : Int32)]) (σ' := (hC I J h, μ)) rfl ?_
        rw [← Option.some.inj hf] at hk
        refine mx_WP.ret (v := some (mx_i (2 : Int32))) rfl ?_
        exact hk
      · rw [if_neg c3] at hf
        refine mx_WP.beq (x := (I 6 x0 6)) (y := (0 : Int32)) (q := 29) (p3 := 25) rfl (fun hh => absurd hh c3) (fun _ => ?_)
        refine mx_WP.go 2 (pc' := 30) (L' := [some (mx_r (some (0, 6, x0)))]) (st' := [mx_i (3 : Int32)]) (σ' := (hC I J h, μ)) rfl ?_
        rw [← Option.some.inj hf] at hk
        refine mx_WP.ret (v := some (mx_i (3 : Int32))) rfl ?_
        exact hk
def f14 (x1 : Int32) (x2 : Int32) (I : Nat → Nat → Nat → Int32) : Option (Int32) :=
  (f4 x1).bind fun u1 =>
  if u1 = true then (if x2 < (0 : Int32) then (some (-1 : Int32)) else if x2 ≤ (7 : Int32) then (if x1 < 0 ∨ 8 ≤ x1.toNatClampNeg then none else if (I 6 x1.toNatClampNeg 3) = (0 : Int32) then (some (0 : Int32)) else if x2 = (0 : Int32) then ((f76 x1.toNatClampNeg I).bind fun u8 =>
  some u8) else if x2 = (1 : Int32) then (some (I 6 x1.toNatClampNeg 7)) else if x2 = (2 : Int32) then ((f74 x1.toNatClampNeg I).bind fun u12 =>
  some u12) else if x2 = (3 : Int32) then (some (I 6 x1.toNatClampNeg 9)) else if x2 = (4 : Int32) then (some (I 6 x1.toNatClampNeg 10)) else if x2 = (5 : Int32) then (some (I 6 x1.toNatClampNeg 8)) else if x2 = (6 : Int32) then (some (I 4 x1.toNatClampNeg 2)) else (f79 x1 I).bind fun u18 =>
  some u18) else some (-1 : Int32)) else some (-1 : Int32)
theorem T14 {d : Nat} {x1 : Int32} {x2 : Int32} {I : Nat → Nat → Nat → Int32} {J : Nat → Nat → Nat → Int64} {h : Nat → Nat} {μ : mx_Rg × (Nat × (Nat → Int32)) × (Nat × Nat)} {Q : Option mx_V → mx_Hp → Prop} {o : Int32} (hf : f14 x1 x2 I = some o) (hk : Q (some (mx_i o)) (hC I J h, μ)) : mx_WP (d + 1) 14 0 (mx_ent 14 [mx_r (some (0, 0, 0)), mx_i x1, mx_i x2]) [] (hC I J h, μ) Q := by
  unfold f14 at hf
  refine mx_WP.go 1 (pc' := 1) (L' := [some (mx_r (some (0, 0, 0))), some (mx_i x1), some (mx_i x2), none]) (st' := [mx_i x1]) (σ' := (hC I J h, μ)) rfl ?_
  obtain ⟨u1, e20, hf⟩ := Option.bind_eq_some_iff.mp hf
  refine mx_WP.call (d := d + 0) (y := 4) (as := [mx_i x1]) (pc' := 4) (r := []) rfl rfl (T4 (d := d + 0)  e20 ?_)
  show mx_WP (d + 1) 14 4 [some (mx_r (some (0, 0, 0))), some (mx_i x1), some (mx_i x2), none] [mx_i (b2i u1)] (hC I J h, μ) Q
  by_cases c2 : u1 = true
  · rw [if_pos c2] at hf
    refine mx_WP.zeq (b := u1) (q := 17) (p3 := 7) rfl (fun hh => absurd hh (by simp [c2])) (fun _ => ?_)
    refine mx_WP.go 1 (pc' := 8) (L' := [some (mx_r (some (0, 0, 0))), some (mx_i x1), some (mx_i x2), none]) (st' := [mx_i x2]) (σ' := (hC I J h, μ)) rfl ?_
    by_cases c3 : x2 < (0 : Int32)
    · rw [if_pos c3] at hf
      refine mx_WP.blt (x := x2) (y := (0 : Int32)) (q := 17) (p3 := 11) rfl (fun _ => ?_) (fun hh => absurd c3 hh)
      refine mx_WP.go 1 (pc' := 18) (L' := [some (mx_r (some (0, 0, 0))), some (mx_i x1), some (mx_i x2), none]) (st' := [mx_i (-1 : Int32)]) (σ' := (hC I J h, μ)) rfl ?_
      rw [← Option.some.inj hf] at hk
      refine mx_WP.ret (v := some (mx_i (-1 : Int32))) rfl ?_
      exact hk
    · rw [if_neg c3] at hf
      refine mx_WP.blt (x := x2) (y := (0 : Int32)) (q := 17) (p3 := 11) rfl (fun hh => absurd hh c3) (fun _ => ?_)
      refine mx_WP.go 2 (pc' := 14) (L' := [some (mx_r (some (0, 0, 0))), some (mx_i x1), some (mx_i x2), none]) (st' := [mx_i (7 : Int32), mx_i x2]) (σ' := (hC I J h, μ)) rfl ?_
      by_cases c4 : x2 ≤ (7 : Int32)
      · rw [if_pos c4] at hf
        refine mx_WP.ble (x := x2) (y := (7 : Int32)) (q := 19) (p3 := 17) rfl (fun _ => ?_) (fun hh => absurd c4 hh)
        refine mx_WP.go 4 (pc' := 27) (L' := [some (mx_r (some (0, 0, 0))), some (mx_i x1), some (mx_i x2), none]) (st' := [mx_i x1, mx_r (some (0, 73, 0))]) (σ' := (hC I J h, μ)) rfl ?_
        by_cases c5 : x1 < 0 ∨ 8 ≤ x1.toNatClampNeg
        · rw [if_pos c5] at hf
          cases hf
        rw [if_neg c5] at hf
        refine mx_WP.aal73 c5 ?_
        show mx_WP (d + 1) 14 28 [some (mx_r (some (0, 0, 0))), some (mx_i x1), some (mx_i x2), none] [mx_r (some (0, 6, x1.toNatClampNeg))] (hC I J h, μ) Q
        refine mx_WP.go 3 (pc' := 33) (L' := [some (mx_r (some (0, 0, 0))), some (mx_i x1), some (mx_i x2), some (mx_r (some (0, 6, x1.toNatClampNeg)))]) (st' := [mx_i (I 6 x1.toNatClampNeg 3)]) (σ' := (hC I J h, μ)) rfl ?_
        by_cases c6 : (I 6 x1.toNatClampNeg 3) = (0 : Int32)
        · rw [if_pos c6] at hf
          refine mx_WP.bne (x := (I 6 x1.toNatClampNeg 3)) (y := (0 : Int32)) (q := 38) (p3 := 36) rfl (fun hh => absurd c6 hh) (fun _ => ?_)
          refine mx_WP.go 1 (pc' := 37) (L' := [some (mx_r (some (0, 0, 0))), some (mx_i x1), some (mx_i x2), some (mx_r (some (0, 6, x1.toNatClampNeg)))]) (st' := [mx_i (0 : Int32)]) (σ' := (hC I J h, μ)) rfl ?_
          rw [← Option.some.inj hf] at hk
          refine mx_WP.ret (v := some (mx_i (0 : Int32))) rfl ?_
          exact hk
        · rw [if_neg c6] at hf
          refine mx_WP.bne (x := (I 6 x1.toNatClampNeg 3)) (y := (0 : Int32)) (q := 38) (p3 := 36) rfl (fun _ => ?_) (fun hh => absurd c6 hh)
          refine mx_WP.go 1 (pc' := 39) (L' := [some (mx_r (some (0, 0, 0))), some (mx_i x1), some (mx_i x2), some (mx_r (some (0, 6, x1.toNatClampNeg)))]) (st' := [mx_i x2]) (σ' := (hC I J h, μ)) rfl ?_
          by_cases c7 : x2 = (0 : Int32)
          · rw [if_pos c7] at hf
            refine mx_WP.sw (c := (0 : Int32)) (q := 80) c7 (by rfl) ?_
            refine mx_WP.go 1 (pc' := 81) (L' := [some (mx_r (some (0, 0, 0))), some (mx_i x1), some (mx_i x2), some (mx_r (some (0, 6, x1.toNatClampNeg)))]) (st' := [mx_r (some (0, 6, x1.toNatClampNeg))]) (σ' := (hC I J h, μ)) rfl ?_
            obtain ⟨u8, e9, hf⟩ := Option.bind_eq_some_iff.mp hf
            refine mx_WP.call (d := d + 0) (y := 76) (as := [mx_r (some (0, 6, x1.toNatClampNeg))]) (pc' := 84) (r := []) rfl rfl (T76 (d := d + 0)  e9 ?_)
            show mx_WP (d + 1) 14 84 [some (mx_r (some (0, 0, 0))), some (mx_i x1), some (mx_i x2), some (mx_r (some (0, 6, x1.toNatClampNeg)))] [mx_i u8] (hC I J h, μ) Q
            rw [← Option.some.inj hf] at hk
            refine mx_WP.ret (v := some (mx_i u8)) rfl ?_
            exact hk
          rw [if_neg c7] at hf
          by_cases c10 : x2 = (1 : Int32)
          · rw [if_pos c10] at hf
            refine mx_WP.sw (c := (1 : Int32)) (q := 85) c10 (by rfl) ?_
            refine mx_WP.go 2 (pc' := 89) (L' := [some (mx_r (some (0, 0, 0))), some (mx_i x1), some (mx_i x2), some (mx_r (some (0, 6, x1.toNatClampNeg)))]) (st' := [mx_i (I 6 x1.toNatClampNeg 7)]) (σ' := (hC I J h, μ)) rfl ?_
            rw [← Option.some.inj hf] at hk
            refine mx_WP.ret (v := some (mx_i (I 6 x1.toNatClampNeg 7))) rfl ?_
            exact hk
          rw [if_neg c10] at hf
          by_cases c11 : x2 = (2 : Int32)
          · rw [if_pos c11] at hf
            refine mx_WP.sw (c := (2 : Int32)) (q := 90) c11 (by rfl) ?_
            refine mx_WP.go 1 (pc' := 91) (L' := [some (mx_r (some (0, 0, 0))), some (mx_i x1), some (mx_i x2), some (mx_r (some (0, 6, x1.toNatClampNeg)))]) (st' := [mx_r (some (0, 6, x1.toNatClampNeg))]) (σ' := (hC I J h, μ)) rfl ?_
            obtain ⟨u12, e13, hf⟩ := Option.bind_eq_some_iff.mp hf
            refine mx_WP.call (d := d + 0) (y := 74) (as := [mx_r (some (0, 6, x1.toNatClampNeg))]) (pc' := 94) (r := []) rfl rfl (T74 (d := d + 0)  e13 ?_)
            show mx_WP (d + 1) 14 94 [some (mx_r (some (0, 0, 0))), some (mx_i x1), some (mx_i x2), some (mx_r (some (0, 6, x1.toNatClampNeg)))] [mx_i u12] (hC I J h, μ) Q
            rw [← Option.some.inj hf] at hk
            refine mx_WP.ret (v := some (mx_i u12)) rfl ?_
            exact hk
          rw [if_neg c11] at hf
          by_cases c14 : x2 = (3 : Int32)
          · rw [if_pos c14] at hf
            refine mx_WP.sw (c := (3 : Int32)) (q := 95) c14 (by rfl) ?_
            refine mx_WP.go 2 (pc' := 99) (L' := [some (mx_r (some (0, 0, 0))), some (mx_i x1), some (mx_i x2), some (mx_r (some (0, 6, x1.toNatClampNeg)))]) (st' := [mx_i (I 6 x1.toNatClampNeg 9)]) (σ' := (hC I J h, μ)) rfl ?_
            rw [← Option.some.inj hf] at hk
            refine mx_WP.ret (v := some (mx_i (I 6 x1.toNatClampNeg 9))) rfl ?_
            exact hk
          rw [if_neg c14] at hf
          by_cases c15 : x2 = (4 : Int32)
          · rw [if_pos c15] at hf
            refine mx_WP.sw (c := (4 : Int32)) (q := 100) c15 (by rfl) ?_
            refine mx_WP.go 2 (pc' := 104) (L' := [some (mx_r (some (0, 0, 0))), some (mx_i x1), some (mx_i x2), some (mx_r (some (0, 6, x1.toNatClampNeg)))]) (st' := [mx_i (I 6 x1.toNatClampNeg 10)]) (σ' := (hC I J h, μ)) rfl ?_
            rw [← Option.some.inj hf] at hk
            refine mx_WP.ret (v := some (mx_i (I 6 x1.toNatClampNeg 10))) rfl ?_
            exact hk
          rw [if_neg c15] at hf
          by_cases c16 : x2 = (5 : Int32)
          · rw [if_pos c16] at hf
            refine mx_WP.sw (c := (5 : Int32)) (q := 105) c16 (by rfl) ?_
            refine mx_WP.go 2 (pc' := 109) (L' := [some (mx_r (some (0, 0, 0))), some (mx_i x1), some (mx_i x2), some (mx_r (some (0, 6, x1.toNatClampNeg)))]) (st' := [mx_i (I 6 x1.toNatClampNeg 8)]) (σ' := (hC I J h, μ)) rfl ?_
            rw [← Option.some.inj hf] at hk
            refine mx_WP.ret (v := some (mx_i (I 6 x1.toNatClampNeg 8))) rfl ?_
            exact hk
          rw [if_neg c16] at hf
          by_cases c17 : x2 = (6 : Int32)
          · rw [if_pos c17] at hf
            refine mx_WP.sw (c := (6 : Int32)) (q := 110) c17 (by rfl) ?_
            refine mx_WP.go 3 (pc' := 117) (L' := [some (mx_r (some (0, 0, 0))), some (mx_i x1), some (mx_i x2), some (mx_r (some (0, 6, x1.toNatClampNeg)))]) (st' := [mx_i (I 4 x1.toNatClampNeg 2)]) (σ' := (hC I J h, μ)) rfl ?_
            rw [← Option.some.inj hf] at hk
            refine mx_WP.ret (v := some (mx_i (I 4 x1.toNatClampNeg 2))) rfl ?_
            exact hk
          rw [if_neg c17] at hf
          refine mx_WP.swt (q := 118) (mx_tso7 c7 c10 c11 c14 c15 c16 c17) (by rfl) (by rfl) ?_
          refine mx_WP.go 3 (pc' := 123) (L' := [some (mx_r (some (0, 0, 0))), some (mx_i x1), some (mx_i x2), some (mx_r (some (0, 6, x1.toNatClampNeg)))]) (st' := [mx_i x1, mx_r (some (0, 7, 0))]) (σ' := (hC I J h, μ)) rfl ?_
          obtain ⟨u18, e19, hf⟩ := Option.bind_eq_some_iff.mp hf
          refine mx_WP.call (d := d + 0) (y := 79) (as := [mx_r (some (0, 7, 0)), mx_i x1]) (pc' := 126) (r := []) rfl rfl (T79 (d := d + 0)  e19 ?_)
          show mx_WP (d + 1) 14 126 [some (mx_r (some (0, 0, 0))), some (mx_i x1), some (mx_i x2), some (mx_r (some (0, 6, x1.toNatClampNeg)))] [mx_i u18] (hC I J h, μ) Q
          rw [← Option.some.inj hf] at hk
          refine mx_WP.ret (v := some (mx_i u18)) rfl ?_
          exact hk
      · rw [if_neg c4] at hf
        refine mx_WP.ble (x := x2) (y := (7 : Int32)) (q := 19) (p3 := 17) rfl (fun hh => absurd hh c4) (fun _ => ?_)
        refine mx_WP.go 1 (pc' := 18) (L' := [some (mx_r (some (0, 0, 0))), some (mx_i x1), some (mx_i x2), none]) (st' := [mx_i (-1 : Int32)]) (σ' := (hC I J h, μ)) rfl ?_
        rw [← Option.some.inj hf] at hk
        refine mx_WP.ret (v := some (mx_i (-1 : Int32))) rfl ?_
        exact hk
  · rw [if_neg c2] at hf
    refine mx_WP.zeq (b := u1) (q := 17) (p3 := 7) rfl (fun _ => ?_) (fun hh => absurd hh (by simp [c2]))
    refine mx_WP.go 1 (pc' := 18) (L' := [some (mx_r (some (0, 0, 0))), some (mx_i x1), some (mx_i x2), none]) (st' := [mx_i (-1 : Int32)]) (σ' := (hC I J h, μ)) rfl ?_
    rw [← Option.some.inj hf] at hk
    refine mx_WP.ret (v := some (mx_i (-1 : Int32))) rfl ?_
    exact hk
def b106_5 (x1 : Int64) (I : Nat → Nat → Nat → Int32) (J : Nat → Nat → Nat → Int64) (s : Int32 × Int32) : Option ((Int32 × Int32) ⊕ (Int32 × Int32)) :=
  if (128 : Int32) ≤ s.2 then (some (Sum.inr (s.1, s.2))) else if s.2 < 0 ∨ 128 ≤ s.2.toNatClampNeg then none else if (I 75 0 s.2.toNatClampNeg) = (0 : Int32) then (some (Sum.inl (s.1, s.2 + 1))) else (f80 s.2 I).bind fun u104 =>
  (f45 u104 (500068609904 : Int64) I J).bind fun u105 =>
  if (lg_cmp u105 x1) = (0 : Int32) then (some (Sum.inl (s.1 + 1, s.2 + 1))) else some (Sum.inl (s.1, s.2 + 1))
theorem B106_5 {d : Nat} {x1 : Int64} {I : Nat → Nat → Nat → Int32} {J : Nat → Nat → Nat → Int64} {h : Nat → Nat} {μ : mx_Rg × (Nat × (Nat → Int32)) × (Nat × Nat)} {Q : Option mx_V → mx_Hp → Prop} {s : Int32 × Int32} {o : (Int32 × Int32) ⊕ (Int32 × Int32)} (hf : b106_5 x1 I J s = some o) (hk : Sum.elim (fun s : Int32 × Int32 => mx_WP (d + 2) 106 5 [some (mx_r (some (0, 8, 0))), some (mx_l x1), none, some (mx_i s.1), some (mx_i s.2)] [] (hC I J h, μ) Q) (fun x : Int32 × Int32 => mx_WP (d + 2) 106 52 [some (mx_r (some (0, 8, 0))), some (mx_l x1), none, some (mx_i x.1), some (mx_i x.2)] [] (hC I J h, μ) Q) o) : mx_WP (d + 2) 106 5 [some (mx_r (some (0, 8, 0))), some (mx_l x1), none, some (mx_i s.1), some (mx_i s.2)] [] (hC I J h, μ) Q := by
  unfold b106_5 at hf
  refine mx_WP.go 2 (pc' := 10) (L' := [some (mx_r (some (0, 8, 0))), some (mx_l x1), none, some (mx_i s.1), some (mx_i s.2)]) (st' := [mx_i (128 : Int32), mx_i s.2]) (σ' := (hC I J h, μ)) rfl ?_
  by_cases c101 : (128 : Int32) ≤ s.2
  · rw [if_pos c101] at hf
    refine mx_WP.bge (x := s.2) (y := (128 : Int32)) (q := 52) (p3 := 13) rfl (fun _ => ?_) (fun hh => absurd c101 hh)
    rw [← Option.some.inj hf] at hk
    exact hk
  · rw [if_neg c101] at hf
    refine mx_WP.bge (x := s.2) (y := (128 : Int32)) (q := 52) (p3 := 13) rfl (fun hh => absurd hh c101) (fun _ => ?_)
    refine mx_WP.go 3 (pc' := 19) (L' := [some (mx_r (some (0, 8, 0))), some (mx_l x1), none, some (mx_i s.1), some (mx_i s.2)]) (st' := [mx_i s.2, mx_r (some (0, 75, 0))]) (σ' := (hC I J h, μ)) rfl ?_
    by_cases c102 : s.2 < 0 ∨ 128 ≤ s.2.toNatClampNeg
    · rw [if_pos c102] at hf
      cases hf
    rw [if_neg c102] at hf
    refine mx_WP.baldx c102 ?_
    show mx_WP (d + 2) 106 20 [some (mx_r (some (0, 8, 0))), some (mx_l x1), none, some (mx_i s.1), some (mx_i s.2)] [mx_i (I 75 0 s.2.toNatClampNeg)] (hC I J h, μ) Q
    by_cases c103 : (I 75 0 s.2.toNatClampNeg) = (0 : Int32)
    · rw [if_pos c103] at hf
      refine mx_WP.beq (x := (I 75 0 s.2.toNatClampNeg)) (y := (0 : Int32)) (q := 46) (p3 := 23) rfl (fun _ => ?_) (fun hh => absurd c103 hh)
      refine mx_WP.go 2 (pc' := 5) (L' := [some (mx_r (some (0, 8, 0))), some (mx_l x1), none, some (mx_i s.1), some (mx_i (s.2 + 1))]) (st' := []) (σ' := (hC I J h, μ)) rfl ?_
      rw [← Option.some.inj hf] at hk
      exact hk
    · rw [if_neg c103] at hf
      refine mx_WP.beq (x := (I 75 0 s.2.toNatClampNeg)) (y := (0 : Int32)) (q := 46) (p3 := 23) rfl (fun hh => absurd hh c103) (fun _ => ?_)
      refine mx_WP.go 3 (pc' := 29) (L' := [some (mx_r (some (0, 8, 0))), some (mx_l x1), none, some (mx_i s.1), some (mx_i s.2)]) (st' := [mx_i s.2, mx_r (some (0, 7, 0))]) (σ' := (hC I J h, μ)) rfl ?_
      obtain ⟨u104, e108, hf⟩ := Option.bind_eq_some_iff.mp hf
      refine mx_WP.call (d := d + 1) (y := 80) (as := [mx_r (some (0, 7, 0)), mx_i s.2]) (pc' := 32) (r := []) rfl rfl (T80 (d := d + 0)  e108 ?_)
      show mx_WP (d + 2) 106 32 [some (mx_r (some (0, 8, 0))), some (mx_l x1), none, some (mx_i s.1), some (mx_i s.2)] [mx_r (some (0, 3, u104))] (hC I J h, μ) Q
      refine mx_WP.go 1 (pc' := 35) (L' := [some (mx_r (some (0, 8, 0))), some (mx_l x1), none, some (mx_i s.1), some (mx_i s.2)]) (st' := [mx_l (500068609904 : Int64), mx_r (some (0, 3, u104))]) (σ' := (hC I J h, μ)) rfl ?_
      obtain ⟨u105, e107, hf⟩ := Option.bind_eq_some_iff.mp hf
      refine mx_WP.call (d := d + 1) (y := 45) (as := [mx_r (some (0, 3, u104)), mx_l (500068609904 : Int64)]) (pc' := 38) (r := []) rfl rfl (T45 (d := d + 1)  e107 ?_)
      show mx_WP (d + 2) 106 38 [some (mx_r (some (0, 8, 0))), some (mx_l x1), none, some (mx_i s.1), some (mx_i s.2)] [mx_l u105] (hC I J h, μ) Q
      refine mx_WP.go 2 (pc' := 40) (L' := [some (mx_r (some (0, 8, 0))), some (mx_l x1), none, some (mx_i s.1), some (mx_i s.2)]) (st' := [mx_i (lg_cmp u105 x1)]) (σ' := (hC I J h, μ)) rfl ?_
      by_cases c106 : (lg_cmp u105 x1) = (0 : Int32)
      · rw [if_pos c106] at hf
        refine mx_WP.bne (x := (lg_cmp u105 x1)) (y := (0 : Int32)) (q := 46) (p3 := 43) rfl (fun hh => absurd c106 hh) (fun _ => ?_)
        refine mx_WP.go 3 (pc' := 5) (L' := [some (mx_r (some (0, 8, 0))), some (mx_l x1), none, some (mx_i (s.1 + 1)), some (mx_i (s.2 + 1))]) (st' := []) (σ' := (hC I J h, μ)) rfl ?_
        rw [← Option.some.inj hf] at hk
        exact hk
      · rw [if_neg c106] at hf
        refine mx_WP.bne (x := (lg_cmp u105 x1)) (y := (0 : Int32)) (q := 46) (p3 := 43) rfl (fun _ => ?_) (fun hh => absurd c106 hh)
        refine mx_WP.go 2 (pc' := 5) (L' := [some (mx_r (some (0, 8, 0))), some (mx_l x1), none, some (mx_i s.1), some (mx_i (s.2 + 1))]) (st' := []) (σ' := (hC I J h, μ)) rfl ?_
        rw [← Option.some.inj hf] at hk
        exact hk
theorem L106_5 {d : Nat} {x1 : Int64} {I : Nat → Nat → Nat → Int32} {J : Nat → Nat → Nat → Int64} {h : Nat → Nat} {μ : mx_Rg × (Nat × (Nat → Int32)) × (Nat × Nat)} {Q : Option mx_V → mx_Hp → Prop} {n : Nat} {s : Int32 × Int32} {o : Int32 × Int32} (hf : mx_lp (b106_5 x1 I J) n s = some o) (hk : (fun x : Int32 × Int32 => mx_WP (d + 2) 106 52 [some (mx_r (some (0, 8, 0))), some (mx_l x1), none, some (mx_i x.1), some (mx_i x.2)] [] (hC I J h, μ) Q) o) : mx_WP (d + 2) 106 5 [some (mx_r (some (0, 8, 0))), some (mx_l x1), none, some (mx_i s.1), some (mx_i s.2)] [] (hC I J h, μ) Q := mx_lp_ok (P := fun s : Int32 × Int32 => mx_WP (d + 2) 106 5 [some (mx_r (some (0, 8, 0))), some (mx_l x1), none, some (mx_i s.1), some (mx_i s.2)] [] (hC I J h, μ) Q) (E := (fun x : Int32 × Int32 => mx_WP (d + 2) 106 52 [some (mx_r (some (0, 8, 0))), some (mx_l x1), none, some (mx_i x.1), some (mx_i x.2)] [] (hC I J h, μ) Q)) (fun s o hf hk => B106_5 hf hk) n s o hf hk
def f106 (x1 : Int64) (I : Nat → Nat → Nat → Int32) (J : Nat → Nat → Nat → Int64) : Option (Int32) :=
  (mx_lp (b106_5 x1 I J) mx_fu ((0 : Int32), (0 : Int32))).bind fun u109 =>
  some u109.1
theorem T106 {d : Nat} {x1 : Int64} {I : Nat → Nat → Nat → Int32} {J : Nat → Nat → Nat → Int64} {h : Nat → Nat} {μ : mx_Rg × (Nat × (Nat → Int32)) × (Nat × Nat)} {Q : Option mx_V → mx_Hp → Prop} {o : Int32} (hf : f106 x1 I J = some o) (hk : Q (some (mx_i o)) (hC I J h, μ)) : mx_WP (d + 2) 106 0 (mx_ent 106 [mx_r (some (0, 8, 0)), mx_l x1]) [] (hC I J h, μ) Q := by
  unfold f106 at hf
  refine mx_WP.go 4 (pc' := 5) (L' := [some (mx_r (some (0, 8, 0))), some (mx_l x1), none, some (mx_i (0 : Int32)), some (mx_i (0 : Int32))]) (st' := []) (σ' := (hC I J h, μ)) rfl ?_
  obtain ⟨u109, e110, hf⟩ := Option.bind_eq_some_iff.mp hf
  refine L106_5 (d := d) e110 ?_
  show mx_WP (d + 2) 106 52 [some (mx_r (some (0, 8, 0))), some (mx_l x1), none, some (mx_i u109.1), some (mx_i u109.2)] [] (hC I J h, μ) Q
  refine mx_WP.go 1 (pc' := 53) (L' := [some (mx_r (some (0, 8, 0))), some (mx_l x1), none, some (mx_i u109.1), some (mx_i u109.2)]) (st' := [mx_i u109.1]) (σ' := (hC I J h, μ)) rfl ?_
  rw [← Option.some.inj hf] at hk
  refine mx_WP.ret (v := some (mx_i u109.1)) rfl ?_
  exact hk
def f15 (x1 : Int64) (I : Nat → Nat → Nat → Int32) (J : Nat → Nat → Nat → Int64) : Option (Int32) :=
  (f100 x1 I J).bind fun u1 =>
  if u1 = (-1 : Int32) then (some (-1 : Int32)) else (f106 x1 I J).bind fun u3 =>
  some u3
theorem T15 {d : Nat} {x1 : Int64} {I : Nat → Nat → Nat → Int32} {J : Nat → Nat → Nat → Int64} {h : Nat → Nat} {μ : mx_Rg × (Nat × (Nat → Int32)) × (Nat × Nat)} {Q : Option mx_V → mx_Hp → Prop} {o : Int32} (hf : f15 x1 I J = some o) (hk : Q (some (mx_i o)) (hC I J h, μ)) : mx_WP (d + 3) 15 0 (mx_ent 15 [mx_r (some (0, 0, 0)), mx_l x1]) [] (hC I J h, μ) Q := by
  unfold f15 at hf
  refine mx_WP.go 3 (pc' := 5) (L' := [some (mx_r (some (0, 0, 0))), some (mx_l x1), none]) (st' := [mx_l x1, mx_r (some (0, 8, 0))]) (σ' := (hC I J h, μ)) rfl ?_
  obtain ⟨u1, e5, hf⟩ := Option.bind_eq_some_iff.mp hf
  refine mx_WP.call (d := d + 2) (y := 100) (as := [mx_r (some (0, 8, 0)), mx_l x1]) (pc' := 8) (r := []) rfl rfl (T100 (d := d + 0)  e5 ?_)
  show mx_WP (d + 3) 15 8 [some (mx_r (some (0, 0, 0))), some (mx_l x1), none] [mx_i u1] (hC I J h, μ) Q
  refine mx_WP.go 1 (pc' := 9) (L' := [some (mx_r (some (0, 0, 0))), some (mx_l x1), none]) (st' := [mx_i (-1 : Int32), mx_i u1]) (σ' := (hC I J h, μ)) rfl ?_
  by_cases c2 : u1 = (-1 : Int32)
  · rw [if_pos c2] at hf
    refine mx_WP.bne (x := u1) (y := (-1 : Int32)) (q := 16) (p3 := 12) rfl (fun hh => absurd c2 hh) (fun _ => ?_)
    refine mx_WP.go 2 (pc' := 24) (L' := [some (mx_r (some (0, 0, 0))), some (mx_l x1), none]) (st' := [mx_i (-1 : Int32)]) (σ' := (hC I J h, μ)) rfl ?_
    rw [← Option.some.inj hf] at hk
    refine mx_WP.ret (v := some (mx_i (-1 : Int32))) rfl ?_
    exact hk
  · rw [if_neg c2] at hf
    refine mx_WP.bne (x := u1) (y := (-1 : Int32)) (q := 16) (p3 := 12) rfl (fun _ => ?_) (fun hh => absurd c2 hh)
    refine mx_WP.go 3 (pc' := 21) (L' := [some (mx_r (some (0, 0, 0))), some (mx_l x1), none]) (st' := [mx_l x1, mx_r (some (0, 8, 0))]) (σ' := (hC I J h, μ)) rfl ?_
    obtain ⟨u3, e4, hf⟩ := Option.bind_eq_some_iff.mp hf
    refine mx_WP.call (d := d + 2) (y := 106) (as := [mx_r (some (0, 8, 0)), mx_l x1]) (pc' := 24) (r := []) rfl rfl (T106 (d := d + 0)  e4 ?_)
    show mx_WP (d + 3) 15 24 [some (mx_r (some (0, 0, 0))), some (mx_l x1), none] [mx_i u3] (hC I J h, μ) Q
    rw [← Option.some.inj hf] at hk
    refine mx_WP.ret (v := some (mx_i u3)) rfl ?_
    exact hk
def b107_6 (x1 : Int64) (x3 : Int32) (I : Nat → Nat → Nat → Int32) (J : Nat → Nat → Nat → Int64) (s : Int32 × Int32) : Option ((Int32 × Int32) ⊕ ((Int32 × Int32) ⊕ (Int32))) :=
  if (128 : Int32) ≤ s.2 then (some (Sum.inr (Sum.inl (s.1, s.2)))) else if s.2 < 0 ∨ 128 ≤ s.2.toNatClampNeg then none else if (I 75 0 s.2.toNatClampNeg) = (0 : Int32) then (some (Sum.inl (s.1, s.2 + 1))) else (f80 s.2 I).bind fun u104 =>
  (f45 u104 (500068609904 : Int64) I J).bind fun u105 =>
  if (lg_cmp u105 x1) = (0 : Int32) then (if s.1 = x3 then (some (Sum.inr (Sum.inr s.2))) else some (Sum.inl (s.1 + 1, s.2 + 1))) else some (Sum.inl (s.1, s.2 + 1))
theorem B107_6 {d : Nat} {x1 : Int64} {x3 : Int32} {I : Nat → Nat → Nat → Int32} {J : Nat → Nat → Nat → Int64} {h : Nat → Nat} {μ : mx_Rg × (Nat × (Nat → Int32)) × (Nat × Nat)} {Q : Option mx_V → mx_Hp → Prop} {s : Int32 × Int32} {o : (Int32 × Int32) ⊕ ((Int32 × Int32) ⊕ (Int32))} (hf : b107_6 x1 x3 I J s = some o) (hk : Sum.elim (fun s : Int32 × Int32 => mx_WP (d + 2) 107 6 [some (mx_r (some (0, 8, 0))), some (mx_l x1), none, some (mx_i x3), some (mx_i s.1), some (mx_i s.2)] [] (hC I J h, μ) Q) (Sum.elim (fun x : Int32 × Int32 => mx_WP (d + 2) 107 62 [some (mx_r (some (0, 8, 0))), some (mx_l x1), none, some (mx_i x3), some (mx_i x.1), some (mx_i x.2)] [] (hC I J h, μ) Q) (fun x : Int32 => Q (some (mx_i x)) (hC I J h, μ))) o) : mx_WP (d + 2) 107 6 [some (mx_r (some (0, 8, 0))), some (mx_l x1), none, some (mx_i x3), some (mx_i s.1), some (mx_i s.2)] [] (hC I J h, μ) Q := by
  unfold b107_6 at hf
  refine mx_WP.go 2 (pc' := 11) (L' := [some (mx_r (some (0, 8, 0))), some (mx_l x1), none, some (mx_i x3), some (mx_i s.1), some (mx_i s.2)]) (st' := [mx_i (128 : Int32), mx_i s.2]) (σ' := (hC I J h, μ)) rfl ?_
  by_cases c101 : (128 : Int32) ≤ s.2
  · rw [if_pos c101] at hf
    refine mx_WP.bge (x := s.2) (y := (128 : Int32)) (q := 62) (p3 := 14) rfl (fun _ => ?_) (fun hh => absurd c101 hh)
    rw [← Option.some.inj hf] at hk
    exact hk
  · rw [if_neg c101] at hf
    refine mx_WP.bge (x := s.2) (y := (128 : Int32)) (q := 62) (p3 := 14) rfl (fun hh => absurd hh c101) (fun _ => ?_)
    refine mx_WP.go 3 (pc' := 20) (L' := [some (mx_r (some (0, 8, 0))), some (mx_l x1), none, some (mx_i x3), some (mx_i s.1), some (mx_i s.2)]) (st' := [mx_i s.2, mx_r (some (0, 75, 0))]) (σ' := (hC I J h, μ)) rfl ?_
    by_cases c102 : s.2 < 0 ∨ 128 ≤ s.2.toNatClampNeg
    · rw [if_pos c102] at hf
      cases hf
    rw [if_neg c102] at hf
    refine mx_WP.baldx c102 ?_
    show mx_WP (d + 2) 107 21 [some (mx_r (some (0, 8, 0))), some (mx_l x1), none, some (mx_i x3), some (mx_i s.1), some (mx_i s.2)] [mx_i (I 75 0 s.2.toNatClampNeg)] (hC I J h, μ) Q
    by_cases c103 : (I 75 0 s.2.toNatClampNeg) = (0 : Int32)
    · rw [if_pos c103] at hf
      refine mx_WP.beq (x := (I 75 0 s.2.toNatClampNeg)) (y := (0 : Int32)) (q := 56) (p3 := 24) rfl (fun _ => ?_) (fun hh => absurd c103 hh)
      refine mx_WP.go 2 (pc' := 6) (L' := [some (mx_r (some (0, 8, 0))), some (mx_l x1), none, some (mx_i x3), some (mx_i s.1), some (mx_i (s.2 + 1))]) (st' := []) (σ' := (hC I J h, μ)) rfl ?_
      rw [← Option.some.inj hf] at hk
      exact hk
    · rw [if_neg c103] at hf
      refine mx_WP.beq (x := (I 75 0 s.2.toNatClampNeg)) (y := (0 : Int32)) (q := 56) (p3 := 24) rfl (fun hh => absurd hh c103) (fun _ => ?_)
      refine mx_WP.go 3 (pc' := 30) (L' := [some (mx_r (some (0, 8, 0))), some (mx_l x1), none, some (mx_i x3), some (mx_i s.1), some (mx_i s.2)]) (st' := [mx_i s.2, mx_r (some (0, 7, 0))]) (σ' := (hC I J h, μ)) rfl ?_
      obtain ⟨u104, e109, hf⟩ := Option.bind_eq_some_iff.mp hf
      refine mx_WP.call (d := d + 1) (y := 80) (as := [mx_r (some (0, 7, 0)), mx_i s.2]) (pc' := 33) (r := []) rfl rfl (T80 (d := d + 0)  e109 ?_)
      show mx_WP (d + 2) 107 33 [some (mx_r (some (0, 8, 0))), some (mx_l x1), none, some (mx_i x3), some (mx_i s.1), some (mx_i s.2)] [mx_r (some (0, 3, u104))] (hC I J h, μ) Q
      refine mx_WP.go 1 (pc' := 36) (L' := [some (mx_r (some (0, 8, 0))), some (mx_l x1), none, some (mx_i x3), some (mx_i s.1), some (mx_i s.2)]) (st' := [mx_l (500068609904 : Int64), mx_r (some (0, 3, u104))]) (σ' := (hC I J h, μ)) rfl ?_
      obtain ⟨u105, e108, hf⟩ := Option.bind_eq_some_iff.mp hf
      refine mx_WP.call (d := d + 1) (y := 45) (as := [mx_r (some (0, 3, u104)), mx_l (500068609904 : Int64)]) (pc' := 39) (r := []) rfl rfl (T45 (d := d + 1)  e108 ?_)
      show mx_WP (d + 2) 107 39 [some (mx_r (some (0, 8, 0))), some (mx_l x1), none, some (mx_i x3), some (mx_i s.1), some (mx_i s.2)] [mx_l u105] (hC I J h, μ) Q
      refine mx_WP.go 2 (pc' := 41) (L' := [some (mx_r (some (0, 8, 0))), some (mx_l x1), none, some (mx_i x3), some (mx_i s.1), some (mx_i s.2)]) (st' := [mx_i (lg_cmp u105 x1)]) (σ' := (hC I J h, μ)) rfl ?_
      by_cases c106 : (lg_cmp u105 x1) = (0 : Int32)
      · rw [if_pos c106] at hf
        refine mx_WP.bne (x := (lg_cmp u105 x1)) (y := (0 : Int32)) (q := 56) (p3 := 44) rfl (fun hh => absurd c106 hh) (fun _ => ?_)
        refine mx_WP.go 2 (pc' := 47) (L' := [some (mx_r (some (0, 8, 0))), some (mx_l x1), none, some (mx_i x3), some (mx_i s.1), some (mx_i s.2)]) (st' := [mx_i x3, mx_i s.1]) (σ' := (hC I J h, μ)) rfl ?_
        by_cases c107 : s.1 = x3
        · rw [if_pos c107] at hf
          refine mx_WP.bne (x := s.1) (y := x3) (q := 53) (p3 := 50) rfl (fun hh => absurd c107 hh) (fun _ => ?_)
          refine mx_WP.go 1 (pc' := 52) (L' := [some (mx_r (some (0, 8, 0))), some (mx_l x1), none, some (mx_i x3), some (mx_i s.1), some (mx_i s.2)]) (st' := [mx_i s.2]) (σ' := (hC I J h, μ)) rfl ?_
          rw [← Option.some.inj hf] at hk
          refine mx_WP.ret (v := some (mx_i s.2)) rfl ?_
          exact hk
        · rw [if_neg c107] at hf
          refine mx_WP.bne (x := s.1) (y := x3) (q := 53) (p3 := 50) rfl (fun _ => ?_) (fun hh => absurd c107 hh)
          refine mx_WP.go 3 (pc' := 6) (L' := [some (mx_r (some (0, 8, 0))), some (mx_l x1), none, some (mx_i x3), some (mx_i (s.1 + 1)), some (mx_i (s.2 + 1))]) (st' := []) (σ' := (hC I J h, μ)) rfl ?_
          rw [← Option.some.inj hf] at hk
          exact hk
      · rw [if_neg c106] at hf
        refine mx_WP.bne (x := (lg_cmp u105 x1)) (y := (0 : Int32)) (q := 56) (p3 := 44) rfl (fun _ => ?_) (fun hh => absurd c106 hh)
        refine mx_WP.go 2 (pc' := 6) (L' := [some (mx_r (some (0, 8, 0))), some (mx_l x1), none, some (mx_i x3), some (mx_i s.1), some (mx_i (s.2 + 1))]) (st' := []) (σ' := (hC I J h, μ)) rfl ?_
        rw [← Option.some.inj hf] at hk
        exact hk
theorem L107_6 {d : Nat} {x1 : Int64} {x3 : Int32} {I : Nat → Nat → Nat → Int32} {J : Nat → Nat → Nat → Int64} {h : Nat → Nat} {μ : mx_Rg × (Nat × (Nat → Int32)) × (Nat × Nat)} {Q : Option mx_V → mx_Hp → Prop} {n : Nat} {s : Int32 × Int32} {o : (Int32 × Int32) ⊕ (Int32)} (hf : mx_lp (b107_6 x1 x3 I J) n s = some o) (hk : (Sum.elim (fun x : Int32 × Int32 => mx_WP (d + 2) 107 62 [some (mx_r (some (0, 8, 0))), some (mx_l x1), none, some (mx_i x3), some (mx_i x.1), some (mx_i x.2)] [] (hC I J h, μ) Q) (fun x : Int32 => Q (some (mx_i x)) (hC I J h, μ))) o) : mx_WP (d + 2) 107 6 [some (mx_r (some (0, 8, 0))), some (mx_l x1), none, some (mx_i x3), some (mx_i s.1), some (mx_i s.2)] [] (hC I J h, μ) Q := mx_lp_ok (P := fun s : Int32 × Int32 => mx_WP (d + 2) 107 6 [some (mx_r (some (0, 8, 0))), some (mx_l x1), none, some (mx_i x3), some (mx_i s.1), some (mx_i s.2)] [] (hC I J h, μ) Q) (E := (Sum.elim (fun x : Int32 × Int32 => mx_WP (d + 2) 107 62 [some (mx_r (some (0, 8, 0))), some (mx_l x1), none, some (mx_i x3), some (mx_i x.1), some (mx_i x.2)] [] (hC I J h, μ) Q) (fun x : Int32 => Q (some (mx_i x)) (hC I J h, μ)))) (fun s o hf hk => B107_6 hf hk) n s o hf hk
def f107 (x1 : Int64) (x2 : Int32) (I : Nat → Nat → Nat → Int32) (J : Nat → Nat → Nat → Int64) : Option (Int32) :=
  (mx_lp (b107_6 x1 x2 I J) mx_fu ((0 : Int32), (0 : Int32))).bind fun u110 => Sum.elim (fun w112 =>
  some (-1 : Int32)) (fun y113 => some y113) u110
theorem T107 {d : Nat} {x1 : Int64} {x2 : Int32} {I : Nat → Nat → Nat → Int32} {J : Nat → Nat → Nat → Int64} {h : Nat → Nat} {μ : mx_Rg × (Nat × (Nat → Int32)) × (Nat × Nat)} {Q : Option mx_V → mx_Hp → Prop} {o : Int32} (hf : f107 x1 x2 I J = some o) (hk : Q (some (mx_i o)) (hC I J h, μ)) : mx_WP (d + 2) 107 0 (mx_ent 107 [mx_r (some (0, 8, 0)), mx_l x1, mx_i x2]) [] (hC I J h, μ) Q := by
  unfold f107 at hf
  refine mx_WP.go 4 (pc' := 6) (L' := [some (mx_r (some (0, 8, 0))), some (mx_l x1), none, some (mx_i x2), some (mx_i (0 : Int32)), some (mx_i (0 : Int32))]) (st' := []) (σ' := (hC I J h, μ)) rfl ?_
  obtain ⟨u110, e111, hf⟩ := Option.bind_eq_some_iff.mp hf
  cases u110 with
  | inr y113 =>
    rw [Sum.elim_inr] at hf
    rw [← Option.some.inj hf] at hk
    exact (L107_6 (d := d) e111 hk)
  | inl w112 =>
    rw [Sum.elim_inl] at hf
    refine (L107_6 (d := d) e111 ?_)
    show mx_WP (d + 2) 107 62 [some (mx_r (some (0, 8, 0))), some (mx_l x1), none, some (mx_i x2), some (mx_i w112.1), some (mx_i w112.2)] [] (hC I J h, μ) Q
    refine mx_WP.go 1 (pc' := 63) (L' := [some (mx_r (some (0, 8, 0))), some (mx_l x1), none, some (mx_i x2), some (mx_i w112.1), some (mx_i w112.2)]) (st' := [mx_i (-1 : Int32)]) (σ' := (hC I J h, μ)) rfl ?_
    rw [← Option.some.inj hf] at hk
    refine mx_WP.ret (v := some (mx_i (-1 : Int32))) rfl ?_
    exact hk
def f16 (x1 : Int64) (x2 : Int32) (I : Nat → Nat → Nat → Int32) (J : Nat → Nat → Nat → Int64) : Option (Int32) :=
  (f100 x1 I J).bind fun u1 =>
  if u1 = (-1 : Int32) then (some (-1 : Int32)) else (f107 x1 x2 I J).bind fun u3 =>
  some u3
theorem T16 {d : Nat} {x1 : Int64} {x2 : Int32} {I : Nat → Nat → Nat → Int32} {J : Nat → Nat → Nat → Int64} {h : Nat → Nat} {μ : mx_Rg × (Nat × (Nat → Int32)) × (Nat × Nat)} {Q : Option mx_V → mx_Hp → Prop} {o : Int32} (hf : f16 x1 x2 I J = some o) (hk : Q (some (mx_i o)) (hC I J h, μ)) : mx_WP (d + 3) 16 0 (mx_ent 16 [mx_r (some (0, 0, 0)), mx_l x1, mx_i x2]) [] (hC I J h, μ) Q := by
  unfold f16 at hf
  refine mx_WP.go 3 (pc' := 5) (L' := [some (mx_r (some (0, 0, 0))), some (mx_l x1), none, some (mx_i x2)]) (st' := [mx_l x1, mx_r (some (0, 8, 0))]) (σ' := (hC I J h, μ)) rfl ?_
  obtain ⟨u1, e5, hf⟩ := Option.bind_eq_some_iff.mp hf
  refine mx_WP.call (d := d + 2) (y := 100) (as := [mx_r (some (0, 8, 0)), mx_l x1]) (pc' := 8) (r := []) rfl rfl (T100 (d := d + 0)  e5 ?_)
  show mx_WP (d + 3) 16 8 [some (mx_r (some (0, 0, 0))), some (mx_l x1), none, some (mx_i x2)] [mx_i u1] (hC I J h, μ) Q
  refine mx_WP.go 1 (pc' := 9) (L' := [some (mx_r (some (0, 0, 0))), some (mx_l x1), none, some (mx_i x2)]) (st' := [mx_i (-1 : Int32), mx_i u1]) (σ' := (hC I J h, μ)) rfl ?_
  by_cases c2 : u1 = (-1 : Int32)
  · rw [if_pos c2] at hf
    refine mx_WP.bne (x := u1) (y := (-1 : Int32)) (q := 16) (p3 := 12) rfl (fun hh => absurd c2 hh) (fun _ => ?_)
    refine mx_WP.go 2 (pc' := 25) (L' := [some (mx_r (some (0, 0, 0))), some (mx_l x1), none, some (mx_i x2)]) (st' := [mx_i (-1 : Int32)]) (σ' := (hC I J h, μ)) rfl ?_
    rw [← Option.some.inj hf] at hk
    refine mx_WP.ret (v := some (mx_i (-1 : Int32))) rfl ?_
    exact hk
  · rw [if_neg c2] at hf
    refine mx_WP.bne (x := u1) (y := (-1 : Int32)) (q := 16) (p3 := 12) rfl (fun _ => ?_) (fun hh => absurd c2 hh)
    refine mx_WP.go 4 (pc' := 22) (L' := [some (mx_r (some (0, 0, 0))), some (mx_l x1), none, some (mx_i x2)]) (st' := [mx_i x2, mx_l x1, mx_r (some (0, 8, 0))]) (σ' := (hC I J h, μ)) rfl ?_
    obtain ⟨u3, e4, hf⟩ := Option.bind_eq_some_iff.mp hf
    refine mx_WP.call (d := d + 2) (y := 107) (as := [mx_r (some (0, 8, 0)), mx_l x1, mx_i x2]) (pc' := 25) (r := []) rfl rfl (T107 (d := d + 0)  e4 ?_)
    show mx_WP (d + 3) 16 25 [some (mx_r (some (0, 0, 0))), some (mx_l x1), none, some (mx_i x2)] [mx_i u3] (hC I J h, μ) Q
    rw [← Option.some.inj hf] at hk
    refine mx_WP.ret (v := some (mx_i u3)) rfl ?_
    exact hk
def f84 (x1 : Int32) (I : Nat → Nat → Nat → Int32) : Option (Bool) :=
  (f80 x1 I).bind fun u1 =>
  if (I 3 u1 6) ≤ (0 : Int32) then (some false) else some true
theorem T84 {d : Nat} {x1 : Int32} {I : Nat → Nat → Nat → Int32} {J : Nat → Nat → Nat → Int64} {h : Nat → Nat} {μ : mx_Rg × (Nat × (Nat → Int32)) × (Nat × Nat)} {Q : Option mx_V → mx_Hp → Prop} {o : Bool} (hf : f84 x1 I = some o) (hk : Q (some (mx_i (b2i o))) (hC I J h, μ)) : mx_WP (d + 2) 84 0 (mx_ent 84 [mx_r (some (0, 7, 0)), mx_i x1]) [] (hC I J h, μ) Q := by
  unfold f84 at hf
  refine mx_WP.go 2 (pc' := 2) (L' := [some (mx_r (some (0, 7, 0))), some (mx_i x1)]) (st' := [mx_i x1, mx_r (some (0, 7, 0))]) (σ' := (hC I J h, μ)) rfl ?_
  obtain ⟨u1, e3, hf⟩ := Option.bind_eq_some_iff.mp hf
  refine mx_WP.call (d := d + 1) (y := 80) (as := [mx_r (some (0, 7, 0)), mx_i x1]) (pc' := 5) (r := []) rfl rfl (T80 (d := d + 0)  e3 ?_)
  show mx_WP (d + 2) 84 5 [some (mx_r (some (0, 7, 0))), some (mx_i x1)] [mx_r (some (0, 3, u1))] (hC I J h, μ) Q
  refine mx_WP.go 1 (pc' := 8) (L' := [some (mx_r (some (0, 7, 0))), some (mx_i x1)]) (st' := [mx_i (I 3 u1 6)]) (σ' := (hC I J h, μ)) rfl ?_
  by_cases c2 : (I 3 u1 6) ≤ (0 : Int32)
  · rw [if_pos c2] at hf
    refine mx_WP.ble (x := (I 3 u1 6)) (y := (0 : Int32)) (q := 15) (p3 := 11) rfl (fun _ => ?_) (fun hh => absurd c2 hh)
    refine mx_WP.go 1 (pc' := 16) (L' := [some (mx_r (some (0, 7, 0))), some (mx_i x1)]) (st' := [mx_i (0 : Int32)]) (σ' := (hC I J h, μ)) rfl ?_
    rw [← Option.some.inj hf] at hk
    refine mx_WP.ret (v := some (mx_i (0 : Int32))) rfl ?_
    exact hk
  · rw [if_neg c2] at hf
    refine mx_WP.ble (x := (I 3 u1 6)) (y := (0 : Int32)) (q := 15) (p3 := 11) rfl (fun hh => absurd hh c2) (fun _ => ?_)
    refine mx_WP.go 2 (pc' := 16) (L' := [some (mx_r (some (0, 7, 0))), some (mx_i x1)]) (st' := [mx_i (1 : Int32)]) (σ' := (hC I J h, μ)) rfl ?_
    rw [← Option.some.inj hf] at hk
    refine mx_WP.ret (v := some (mx_i (1 : Int32))) rfl ?_
    exact hk
def b52_4 (x0 : Nat) (x1 : Int32) (I : Nat → Nat → Nat → Int32) (s : Int32 × Int32) : Option ((Int32 × Int32) ⊕ (Int32 × Int32)) :=
  if (I 4 x0 2) ≤ s.2 then (some (Sum.inr (s.1, s.2))) else if s.2 < 0 ∨ 16 ≤ s.2.toNatClampNeg then none else if (I 3 (1 + 16 * x0 + s.2.toNatClampNeg) 4) = x1 then (some (Sum.inl (s.1 + 1, s.2 + 1))) else some (Sum.inl (s.1, s.2 + 1))
theorem B52_4 {d : Nat} {x0 : Nat} {x1 : Int32} {I : Nat → Nat → Nat → Int32} {J : Nat → Nat → Nat → Int64} {h : Nat → Nat} {μ : mx_Rg × (Nat × (Nat → Int32)) × (Nat × Nat)} {Q : Option mx_V → mx_Hp → Prop} {s : Int32 × Int32} {o : (Int32 × Int32) ⊕ (Int32 × Int32)} (hf : b52_4 x0 x1 I s = some o) (hk : Sum.elim (fun s : Int32 × Int32 => mx_WP (d + 0) 52 4 [some (mx_r (some (0, 4, x0))), some (mx_i x1), some (mx_i s.1), some (mx_i s.2)] [] (hC I J h, μ) Q) (fun x : Int32 × Int32 => mx_WP (d + 0) 52 34 [some (mx_r (some (0, 4, x0))), some (mx_i x1), some (mx_i x.1), some (mx_i x.2)] [] (hC I J h, μ) Q) o) : mx_WP (d + 0) 52 4 [some (mx_r (some (0, 4, x0))), some (mx_i x1), some (mx_i s.1), some (mx_i s.2)] [] (hC I J h, μ) Q := by
  unfold b52_4 at hf
  refine mx_WP.go 3 (pc' := 9) (L' := [some (mx_r (some (0, 4, x0))), some (mx_i x1), some (mx_i s.1), some (mx_i s.2)]) (st' := [mx_i (I 4 x0 2), mx_i s.2]) (σ' := (hC I J h, μ)) rfl ?_
  by_cases c101 : (I 4 x0 2) ≤ s.2
  · rw [if_pos c101] at hf
    refine mx_WP.bge (x := s.2) (y := (I 4 x0 2)) (q := 34) (p3 := 12) rfl (fun _ => ?_) (fun hh => absurd c101 hh)
    rw [← Option.some.inj hf] at hk
    exact hk
  · rw [if_neg c101] at hf
    refine mx_WP.bge (x := s.2) (y := (I 4 x0 2)) (q := 34) (p3 := 12) rfl (fun hh => absurd hh c101) (fun _ => ?_)
    refine mx_WP.go 3 (pc' := 17) (L' := [some (mx_r (some (0, 4, x0))), some (mx_i x1), some (mx_i s.1), some (mx_i s.2)]) (st' := [mx_i s.2, mx_r (some (0, 72, x0))]) (σ' := (hC I J h, μ)) rfl ?_
    by_cases c102 : s.2 < 0 ∨ 16 ≤ s.2.toNatClampNeg
    · rw [if_pos c102] at hf
      cases hf
    rw [if_neg c102] at hf
    refine mx_WP.aal72 c102 ?_
    show mx_WP (d + 0) 52 18 [some (mx_r (some (0, 4, x0))), some (mx_i x1), some (mx_i s.1), some (mx_i s.2)] [mx_r (some (0, 3, (1 + 16 * x0 + s.2.toNatClampNeg)))] (hC I J h, μ) Q
    refine mx_WP.go 2 (pc' := 22) (L' := [some (mx_r (some (0, 4, x0))), some (mx_i x1), some (mx_i s.1), some (mx_i s.2)]) (st' := [mx_i x1, mx_i (I 3 (1 + 16 * x0 + s.2.toNatClampNeg) 4)]) (σ' := (hC I J h, μ)) rfl ?_
    by_cases c103 : (I 3 (1 + 16 * x0 + s.2.toNatClampNeg) 4) = x1
    · rw [if_pos c103] at hf
      refine mx_WP.bne (x := (I 3 (1 + 16 * x0 + s.2.toNatClampNeg) 4)) (y := x1) (q := 28) (p3 := 25) rfl (fun hh => absurd c103 hh) (fun _ => ?_)
      refine mx_WP.go 3 (pc' := 4) (L' := [some (mx_r (some (0, 4, x0))), some (mx_i x1), some (mx_i (s.1 + 1)), some (mx_i (s.2 + 1))]) (st' := []) (σ' := (hC I J h, μ)) rfl ?_
      rw [← Option.some.inj hf] at hk
      exact hk
    · rw [if_neg c103] at hf
      refine mx_WP.bne (x := (I 3 (1 + 16 * x0 + s.2.toNatClampNeg) 4)) (y := x1) (q := 28) (p3 := 25) rfl (fun _ => ?_) (fun hh => absurd c103 hh)
      refine mx_WP.go 2 (pc' := 4) (L' := [some (mx_r (some (0, 4, x0))), some (mx_i x1), some (mx_i s.1), some (mx_i (s.2 + 1))]) (st' := []) (σ' := (hC I J h, μ)) rfl ?_
      rw [← Option.some.inj hf] at hk
      exact hk
theorem L52_4 {d : Nat} {x0 : Nat} {x1 : Int32} {I : Nat → Nat → Nat → Int32} {J : Nat → Nat → Nat → Int64} {h : Nat → Nat} {μ : mx_Rg × (Nat × (Nat → Int32)) × (Nat × Nat)} {Q : Option mx_V → mx_Hp → Prop} {n : Nat} {s : Int32 × Int32} {o : Int32 × Int32} (hf : mx_lp (b52_4 x0 x1 I) n s = some o) (hk : (fun x : Int32 × Int32 => mx_WP (d + 0) 52 34 [some (mx_r (some (0, 4, x0))), some (mx_i x1), some (mx_i x.1), some (mx_i x.2)] [] (hC I J h, μ) Q) o) : mx_WP (d + 0) 52 4 [some (mx_r (some (0, 4, x0))), some (mx_i x1), some (mx_i s.1), some (mx_i s.2)] [] (hC I J h, μ) Q := mx_lp_ok (P := fun s : Int32 × Int32 => mx_WP (d + 0) 52 4 [some (mx_r (some (0, 4, x0))), some (mx_i x1), some (mx_i s.1), some (mx_i s.2)] [] (hC I J h, μ) Q) (E := (fun x : Int32 × Int32 => mx_WP (d + 0) 52 34 [some (mx_r (some (0, 4, x0))), some (mx_i x1), some (mx_i x.1), some (mx_i x.2)] [] (hC I J h, μ) Q)) (fun s o hf hk => B52_4 hf hk) n s o hf hk
def f52 (x0 : Nat) (x1 : Int32) (I : Nat → Nat → Nat → Int32) : Option (Int32) :=
  (mx_lp (b52_4 x0 x1 I) mx_fu ((0 : Int32), (0 : Int32))).bind fun u104 =>
  some u104.1
theorem T52 {d : Nat} {x0 : Nat} {x1 : Int32} {I : Nat → Nat → Nat → Int32} {J : Nat → Nat → Nat → Int64} {h : Nat → Nat} {μ : mx_Rg × (Nat × (Nat → Int32)) × (Nat × Nat)} {Q : Option mx_V → mx_Hp → Prop} {o : Int32} (hf : f52 x0 x1 I = some o) (hk : Q (some (mx_i o)) (hC I J h, μ)) : mx_WP (d + 0) 52 0 (mx_ent 52 [mx_r (some (0, 4, x0)), mx_i x1]) [] (hC I J h, μ) Q := by
  unfold f52 at hf
  refine mx_WP.go 4 (pc' := 4) (L' := [some (mx_r (some (0, 4, x0))), some (mx_i x1), some (mx_i (0 : Int32)), some (mx_i (0 : Int32))]) (st' := []) (σ' := (hC I J h, μ)) rfl ?_
  obtain ⟨u104, e105, hf⟩ := Option.bind_eq_some_iff.mp hf
  refine L52_4 (d := d) e105 ?_
  show mx_WP (d + 0) 52 34 [some (mx_r (some (0, 4, x0))), some (mx_i x1), some (mx_i u104.1), some (mx_i u104.2)] [] (hC I J h, μ) Q
  refine mx_WP.go 1 (pc' := 35) (L' := [some (mx_r (some (0, 4, x0))), some (mx_i x1), some (mx_i u104.1), some (mx_i u104.2)]) (st' := [mx_i u104.1]) (σ' := (hC I J h, μ)) rfl ?_
  rw [← Option.some.inj hf] at hk
  refine mx_WP.ret (v := some (mx_i u104.1)) rfl ?_
  exact hk
def f18 (x0 : Int32) (x1 : Int32) : Option (Int32) :=
  if x1 = (-1 : Int32) then (some (-1 : Int32)) else some (((x0 / (16 : Int32)) * (16 : Int32)) + x1)
theorem T18 {d : Nat} {x0 : Int32} {x1 : Int32} {σ : mx_Hp} {Q : Option mx_V → mx_Hp → Prop} {o : Int32} (hf : f18 x0 x1 = some o) (hk : Q (some (mx_i o)) σ) : mx_WP (d + 0) 18 0 (mx_ent 18 [mx_i x0, mx_i x1]) [] σ Q := by
  unfold f18 at hf
  refine mx_WP.go 2 (pc' := 2) (L' := [some (mx_i x0), some (mx_i x1)]) (st' := [mx_i (-1 : Int32), mx_i x1]) (σ' := σ) rfl ?_
  by_cases c1 : x1 = (-1 : Int32)
  · rw [if_pos c1] at hf
    refine mx_WP.bne (x := x1) (y := (-1 : Int32)) (q := 9) (p3 := 5) rfl (fun hh => absurd c1 hh) (fun _ => ?_)
    refine mx_WP.go 2 (pc' := 18) (L' := [some (mx_i x0), some (mx_i x1)]) (st' := [mx_i (-1 : Int32)]) (σ' := σ) rfl ?_
    rw [← Option.some.inj hf] at hk
    refine mx_WP.ret (v := some (mx_i (-1 : Int32))) rfl ?_
    exact hk
  · rw [if_neg c1] at hf
    refine mx_WP.bne (x := x1) (y := (-1 : Int32)) (q := 9) (p3 := 5) rfl (fun _ => ?_) (fun hh => absurd c1 hh)
    refine mx_WP.go 7 (pc' := 18) (L' := [some (mx_i x0), some (mx_i x1)]) (st' := [mx_i (((x0 / (16 : Int32)) * (16 : Int32)) + x1)]) (σ' := σ) rfl ?_
    rw [← Option.some.inj hf] at hk
    refine mx_WP.ret (v := some (mx_i (((x0 / (16 : Int32)) * (16 : Int32)) + x1))) rfl ?_
    exact hk
def f108 (x1 : Int32) (I : Nat → Nat → Nat → Int32) : Option (Bool) :=
  (f84 x1 I).bind fun u1 =>
  if u1 = true then ((f80 x1 I).bind fun u3 =>
  (f18 x1 (I 3 u3 5)).bind fun u4 =>
  if u4 < 0 ∨ 128 ≤ u4.toNatClampNeg then none else if (I 75 0 u4.toNatClampNeg) = (0 : Int32) then (some false) else some true) else some false
theorem T108 {d : Nat} {x1 : Int32} {I : Nat → Nat → Nat → Int32} {J : Nat → Nat → Nat → Int64} {h : Nat → Nat} {μ : mx_Rg × (Nat × (Nat → Int32)) × (Nat × Nat)} {Q : Option mx_V → mx_Hp → Prop} {o : Bool} (hf : f108 x1 I = some o) (hk : Q (some (mx_i (b2i o))) (hC I J h, μ)) : mx_WP (d + 3) 108 0 (mx_ent 108 [mx_r (some (0, 8, 0)), mx_i x1]) [] (hC I J h, μ) Q := by
  unfold f108 at hf
  refine mx_WP.go 3 (pc' := 5) (L' := [some (mx_r (some (0, 8, 0))), some (mx_i x1)]) (st' := [mx_i x1, mx_r (some (0, 7, 0))]) (σ' := (hC I J h, μ)) rfl ?_
  obtain ⟨u1, e9, hf⟩ := Option.bind_eq_some_iff.mp hf
  refine mx_WP.call (d := d + 2) (y := 84) (as := [mx_r (some (0, 7, 0)), mx_i x1]) (pc' := 8) (r := []) rfl rfl (T84 (d := d + 0)  e9 ?_)
  show mx_WP (d + 3) 108 8 [some (mx_r (some (0, 8, 0))), some (mx_i x1)] [mx_i (b2i u1)] (hC I J h, μ) Q
  by_cases c2 : u1 = true
  · rw [if_pos c2] at hf
    refine mx_WP.zeq (b := u1) (q := 38) (p3 := 11) rfl (fun hh => absurd hh (by simp [c2])) (fun _ => ?_)
    refine mx_WP.go 6 (pc' := 21) (L' := [some (mx_r (some (0, 8, 0))), some (mx_i x1)]) (st' := [mx_i x1, mx_r (some (0, 7, 0)), mx_i x1, mx_r (some (0, 75, 0))]) (σ' := (hC I J h, μ)) rfl ?_
    obtain ⟨u3, e8, hf⟩ := Option.bind_eq_some_iff.mp hf
    refine mx_WP.call (d := d + 2) (y := 80) (as := [mx_r (some (0, 7, 0)), mx_i x1]) (pc' := 24) (r := [mx_i x1, mx_r (some (0, 75, 0))]) rfl rfl (T80 (d := d + 1)  e8 ?_)
    show mx_WP (d + 3) 108 24 [some (mx_r (some (0, 8, 0))), some (mx_i x1)] [mx_r (some (0, 3, u3)), mx_i x1, mx_r (some (0, 75, 0))] (hC I J h, μ) Q
    refine mx_WP.go 1 (pc' := 27) (L' := [some (mx_r (some (0, 8, 0))), some (mx_i x1)]) (st' := [mx_i (I 3 u3 5), mx_i x1, mx_r (some (0, 75, 0))]) (σ' := (hC I J h, μ)) rfl ?_
    obtain ⟨u4, e7, hf⟩ := Option.bind_eq_some_iff.mp hf
    refine mx_WP.call (d := d + 2) (y := 18) (as := [mx_i x1, mx_i (I 3 u3 5)]) (pc' := 30) (r := [mx_r (some (0, 75, 0))]) rfl rfl (T18 (d := d + 2)  e7 ?_)
    show mx_WP (d + 3) 108 30 [some (mx_r (some (0, 8, 0))), some (mx_i x1)] [mx_i u4, mx_r (some (0, 75, 0))] (hC I J h, μ) Q
    by_cases c5 : u4 < 0 ∨ 128 ≤ u4.toNatClampNeg
    · rw [if_pos c5] at hf
      cases hf
    rw [if_neg c5] at hf
    refine mx_WP.baldx c5 ?_
    show mx_WP (d + 3) 108 31 [some (mx_r (some (0, 8, 0))), some (mx_i x1)] [mx_i (I 75 0 u4.toNatClampNeg)] (hC I J h, μ) Q
    by_cases c6 : (I 75 0 u4.toNatClampNeg) = (0 : Int32)
    · rw [if_pos c6] at hf
      refine mx_WP.beq (x := (I 75 0 u4.toNatClampNeg)) (y := (0 : Int32)) (q := 38) (p3 := 34) rfl (fun _ => ?_) (fun hh => absurd c6 hh)
      refine mx_WP.go 1 (pc' := 39) (L' := [some (mx_r (some (0, 8, 0))), some (mx_i x1)]) (st' := [mx_i (0 : Int32)]) (σ' := (hC I J h, μ)) rfl ?_
      rw [← Option.some.inj hf] at hk
      refine mx_WP.ret (v := some (mx_i (0 : Int32))) rfl ?_
      exact hk
    · rw [if_neg c6] at hf
      refine mx_WP.beq (x := (I 75 0 u4.toNatClampNeg)) (y := (0 : Int32)) (q := 38) (p3 := 34) rfl (fun hh => absurd hh c6) (fun _ => ?_)
      refine mx_WP.go 2 (pc' := 39) (L' := [some (mx_r (some (0, 8, 0))), some (mx_i x1)]) (st' := [mx_i (1 : Int32)]) (σ' := (hC I J h, μ)) rfl ?_
      rw [← Option.some.inj hf] at hk
      refine mx_WP.ret (v := some (mx_i (1 : Int32))) rfl ?_
      exact hk
  · rw [if_neg c2] at hf
    refine mx_WP.zeq (b := u1) (q := 38) (p3 := 11) rfl (fun _ => ?_) (fun hh => absurd hh (by simp [c2]))
    refine mx_WP.go 1 (pc' := 39) (L' := [some (mx_r (some (0, 8, 0))), some (mx_i x1)]) (st' := [mx_i (0 : Int32)]) (σ' := (hC I J h, μ)) rfl ?_
    rw [← Option.some.inj hf] at hk
    refine mx_WP.ret (v := some (mx_i (0 : Int32))) rfl ?_
    exact hk
def f17 (x1 : Int32) (x2 : Int32) (I : Nat → Nat → Nat → Int32) : Option (Int32) :=
  (f84 x1 I).bind fun u1 =>
  if u1 = true then ((f80 x1 I).bind fun u3 =>
  if x2 = (0 : Int32) then ((f81 x1).bind fun u5 =>
  (f52 u5 (I 3 u3 3) I).bind fun u6 =>
  some u6) else if x2 = (1 : Int32) then (some (I 3 u3 2)) else if x2 = (2 : Int32) then ((f18 x1 (I 3 u3 4)).bind fun u11 =>
  some u11) else if x2 = (3 : Int32) then (some (I 3 u3 6)) else if x2 = (4 : Int32) then ((f108 x1 I).bind fun u15 =>
  if u15 = true then (some (1 : Int32)) else some (0 : Int32)) else some (-1 : Int32)) else some (-1 : Int32)
theorem T17 {d : Nat} {x1 : Int32} {x2 : Int32} {I : Nat → Nat → Nat → Int32} {J : Nat → Nat → Nat → Int64} {h : Nat → Nat} {μ : mx_Rg × (Nat × (Nat → Int32)) × (Nat × Nat)} {Q : Option mx_V → mx_Hp → Prop} {o : Int32} (hf : f17 x1 x2 I = some o) (hk : Q (some (mx_i o)) (hC I J h, μ)) : mx_WP (d + 4) 17 0 (mx_ent 17 [mx_r (some (0, 0, 0)), mx_i x1, mx_i x2]) [] (hC I J h, μ) Q := by
  unfold f17 at hf
  refine mx_WP.go 3 (pc' := 5) (L' := [some (mx_r (some (0, 0, 0))), some (mx_i x1), some (mx_i x2), none]) (st' := [mx_i x1, mx_r (some (0, 7, 0))]) (σ' := (hC I J h, μ)) rfl ?_
  obtain ⟨u1, e19, hf⟩ := Option.bind_eq_some_iff.mp hf
  refine mx_WP.call (d := d + 3) (y := 84) (as := [mx_r (some (0, 7, 0)), mx_i x1]) (pc' := 8) (r := []) rfl rfl (T84 (d := d + 1)  e19 ?_)
  show mx_WP (d + 4) 17 8 [some (mx_r (some (0, 0, 0))), some (mx_i x1), some (mx_i x2), none] [mx_i (b2i u1)] (hC I J h, μ) Q
  by_cases c2 : u1 = true
  · rw [if_pos c2] at hf
    refine mx_WP.zne (b := u1) (q := 13) (p3 := 11) rfl (fun _ => ?_) (fun hh => absurd hh (by simp [c2]))
    refine mx_WP.go 3 (pc' := 18) (L' := [some (mx_r (some (0, 0, 0))), some (mx_i x1), some (mx_i x2), none]) (st' := [mx_i x1, mx_r (some (0, 7, 0))]) (σ' := (hC I J h, μ)) rfl ?_
    obtain ⟨u3, e18, hf⟩ := Option.bind_eq_some_iff.mp hf
    refine mx_WP.call (d := d + 3) (y := 80) (as := [mx_r (some (0, 7, 0)), mx_i x1]) (pc' := 21) (r := []) rfl rfl (T80 (d := d + 2)  e18 ?_)
    show mx_WP (d + 4) 17 21 [some (mx_r (some (0, 0, 0))), some (mx_i x1), some (mx_i x2), none] [mx_r (some (0, 3, u3))] (hC I J h, μ) Q
    refine mx_WP.go 2 (pc' := 23) (L' := [some (mx_r (some (0, 0, 0))), some (mx_i x1), some (mx_i x2), some (mx_r (some (0, 3, u3)))]) (st' := [mx_i x2]) (σ' := (hC I J h, μ)) rfl ?_
    by_cases c4 : x2 = (0 : Int32)
    · rw [if_pos c4] at hf
      refine mx_WP.sw (c := (0 : Int32)) (q := 56) c4 (by rfl) ?_
      refine mx_WP.go 3 (pc' := 61) (L' := [some (mx_r (some (0, 0, 0))), some (mx_i x1), some (mx_i x2), some (mx_r (some (0, 3, u3)))]) (st' := [mx_i x1, mx_r (some (0, 7, 0))]) (σ' := (hC I J h, μ)) rfl ?_
      obtain ⟨u5, e8, hf⟩ := Option.bind_eq_some_iff.mp hf
      refine mx_WP.call (d := d + 3) (y := 81) (as := [mx_r (some (0, 7, 0)), mx_i x1]) (pc' := 64) (r := []) rfl rfl (T81 (d := d + 3)  e8 ?_)
      show mx_WP (d + 4) 17 64 [some (mx_r (some (0, 0, 0))), some (mx_i x1), some (mx_i x2), some (mx_r (some (0, 3, u3)))] [mx_r (some (0, 4, u5))] (hC I J h, μ) Q
      refine mx_WP.go 2 (pc' := 68) (L' := [some (mx_r (some (0, 0, 0))), some (mx_i x1), some (mx_i x2), some (mx_r (some (0, 3, u3)))]) (st' := [mx_i (I 3 u3 3), mx_r (some (0, 4, u5))]) (σ' := (hC I J h, μ)) rfl ?_
      obtain ⟨u6, e7, hf⟩ := Option.bind_eq_some_iff.mp hf
      refine mx_WP.call (d := d + 3) (y := 52) (as := [mx_r (some (0, 4, u5)), mx_i (I 3 u3 3)]) (pc' := 71) (r := []) rfl rfl (T52 (d := d + 3)  e7 ?_)
      show mx_WP (d + 4) 17 71 [some (mx_r (some (0, 0, 0))), some (mx_i x1), some (mx_i x2), some (mx_r (some (0, 3, u3)))] [mx_i u6] (hC I J h, μ) Q
      rw [← Option.some.inj hf] at hk
      refine mx_WP.ret (v := some (mx_i u6)) rfl ?_
      exact hk
    rw [if_neg c4] at hf
    by_cases c9 : x2 = (1 : Int32)
    · rw [if_pos c9] at hf
      refine mx_WP.sw (c := (1 : Int32)) (q := 72) c9 (by rfl) ?_
      refine mx_WP.go 2 (pc' := 76) (L' := [some (mx_r (some (0, 0, 0))), some (mx_i x1), some (mx_i x2), some (mx_r (some (0, 3, u3)))]) (st' := [mx_i (I 3 u3 2)]) (σ' := (hC I J h, μ)) rfl ?_
      rw [← Option.some.inj hf] at hk
      refine mx_WP.ret (v := some (mx_i (I 3 u3 2))) rfl ?_
      exact hk
    rw [if_neg c9] at hf
    by_cases c10 : x2 = (2 : Int32)
    · rw [if_pos c10] at hf
      refine mx_WP.sw (c := (2 : Int32)) (q := 77) c10 (by rfl) ?_
      refine mx_WP.go 3 (pc' := 82) (L' := [some (mx_r (some (0, 0, 0))), some (mx_i x1), some (mx_i x2), some (mx_r (some (0, 3, u3)))]) (st' := [mx_i (I 3 u3 4), mx_i x1]) (σ' := (hC I J h, μ)) rfl ?_
      obtain ⟨u11, e12, hf⟩ := Option.bind_eq_some_iff.mp hf
      refine mx_WP.call (d := d + 3) (y := 18) (as := [mx_i x1, mx_i (I 3 u3 4)]) (pc' := 85) (r := []) rfl rfl (T18 (d := d + 3)  e12 ?_)
      show mx_WP (d + 4) 17 85 [some (mx_r (some (0, 0, 0))), some (mx_i x1), some (mx_i x2), some (mx_r (some (0, 3, u3)))] [mx_i u11] (hC I J h, μ) Q
      rw [← Option.some.inj hf] at hk
      refine mx_WP.ret (v := some (mx_i u11)) rfl ?_
      exact hk
    rw [if_neg c10] at hf
    by_cases c13 : x2 = (3 : Int32)
    · rw [if_pos c13] at hf
      refine mx_WP.sw (c := (3 : Int32)) (q := 86) c13 (by rfl) ?_
      refine mx_WP.go 2 (pc' := 90) (L' := [some (mx_r (some (0, 0, 0))), some (mx_i x1), some (mx_i x2), some (mx_r (some (0, 3, u3)))]) (st' := [mx_i (I 3 u3 6)]) (σ' := (hC I J h, μ)) rfl ?_
      rw [← Option.some.inj hf] at hk
      refine mx_WP.ret (v := some (mx_i (I 3 u3 6))) rfl ?_
      exact hk
    rw [if_neg c13] at hf
    by_cases c14 : x2 = (4 : Int32)
    · rw [if_pos c14] at hf
      refine mx_WP.sw (c := (4 : Int32)) (q := 91) c14 (by rfl) ?_
      refine mx_WP.go 3 (pc' := 96) (L' := [some (mx_r (some (0, 0, 0))), some (mx_i x1), some (mx_i x2), some (mx_r (some (0, 3, u3)))]) (st' := [mx_i x1, mx_r (some (0, 8, 0))]) (σ' := (hC I J h, μ)) rfl ?_
      obtain ⟨u15, e17, hf⟩ := Option.bind_eq_some_iff.mp hf
      refine mx_WP.call (d := d + 3) (y := 108) (as := [mx_r (some (0, 8, 0)), mx_i x1]) (pc' := 99) (r := []) rfl rfl (T108 (d := d + 0)  e17 ?_)
      show mx_WP (d + 4) 17 99 [some (mx_r (some (0, 0, 0))), some (mx_i x1), some (mx_i x2), some (mx_r (some (0, 3, u3)))] [mx_i (b2i u15)] (hC I J h, μ) Q
      by_cases c16 : u15 = true
      · rw [if_pos c16] at hf
        refine mx_WP.zeq (b := u15) (q := 106) (p3 := 102) rfl (fun hh => absurd hh (by simp [c16])) (fun _ => ?_)
        refine mx_WP.go 2 (pc' := 107) (L' := [some (mx_r (some (0, 0, 0))), some (mx_i x1), some (mx_i x2), some (mx_r (some (0, 3, u3)))]) (st' := [mx_i (1 : Int32)]) (σ' := (hC I J h, μ)) rfl ?_
        rw [← Option.some.inj hf] at hk
        refine mx_WP.ret (v := some (mx_i (1 : Int32))) rfl ?_
        exact hk
      · rw [if_neg c16] at hf
        refine mx_WP.zeq (b := u15) (q := 106) (p3 := 102) rfl (fun _ => ?_) (fun hh => absurd hh (by simp [c16]))
        refine mx_WP.go 1 (pc' := 107) (L' := [some (mx_r (some (0, 0, 0))), some (mx_i x1), some (mx_i x2), some (mx_r (some (0, 3, u3)))]) (st' := [mx_i (0 : Int32)]) (σ' := (hC I J h, μ)) rfl ?_
        rw [← Option.some.inj hf] at hk
        refine mx_WP.ret (v := some (mx_i (0 : Int32))) rfl ?_
        exact hk
    rw [if_neg c14] at hf
    refine mx_WP.swt (q := 108) (mx_tso5 c4 c9 c10 c13 c14) (by rfl) (by rfl) ?_
    refine mx_WP.go 1 (pc' := 109) (L' := [some (mx_r (some (0, 0, 0))), some (mx_i x1), some (mx_i x2), some (mx_r (some (0, 3, u3)))]) (st' := [mx_i (-1 : Int32)]) (σ' := (hC I J h, μ)) rfl ?_
    rw [← Option.some.inj hf] at hk
    refine mx_WP.ret (v := some (mx_i (-1 : Int32))) rfl ?_
    exact hk
  · rw [if_neg c2] at hf
    refine mx_WP.zne (b := u1) (q := 13) (p3 := 11) rfl (fun hh => absurd hh (by simp [c2])) (fun _ => ?_)
    refine mx_WP.go 1 (pc' := 12) (L' := [some (mx_r (some (0, 0, 0))), some (mx_i x1), some (mx_i x2), none]) (st' := [mx_i (-1 : Int32)]) (σ' := (hC I J h, μ)) rfl ?_
    rw [← Option.some.inj hf] at hk
    refine mx_WP.ret (v := some (mx_i (-1 : Int32))) rfl ?_
    exact hk
def f19 (x1 : Int32) (I : Nat → Nat → Nat → Int32) (J : Nat → Nat → Nat → Int64) : Option (Int64) :=
  (f80 x1 I).bind fun u1 =>
  some (J 3 u1 7)
theorem T19 {d : Nat} {x1 : Int32} {I : Nat → Nat → Nat → Int32} {J : Nat → Nat → Nat → Int64} {h : Nat → Nat} {μ : mx_Rg × (Nat × (Nat → Int32)) × (Nat × Nat)} {Q : Option mx_V → mx_Hp → Prop} {o : Int64} (hf : f19 x1 I J = some o) (hk : Q (some (mx_l o)) (hC I J h, μ)) : mx_WP (d + 2) 19 0 (mx_ent 19 [mx_r (some (0, 0, 0)), mx_i x1]) [] (hC I J h, μ) Q := by
  unfold f19 at hf
  refine mx_WP.go 3 (pc' := 5) (L' := [some (mx_r (some (0, 0, 0))), some (mx_i x1)]) (st' := [mx_i x1, mx_r (some (0, 7, 0))]) (σ' := (hC I J h, μ)) rfl ?_
  obtain ⟨u1, e2, hf⟩ := Option.bind_eq_some_iff.mp hf
  refine mx_WP.call (d := d + 1) (y := 80) (as := [mx_r (some (0, 7, 0)), mx_i x1]) (pc' := 8) (r := []) rfl rfl (T80 (d := d + 0)  e2 ?_)
  show mx_WP (d + 2) 19 8 [some (mx_r (some (0, 0, 0))), some (mx_i x1)] [mx_r (some (0, 3, u1))] (hC I J h, μ) Q
  refine mx_WP.go 1 (pc' := 11) (L' := [some (mx_r (some (0, 0, 0))), some (mx_i x1)]) (st' := [mx_l (J 3 u1 7)]) (σ' := (hC I J h, μ)) rfl ?_
  rw [← Option.some.inj hf] at hk
  refine mx_WP.ret (v := some (mx_l (J 3 u1 7))) rfl ?_
  exact hk
def b53_5 (x0 : Nat) (x1 : Int32) (x2 : Int32) (I : Nat → Nat → Nat → Int32) (s : Int32 × Int32) : Option ((Int32 × Int32) ⊕ ((Int32 × Int32) ⊕ (Int32))) :=
  if (I 4 x0 2) ≤ s.2 then (some (Sum.inr (Sum.inl (s.1, s.2)))) else if s.2 < 0 ∨ 16 ≤ s.2.toNatClampNeg then none else if (I 3 (1 + 16 * x0 + s.2.toNatClampNeg) 4) = x1 then (if s.1 = x2 then (some (Sum.inr (Sum.inr s.2))) else some (Sum.inl (s.1 + 1, s.2 + 1))) else some (Sum.inl (s.1, s.2 + 1))
theorem B53_5 {d : Nat} {x0 : Nat} {x1 : Int32} {x2 : Int32} {I : Nat → Nat → Nat → Int32} {J : Nat → Nat → Nat → Int64} {h : Nat → Nat} {μ : mx_Rg × (Nat × (Nat → Int32)) × (Nat × Nat)} {Q : Option mx_V → mx_Hp → Prop} {s : Int32 × Int32} {o : (Int32 × Int32) ⊕ ((Int32 × Int32) ⊕ (Int32))} (hf : b53_5 x0 x1 x2 I s = some o) (hk : Sum.elim (fun s : Int32 × Int32 => mx_WP (d + 0) 53 5 [some (mx_r (some (0, 4, x0))), some (mx_i x1), some (mx_i x2), some (mx_i s.1), some (mx_i s.2)] [] (hC I J h, μ) Q) (Sum.elim (fun x : Int32 × Int32 => mx_WP (d + 0) 53 45 [some (mx_r (some (0, 4, x0))), some (mx_i x1), some (mx_i x2), some (mx_i x.1), some (mx_i x.2)] [] (hC I J h, μ) Q) (fun x : Int32 => Q (some (mx_i x)) (hC I J h, μ))) o) : mx_WP (d + 0) 53 5 [some (mx_r (some (0, 4, x0))), some (mx_i x1), some (mx_i x2), some (mx_i s.1), some (mx_i s.2)] [] (hC I J h, μ) Q := by
  unfold b53_5 at hf
  refine mx_WP.go 3 (pc' := 11) (L' := [some (mx_r (some (0, 4, x0))), some (mx_i x1), some (mx_i x2), some (mx_i s.1), some (mx_i s.2)]) (st' := [mx_i (I 4 x0 2), mx_i s.2]) (σ' := (hC I J h, μ)) rfl ?_
  by_cases c101 : (I 4 x0 2) ≤ s.2
  · rw [if_pos c101] at hf
    refine mx_WP.bge (x := s.2) (y := (I 4 x0 2)) (q := 45) (p3 := 14) rfl (fun _ => ?_) (fun hh => absurd c101 hh)
    rw [← Option.some.inj hf] at hk
    exact hk
  · rw [if_neg c101] at hf
    refine mx_WP.bge (x := s.2) (y := (I 4 x0 2)) (q := 45) (p3 := 14) rfl (fun hh => absurd hh c101) (fun _ => ?_)
    refine mx_WP.go 3 (pc' := 20) (L' := [some (mx_r (some (0, 4, x0))), some (mx_i x1), some (mx_i x2), some (mx_i s.1), some (mx_i s.2)]) (st' := [mx_i s.2, mx_r (some (0, 72, x0))]) (σ' := (hC I J h, μ)) rfl ?_
    by_cases c102 : s.2 < 0 ∨ 16 ≤ s.2.toNatClampNeg
    · rw [if_pos c102] at hf
      cases hf
    rw [if_neg c102] at hf
    refine mx_WP.aal72 c102 ?_
    show mx_WP (d + 0) 53 21 [some (mx_r (some (0, 4, x0))), some (mx_i x1), some (mx_i x2), some (mx_i s.1), some (mx_i s.2)] [mx_r (some (0, 3, (1 + 16 * x0 + s.2.toNatClampNeg)))] (hC I J h, μ) Q
    refine mx_WP.go 2 (pc' := 25) (L' := [some (mx_r (some (0, 4, x0))), some (mx_i x1), some (mx_i x2), some (mx_i s.1), some (mx_i s.2)]) (st' := [mx_i x1, mx_i (I 3 (1 + 16 * x0 + s.2.toNatClampNeg) 4)]) (σ' := (hC I J h, μ)) rfl ?_
    by_cases c103 : (I 3 (1 + 16 * x0 + s.2.toNatClampNeg) 4) = x1
    · rw [if_pos c103] at hf
      refine mx_WP.bne (x := (I 3 (1 + 16 * x0 + s.2.toNatClampNeg) 4)) (y := x1) (q := 39) (p3 := 28) rfl (fun hh => absurd c103 hh) (fun _ => ?_)
      refine mx_WP.go 2 (pc' := 30) (L' := [some (mx_r (some (0, 4, x0))), some (mx_i x1), some (mx_i x2), some (mx_i s.1), some (mx_i s.2)]) (st' := [mx_i x2, mx_i s.1]) (σ' := (hC I J h, μ)) rfl ?_
      by_cases c104 : s.1 = x2
      · rw [if_pos c104] at hf
        refine mx_WP.bne (x := s.1) (y := x2) (q := 36) (p3 := 33) rfl (fun hh => absurd c104 hh) (fun _ => ?_)
        refine mx_WP.go 1 (pc' := 35) (L' := [some (mx_r (some (0, 4, x0))), some (mx_i x1), some (mx_i x2), some (mx_i s.1), some (mx_i s.2)]) (st' := [mx_i s.2]) (σ' := (hC I J h, μ)) rfl ?_
        rw [← Option.some.inj hf] at hk
        refine mx_WP.ret (v := some (mx_i s.2)) rfl ?_
        exact hk
      · rw [if_neg c104] at hf
        refine mx_WP.bne (x := s.1) (y := x2) (q := 36) (p3 := 33) rfl (fun _ => ?_) (fun hh => absurd c104 hh)
        refine mx_WP.go 3 (pc' := 5) (L' := [some (mx_r (some (0, 4, x0))), some (mx_i x1), some (mx_i x2), some (mx_i (s.1 + 1)), some (mx_i (s.2 + 1))]) (st' := []) (σ' := (hC I J h, μ)) rfl ?_
        rw [← Option.some.inj hf] at hk
        exact hk
    · rw [if_neg c103] at hf
      refine mx_WP.bne (x := (I 3 (1 + 16 * x0 + s.2.toNatClampNeg) 4)) (y := x1) (q := 39) (p3 := 28) rfl (fun _ => ?_) (fun hh => absurd c103 hh)
      refine mx_WP.go 2 (pc' := 5) (L' := [some (mx_r (some (0, 4, x0))), some (mx_i x1), some (mx_i x2), some (mx_i s.1), some (mx_i (s.2 + 1))]) (st' := []) (σ' := (hC I J h, μ)) rfl ?_
      rw [← Option.some.inj hf] at hk
      exact hk
theorem L53_5 {d : Nat} {x0 : Nat} {x1 : Int32} {x2 : Int32} {I : Nat → Nat → Nat → Int32} {J : Nat → Nat → Nat → Int64} {h : Nat → Nat} {μ : mx_Rg × (Nat × (Nat → Int32)) × (Nat × Nat)} {Q : Option mx_V → mx_Hp → Prop} {n : Nat} {s : Int32 × Int32} {o : (Int32 × Int32) ⊕ (Int32)} (hf : mx_lp (b53_5 x0 x1 x2 I) n s = some o) (hk : (Sum.elim (fun x : Int32 × Int32 => mx_WP (d + 0) 53 45 [some (mx_r (some (0, 4, x0))), some (mx_i x1), some (mx_i x2), some (mx_i x.1), some (mx_i x.2)] [] (hC I J h, μ) Q) (fun x : Int32 => Q (some (mx_i x)) (hC I J h, μ))) o) : mx_WP (d + 0) 53 5 [some (mx_r (some (0, 4, x0))), some (mx_i x1), some (mx_i x2), some (mx_i s.1), some (mx_i s.2)] [] (hC I J h, μ) Q := mx_lp_ok (P := fun s : Int32 × Int32 => mx_WP (d + 0) 53 5 [some (mx_r (some (0, 4, x0))), some (mx_i x1), some (mx_i x2), some (mx_i s.1), some (mx_i s.2)] [] (hC I J h, μ) Q) (E := (Sum.elim (fun x : Int32 × Int32 => mx_WP (d + 0) 53 45 [some (mx_r (some (0, 4, x0))), some (mx_i x1), some (mx_i x2), some (mx_i x.1), some (mx_i x.2)] [] (hC I J h, μ) Q) (fun x : Int32 => Q (some (mx_i x)) (hC I J h, μ)))) (fun s o hf hk => B53_5 hf hk) n s o hf hk
def f53 (x0 : Nat) (x1 : Int32) (x2 : Int32) (I : Nat → Nat → Nat → Int32) : Option (Int32) :=
  (mx_lp (b53_5 x0 x1 x2 I) mx_fu ((0 : Int32), (0 : Int32))).bind fun u105 => Sum.elim (fun w107 =>
  some (-1 : Int32)) (fun y108 => some y108) u105
theorem T53 {d : Nat} {x0 : Nat} {x1 : Int32} {x2 : Int32} {I : Nat → Nat → Nat → Int32} {J : Nat → Nat → Nat → Int64} {h : Nat → Nat} {μ : mx_Rg × (Nat × (Nat → Int32)) × (Nat × Nat)} {Q : Option mx_V → mx_Hp → Prop} {o : Int32} (hf : f53 x0 x1 x2 I = some o) (hk : Q (some (mx_i o)) (hC I J h, μ)) : mx_WP (d + 0) 53 0 (mx_ent 53 [mx_r (some (0, 4, x0)), mx_i x1, mx_i x2]) [] (hC I J h, μ) Q := by
  unfold f53 at hf
  refine mx_WP.go 4 (pc' := 5) (L' := [some (mx_r (some (0, 4, x0))), some (mx_i x1), some (mx_i x2), some (mx_i (0 : Int32)), some (mx_i (0 : Int32))]) (st' := []) (σ' := (hC I J h, μ)) rfl ?_
  obtain ⟨u105, e106, hf⟩ := Option.bind_eq_some_iff.mp hf
  cases u105 with
  | inr y108 =>
    rw [Sum.elim_inr] at hf
    rw [← Option.some.inj hf] at hk
    exact (L53_5 (d := d) e106 hk)
  | inl w107 =>
    rw [Sum.elim_inl] at hf
    refine (L53_5 (d := d) e106 ?_)
    show mx_WP (d + 0) 53 45 [some (mx_r (some (0, 4, x0))), some (mx_i x1), some (mx_i x2), some (mx_i w107.1), some (mx_i w107.2)] [] (hC I J h, μ) Q
    refine mx_WP.go 1 (pc' := 46) (L' := [some (mx_r (some (0, 4, x0))), some (mx_i x1), some (mx_i x2), some (mx_i w107.1), some (mx_i w107.2)]) (st' := [mx_i (-1 : Int32)]) (σ' := (hC I J h, μ)) rfl ?_
    rw [← Option.some.inj hf] at hk
    refine mx_WP.ret (v := some (mx_i (-1 : Int32))) rfl ?_
    exact hk
def f20 (x1 : Int32) (x2 : Int32) (I : Nat → Nat → Nat → Int32) : Option (Int32) :=
  (f84 x1 I).bind fun u1 =>
  if u1 = true then ((f81 x1).bind fun u3 =>
  (f80 x1 I).bind fun u4 =>
  (f53 u3 (I 3 u4 3) x2 I).bind fun u5 =>
  if u5 = (-1 : Int32) then (some (-1 : Int32)) else (f18 x1 u5).bind fun u7 =>
  some u7) else some (-1 : Int32)
theorem T20 {d : Nat} {x1 : Int32} {x2 : Int32} {I : Nat → Nat → Nat → Int32} {J : Nat → Nat → Nat → Int64} {h : Nat → Nat} {μ : mx_Rg × (Nat × (Nat → Int32)) × (Nat × Nat)} {Q : Option mx_V → mx_Hp → Prop} {o : Int32} (hf : f20 x1 x2 I = some o) (hk : Q (some (mx_i o)) (hC I J h, μ)) : mx_WP (d + 3) 20 0 (mx_ent 20 [mx_r (some (0, 0, 0)), mx_i x1, mx_i x2]) [] (hC I J h, μ) Q := by
  unfold f20 at hf
  refine mx_WP.go 3 (pc' := 5) (L' := [some (mx_r (some (0, 0, 0))), some (mx_i x1), some (mx_i x2), none]) (st' := [mx_i x1, mx_r (some (0, 7, 0))]) (σ' := (hC I J h, μ)) rfl ?_
  obtain ⟨u1, e12, hf⟩ := Option.bind_eq_some_iff.mp hf
  refine mx_WP.call (d := d + 2) (y := 84) (as := [mx_r (some (0, 7, 0)), mx_i x1]) (pc' := 8) (r := []) rfl rfl (T84 (d := d + 0)  e12 ?_)
  show mx_WP (d + 3) 20 8 [some (mx_r (some (0, 0, 0))), some (mx_i x1), some (mx_i x2), none] [mx_i (b2i u1)] (hC I J h, μ) Q
  by_cases c2 : u1 = true
  · rw [if_pos c2] at hf
    refine mx_WP.zne (b := u1) (q := 13) (p3 := 11) rfl (fun _ => ?_) (fun hh => absurd hh (by simp [c2]))
    refine mx_WP.go 3 (pc' := 18) (L' := [some (mx_r (some (0, 0, 0))), some (mx_i x1), some (mx_i x2), none]) (st' := [mx_i x1, mx_r (some (0, 7, 0))]) (σ' := (hC I J h, μ)) rfl ?_
    obtain ⟨u3, e11, hf⟩ := Option.bind_eq_some_iff.mp hf
    refine mx_WP.call (d := d + 2) (y := 81) (as := [mx_r (some (0, 7, 0)), mx_i x1]) (pc' := 21) (r := []) rfl rfl (T81 (d := d + 2)  e11 ?_)
    show mx_WP (d + 3) 20 21 [some (mx_r (some (0, 0, 0))), some (mx_i x1), some (mx_i x2), none] [mx_r (some (0, 4, u3))] (hC I J h, μ) Q
    refine mx_WP.go 3 (pc' := 26) (L' := [some (mx_r (some (0, 0, 0))), some (mx_i x1), some (mx_i x2), none]) (st' := [mx_i x1, mx_r (some (0, 7, 0)), mx_r (some (0, 4, u3))]) (σ' := (hC I J h, μ)) rfl ?_
    obtain ⟨u4, e10, hf⟩ := Option.bind_eq_some_iff.mp hf
    refine mx_WP.call (d := d + 2) (y := 80) (as := [mx_r (some (0, 7, 0)), mx_i x1]) (pc' := 29) (r := [mx_r (some (0, 4, u3))]) rfl rfl (T80 (d := d + 1)  e10 ?_)
    show mx_WP (d + 3) 20 29 [some (mx_r (some (0, 0, 0))), some (mx_i x1), some (mx_i x2), none] [mx_r (some (0, 3, u4)), mx_r (some (0, 4, u3))] (hC I J h, μ) Q
    refine mx_WP.go 2 (pc' := 33) (L' := [some (mx_r (some (0, 0, 0))), some (mx_i x1), some (mx_i x2), none]) (st' := [mx_i x2, mx_i (I 3 u4 3), mx_r (some (0, 4, u3))]) (σ' := (hC I J h, μ)) rfl ?_
    obtain ⟨u5, e9, hf⟩ := Option.bind_eq_some_iff.mp hf
    refine mx_WP.call (d := d + 2) (y := 53) (as := [mx_r (some (0, 4, u3)), mx_i (I 3 u4 3), mx_i x2]) (pc' := 36) (r := []) rfl rfl (T53 (d := d + 2)  e9 ?_)
    show mx_WP (d + 3) 20 36 [some (mx_r (some (0, 0, 0))), some (mx_i x1), some (mx_i x2), none] [mx_i u5] (hC I J h, μ) Q
    refine mx_WP.go 3 (pc' := 39) (L' := [some (mx_r (some (0, 0, 0))), some (mx_i x1), some (mx_i x2), some (mx_i u5)]) (st' := [mx_i (-1 : Int32), mx_i u5]) (σ' := (hC I J h, μ)) rfl ?_
    by_cases c6 : u5 = (-1 : Int32)
    · rw [if_pos c6] at hf
      refine mx_WP.bne (x := u5) (y := (-1 : Int32)) (q := 46) (p3 := 42) rfl (fun hh => absurd c6 hh) (fun _ => ?_)
      refine mx_WP.go 2 (pc' := 51) (L' := [some (mx_r (some (0, 0, 0))), some (mx_i x1), some (mx_i x2), some (mx_i u5)]) (st' := [mx_i (-1 : Int32)]) (σ' := (hC I J h, μ)) rfl ?_
      rw [← Option.some.inj hf] at hk
      refine mx_WP.ret (v := some (mx_i (-1 : Int32))) rfl ?_
      exact hk
    · rw [if_neg c6] at hf
      refine mx_WP.bne (x := u5) (y := (-1 : Int32)) (q := 46) (p3 := 42) rfl (fun _ => ?_) (fun hh => absurd c6 hh)
      refine mx_WP.go 2 (pc' := 48) (L' := [some (mx_r (some (0, 0, 0))), some (mx_i x1), some (mx_i x2), some (mx_i u5)]) (st' := [mx_i u5, mx_i x1]) (σ' := (hC I J h, μ)) rfl ?_
      obtain ⟨u7, e8, hf⟩ := Option.bind_eq_some_iff.mp hf
      refine mx_WP.call (d := d + 2) (y := 18) (as := [mx_i x1, mx_i u5]) (pc' := 51) (r := []) rfl rfl (T18 (d := d + 2)  e8 ?_)
      show mx_WP (d + 3) 20 51 [some (mx_r (some (0, 0, 0))), some (mx_i x1), some (mx_i x2), some (mx_i u5)] [mx_i u7] (hC I J h, μ) Q
      rw [← Option.some.inj hf] at hk
      refine mx_WP.ret (v := some (mx_i u7)) rfl ?_
      exact hk
  · rw [if_neg c2] at hf
    refine mx_WP.zne (b := u1) (q := 13) (p3 := 11) rfl (fun hh => absurd hh (by simp [c2])) (fun _ => ?_)
    refine mx_WP.go 1 (pc' := 12) (L' := [some (mx_r (some (0, 0, 0))), some (mx_i x1), some (mx_i x2), none]) (st' := [mx_i (-1 : Int32)]) (σ' := (hC I J h, μ)) rfl ?_
    rw [← Option.some.inj hf] at hk
    refine mx_WP.ret (v := some (mx_i (-1 : Int32))) rfl ?_
    exact hk
def f21 (x1 : Int32) (x2 : Int64) (I : Nat → Nat → Nat → Int32) (J : Nat → Nat → Nat → Int64) : Option (Int64) :=
  (f80 x1 I).bind fun u1 =>
  (f45 u1 x2 I J).bind fun u2 =>
  some u2
theorem T21 {d : Nat} {x1 : Int32} {x2 : Int64} {I : Nat → Nat → Nat → Int32} {J : Nat → Nat → Nat → Int64} {h : Nat → Nat} {μ : mx_Rg × (Nat × (Nat → Int32)) × (Nat × Nat)} {Q : Option mx_V → mx_Hp → Prop} {o : Int64} (hf : f21 x1 x2 I J = some o) (hk : Q (some (mx_l o)) (hC I J h, μ)) : mx_WP (d + 2) 21 0 (mx_ent 21 [mx_r (some (0, 0, 0)), mx_i x1, mx_l x2]) [] (hC I J h, μ) Q := by
  unfold f21 at hf
  refine mx_WP.go 3 (pc' := 5) (L' := [some (mx_r (some (0, 0, 0))), some (mx_i x1), some (mx_l x2), none]) (st' := [mx_i x1, mx_r (some (0, 7, 0))]) (σ' := (hC I J h, μ)) rfl ?_
  obtain ⟨u1, e4, hf⟩ := Option.bind_eq_some_iff.mp hf
  refine mx_WP.call (d := d + 1) (y := 80) (as := [mx_r (some (0, 7, 0)), mx_i x1]) (pc' := 8) (r := []) rfl rfl (T80 (d := d + 0)  e4 ?_)
  show mx_WP (d + 2) 21 8 [some (mx_r (some (0, 0, 0))), some (mx_i x1), some (mx_l x2), none] [mx_r (some (0, 3, u1))] (hC I J h, μ) Q
  refine mx_WP.go 1 (pc' := 9) (L' := [some (mx_r (some (0, 0, 0))), some (mx_i x1), some (mx_l x2), none]) (st' := [mx_l x2, mx_r (some (0, 3, u1))]) (σ' := (hC I J h, μ)) rfl ?_
  obtain ⟨u2, e3, hf⟩ := Option.bind_eq_some_iff.mp hf
  refine mx_WP.call (d := d + 1) (y := 45) (as := [mx_r (some (0, 3, u1)), mx_l x2]) (pc' := 12) (r := []) rfl rfl (T45 (d := d + 1)  e3 ?_)
  show mx_WP (d + 2) 21 12 [some (mx_r (some (0, 0, 0))), some (mx_i x1), some (mx_l x2), none] [mx_l u2] (hC I J h, μ) Q
  rw [← Option.some.inj hf] at hk
  refine mx_WP.ret (v := some (mx_l u2)) rfl ?_
  exact hk
def f23 (x1 : Int32) (x2 : Int32) (I : Nat → Nat → Nat → Int32) : Option (Int32) :=
  if x1 < (0 : Int32) then (some (-1 : Int32)) else if x1 < (I 9 0 4) then (if x2 = (0 : Int32) then (if x1 < 0 ∨ 24 ≤ x1.toNatClampNeg then none else some (I 77 0 x1.toNatClampNeg)) else if x2 = (1 : Int32) then (if x1 < 0 ∨ 24 ≤ x1.toNatClampNeg then none else some (I 79 0 x1.toNatClampNeg)) else if x2 = (2 : Int32) then (if x1 < 0 ∨ 24 ≤ x1.toNatClampNeg then none else if (I 80 0 x1.toNatClampNeg) = (0 : Int32) then (some (1 : Int32)) else some (0 : Int32)) else some (-1 : Int32)) else some (-1 : Int32)
theorem T23 {d : Nat} {x1 : Int32} {x2 : Int32} {I : Nat → Nat → Nat → Int32} {J : Nat → Nat → Nat → Int64} {h : Nat → Nat} {μ : mx_Rg × (Nat × (Nat → Int32)) × (Nat × Nat)} {Q : Option mx_V → mx_Hp → Prop} {o : Int32} (hf : f23 x1 x2 I = some o) (hk : Q (some (mx_i o)) (hC I J h, μ)) : mx_WP (d + 0) 23 0 (mx_ent 23 [mx_r (some (0, 0, 0)), mx_i x1, mx_i x2]) [] (hC I J h, μ) Q := by
  unfold f23 at hf
  refine mx_WP.go 1 (pc' := 1) (L' := [some (mx_r (some (0, 0, 0))), some (mx_i x1), some (mx_i x2)]) (st' := [mx_i x1]) (σ' := (hC I J h, μ)) rfl ?_
  by_cases c1 : x1 < (0 : Int32)
  · rw [if_pos c1] at hf
    refine mx_WP.blt (x := x1) (y := (0 : Int32)) (q := 15) (p3 := 4) rfl (fun _ => ?_) (fun hh => absurd c1 hh)
    refine mx_WP.go 1 (pc' := 16) (L' := [some (mx_r (some (0, 0, 0))), some (mx_i x1), some (mx_i x2)]) (st' := [mx_i (-1 : Int32)]) (σ' := (hC I J h, μ)) rfl ?_
    rw [← Option.some.inj hf] at hk
    refine mx_WP.ret (v := some (mx_i (-1 : Int32))) rfl ?_
    exact hk
  · rw [if_neg c1] at hf
    refine mx_WP.blt (x := x1) (y := (0 : Int32)) (q := 15) (p3 := 4) rfl (fun hh => absurd hh c1) (fun _ => ?_)
    refine mx_WP.go 4 (pc' := 12) (L' := [some (mx_r (some (0, 0, 0))), some (mx_i x1), some (mx_i x2)]) (st' := [mx_i (I 9 0 4), mx_i x1]) (σ' := (hC I J h, μ)) rfl ?_
    by_cases c2 : x1 < (I 9 0 4)
    · rw [if_pos c2] at hf
      refine mx_WP.blt (x := x1) (y := (I 9 0 4)) (q := 17) (p3 := 15) rfl (fun _ => ?_) (fun hh => absurd c2 hh)
      refine mx_WP.go 1 (pc' := 18) (L' := [some (mx_r (some (0, 0, 0))), some (mx_i x1), some (mx_i x2)]) (st' := [mx_i x2]) (σ' := (hC I J h, μ)) rfl ?_
      by_cases c3 : x2 = (0 : Int32)
      · rw [if_pos c3] at hf
        refine mx_WP.sw (c := (0 : Int32)) (q := 44) c3 (by rfl) ?_
        refine mx_WP.go 4 (pc' := 52) (L' := [some (mx_r (some (0, 0, 0))), some (mx_i x1), some (mx_i x2)]) (st' := [mx_i x1, mx_r (some (0, 77, 0))]) (σ' := (hC I J h, μ)) rfl ?_
        by_cases c4 : x1 < 0 ∨ 24 ≤ x1.toNatClampNeg
        · rw [if_pos c4] at hf
          cases hf
        rw [if_neg c4] at hf
        refine mx_WP.ialdx c4 ?_
        show mx_WP (d + 0) 23 53 [some (mx_r (some (0, 0, 0))), some (mx_i x1), some (mx_i x2)] [mx_i (I 77 0 x1.toNatClampNeg)] (hC I J h, μ) Q
        rw [← Option.some.inj hf] at hk
        refine mx_WP.ret (v := some (mx_i (I 77 0 x1.toNatClampNeg))) rfl ?_
        exact hk
      rw [if_neg c3] at hf
      by_cases c5 : x2 = (1 : Int32)
      · rw [if_pos c5] at hf
        refine mx_WP.sw (c := (1 : Int32)) (q := 54) c5 (by rfl) ?_
        refine mx_WP.go 4 (pc' := 62) (L' := [some (mx_r (some (0, 0, 0))), some (mx_i x1), some (mx_i x2)]) (st' := [mx_i x1, mx_r (some (0, 79, 0))]) (σ' := (hC I J h, μ)) rfl ?_
        by_cases c6 : x1 < 0 ∨ 24 ≤ x1.toNatClampNeg
        · rw [if_pos c6] at hf
          cases hf
        rw [if_neg c6] at hf
        refine mx_WP.ialdx c6 ?_
        show mx_WP (d + 0) 23 63 [some (mx_r (some (0, 0, 0))), some (mx_i x1), some (mx_i x2)] [mx_i (I 79 0 x1.toNatClampNeg)] (hC I J h, μ) Q
        rw [← Option.some.inj hf] at hk
        refine mx_WP.ret (v := some (mx_i (I 79 0 x1.toNatClampNeg))) rfl ?_
        exact hk
      rw [if_neg c5] at hf
      by_cases c7 : x2 = (2 : Int32)
      · rw [if_pos c7] at hf
        refine mx_WP.sw (c := (2 : Int32)) (q := 64) c7 (by rfl) ?_
        refine mx_WP.go 4 (pc' := 72) (L' := [some (mx_r (some (0, 0, 0))), some (mx_i x1), some (mx_i x2)]) (st' := [mx_i x1, mx_r (some (0, 80, 0))]) (σ' := (hC I J h, μ)) rfl ?_
        by_cases c8 : x1 < 0 ∨ 24 ≤ x1.toNatClampNeg
        · rw [if_pos c8] at hf
          cases hf
        rw [if_neg c8] at hf
        refine mx_WP.baldx c8 ?_
        show mx_WP (d + 0) 23 73 [some (mx_r (some (0, 0, 0))), some (mx_i x1), some (mx_i x2)] [mx_i (I 80 0 x1.toNatClampNeg)] (hC I J h, μ) Q
        by_cases c9 : (I 80 0 x1.toNatClampNeg) = (0 : Int32)
        · rw [if_pos c9] at hf
          refine mx_WP.beq (x := (I 80 0 x1.toNatClampNeg)) (y := (0 : Int32)) (q := 80) (p3 := 76) rfl (fun _ => ?_) (fun hh => absurd c9 hh)
          refine mx_WP.go 1 (pc' := 81) (L' := [some (mx_r (some (0, 0, 0))), some (mx_i x1), some (mx_i x2)]) (st' := [mx_i (1 : Int32)]) (σ' := (hC I J h, μ)) rfl ?_
          rw [← Option.some.inj hf] at hk
          refine mx_WP.ret (v := some (mx_i (1 : Int32))) rfl ?_
          exact hk
        · rw [if_neg c9] at hf
          refine mx_WP.beq (x := (I 80 0 x1.toNatClampNeg)) (y := (0 : Int32)) (q := 80) (p3 := 76) rfl (fun hh => absurd hh c9) (fun _ => ?_)
          refine mx_WP.go 2 (pc' := 81) (L' := [some (mx_r (some (0, 0, 0))), some (mx_i x1), some (mx_i x2)]) (st' := [mx_i (0 : Int32)]) (σ' := (hC I J h, μ)) rfl ?_
          rw [← Option.some.inj hf] at hk
          refine mx_WP.ret (v := some (mx_i (0 : Int32))) rfl ?_
          exact hk
      rw [if_neg c7] at hf
      refine mx_WP.swt (q := 82) (mx_tso3 c3 c5 c7) (by rfl) (by rfl) ?_
      refine mx_WP.go 1 (pc' := 83) (L' := [some (mx_r (some (0, 0, 0))), some (mx_i x1), some (mx_i x2)]) (st' := [mx_i (-1 : Int32)]) (σ' := (hC I J h, μ)) rfl ?_
      rw [← Option.some.inj hf] at hk
      refine mx_WP.ret (v := some (mx_i (-1 : Int32))) rfl ?_
      exact hk
    · rw [if_neg c2] at hf
      refine mx_WP.blt (x := x1) (y := (I 9 0 4)) (q := 17) (p3 := 15) rfl (fun hh => absurd hh c2) (fun _ => ?_)
      refine mx_WP.go 1 (pc' := 16) (L' := [some (mx_r (some (0, 0, 0))), some (mx_i x1), some (mx_i x2)]) (st' := [mx_i (-1 : Int32)]) (σ' := (hC I J h, μ)) rfl ?_
      rw [← Option.some.inj hf] at hk
      refine mx_WP.ret (v := some (mx_i (-1 : Int32))) rfl ?_
      exact hk
def f166 (x0 : Int32) (x1 : Int32) : Option (Int32) :=
  if x1 = 0 then none else if (0 : Int32) ≤ (x0 ^^^ x1) then (some (x0 - x0 / x1 * x1)) else if (x0 - x0 / x1 * x1) = (0 : Int32) then (some (x0 - x0 / x1 * x1)) else some ((x0 - x0 / x1 * x1) + x1)
theorem T166 {d : Nat} {x0 : Int32} {x1 : Int32} {σ : mx_Hp} {Q : Option mx_V → mx_Hp → Prop} {o : Int32} (hf : f166 x0 x1 = some o) (hk : Q (some (mx_i o)) σ) : mx_WP (d + 0) 166 0 (mx_ent 166 [mx_i x0, mx_i x1]) [] σ Q := by
  unfold f166 at hf
  refine mx_WP.go 2 (pc' := 2) (L' := [some (mx_i x0), some (mx_i x1), none]) (st' := [mx_i x1, mx_i x0]) (σ' := σ) rfl ?_
  by_cases c1 : x1 = 0
  · rw [if_pos c1] at hf
    cases hf
  rw [if_neg c1] at hf
  refine mx_WP.d2 c1 (by rfl) ?_
  show mx_WP (d + 0) 166 3 [some (mx_i x0), some (mx_i x1), none] [mx_i (x0 - x0 / x1 * x1)] σ Q
  refine mx_WP.go 4 (pc' := 7) (L' := [some (mx_i x0), some (mx_i x1), some (mx_i (x0 - x0 / x1 * x1))]) (st' := [mx_i (x0 ^^^ x1)]) (σ' := σ) rfl ?_
  by_cases c2 : (0 : Int32) ≤ (x0 ^^^ x1)
  · rw [if_pos c2] at hf
    refine mx_WP.bge (x := (x0 ^^^ x1)) (y := (0 : Int32)) (q := 18) (p3 := 10) rfl (fun _ => ?_) (fun hh => absurd c2 hh)
    refine mx_WP.go 1 (pc' := 19) (L' := [some (mx_i x0), some (mx_i x1), some (mx_i (x0 - x0 / x1 * x1))]) (st' := [mx_i (x0 - x0 / x1 * x1)]) (σ' := σ) rfl ?_
    rw [← Option.some.inj hf] at hk
    refine mx_WP.ret (v := some (mx_i (x0 - x0 / x1 * x1))) rfl ?_
    exact hk
  · rw [if_neg c2] at hf
    refine mx_WP.bge (x := (x0 ^^^ x1)) (y := (0 : Int32)) (q := 18) (p3 := 10) rfl (fun hh => absurd hh c2) (fun _ => ?_)
    refine mx_WP.go 1 (pc' := 11) (L' := [some (mx_i x0), some (mx_i x1), some (mx_i (x0 - x0 / x1 * x1))]) (st' := [mx_i (x0 - x0 / x1 * x1)]) (σ' := σ) rfl ?_
    by_cases c3 : (x0 - x0 / x1 * x1) = (0 : Int32)
    · rw [if_pos c3] at hf
      refine mx_WP.beq (x := (x0 - x0 / x1 * x1)) (y := (0 : Int32)) (q := 18) (p3 := 14) rfl (fun _ => ?_) (fun hh => absurd c3 hh)
      refine mx_WP.go 1 (pc' := 19) (L' := [some (mx_i x0), some (mx_i x1), some (mx_i (x0 - x0 / x1 * x1))]) (st' := [mx_i (x0 - x0 / x1 * x1)]) (σ' := σ) rfl ?_
      rw [← Option.some.inj hf] at hk
      refine mx_WP.ret (v := some (mx_i (x0 - x0 / x1 * x1))) rfl ?_
      exact hk
    · rw [if_neg c3] at hf
      refine mx_WP.beq (x := (x0 - x0 / x1 * x1)) (y := (0 : Int32)) (q := 18) (p3 := 14) rfl (fun hh => absurd hh c3) (fun _ => ?_)
      refine mx_WP.go 3 (pc' := 17) (L' := [some (mx_i x0), some (mx_i x1), some (mx_i (x0 - x0 / x1 * x1))]) (st' := [mx_i ((x0 - x0 / x1 * x1) + x1)]) (σ' := σ) rfl ?_
      rw [← Option.some.inj hf] at hk
      refine mx_WP.ret (v := some (mx_i ((x0 - x0 / x1 * x1) + x1))) rfl ?_
      exact hk
def f115 (x0 : Nat) (x1 : Int32) (I : Nat → Nat → Nat → Int32) : Option (Int32) :=
  if x1 < (0 : Int32) then (some (-1 : Int32)) else if (Int32.ofNat (hC_n 81 x0)) ≤ x1 then (some (-1 : Int32)) else if x1 < (I 10 x0 2) then ((f166 (((I 10 x0 1) - (1 : Int32)) - x1) (Int32.ofNat (hC_n 81 x0))).bind fun u4 =>
  if u4 < 0 ∨ (hC_n 81 x0) ≤ u4.toNatClampNeg then none else some (I 81 x0 u4.toNatClampNeg)) else some (-1 : Int32)
theorem T115 {d : Nat} {x0 : Nat} {x1 : Int32} {I : Nat → Nat → Nat → Int32} {J : Nat → Nat → Nat → Int64} {h : Nat → Nat} {μ : mx_Rg × (Nat × (Nat → Int32)) × (Nat × Nat)} {Q : Option mx_V → mx_Hp → Prop} {o : Int32} (hf : f115 x0 x1 I = some o) (hk : Q (some (mx_i o)) (hC I J h, μ)) : mx_WP (d + 1) 115 0 (mx_ent 115 [mx_r (some (0, 10, x0)), mx_i x1]) [] (hC I J h, μ) Q := by
  unfold f115 at hf
  refine mx_WP.go 1 (pc' := 1) (L' := [some (mx_r (some (0, 10, x0))), some (mx_i x1)]) (st' := [mx_i x1]) (σ' := (hC I J h, μ)) rfl ?_
  by_cases c1 : x1 < (0 : Int32)
  · rw [if_pos c1] at hf
    refine mx_WP.blt (x := x1) (y := (0 : Int32)) (q := 21) (p3 := 4) rfl (fun _ => ?_) (fun hh => absurd c1 hh)
    refine mx_WP.go 1 (pc' := 22) (L' := [some (mx_r (some (0, 10, x0))), some (mx_i x1)]) (st' := [mx_i (-1 : Int32)]) (σ' := (hC I J h, μ)) rfl ?_
    rw [← Option.some.inj hf] at hk
    refine mx_WP.ret (v := some (mx_i (-1 : Int32))) rfl ?_
    exact hk
  · rw [if_neg c1] at hf
    refine mx_WP.blt (x := x1) (y := (0 : Int32)) (q := 21) (p3 := 4) rfl (fun hh => absurd hh c1) (fun _ => ?_)
    refine mx_WP.go 4 (pc' := 10) (L' := [some (mx_r (some (0, 10, x0))), some (mx_i x1)]) (st' := [mx_i (Int32.ofNat (hC_n 81 x0)), mx_i x1]) (σ' := (hC I J h, μ)) rfl ?_
    by_cases c2 : (Int32.ofNat (hC_n 81 x0)) ≤ x1
    · rw [if_pos c2] at hf
      refine mx_WP.bge (x := x1) (y := (Int32.ofNat (hC_n 81 x0))) (q := 21) (p3 := 13) rfl (fun _ => ?_) (fun hh => absurd c2 hh)
      refine mx_WP.go 1 (pc' := 22) (L' := [some (mx_r (some (0, 10, x0))), some (mx_i x1)]) (st' := [mx_i (-1 : Int32)]) (σ' := (hC I J h, μ)) rfl ?_
      rw [← Option.some.inj hf] at hk
      refine mx_WP.ret (v := some (mx_i (-1 : Int32))) rfl ?_
      exact hk
    · rw [if_neg c2] at hf
      refine mx_WP.bge (x := x1) (y := (Int32.ofNat (hC_n 81 x0))) (q := 21) (p3 := 13) rfl (fun hh => absurd hh c2) (fun _ => ?_)
      refine mx_WP.go 3 (pc' := 18) (L' := [some (mx_r (some (0, 10, x0))), some (mx_i x1)]) (st' := [mx_i (I 10 x0 2), mx_i x1]) (σ' := (hC I J h, μ)) rfl ?_
      by_cases c3 : x1 < (I 10 x0 2)
      · rw [if_pos c3] at hf
        refine mx_WP.blt (x := x1) (y := (I 10 x0 2)) (q := 23) (p3 := 21) rfl (fun _ => ?_) (fun hh => absurd c3 hh)
        refine mx_WP.go 11 (pc' := 40) (L' := [some (mx_r (some (0, 10, x0))), some (mx_i x1)]) (st' := [mx_i (Int32.ofNat (hC_n 81 x0)), mx_i (((I 10 x0 1) - (1 : Int32)) - x1), mx_r (some (0, 81, x0))]) (σ' := (hC I J h, μ)) rfl ?_
        obtain ⟨u4, e6, hf⟩ := Option.bind_eq_some_iff.mp hf
        refine mx_WP.call (d := d + 0) (y := 166) (as := [mx_i (((I 10 x0 1) - (1 : Int32)) - x1), mx_i (Int32.ofNat (hC_n 81 x0))]) (pc' := 43) (r := [mx_r (some (0, 81, x0))]) rfl rfl (T166 (d := d + 0)  e6 ?_)
        show mx_WP (d + 1) 115 43 [some (mx_r (some (0, 10, x0))), some (mx_i x1)] [mx_i u4, mx_r (some (0, 81, x0))] (hC I J h, μ) Q
        by_cases c5 : u4 < 0 ∨ (hC_n 81 x0) ≤ u4.toNatClampNeg
        · rw [if_pos c5] at hf
          cases hf
        rw [if_neg c5] at hf
        refine mx_WP.ialdx c5 ?_
        show mx_WP (d + 1) 115 44 [some (mx_r (some (0, 10, x0))), some (mx_i x1)] [mx_i (I 81 x0 u4.toNatClampNeg)] (hC I J h, μ) Q
        rw [← Option.some.inj hf] at hk
        refine mx_WP.ret (v := some (mx_i (I 81 x0 u4.toNatClampNeg))) rfl ?_
        exact hk
      · rw [if_neg c3] at hf
        refine mx_WP.blt (x := x1) (y := (I 10 x0 2)) (q := 23) (p3 := 21) rfl (fun hh => absurd hh c3) (fun _ => ?_)
        refine mx_WP.go 1 (pc' := 22) (L' := [some (mx_r (some (0, 10, x0))), some (mx_i x1)]) (st' := [mx_i (-1 : Int32)]) (σ' := (hC I J h, μ)) rfl ?_
        rw [← Option.some.inj hf] at hk
        refine mx_WP.ret (v := some (mx_i (-1 : Int32))) rfl ?_
        exact hk
def f24 (x1 : Int32) (I : Nat → Nat → Nat → Int32) : Option (Int32) :=
  (f115 1 x1 I).bind fun u1 =>
  some u1
theorem T24 {d : Nat} {x1 : Int32} {I : Nat → Nat → Nat → Int32} {J : Nat → Nat → Nat → Int64} {h : Nat → Nat} {μ : mx_Rg × (Nat × (Nat → Int32)) × (Nat × Nat)} {Q : Option mx_V → mx_Hp → Prop} {o : Int32} (hf : f24 x1 I = some o) (hk : Q (some (mx_i o)) (hC I J h, μ)) : mx_WP (d + 2) 24 0 (mx_ent 24 [mx_r (some (0, 0, 0)), mx_i x1]) [] (hC I J h, μ) Q := by
  unfold f24 at hf
  refine mx_WP.go 3 (pc' := 5) (L' := [some (mx_r (some (0, 0, 0))), some (mx_i x1)]) (st' := [mx_i x1, mx_r (some (0, 10, 1))]) (σ' := (hC I J h, μ)) rfl ?_
  obtain ⟨u1, e2, hf⟩ := Option.bind_eq_some_iff.mp hf
  refine mx_WP.call (d := d + 1) (y := 115) (as := [mx_r (some (0, 10, 1)), mx_i x1]) (pc' := 8) (r := []) rfl rfl (T115 (d := d + 0)  e2 ?_)
  show mx_WP (d + 2) 24 8 [some (mx_r (some (0, 0, 0))), some (mx_i x1)] [mx_i u1] (hC I J h, μ) Q
  rw [← Option.some.inj hf] at hk
  refine mx_WP.ret (v := some (mx_i u1)) rfl ?_
  exact hk
def b40_2 (x0 : Nat) (x1 : Int32) (I : Nat → Nat → Nat → Int32) (s : Int32) : Option ((Int32) ⊕ ((Int32) ⊕ (Bool))) :=
  if (I 2 x0 5) ≤ s then (some (Sum.inr (Sum.inl s))) else if s < 0 ∨ 3 ≤ s.toNatClampNeg then none else if (I 65 x0 s.toNatClampNeg) = x1 then (some (Sum.inr (Sum.inr true))) else some (Sum.inl (s + 1))
theorem B40_2 {d : Nat} {x0 : Nat} {x1 : Int32} {I : Nat → Nat → Nat → Int32} {J : Nat → Nat → Nat → Int64} {h : Nat → Nat} {μ : mx_Rg × (Nat × (Nat → Int32)) × (Nat × Nat)} {Q : Option mx_V → mx_Hp → Prop} {s : Int32} {o : (Int32) ⊕ ((Int32) ⊕ (Bool))} (hf : b40_2 x0 x1 I s = some o) (hk : Sum.elim (fun s : Int32 => mx_WP (d + 0) 40 2 [some (mx_r (some (0, 2, x0))), some (mx_i x1), some (mx_i s)] [] (hC I J h, μ) Q) (Sum.elim (fun x : Int32 => mx_WP (d + 0) 40 28 [some (mx_r (some (0, 2, x0))), some (mx_i x1), some (mx_i x)] [] (hC I J h, μ) Q) (fun x : Bool => Q (some (mx_i (b2i x))) (hC I J h, μ))) o) : mx_WP (d + 0) 40 2 [some (mx_r (some (0, 2, x0))), some (mx_i x1), some (mx_i s)] [] (hC I J h, μ) Q := by
  unfold b40_2 at hf
  refine mx_WP.go 3 (pc' := 7) (L' := [some (mx_r (some (0, 2, x0))), some (mx_i x1), some (mx_i s)]) (st' := [mx_i (I 2 x0 5), mx_i s]) (σ' := (hC I J h, μ)) rfl ?_
  by_cases c101 : (I 2 x0 5) ≤ s
  · rw [if_pos c101] at hf
    refine mx_WP.bge (x := s) (y := (I 2 x0 5)) (q := 28) (p3 := 10) rfl (fun _ => ?_) (fun hh => absurd c101 hh)
    rw [← Option.some.inj hf] at hk
    exact hk
  · rw [if_neg c101] at hf
    refine mx_WP.bge (x := s) (y := (I 2 x0 5)) (q := 28) (p3 := 10) rfl (fun hh => absurd hh c101) (fun _ => ?_)
    refine mx_WP.go 3 (pc' := 15) (L' := [some (mx_r (some (0, 2, x0))), some (mx_i x1), some (mx_i s)]) (st' := [mx_i s, mx_r (some (0, 65, x0))]) (σ' := (hC I J h, μ)) rfl ?_
    by_cases c102 : s < 0 ∨ 3 ≤ s.toNatClampNeg
    · rw [if_pos c102] at hf
      cases hf
    rw [if_neg c102] at hf
    refine mx_WP.ialdx c102 ?_
    show mx_WP (d + 0) 40 16 [some (mx_r (some (0, 2, x0))), some (mx_i x1), some (mx_i s)] [mx_i (I 65 x0 s.toNatClampNeg)] (hC I J h, μ) Q
    refine mx_WP.go 1 (pc' := 17) (L' := [some (mx_r (some (0, 2, x0))), some (mx_i x1), some (mx_i s)]) (st' := [mx_i x1, mx_i (I 65 x0 s.toNatClampNeg)]) (σ' := (hC I J h, μ)) rfl ?_
    by_cases c103 : (I 65 x0 s.toNatClampNeg) = x1
    · rw [if_pos c103] at hf
      refine mx_WP.bne (x := (I 65 x0 s.toNatClampNeg)) (y := x1) (q := 22) (p3 := 20) rfl (fun hh => absurd c103 hh) (fun _ => ?_)
      refine mx_WP.go 1 (pc' := 21) (L' := [some (mx_r (some (0, 2, x0))), some (mx_i x1), some (mx_i s)]) (st' := [mx_i (1 : Int32)]) (σ' := (hC I J h, μ)) rfl ?_
      rw [← Option.some.inj hf] at hk
      refine mx_WP.ret (v := some (mx_i (1 : Int32))) rfl ?_
      exact hk
    · rw [if_neg c103] at hf
      refine mx_WP.bne (x := (I 65 x0 s.toNatClampNeg)) (y := x1) (q := 22) (p3 := 20) rfl (fun _ => ?_) (fun hh => absurd c103 hh)
      refine mx_WP.go 2 (pc' := 2) (L' := [some (mx_r (some (0, 2, x0))), some (mx_i x1), some (mx_i (s + 1))]) (st' := []) (σ' := (hC I J h, μ)) rfl ?_
      rw [← Option.some.inj hf] at hk
      exact hk
theorem L40_2 {d : Nat} {x0 : Nat} {x1 : Int32} {I : Nat → Nat → Nat → Int32} {J : Nat → Nat → Nat → Int64} {h : Nat → Nat} {μ : mx_Rg × (Nat × (Nat → Int32)) × (Nat × Nat)} {Q : Option mx_V → mx_Hp → Prop} {n : Nat} {s : Int32} {o : (Int32) ⊕ (Bool)} (hf : mx_lp (b40_2 x0 x1 I) n s = some o) (hk : (Sum.elim (fun x : Int32 => mx_WP (d + 0) 40 28 [some (mx_r (some (0, 2, x0))), some (mx_i x1), some (mx_i x)] [] (hC I J h, μ) Q) (fun x : Bool => Q (some (mx_i (b2i x))) (hC I J h, μ))) o) : mx_WP (d + 0) 40 2 [some (mx_r (some (0, 2, x0))), some (mx_i x1), some (mx_i s)] [] (hC I J h, μ) Q := mx_lp_ok (P := fun s : Int32 => mx_WP (d + 0) 40 2 [some (mx_r (some (0, 2, x0))), some (mx_i x1), some (mx_i s)] [] (hC I J h, μ) Q) (E := (Sum.elim (fun x : Int32 => mx_WP (d + 0) 40 28 [some (mx_r (some (0, 2, x0))), some (mx_i x1), some (mx_i x)] [] (hC I J h, μ) Q) (fun x : Bool => Q (some (mx_i (b2i x))) (hC I J h, μ)))) (fun s o hf hk => B40_2 hf hk) n s o hf hk
def f40 (x0 : Nat) (x1 : Int32) (I : Nat → Nat → Nat → Int32) : Option (Bool) :=
  (mx_lp (b40_2 x0 x1 I) mx_fu (0 : Int32)).bind fun u104 => Sum.elim (fun w106 =>
  some false) (fun y107 => some y107) u104
theorem T40 {d : Nat} {x0 : Nat} {x1 : Int32} {I : Nat → Nat → Nat → Int32} {J : Nat → Nat → Nat → Int64} {h : Nat → Nat} {μ : mx_Rg × (Nat × (Nat → Int32)) × (Nat × Nat)} {Q : Option mx_V → mx_Hp → Prop} {o : Bool} (hf : f40 x0 x1 I = some o) (hk : Q (some (mx_i (b2i o))) (hC I J h, μ)) : mx_WP (d + 0) 40 0 (mx_ent 40 [mx_r (some (0, 2, x0)), mx_i x1]) [] (hC I J h, μ) Q := by
  unfold f40 at hf
  refine mx_WP.go 2 (pc' := 2) (L' := [some (mx_r (some (0, 2, x0))), some (mx_i x1), some (mx_i (0 : Int32))]) (st' := []) (σ' := (hC I J h, μ)) rfl ?_
  obtain ⟨u104, e105, hf⟩ := Option.bind_eq_some_iff.mp hf
  cases u104 with
  | inr y107 =>
    rw [Sum.elim_inr] at hf
    rw [← Option.some.inj hf] at hk
    exact (L40_2 (d := d) e105 hk)
  | inl w106 =>
    rw [Sum.elim_inl] at hf
    refine (L40_2 (d := d) e105 ?_)
    show mx_WP (d + 0) 40 28 [some (mx_r (some (0, 2, x0))), some (mx_i x1), some (mx_i w106)] [] (hC I J h, μ) Q
    refine mx_WP.go 1 (pc' := 29) (L' := [some (mx_r (some (0, 2, x0))), some (mx_i x1), some (mx_i w106)]) (st' := [mx_i (0 : Int32)]) (σ' := (hC I J h, μ)) rfl ?_
    rw [← Option.some.inj hf] at hk
    refine mx_WP.ret (v := some (mx_i (0 : Int32))) rfl ?_
    exact hk
def b94_2 (x1 : Int32) (I : Nat → Nat → Nat → Int32) (s : Int32) : Option ((Int32) ⊕ ((Int32) ⊕ (Bool))) :=
  if (8 : Int32) ≤ s then (some (Sum.inr (Sum.inl s))) else if s = x1 then (some (Sum.inl (s + 1))) else if s < 0 ∨ 8 ≤ s.toNatClampNeg then none else if (I 6 s.toNatClampNeg 6) = (0 : Int32) then (some (Sum.inl (s + 1))) else if s < 0 ∨ 8 ≤ s.toNatClampNeg then none else (f40 (s.toNatClampNeg + 1) x1 I).bind fun u106 =>
  if u106 = true then (some (Sum.inr (Sum.inr true))) else some (Sum.inl (s + 1))
theorem B94_2 {d : Nat} {x1 : Int32} {I : Nat → Nat → Nat → Int32} {J : Nat → Nat → Nat → Int64} {h : Nat → Nat} {μ : mx_Rg × (Nat × (Nat → Int32)) × (Nat × Nat)} {Q : Option mx_V → mx_Hp → Prop} {s : Int32} {o : (Int32) ⊕ ((Int32) ⊕ (Bool))} (hf : b94_2 x1 I s = some o) (hk : Sum.elim (fun s : Int32 => mx_WP (d + 1) 94 2 [some (mx_r (some (0, 7, 0))), some (mx_i x1), some (mx_i s)] [] (hC I J h, μ) Q) (Sum.elim (fun x : Int32 => mx_WP (d + 1) 94 49 [some (mx_r (some (0, 7, 0))), some (mx_i x1), some (mx_i x)] [] (hC I J h, μ) Q) (fun x : Bool => Q (some (mx_i (b2i x))) (hC I J h, μ))) o) : mx_WP (d + 1) 94 2 [some (mx_r (some (0, 7, 0))), some (mx_i x1), some (mx_i s)] [] (hC I J h, μ) Q := by
  unfold b94_2 at hf
  refine mx_WP.go 2 (pc' := 5) (L' := [some (mx_r (some (0, 7, 0))), some (mx_i x1), some (mx_i s)]) (st' := [mx_i (8 : Int32), mx_i s]) (σ' := (hC I J h, μ)) rfl ?_
  by_cases c101 : (8 : Int32) ≤ s
  · rw [if_pos c101] at hf
    refine mx_WP.bge (x := s) (y := (8 : Int32)) (q := 49) (p3 := 8) rfl (fun _ => ?_) (fun hh => absurd c101 hh)
    rw [← Option.some.inj hf] at hk
    exact hk
  · rw [if_neg c101] at hf
    refine mx_WP.bge (x := s) (y := (8 : Int32)) (q := 49) (p3 := 8) rfl (fun hh => absurd hh c101) (fun _ => ?_)
    refine mx_WP.go 2 (pc' := 10) (L' := [some (mx_r (some (0, 7, 0))), some (mx_i x1), some (mx_i s)]) (st' := [mx_i x1, mx_i s]) (σ' := (hC I J h, μ)) rfl ?_
    by_cases c102 : s = x1
    · rw [if_pos c102] at hf
      refine mx_WP.beq (x := s) (y := x1) (q := 43) (p3 := 13) rfl (fun _ => ?_) (fun hh => absurd c102 hh)
      refine mx_WP.go 2 (pc' := 2) (L' := [some (mx_r (some (0, 7, 0))), some (mx_i x1), some (mx_i (s + 1))]) (st' := []) (σ' := (hC I J h, μ)) rfl ?_
      rw [← Option.some.inj hf] at hk
      exact hk
    · rw [if_neg c102] at hf
      refine mx_WP.beq (x := s) (y := x1) (q := 43) (p3 := 13) rfl (fun hh => absurd hh c102) (fun _ => ?_)
      refine mx_WP.go 3 (pc' := 18) (L' := [some (mx_r (some (0, 7, 0))), some (mx_i x1), some (mx_i s)]) (st' := [mx_i s, mx_r (some (0, 73, 0))]) (σ' := (hC I J h, μ)) rfl ?_
      by_cases c103 : s < 0 ∨ 8 ≤ s.toNatClampNeg
      · rw [if_pos c103] at hf
        cases hf
      rw [if_neg c103] at hf
      refine mx_WP.aal73 c103 ?_
      show mx_WP (d + 1) 94 19 [some (mx_r (some (0, 7, 0))), some (mx_i x1), some (mx_i s)] [mx_r (some (0, 6, s.toNatClampNeg))] (hC I J h, μ) Q
      refine mx_WP.go 1 (pc' := 22) (L' := [some (mx_r (some (0, 7, 0))), some (mx_i x1), some (mx_i s)]) (st' := [mx_i (I 6 s.toNatClampNeg 6)]) (σ' := (hC I J h, μ)) rfl ?_
      by_cases c104 : (I 6 s.toNatClampNeg 6) = (0 : Int32)
      · rw [if_pos c104] at hf
        refine mx_WP.beq (x := (I 6 s.toNatClampNeg 6)) (y := (0 : Int32)) (q := 43) (p3 := 25) rfl (fun _ => ?_) (fun hh => absurd c104 hh)
        refine mx_WP.go 2 (pc' := 2) (L' := [some (mx_r (some (0, 7, 0))), some (mx_i x1), some (mx_i (s + 1))]) (st' := []) (σ' := (hC I J h, μ)) rfl ?_
        rw [← Option.some.inj hf] at hk
        exact hk
      · rw [if_neg c104] at hf
        refine mx_WP.beq (x := (I 6 s.toNatClampNeg 6)) (y := (0 : Int32)) (q := 43) (p3 := 25) rfl (fun hh => absurd hh c104) (fun _ => ?_)
        refine mx_WP.go 3 (pc' := 30) (L' := [some (mx_r (some (0, 7, 0))), some (mx_i x1), some (mx_i s)]) (st' := [mx_i s, mx_r (some (0, 73, 0))]) (σ' := (hC I J h, μ)) rfl ?_
        by_cases c105 : s < 0 ∨ 8 ≤ s.toNatClampNeg
        · rw [if_pos c105] at hf
          cases hf
        rw [if_neg c105] at hf
        refine mx_WP.aal73 c105 ?_
        show mx_WP (d + 1) 94 31 [some (mx_r (some (0, 7, 0))), some (mx_i x1), some (mx_i s)] [mx_r (some (0, 6, s.toNatClampNeg))] (hC I J h, μ) Q
        refine mx_WP.go 2 (pc' := 35) (L' := [some (mx_r (some (0, 7, 0))), some (mx_i x1), some (mx_i s)]) (st' := [mx_i x1, mx_r (some (0, 2, (s.toNatClampNeg + 1)))]) (σ' := (hC I J h, μ)) rfl ?_
        obtain ⟨u106, e108, hf⟩ := Option.bind_eq_some_iff.mp hf
        refine mx_WP.call (d := d + 0) (y := 40) (as := [mx_r (some (0, 2, (s.toNatClampNeg + 1))), mx_i x1]) (pc' := 38) (r := []) rfl rfl (T40 (d := d + 0)  e108 ?_)
        show mx_WP (d + 1) 94 38 [some (mx_r (some (0, 7, 0))), some (mx_i x1), some (mx_i s)] [mx_i (b2i u106)] (hC I J h, μ) Q
        by_cases c107 : u106 = true
        · rw [if_pos c107] at hf
          refine mx_WP.zeq (b := u106) (q := 43) (p3 := 41) rfl (fun hh => absurd hh (by simp [c107])) (fun _ => ?_)
          refine mx_WP.go 1 (pc' := 42) (L' := [some (mx_r (some (0, 7, 0))), some (mx_i x1), some (mx_i s)]) (st' := [mx_i (1 : Int32)]) (σ' := (hC I J h, μ)) rfl ?_
          rw [← Option.some.inj hf] at hk
          refine mx_WP.ret (v := some (mx_i (1 : Int32))) rfl ?_
          exact hk
        · rw [if_neg c107] at hf
          refine mx_WP.zeq (b := u106) (q := 43) (p3 := 41) rfl (fun _ => ?_) (fun hh => absurd hh (by simp [c107]))
          refine mx_WP.go 2 (pc' := 2) (L' := [some (mx_r (some (0, 7, 0))), some (mx_i x1), some (mx_i (s + 1))]) (st' := []) (σ' := (hC I J h, μ)) rfl ?_
          rw [← Option.some.inj hf] at hk
          exact hk
theorem L94_2 {d : Nat} {x1 : Int32} {I : Nat → Nat → Nat → Int32} {J : Nat → Nat → Nat → Int64} {h : Nat → Nat} {μ : mx_Rg × (Nat × (Nat → Int32)) × (Nat × Nat)} {Q : Option mx_V → mx_Hp → Prop} {n : Nat} {s : Int32} {o : (Int32) ⊕ (Bool)} (hf : mx_lp (b94_2 x1 I) n s = some o) (hk : (Sum.elim (fun x : Int32 => mx_WP (d + 1) 94 49 [some (mx_r (some (0, 7, 0))), some (mx_i x1), some (mx_i x)] [] (hC I J h, μ) Q) (fun x : Bool => Q (some (mx_i (b2i x))) (hC I J h, μ))) o) : mx_WP (d + 1) 94 2 [some (mx_r (some (0, 7, 0))), some (mx_i x1), some (mx_i s)] [] (hC I J h, μ) Q := mx_lp_ok (P := fun s : Int32 => mx_WP (d + 1) 94 2 [some (mx_r (some (0, 7, 0))), some (mx_i x1), some (mx_i s)] [] (hC I J h, μ) Q) (E := (Sum.elim (fun x : Int32 => mx_WP (d + 1) 94 49 [some (mx_r (some (0, 7, 0))), some (mx_i x1), some (mx_i x)] [] (hC I J h, μ) Q) (fun x : Bool => Q (some (mx_i (b2i x))) (hC I J h, μ)))) (fun s o hf hk => B94_2 hf hk) n s o hf hk
def f94 (x1 : Int32) (I : Nat → Nat → Nat → Int32) : Option (Bool) :=
  (mx_lp (b94_2 x1 I) mx_fu (0 : Int32)).bind fun u109 => Sum.elim (fun w111 =>
  some false) (fun y112 => some y112) u109
theorem T94 {d : Nat} {x1 : Int32} {I : Nat → Nat → Nat → Int32} {J : Nat → Nat → Nat → Int64} {h : Nat → Nat} {μ : mx_Rg × (Nat × (Nat → Int32)) × (Nat × Nat)} {Q : Option mx_V → mx_Hp → Prop} {o : Bool} (hf : f94 x1 I = some o) (hk : Q (some (mx_i (b2i o))) (hC I J h, μ)) : mx_WP (d + 1) 94 0 (mx_ent 94 [mx_r (some (0, 7, 0)), mx_i x1]) [] (hC I J h, μ) Q := by
  unfold f94 at hf
  refine mx_WP.go 2 (pc' := 2) (L' := [some (mx_r (some (0, 7, 0))), some (mx_i x1), some (mx_i (0 : Int32))]) (st' := []) (σ' := (hC I J h, μ)) rfl ?_
  obtain ⟨u109, e110, hf⟩ := Option.bind_eq_some_iff.mp hf
  cases u109 with
  | inr y112 =>
    rw [Sum.elim_inr] at hf
    rw [← Option.some.inj hf] at hk
    exact (L94_2 (d := d) e110 hk)
  | inl w111 =>
    rw [Sum.elim_inl] at hf
    refine (L94_2 (d := d) e110 ?_)
    show mx_WP (d + 1) 94 49 [some (mx_r (some (0, 7, 0))), some (mx_i x1), some (mx_i w111)] [] (hC I J h, μ) Q
    refine mx_WP.go 1 (pc' := 50) (L' := [some (mx_r (some (0, 7, 0))), some (mx_i x1), some (mx_i w111)]) (st' := [mx_i (0 : Int32)]) (σ' := (hC I J h, μ)) rfl ?_
    rw [← Option.some.inj hf] at hk
    refine mx_WP.ret (v := some (mx_i (0 : Int32))) rfl ?_
    exact hk
def f167 (x0 : Int32) (x1 : Int32) : Option (Int32) :=
  if x0 < x1 then (some x1) else some x0
theorem T167 {d : Nat} {x0 : Int32} {x1 : Int32} {σ : mx_Hp} {Q : Option mx_V → mx_Hp → Prop} {o : Int32} (hf : f167 x0 x1 = some o) (hk : Q (some (mx_i o)) σ) : mx_WP (d + 0) 167 0 (mx_ent 167 [mx_i x0, mx_i x1]) [] σ Q := by
  unfold f167 at hf
  refine mx_WP.go 2 (pc' := 2) (L' := [some (mx_i x0), some (mx_i x1)]) (st' := [mx_i x1, mx_i x0]) (σ' := σ) rfl ?_
  by_cases c1 : x0 < x1
  · rw [if_pos c1] at hf
    refine mx_WP.blt (x := x0) (y := x1) (q := 9) (p3 := 5) rfl (fun _ => ?_) (fun hh => absurd c1 hh)
    refine mx_WP.go 1 (pc' := 10) (L' := [some (mx_i x0), some (mx_i x1)]) (st' := [mx_i x1]) (σ' := σ) rfl ?_
    rw [← Option.some.inj hf] at hk
    refine mx_WP.ret (v := some (mx_i x1)) rfl ?_
    exact hk
  · rw [if_neg c1] at hf
    refine mx_WP.blt (x := x0) (y := x1) (q := 9) (p3 := 5) rfl (fun hh => absurd hh c1) (fun _ => ?_)
    refine mx_WP.go 2 (pc' := 10) (L' := [some (mx_i x0), some (mx_i x1)]) (st' := [mx_i x0]) (σ' := σ) rfl ?_
    rw [← Option.some.inj hf] at hk
    refine mx_WP.ret (v := some (mx_i x0)) rfl ?_
    exact hk
def b93_5  (I : Nat → Nat → Nat → Int32) (s : Int32 × Int32) : Option ((Int32 × Int32) ⊕ ((Int32 × Int32) ⊕ (Int32))) :=
  if s.2 < (0 : Int32) then (some (Sum.inr (Sum.inl (s.1, s.2)))) else if s.2 < 0 ∨ 8 ≤ s.2.toNatClampNeg then none else if (I 6 s.2.toNatClampNeg 6) = (0 : Int32) then (some (Sum.inl (s.1, s.2 + (-1)))) else (f94 s.2 I).bind fun u104 =>
  if u104 = true then ((f167 s.1 s.2).bind fun u106 =>
  some (Sum.inl (u106, s.2 + (-1)))) else some (Sum.inr (Sum.inr s.2))
theorem B93_5 {d : Nat}  {I : Nat → Nat → Nat → Int32} {J : Nat → Nat → Nat → Int64} {h : Nat → Nat} {μ : mx_Rg × (Nat × (Nat → Int32)) × (Nat × Nat)} {Q : Option mx_V → mx_Hp → Prop} {s : Int32 × Int32} {o : (Int32 × Int32) ⊕ ((Int32 × Int32) ⊕ (Int32))} (hf : b93_5 I s = some o) (hk : Sum.elim (fun s : Int32 × Int32 => mx_WP (d + 2) 93 5 [some (mx_r (some (0, 7, 0))), some (mx_i s.1), some (mx_i s.2)] [] (hC I J h, μ) Q) (Sum.elim (fun x : Int32 × Int32 => mx_WP (d + 2) 93 43 [some (mx_r (some (0, 7, 0))), some (mx_i x.1), some (mx_i x.2)] [] (hC I J h, μ) Q) (fun x : Int32 => Q (some (mx_i x)) (hC I J h, μ))) o) : mx_WP (d + 2) 93 5 [some (mx_r (some (0, 7, 0))), some (mx_i s.1), some (mx_i s.2)] [] (hC I J h, μ) Q := by
  unfold b93_5 at hf
  refine mx_WP.go 1 (pc' := 6) (L' := [some (mx_r (some (0, 7, 0))), some (mx_i s.1), some (mx_i s.2)]) (st' := [mx_i s.2]) (σ' := (hC I J h, μ)) rfl ?_
  by_cases c101 : s.2 < (0 : Int32)
  · rw [if_pos c101] at hf
    refine mx_WP.blt (x := s.2) (y := (0 : Int32)) (q := 43) (p3 := 9) rfl (fun _ => ?_) (fun hh => absurd c101 hh)
    rw [← Option.some.inj hf] at hk
    exact hk
  · rw [if_neg c101] at hf
    refine mx_WP.blt (x := s.2) (y := (0 : Int32)) (q := 43) (p3 := 9) rfl (fun hh => absurd hh c101) (fun _ => ?_)
    refine mx_WP.go 3 (pc' := 14) (L' := [some (mx_r (some (0, 7, 0))), some (mx_i s.1), some (mx_i s.2)]) (st' := [mx_i s.2, mx_r (some (0, 73, 0))]) (σ' := (hC I J h, μ)) rfl ?_
    by_cases c102 : s.2 < 0 ∨ 8 ≤ s.2.toNatClampNeg
    · rw [if_pos c102] at hf
      cases hf
    rw [if_neg c102] at hf
    refine mx_WP.aal73 c102 ?_
    show mx_WP (d + 2) 93 15 [some (mx_r (some (0, 7, 0))), some (mx_i s.1), some (mx_i s.2)] [mx_r (some (0, 6, s.2.toNatClampNeg))] (hC I J h, μ) Q
    refine mx_WP.go 1 (pc' := 18) (L' := [some (mx_r (some (0, 7, 0))), some (mx_i s.1), some (mx_i s.2)]) (st' := [mx_i (I 6 s.2.toNatClampNeg 6)]) (σ' := (hC I J h, μ)) rfl ?_
    by_cases c103 : (I 6 s.2.toNatClampNeg 6) = (0 : Int32)
    · rw [if_pos c103] at hf
      refine mx_WP.beq (x := (I 6 s.2.toNatClampNeg 6)) (y := (0 : Int32)) (q := 37) (p3 := 21) rfl (fun _ => ?_) (fun hh => absurd c103 hh)
      refine mx_WP.go 2 (pc' := 5) (L' := [some (mx_r (some (0, 7, 0))), some (mx_i s.1), some (mx_i (s.2 + (-1)))]) (st' := []) (σ' := (hC I J h, μ)) rfl ?_
      rw [← Option.some.inj hf] at hk
      exact hk
    · rw [if_neg c103] at hf
      refine mx_WP.beq (x := (I 6 s.2.toNatClampNeg 6)) (y := (0 : Int32)) (q := 37) (p3 := 21) rfl (fun hh => absurd hh c103) (fun _ => ?_)
      refine mx_WP.go 2 (pc' := 23) (L' := [some (mx_r (some (0, 7, 0))), some (mx_i s.1), some (mx_i s.2)]) (st' := [mx_i s.2, mx_r (some (0, 7, 0))]) (σ' := (hC I J h, μ)) rfl ?_
      obtain ⟨u104, e108, hf⟩ := Option.bind_eq_some_iff.mp hf
      refine mx_WP.call (d := d + 1) (y := 94) (as := [mx_r (some (0, 7, 0)), mx_i s.2]) (pc' := 26) (r := []) rfl rfl (T94 (d := d + 0)  e108 ?_)
      show mx_WP (d + 2) 93 26 [some (mx_r (some (0, 7, 0))), some (mx_i s.1), some (mx_i s.2)] [mx_i (b2i u104)] (hC I J h, μ) Q
      by_cases c105 : u104 = true
      · rw [if_pos c105] at hf
        refine mx_WP.zne (b := u104) (q := 31) (p3 := 29) rfl (fun _ => ?_) (fun hh => absurd hh (by simp [c105]))
        refine mx_WP.go 2 (pc' := 33) (L' := [some (mx_r (some (0, 7, 0))), some (mx_i s.1), some (mx_i s.2)]) (st' := [mx_i s.2, mx_i s.1]) (σ' := (hC I J h, μ)) rfl ?_
        obtain ⟨u106, e107, hf⟩ := Option.bind_eq_some_iff.mp hf
        refine mx_WP.call (d := d + 1) (y := 167) (as := [mx_i s.1, mx_i s.2]) (pc' := 36) (r := []) rfl rfl (T167 (d := d + 1)  e107 ?_)
        show mx_WP (d + 2) 93 36 [some (mx_r (some (0, 7, 0))), some (mx_i s.1), some (mx_i s.2)] [mx_i u106] (hC I J h, μ) Q
        refine mx_WP.go 3 (pc' := 5) (L' := [some (mx_r (some (0, 7, 0))), some (mx_i u106), some (mx_i (s.2 + (-1)))]) (st' := []) (σ' := (hC I J h, μ)) rfl ?_
        rw [← Option.some.inj hf] at hk
        exact hk
      · rw [if_neg c105] at hf
        refine mx_WP.zne (b := u104) (q := 31) (p3 := 29) rfl (fun hh => absurd hh (by simp [c105])) (fun _ => ?_)
        refine mx_WP.go 1 (pc' := 30) (L' := [some (mx_r (some (0, 7, 0))), some (mx_i s.1), some (mx_i s.2)]) (st' := [mx_i s.2]) (σ' := (hC I J h, μ)) rfl ?_
        rw [← Option.some.inj hf] at hk
        refine mx_WP.ret (v := some (mx_i s.2)) rfl ?_
        exact hk
theorem L93_5 {d : Nat}  {I : Nat → Nat → Nat → Int32} {J : Nat → Nat → Nat → Int64} {h : Nat → Nat} {μ : mx_Rg × (Nat × (Nat → Int32)) × (Nat × Nat)} {Q : Option mx_V → mx_Hp → Prop} {n : Nat} {s : Int32 × Int32} {o : (Int32 × Int32) ⊕ (Int32)} (hf : mx_lp (b93_5 I) n s = some o) (hk : (Sum.elim (fun x : Int32 × Int32 => mx_WP (d + 2) 93 43 [some (mx_r (some (0, 7, 0))), some (mx_i x.1), some (mx_i x.2)] [] (hC I J h, μ) Q) (fun x : Int32 => Q (some (mx_i x)) (hC I J h, μ))) o) : mx_WP (d + 2) 93 5 [some (mx_r (some (0, 7, 0))), some (mx_i s.1), some (mx_i s.2)] [] (hC I J h, μ) Q := mx_lp_ok (P := fun s : Int32 × Int32 => mx_WP (d + 2) 93 5 [some (mx_r (some (0, 7, 0))), some (mx_i s.1), some (mx_i s.2)] [] (hC I J h, μ) Q) (E := (Sum.elim (fun x : Int32 × Int32 => mx_WP (d + 2) 93 43 [some (mx_r (some (0, 7, 0))), some (mx_i x.1), some (mx_i x.2)] [] (hC I J h, μ) Q) (fun x : Int32 => Q (some (mx_i x)) (hC I J h, μ)))) (fun s o hf hk => B93_5 hf hk) n s o hf hk
def f93 (I : Nat → Nat → Nat → Int32) : Option (Int32) :=
  (mx_lp (b93_5 I) mx_fu ((-1 : Int32), (7 : Int32))).bind fun u109 => Sum.elim (fun w111 =>
  some w111.1) (fun y112 => some y112) u109
theorem T93 {d : Nat} {I : Nat → Nat → Nat → Int32} {J : Nat → Nat → Nat → Int64} {h : Nat → Nat} {μ : mx_Rg × (Nat × (Nat → Int32)) × (Nat × Nat)} {Q : Option mx_V → mx_Hp → Prop} {o : Int32} (hf : f93 I = some o) (hk : Q (some (mx_i o)) (hC I J h, μ)) : mx_WP (d + 2) 93 0 (mx_ent 93 [mx_r (some (0, 7, 0))]) [] (hC I J h, μ) Q := by
  unfold f93 at hf
  refine mx_WP.go 4 (pc' := 5) (L' := [some (mx_r (some (0, 7, 0))), some (mx_i (-1 : Int32)), some (mx_i (7 : Int32))]) (st' := []) (σ' := (hC I J h, μ)) rfl ?_
  obtain ⟨u109, e110, hf⟩ := Option.bind_eq_some_iff.mp hf
  cases u109 with
  | inr y112 =>
    rw [Sum.elim_inr] at hf
    rw [← Option.some.inj hf] at hk
    exact (L93_5 (d := d) e110 hk)
  | inl w111 =>
    rw [Sum.elim_inl] at hf
    refine (L93_5 (d := d) e110 ?_)
    show mx_WP (d + 2) 93 43 [some (mx_r (some (0, 7, 0))), some (mx_i w111.1), some (mx_i w111.2)] [] (hC I J h, μ) Q
    refine mx_WP.go 1 (pc' := 44) (L' := [some (mx_r (some (0, 7, 0))), some (mx_i w111.1), some (mx_i w111.2)]) (st' := [mx_i w111.1]) (σ' := (hC I J h, μ)) rfl ?_
    rw [← Option.some.inj hf] at hk
    refine mx_WP.ret (v := some (mx_i w111.1)) rfl ?_
    exact hk
def b92_10 (x1 : Int32) (I : Nat → Nat → Nat → Int32) (s : Int32 × (Nat → Nat → Nat → Int32)) : Option ((Int32 × (Nat → Nat → Nat → Int32)) ⊕ (Int32 × (Nat → Nat → Nat → Int32))) :=
  if (8 : Int32) ≤ s.1 then (some (Sum.inr (s.1, s.2))) else (f93 s.2).bind fun u102 =>
  if u102 = (-1 : Int32) then (some (Sum.inl (s.1 + 1, s.2))) else (f82 u102 s.2).bind fun u104 =>
  some (Sum.inl (s.1 + 1, u104))
theorem B92_10 {d : Nat} {x1 : Int32} {I : Nat → Nat → Nat → Int32} {J : Nat → Nat → Nat → Int64} {h : Nat → Nat} {μ : mx_Rg × (Nat × (Nat → Int32)) × (Nat × Nat)} {Q : Option mx_V → mx_Hp → Prop} {s : Int32 × (Nat → Nat → Nat → Int32)} {o : (Int32 × (Nat → Nat → Nat → Int32)) ⊕ (Int32 × (Nat → Nat → Nat → Int32))} (hf : b92_10 x1 I s = some o) (hk : Sum.elim (fun s : Int32 × (Nat → Nat → Nat → Int32) => ∀ (z3 : Option mx_V), mx_WP (d + 3) 92 10 [some (mx_r (some (0, 7, 0))), some (mx_i x1), some (mx_i s.1), z3] [] (hC s.2 J h, μ) Q) (fun x : Int32 × (Nat → Nat → Nat → Int32) => ∀ (z3 : Option mx_V), mx_WP (d + 3) 92 37 [some (mx_r (some (0, 7, 0))), some (mx_i x1), some (mx_i x.1), z3] [] (hC x.2 J h, μ) Q) o) : ∀ (z3 : Option mx_V), mx_WP (d + 3) 92 10 [some (mx_r (some (0, 7, 0))), some (mx_i x1), some (mx_i s.1), z3] [] (hC s.2 J h, μ) Q := by
  intro z3
  unfold b92_10 at hf
  refine mx_WP.go 2 (pc' := 13) (L' := [some (mx_r (some (0, 7, 0))), some (mx_i x1), some (mx_i s.1), z3]) (st' := [mx_i (8 : Int32), mx_i s.1]) (σ' := (hC s.2 J h, μ)) rfl ?_
  by_cases c101 : (8 : Int32) ≤ s.1
  · rw [if_pos c101] at hf
    refine mx_WP.bge (x := s.1) (y := (8 : Int32)) (q := 37) (p3 := 16) rfl (fun _ => ?_) (fun hh => absurd c101 hh)
    rw [← Option.some.inj hf] at hk
    exact hk (z3)
  · rw [if_neg c101] at hf
    refine mx_WP.bge (x := s.1) (y := (8 : Int32)) (q := 37) (p3 := 16) rfl (fun hh => absurd hh c101) (fun _ => ?_)
    refine mx_WP.go 1 (pc' := 17) (L' := [some (mx_r (some (0, 7, 0))), some (mx_i x1), some (mx_i s.1), z3]) (st' := [mx_r (some (0, 7, 0))]) (σ' := (hC s.2 J h, μ)) rfl ?_
    obtain ⟨u102, e106, hf⟩ := Option.bind_eq_some_iff.mp hf
    refine mx_WP.call (d := d + 2) (y := 93) (as := [mx_r (some (0, 7, 0))]) (pc' := 20) (r := []) rfl rfl (T93 (d := d + 0)  e106 ?_)
    show mx_WP (d + 3) 92 20 [some (mx_r (some (0, 7, 0))), some (mx_i x1), some (mx_i s.1), z3] [mx_i u102] (hC s.2 J h, μ) Q
    refine mx_WP.go 3 (pc' := 23) (L' := [some (mx_r (some (0, 7, 0))), some (mx_i x1), some (mx_i s.1), some (mx_i u102)]) (st' := [mx_i (-1 : Int32), mx_i u102]) (σ' := (hC s.2 J h, μ)) rfl ?_
    by_cases c103 : u102 = (-1 : Int32)
    · rw [if_pos c103] at hf
      refine mx_WP.beq (x := u102) (y := (-1 : Int32)) (q := 31) (p3 := 26) rfl (fun _ => ?_) (fun hh => absurd c103 hh)
      refine mx_WP.go 2 (pc' := 10) (L' := [some (mx_r (some (0, 7, 0))), some (mx_i x1), some (mx_i (s.1 + 1)), some (mx_i u102)]) (st' := []) (σ' := (hC s.2 J h, μ)) rfl ?_
      rw [← Option.some.inj hf] at hk
      exact hk (some (mx_i u102))
    · rw [if_neg c103] at hf
      refine mx_WP.beq (x := u102) (y := (-1 : Int32)) (q := 31) (p3 := 26) rfl (fun hh => absurd hh c103) (fun _ => ?_)
      refine mx_WP.go 2 (pc' := 28) (L' := [some (mx_r (some (0, 7, 0))), some (mx_i x1), some (mx_i s.1), some (mx_i u102)]) (st' := [mx_i u102, mx_r (some (0, 7, 0))]) (σ' := (hC s.2 J h, μ)) rfl ?_
      obtain ⟨u104, e105, hf⟩ := Option.bind_eq_some_iff.mp hf
      refine mx_WP.call (d := d + 2) (y := 82) (as := [mx_r (some (0, 7, 0)), mx_i u102]) (pc' := 31) (r := []) rfl rfl (T82 (d := d + 1)  e105 ?_)
      show mx_WP (d + 3) 92 31 [some (mx_r (some (0, 7, 0))), some (mx_i x1), some (mx_i s.1), some (mx_i u102)] [] (hC u104 J h, μ) Q
      refine mx_WP.go 2 (pc' := 10) (L' := [some (mx_r (some (0, 7, 0))), some (mx_i x1), some (mx_i (s.1 + 1)), some (mx_i u102)]) (st' := []) (σ' := (hC u104 J h, μ)) rfl ?_
      rw [← Option.some.inj hf] at hk
      exact hk (some (mx_i u102))
theorem L92_10 {d : Nat} {x1 : Int32} {I : Nat → Nat → Nat → Int32} {J : Nat → Nat → Nat → Int64} {h : Nat → Nat} {μ : mx_Rg × (Nat × (Nat → Int32)) × (Nat × Nat)} {Q : Option mx_V → mx_Hp → Prop} {n : Nat} {s : Int32 × (Nat → Nat → Nat → Int32)} {o : Int32 × (Nat → Nat → Nat → Int32)} (hf : mx_lp (b92_10 x1 I) n s = some o) (hk : (fun x : Int32 × (Nat → Nat → Nat → Int32) => ∀ (z3 : Option mx_V), mx_WP (d + 3) 92 37 [some (mx_r (some (0, 7, 0))), some (mx_i x1), some (mx_i x.1), z3] [] (hC x.2 J h, μ) Q) o) : ∀ (z3 : Option mx_V), mx_WP (d + 3) 92 10 [some (mx_r (some (0, 7, 0))), some (mx_i x1), some (mx_i s.1), z3] [] (hC s.2 J h, μ) Q := mx_lp_ok (P := fun s : Int32 × (Nat → Nat → Nat → Int32) => ∀ (z3 : Option mx_V), mx_WP (d + 3) 92 10 [some (mx_r (some (0, 7, 0))), some (mx_i x1), some (mx_i s.1), z3] [] (hC s.2 J h, μ) Q) (E := (fun x : Int32 × (Nat → Nat → Nat → Int32) => ∀ (z3 : Option mx_V), mx_WP (d + 3) 92 37 [some (mx_r (some (0, 7, 0))), some (mx_i x1), some (mx_i x.1), z3] [] (hC x.2 J h, μ) Q)) (fun s o hf hk => B92_10 hf hk) n s o hf hk
def f92 (I : Nat → Nat → Nat → Int32) : Option (Int32 × (Nat → Nat → Nat → Int32)) :=
  (mx_lp (b92_10 (I 10 0 2) I) mx_fu ((0 : Int32), I)).bind fun u107 =>
  some ((u107.2 10 0 2) - (I 10 0 2), u107.2)
theorem T92 {d : Nat} {I : Nat → Nat → Nat → Int32} {J : Nat → Nat → Nat → Int64} {h : Nat → Nat} {μ : mx_Rg × (Nat × (Nat → Int32)) × (Nat × Nat)} {Q : Option mx_V → mx_Hp → Prop} {o : Int32 × (Nat → Nat → Nat → Int32)} (hf : f92 I = some o) (hk : Q (some (mx_i o.1)) (hC o.2 J h, μ)) : mx_WP (d + 3) 92 0 (mx_ent 92 [mx_r (some (0, 7, 0))]) [] (hC I J h, μ) Q := by
  unfold f92 at hf
  refine mx_WP.go 6 (pc' := 10) (L' := [some (mx_r (some (0, 7, 0))), some (mx_i (I 10 0 2)), some (mx_i (0 : Int32)), none]) (st' := []) (σ' := (hC I J h, μ)) rfl ?_
  obtain ⟨u107, e108, hf⟩ := Option.bind_eq_some_iff.mp hf
  refine (L92_10 (d := d) e108 ?_) (none)
  intro z3
  show mx_WP (d + 3) 92 37 [some (mx_r (some (0, 7, 0))), some (mx_i (I 10 0 2)), some (mx_i u107.1), z3] [] (hC u107.2 J h, μ) Q
  refine mx_WP.go 5 (pc' := 46) (L' := [some (mx_r (some (0, 7, 0))), some (mx_i (I 10 0 2)), some (mx_i u107.1), z3]) (st' := [mx_i ((u107.2 10 0 2) - (I 10 0 2))]) (σ' := (hC u107.2 J h, μ)) rfl ?_
  rw [← Option.some.inj hf] at hk
  refine mx_WP.ret (v := some (mx_i ((u107.2 10 0 2) - (I 10 0 2)))) rfl ?_
  exact hk
def f25 (I : Nat → Nat → Nat → Int32) : Option (Int32 × (Nat → Nat → Nat → Int32)) :=
  (f92 I).bind fun u1 =>
  some (u1.1, u1.2)
theorem T25 {d : Nat} {I : Nat → Nat → Nat → Int32} {J : Nat → Nat → Nat → Int64} {h : Nat → Nat} {μ : mx_Rg × (Nat × (Nat → Int32)) × (Nat × Nat)} {Q : Option mx_V → mx_Hp → Prop} {o : Int32 × (Nat → Nat → Nat → Int32)} (hf : f25 I = some o) (hk : Q (some (mx_i o.1)) (hC o.2 J h, μ)) : mx_WP (d + 4) 25 0 (mx_ent 25 [mx_r (some (0, 0, 0))]) [] (hC I J h, μ) Q := by
  unfold f25 at hf
  refine mx_WP.go 2 (pc' := 4) (L' := [some (mx_r (some (0, 0, 0)))]) (st' := [mx_r (some (0, 7, 0))]) (σ' := (hC I J h, μ)) rfl ?_
  obtain ⟨u1, e2, hf⟩ := Option.bind_eq_some_iff.mp hf
  refine mx_WP.call (d := d + 3) (y := 92) (as := [mx_r (some (0, 7, 0))]) (pc' := 7) (r := []) rfl rfl (T92 (d := d + 0)  e2 ?_)
  show mx_WP (d + 4) 25 7 [some (mx_r (some (0, 0, 0)))] [mx_i u1.1] (hC u1.2 J h, μ) Q
  rw [← Option.some.inj hf] at hk
  refine mx_WP.ret (v := some (mx_i u1.1)) rfl ?_
  exact hk
def f26 (x1 : Int32) (I : Nat → Nat → Nat → Int32) : Option (Int32) :=
  (f115 0 x1 I).bind fun u1 =>
  some u1
theorem T26 {d : Nat} {x1 : Int32} {I : Nat → Nat → Nat → Int32} {J : Nat → Nat → Nat → Int64} {h : Nat → Nat} {μ : mx_Rg × (Nat × (Nat → Int32)) × (Nat × Nat)} {Q : Option mx_V → mx_Hp → Prop} {o : Int32} (hf : f26 x1 I = some o) (hk : Q (some (mx_i o)) (hC I J h, μ)) : mx_WP (d + 2) 26 0 (mx_ent 26 [mx_r (some (0, 0, 0)), mx_i x1]) [] (hC I J h, μ) Q := by
  unfold f26 at hf
  refine mx_WP.go 4 (pc' := 8) (L' := [some (mx_r (some (0, 0, 0))), some (mx_i x1)]) (st' := [mx_i x1, mx_r (some (0, 10, 0))]) (σ' := (hC I J h, μ)) rfl ?_
  obtain ⟨u1, e2, hf⟩ := Option.bind_eq_some_iff.mp hf
  refine mx_WP.call (d := d + 1) (y := 115) (as := [mx_r (some (0, 10, 0)), mx_i x1]) (pc' := 11) (r := []) rfl rfl (T115 (d := d + 0)  e2 ?_)
  show mx_WP (d + 2) 26 11 [some (mx_r (some (0, 0, 0))), some (mx_i x1)] [mx_i u1] (hC I J h, μ) Q
  rw [← Option.some.inj hf] at hk
  refine mx_WP.ret (v := some (mx_i u1)) rfl ?_
  exact hk
def b95_14 (x1 : Int32) (x4 : Int32) (I : Nat → Nat → Nat → Int32) (s : Int32 × Int32) : Option ((Int32 × Int32) ⊕ (Int32 × Int32)) :=
  if x4 ≤ s.2 then (some (Sum.inr (s.1, s.2))) else if s.2 < 0 ∨ 8 ≤ s.2.toNatClampNeg then none else (f76 s.2.toNatClampNeg I).bind fun u103 =>
  if u103 < x1 then (some (Sum.inl (s.1, s.2 + 1))) else some (Sum.inl (s.1 + 1, s.2 + 1))
theorem B95_14 {d : Nat} {x1 : Int32} {x4 : Int32} {I : Nat → Nat → Nat → Int32} {J : Nat → Nat → Nat → Int64} {h : Nat → Nat} {μ : mx_Rg × (Nat × (Nat → Int32)) × (Nat × Nat)} {Q : Option mx_V → mx_Hp → Prop} {s : Int32 × Int32} {o : (Int32 × Int32) ⊕ (Int32 × Int32)} (hf : b95_14 x1 x4 I s = some o) (hk : Sum.elim (fun s : Int32 × Int32 => ∀ (z0 z6 : Option mx_V), mx_WP (d + 1) 95 14 [z0, some (mx_i x1), some (mx_i s.1), some (mx_r (some (0, 73, 0))), some (mx_i x4), some (mx_i s.2), z6] [] (hC I J h, μ) Q) (fun x : Int32 × Int32 => ∀ (z0 z6 : Option mx_V), mx_WP (d + 1) 95 45 [z0, some (mx_i x1), some (mx_i x.1), some (mx_r (some (0, 73, 0))), some (mx_i x4), some (mx_i x.2), z6] [] (hC I J h, μ) Q) o) : ∀ (z0 z6 : Option mx_V), mx_WP (d + 1) 95 14 [z0, some (mx_i x1), some (mx_i s.1), some (mx_r (some (0, 73, 0))), some (mx_i x4), some (mx_i s.2), z6] [] (hC I J h, μ) Q := by
  intro z0 z6
  unfold b95_14 at hf
  refine mx_WP.go 2 (pc' := 18) (L' := [z0, some (mx_i x1), some (mx_i s.1), some (mx_r (some (0, 73, 0))), some (mx_i x4), some (mx_i s.2), z6]) (st' := [mx_i x4, mx_i s.2]) (σ' := (hC I J h, μ)) rfl ?_
  by_cases c101 : x4 ≤ s.2
  · rw [if_pos c101] at hf
    refine mx_WP.bge (x := s.2) (y := x4) (q := 45) (p3 := 21) rfl (fun _ => ?_) (fun hh => absurd c101 hh)
    rw [← Option.some.inj hf] at hk
    exact hk (z0) (z6)
  · rw [if_neg c101] at hf
    refine mx_WP.bge (x := s.2) (y := x4) (q := 45) (p3 := 21) rfl (fun hh => absurd hh c101) (fun _ => ?_)
    refine mx_WP.go 2 (pc' := 24) (L' := [z0, some (mx_i x1), some (mx_i s.1), some (mx_r (some (0, 73, 0))), some (mx_i x4), some (mx_i s.2), z6]) (st' := [mx_i s.2, mx_r (some (0, 73, 0))]) (σ' := (hC I J h, μ)) rfl ?_
    by_cases c102 : s.2 < 0 ∨ 8 ≤ s.2.toNatClampNeg
    · rw [if_pos c102] at hf
      cases hf
    rw [if_neg c102] at hf
    refine mx_WP.aal73 c102 ?_
    show mx_WP (d + 1) 95 25 [z0, some (mx_i x1), some (mx_i s.1), some (mx_r (some (0, 73, 0))), some (mx_i x4), some (mx_i s.2), z6] [mx_r (some (0, 6, s.2.toNatClampNeg))] (hC I J h, μ) Q
    refine mx_WP.go 2 (pc' := 29) (L' := [z0, some (mx_i x1), some (mx_i s.1), some (mx_r (some (0, 73, 0))), some (mx_i x4), some (mx_i s.2), some (mx_r (some (0, 6, s.2.toNatClampNeg)))]) (st' := [mx_r (some (0, 6, s.2.toNatClampNeg))]) (σ' := (hC I J h, μ)) rfl ?_
    obtain ⟨u103, e105, hf⟩ := Option.bind_eq_some_iff.mp hf
    refine mx_WP.call (d := d + 0) (y := 76) (as := [mx_r (some (0, 6, s.2.toNatClampNeg))]) (pc' := 32) (r := []) rfl rfl (T76 (d := d + 0)  e105 ?_)
    show mx_WP (d + 1) 95 32 [z0, some (mx_i x1), some (mx_i s.1), some (mx_r (some (0, 73, 0))), some (mx_i x4), some (mx_i s.2), some (mx_r (some (0, 6, s.2.toNatClampNeg)))] [mx_i u103] (hC I J h, μ) Q
    refine mx_WP.go 1 (pc' := 33) (L' := [z0, some (mx_i x1), some (mx_i s.1), some (mx_r (some (0, 73, 0))), some (mx_i x4), some (mx_i s.2), some (mx_r (some (0, 6, s.2.toNatClampNeg)))]) (st' := [mx_i x1, mx_i u103]) (σ' := (hC I J h, μ)) rfl ?_
    by_cases c104 : u103 < x1
    · rw [if_pos c104] at hf
      refine mx_WP.blt (x := u103) (y := x1) (q := 39) (p3 := 36) rfl (fun _ => ?_) (fun hh => absurd c104 hh)
      refine mx_WP.go 2 (pc' := 14) (L' := [z0, some (mx_i x1), some (mx_i s.1), some (mx_r (some (0, 73, 0))), some (mx_i x4), some (mx_i (s.2 + 1)), some (mx_r (some (0, 6, s.2.toNatClampNeg)))]) (st' := []) (σ' := (hC I J h, μ)) rfl ?_
      rw [← Option.some.inj hf] at hk
      exact hk (z0) (some (mx_r (some (0, 6, s.2.toNatClampNeg))))
    · rw [if_neg c104] at hf
      refine mx_WP.blt (x := u103) (y := x1) (q := 39) (p3 := 36) rfl (fun hh => absurd hh c104) (fun _ => ?_)
      refine mx_WP.go 3 (pc' := 14) (L' := [z0, some (mx_i x1), some (mx_i (s.1 + 1)), some (mx_r (some (0, 73, 0))), some (mx_i x4), some (mx_i (s.2 + 1)), some (mx_r (some (0, 6, s.2.toNatClampNeg)))]) (st' := []) (σ' := (hC I J h, μ)) rfl ?_
      rw [← Option.some.inj hf] at hk
      exact hk (z0) (some (mx_r (some (0, 6, s.2.toNatClampNeg))))
theorem L95_14 {d : Nat} {x1 : Int32} {x4 : Int32} {I : Nat → Nat → Nat → Int32} {J : Nat → Nat → Nat → Int64} {h : Nat → Nat} {μ : mx_Rg × (Nat × (Nat → Int32)) × (Nat × Nat)} {Q : Option mx_V → mx_Hp → Prop} {n : Nat} {s : Int32 × Int32} {o : Int32 × Int32} (hf : mx_lp (b95_14 x1 x4 I) n s = some o) (hk : (fun x : Int32 × Int32 => ∀ (z0 z6 : Option mx_V), mx_WP (d + 1) 95 45 [z0, some (mx_i x1), some (mx_i x.1), some (mx_r (some (0, 73, 0))), some (mx_i x4), some (mx_i x.2), z6] [] (hC I J h, μ) Q) o) : ∀ (z0 z6 : Option mx_V), mx_WP (d + 1) 95 14 [z0, some (mx_i x1), some (mx_i s.1), some (mx_r (some (0, 73, 0))), some (mx_i x4), some (mx_i s.2), z6] [] (hC I J h, μ) Q := mx_lp_ok (P := fun s : Int32 × Int32 => ∀ (z0 z6 : Option mx_V), mx_WP (d + 1) 95 14 [z0, some (mx_i x1), some (mx_i s.1), some (mx_r (some (0, 73, 0))), some (mx_i x4), some (mx_i s.2), z6] [] (hC I J h, μ) Q) (E := (fun x : Int32 × Int32 => ∀ (z0 z6 : Option mx_V), mx_WP (d + 1) 95 45 [z0, some (mx_i x1), some (mx_i x.1), some (mx_r (some (0, 73, 0))), some (mx_i x4), some (mx_i x.2), z6] [] (hC I J h, μ) Q)) (fun s o hf hk => B95_14 hf hk) n s o hf hk
def f95 (x1 : Int32) (I : Nat → Nat → Nat → Int32) : Option (Int32) :=
  (mx_lp (b95_14 x1 (Int32.ofNat 8) I) mx_fu ((0 : Int32), (0 : Int32))).bind fun u106 =>
  some u106.1
theorem T95 {d : Nat} {x1 : Int32} {I : Nat → Nat → Nat → Int32} {J : Nat → Nat → Nat → Int64} {h : Nat → Nat} {μ : mx_Rg × (Nat × (Nat → Int32)) × (Nat × Nat)} {Q : Option mx_V → mx_Hp → Prop} {o : Int32} (hf : f95 x1 I = some o) (hk : Q (some (mx_i o)) (hC I J h, μ)) : mx_WP (d + 1) 95 0 (mx_ent 95 [mx_r (some (0, 7, 0)), mx_i x1]) [] (hC I J h, μ) Q := by
  unfold f95 at hf
  refine mx_WP.go 10 (pc' := 14) (L' := [some (mx_r (some (0, 7, 0))), some (mx_i x1), some (mx_i (0 : Int32)), some (mx_r (some (0, 73, 0))), some (mx_i (Int32.ofNat 8)), some (mx_i (0 : Int32)), none]) (st' := []) (σ' := (hC I J h, μ)) rfl ?_
  obtain ⟨u106, e107, hf⟩ := Option.bind_eq_some_iff.mp hf
  refine (L95_14 (d := d) e107 ?_) (some (mx_r (some (0, 7, 0)))) (none)
  intro z0 z6
  show mx_WP (d + 1) 95 45 [z0, some (mx_i x1), some (mx_i u106.1), some (mx_r (some (0, 73, 0))), some (mx_i (Int32.ofNat 8)), some (mx_i u106.2), z6] [] (hC I J h, μ) Q
  refine mx_WP.go 1 (pc' := 46) (L' := [z0, some (mx_i x1), some (mx_i u106.1), some (mx_r (some (0, 73, 0))), some (mx_i (Int32.ofNat 8)), some (mx_i u106.2), z6]) (st' := [mx_i u106.1]) (σ' := (hC I J h, μ)) rfl ?_
  rw [← Option.some.inj hf] at hk
  refine mx_WP.ret (v := some (mx_i u106.1)) rfl ?_
  exact hk
def b28_75_10 (x3 : Int32) (I : Nat → Nat → Nat → Int32) (s : Int32 × Int32) : Option ((Int32 × Int32) ⊕ (Int32 × Int32)) :=
  if x3 ≤ s.2 then (some (Sum.inr (s.1, s.2))) else if s.2 < 0 ∨ 128 ≤ s.2.toNatClampNeg then none else if (I 75 0 s.2.toNatClampNeg) = (0 : Int32) then (some (Sum.inl (s.1, s.2 + 1))) else some (Sum.inl (s.1 + 1, s.2 + 1))
theorem B28_75_10 {d : Nat} {x3 : Int32} {I : Nat → Nat → Nat → Int32} {J : Nat → Nat → Nat → Int64} {h : Nat → Nat} {μ : mx_Rg × (Nat × (Nat → Int32)) × (Nat × Nat)} {Q : Option mx_V → mx_Hp → Prop} {s : Int32 × Int32} {o : (Int32 × Int32) ⊕ (Int32 × Int32)} (hf : b28_75_10 x3 I s = some o) (hk : Sum.elim (fun s : Int32 × Int32 => ∀ (z0 z5 : Option mx_V), mx_WP (d + 0) 28 10 [z0, some (mx_i s.1), some (mx_r (some (0, 75, 0))), some (mx_i x3), some (mx_i s.2), z5] [] (hC I J h, μ) Q) (fun x : Int32 × Int32 => ∀ (z0 z5 : Option mx_V), mx_WP (d + 0) 28 36 [z0, some (mx_i x.1), some (mx_r (some (0, 75, 0))), some (mx_i x3), some (mx_i x.2), z5] [] (hC I J h, μ) Q) o) : ∀ (z0 z5 : Option mx_V), mx_WP (d + 0) 28 10 [z0, some (mx_i s.1), some (mx_r (some (0, 75, 0))), some (mx_i x3), some (mx_i s.2), z5] [] (hC I J h, μ) Q := by
  intro z0 z5
  unfold b28_75_10 at hf
  refine mx_WP.go 2 (pc' := 13) (L' := [z0, some (mx_i s.1), some (mx_r (some (0, 75, 0))), some (mx_i x3), some (mx_i s.2), z5]) (st' := [mx_i x3, mx_i s.2]) (σ' := (hC I J h, μ)) rfl ?_
  by_cases c101 : x3 ≤ s.2
  · rw [if_pos c101] at hf
    refine mx_WP.bge (x := s.2) (y := x3) (q := 36) (p3 := 16) rfl (fun _ => ?_) (fun hh => absurd c101 hh)
    rw [← Option.some.inj hf] at hk
    exact hk (z0) (z5)
  · rw [if_neg c101] at hf
    refine mx_WP.bge (x := s.2) (y := x3) (q := 36) (p3 := 16) rfl (fun hh => absurd hh c101) (fun _ => ?_)
    refine mx_WP.go 2 (pc' := 19) (L' := [z0, some (mx_i s.1), some (mx_r (some (0, 75, 0))), some (mx_i x3), some (mx_i s.2), z5]) (st' := [mx_i s.2, mx_r (some (0, 75, 0))]) (σ' := (hC I J h, μ)) rfl ?_
    by_cases c102 : s.2 < 0 ∨ 128 ≤ s.2.toNatClampNeg
    · rw [if_pos c102] at hf
      cases hf
    rw [if_neg c102] at hf
    refine mx_WP.baldx c102 ?_
    show mx_WP (d + 0) 28 20 [z0, some (mx_i s.1), some (mx_r (some (0, 75, 0))), some (mx_i x3), some (mx_i s.2), z5] [mx_i (I 75 0 s.2.toNatClampNeg)] (hC I J h, μ) Q
    refine mx_WP.go 2 (pc' := 24) (L' := [z0, some (mx_i s.1), some (mx_r (some (0, 75, 0))), some (mx_i x3), some (mx_i s.2), some (mx_i (I 75 0 s.2.toNatClampNeg))]) (st' := [mx_i (I 75 0 s.2.toNatClampNeg)]) (σ' := (hC I J h, μ)) rfl ?_
    by_cases c103 : (I 75 0 s.2.toNatClampNeg) = (0 : Int32)
    · rw [if_pos c103] at hf
      refine mx_WP.beq (x := (I 75 0 s.2.toNatClampNeg)) (y := (0 : Int32)) (q := 30) (p3 := 27) rfl (fun _ => ?_) (fun hh => absurd c103 hh)
      refine mx_WP.go 2 (pc' := 10) (L' := [z0, some (mx_i s.1), some (mx_r (some (0, 75, 0))), some (mx_i x3), some (mx_i (s.2 + 1)), some (mx_i (I 75 0 s.2.toNatClampNeg))]) (st' := []) (σ' := (hC I J h, μ)) rfl ?_
      rw [← Option.some.inj hf] at hk
      exact hk (z0) (some (mx_i (I 75 0 s.2.toNatClampNeg)))
    · rw [if_neg c103] at hf
      refine mx_WP.beq (x := (I 75 0 s.2.toNatClampNeg)) (y := (0 : Int32)) (q := 30) (p3 := 27) rfl (fun hh => absurd hh c103) (fun _ => ?_)
      refine mx_WP.go 3 (pc' := 10) (L' := [z0, some (mx_i (s.1 + 1)), some (mx_r (some (0, 75, 0))), some (mx_i x3), some (mx_i (s.2 + 1)), some (mx_i (I 75 0 s.2.toNatClampNeg))]) (st' := []) (σ' := (hC I J h, μ)) rfl ?_
      rw [← Option.some.inj hf] at hk
      exact hk (z0) (some (mx_i (I 75 0 s.2.toNatClampNeg)))
theorem L28_75_10 {d : Nat} {x3 : Int32} {I : Nat → Nat → Nat → Int32} {J : Nat → Nat → Nat → Int64} {h : Nat → Nat} {μ : mx_Rg × (Nat × (Nat → Int32)) × (Nat × Nat)} {Q : Option mx_V → mx_Hp → Prop} {n : Nat} {s : Int32 × Int32} {o : Int32 × Int32} (hf : mx_lp (b28_75_10 x3 I) n s = some o) (hk : (fun x : Int32 × Int32 => ∀ (z0 z5 : Option mx_V), mx_WP (d + 0) 28 36 [z0, some (mx_i x.1), some (mx_r (some (0, 75, 0))), some (mx_i x3), some (mx_i x.2), z5] [] (hC I J h, μ) Q) o) : ∀ (z0 z5 : Option mx_V), mx_WP (d + 0) 28 10 [z0, some (mx_i s.1), some (mx_r (some (0, 75, 0))), some (mx_i x3), some (mx_i s.2), z5] [] (hC I J h, μ) Q := mx_lp_ok (P := fun s : Int32 × Int32 => ∀ (z0 z5 : Option mx_V), mx_WP (d + 0) 28 10 [z0, some (mx_i s.1), some (mx_r (some (0, 75, 0))), some (mx_i x3), some (mx_i s.2), z5] [] (hC I J h, μ) Q) (E := (fun x : Int32 × Int32 => ∀ (z0 z5 : Option mx_V), mx_WP (d + 0) 28 36 [z0, some (mx_i x.1), some (mx_r (some (0, 75, 0))), some (mx_i x3), some (mx_i x.2), z5] [] (hC I J h, μ) Q)) (fun s o hf hk => B28_75_10 hf hk) n s o hf hk
def f28_75 (I : Nat → Nat → Nat → Int32) : Option (Int32) :=
  (mx_lp (b28_75_10 (Int32.ofNat 128) I) mx_fu ((0 : Int32), (0 : Int32))).bind fun u104 =>
  some u104.1
theorem T28_75 {d : Nat} {I : Nat → Nat → Nat → Int32} {J : Nat → Nat → Nat → Int64} {h : Nat → Nat} {μ : mx_Rg × (Nat × (Nat → Int32)) × (Nat × Nat)} {Q : Option mx_V → mx_Hp → Prop} {o : Int32} (hf : f28_75 I = some o) (hk : Q (some (mx_i o)) (hC I J h, μ)) : mx_WP (d + 0) 28 0 (mx_ent 28 [mx_r (some (0, 75, 0))]) [] (hC I J h, μ) Q := by
  unfold f28_75 at hf
  refine mx_WP.go 9 (pc' := 10) (L' := [some (mx_r (some (0, 75, 0))), some (mx_i (0 : Int32)), some (mx_r (some (0, 75, 0))), some (mx_i (Int32.ofNat 128)), some (mx_i (0 : Int32)), none]) (st' := []) (σ' := (hC I J h, μ)) rfl ?_
  obtain ⟨u104, e105, hf⟩ := Option.bind_eq_some_iff.mp hf
  refine (L28_75_10 (d := d) e105 ?_) (some (mx_r (some (0, 75, 0)))) (none)
  intro z0 z5
  show mx_WP (d + 0) 28 36 [z0, some (mx_i u104.1), some (mx_r (some (0, 75, 0))), some (mx_i (Int32.ofNat 128)), some (mx_i u104.2), z5] [] (hC I J h, μ) Q
  refine mx_WP.go 1 (pc' := 37) (L' := [z0, some (mx_i u104.1), some (mx_r (some (0, 75, 0))), some (mx_i (Int32.ofNat 128)), some (mx_i u104.2), z5]) (st' := [mx_i u104.1]) (σ' := (hC I J h, μ)) rfl ?_
  rw [← Option.some.inj hf] at hk
  refine mx_WP.ret (v := some (mx_i u104.1)) rfl ?_
  exact hk
def b28_74_10 (x3 : Int32) (I : Nat → Nat → Nat → Int32) (s : Int32 × Int32) : Option ((Int32 × Int32) ⊕ (Int32 × Int32)) :=
  if x3 ≤ s.2 then (some (Sum.inr (s.1, s.2))) else if s.2 < 0 ∨ 128 ≤ s.2.toNatClampNeg then none else if (I 74 0 s.2.toNatClampNeg) = (0 : Int32) then (some (Sum.inl (s.1, s.2 + 1))) else some (Sum.inl (s.1 + 1, s.2 + 1))
theorem B28_74_10 {d : Nat} {x3 : Int32} {I : Nat → Nat → Nat → Int32} {J : Nat → Nat → Nat → Int64} {h : Nat → Nat} {μ : mx_Rg × (Nat × (Nat → Int32)) × (Nat × Nat)} {Q : Option mx_V → mx_Hp → Prop} {s : Int32 × Int32} {o : (Int32 × Int32) ⊕ (Int32 × Int32)} (hf : b28_74_10 x3 I s = some o) (hk : Sum.elim (fun s : Int32 × Int32 => ∀ (z0 z5 : Option mx_V), mx_WP (d + 0) 28 10 [z0, some (mx_i s.1), some (mx_r (some (0, 74, 0))), some (mx_i x3), some (mx_i s.2), z5] [] (hC I J h, μ) Q) (fun x : Int32 × Int32 => ∀ (z0 z5 : Option mx_V), mx_WP (d + 0) 28 36 [z0, some (mx_i x.1), some (mx_r (some (0, 74, 0))), some (mx_i x3), some (mx_i x.2), z5] [] (hC I J h, μ) Q) o) : ∀ (z0 z5 : Option mx_V), mx_WP (d + 0) 28 10 [z0, some (mx_i s.1), some (mx_r (some (0, 74, 0))), some (mx_i x3), some (mx_i s.2), z5] [] (hC I J h, μ) Q := by
  intro z0 z5
  unfold b28_74_10 at hf
  refine mx_WP.go 2 (pc' := 13) (L' := [z0, some (mx_i s.1), some (mx_r (some (0, 74, 0))), some (mx_i x3), some (mx_i s.2), z5]) (st' := [mx_i x3, mx_i s.2]) (σ' := (hC I J h, μ)) rfl ?_
  by_cases c101 : x3 ≤ s.2
  · rw [if_pos c101] at hf
    refine mx_WP.bge (x := s.2) (y := x3) (q := 36) (p3 := 16) rfl (fun _ => ?_) (fun hh => absurd c101 hh)
    rw [← Option.some.inj hf] at hk
    exact hk (z0) (z5)
  · rw [if_neg c101] at hf
    refine mx_WP.bge (x := s.2) (y := x3) (q := 36) (p3 := 16) rfl (fun hh => absurd hh c101) (fun _ => ?_)
    refine mx_WP.go 2 (pc' := 19) (L' := [z0, some (mx_i s.1), some (mx_r (some (0, 74, 0))), some (mx_i x3), some (mx_i s.2), z5]) (st' := [mx_i s.2, mx_r (some (0, 74, 0))]) (σ' := (hC I J h, μ)) rfl ?_
    by_cases c102 : s.2 < 0 ∨ 128 ≤ s.2.toNatClampNeg
    · rw [if_pos c102] at hf
      cases hf
    rw [if_neg c102] at hf
    refine mx_WP.baldx c102 ?_
    show mx_WP (d + 0) 28 20 [z0, some (mx_i s.1), some (mx_r (some (0, 74, 0))), some (mx_i x3), some (mx_i s.2), z5] [mx_i (I 74 0 s.2.toNatClampNeg)] (hC I J h, μ) Q
    refine mx_WP.go 2 (pc' := 24) (L' := [z0, some (mx_i s.1), some (mx_r (some (0, 74, 0))), some (mx_i x3), some (mx_i s.2), some (mx_i (I 74 0 s.2.toNatClampNeg))]) (st' := [mx_i (I 74 0 s.2.toNatClampNeg)]) (σ' := (hC I J h, μ)) rfl ?_
    by_cases c103 : (I 74 0 s.2.toNatClampNeg) = (0 : Int32)
    · rw [if_pos c103] at hf
      refine mx_WP.beq (x := (I 74 0 s.2.toNatClampNeg)) (y := (0 : Int32)) (q := 30) (p3 := 27) rfl (fun _ => ?_) (fun hh => absurd c103 hh)
      refine mx_WP.go 2 (pc' := 10) (L' := [z0, some (mx_i s.1), some (mx_r (some (0, 74, 0))), some (mx_i x3), some (mx_i (s.2 + 1)), some (mx_i (I 74 0 s.2.toNatClampNeg))]) (st' := []) (σ' := (hC I J h, μ)) rfl ?_
      rw [← Option.some.inj hf] at hk
      exact hk (z0) (some (mx_i (I 74 0 s.2.toNatClampNeg)))
    · rw [if_neg c103] at hf
      refine mx_WP.beq (x := (I 74 0 s.2.toNatClampNeg)) (y := (0 : Int32)) (q := 30) (p3 := 27) rfl (fun hh => absurd hh c103) (fun _ => ?_)
      refine mx_WP.go 3 (pc' := 10) (L' := [z0, some (mx_i (s.1 + 1)), some (mx_r (some (0, 74, 0))), some (mx_i x3), some (mx_i (s.2 + 1)), some (mx_i (I 74 0 s.2.toNatClampNeg))]) (st' := []) (σ' := (hC I J h, μ)) rfl ?_
      rw [← Option.some.inj hf] at hk
      exact hk (z0) (some (mx_i (I 74 0 s.2.toNatClampNeg)))
theorem L28_74_10 {d : Nat} {x3 : Int32} {I : Nat → Nat → Nat → Int32} {J : Nat → Nat → Nat → Int64} {h : Nat → Nat} {μ : mx_Rg × (Nat × (Nat → Int32)) × (Nat × Nat)} {Q : Option mx_V → mx_Hp → Prop} {n : Nat} {s : Int32 × Int32} {o : Int32 × Int32} (hf : mx_lp (b28_74_10 x3 I) n s = some o) (hk : (fun x : Int32 × Int32 => ∀ (z0 z5 : Option mx_V), mx_WP (d + 0) 28 36 [z0, some (mx_i x.1), some (mx_r (some (0, 74, 0))), some (mx_i x3), some (mx_i x.2), z5] [] (hC I J h, μ) Q) o) : ∀ (z0 z5 : Option mx_V), mx_WP (d + 0) 28 10 [z0, some (mx_i s.1), some (mx_r (some (0, 74, 0))), some (mx_i x3), some (mx_i s.2), z5] [] (hC I J h, μ) Q := mx_lp_ok (P := fun s : Int32 × Int32 => ∀ (z0 z5 : Option mx_V), mx_WP (d + 0) 28 10 [z0, some (mx_i s.1), some (mx_r (some (0, 74, 0))), some (mx_i x3), some (mx_i s.2), z5] [] (hC I J h, μ) Q) (E := (fun x : Int32 × Int32 => ∀ (z0 z5 : Option mx_V), mx_WP (d + 0) 28 36 [z0, some (mx_i x.1), some (mx_r (some (0, 74, 0))), some (mx_i x3), some (mx_i x.2), z5] [] (hC I J h, μ) Q)) (fun s o hf hk => B28_74_10 hf hk) n s o hf hk
def f28_74 (I : Nat → Nat → Nat → Int32) : Option (Int32) :=
  (mx_lp (b28_74_10 (Int32.ofNat 128) I) mx_fu ((0 : Int32), (0 : Int32))).bind fun u104 =>
  some u104.1
theorem T28_74 {d : Nat} {I : Nat → Nat → Nat → Int32} {J : Nat → Nat → Nat → Int64} {h : Nat → Nat} {μ : mx_Rg × (Nat × (Nat → Int32)) × (Nat × Nat)} {Q : Option mx_V → mx_Hp → Prop} {o : Int32} (hf : f28_74 I = some o) (hk : Q (some (mx_i o)) (hC I J h, μ)) : mx_WP (d + 0) 28 0 (mx_ent 28 [mx_r (some (0, 74, 0))]) [] (hC I J h, μ) Q := by
  unfold f28_74 at hf
  refine mx_WP.go 9 (pc' := 10) (L' := [some (mx_r (some (0, 74, 0))), some (mx_i (0 : Int32)), some (mx_r (some (0, 74, 0))), some (mx_i (Int32.ofNat 128)), some (mx_i (0 : Int32)), none]) (st' := []) (σ' := (hC I J h, μ)) rfl ?_
  obtain ⟨u104, e105, hf⟩ := Option.bind_eq_some_iff.mp hf
  refine (L28_74_10 (d := d) e105 ?_) (some (mx_r (some (0, 74, 0)))) (none)
  intro z0 z5
  show mx_WP (d + 0) 28 36 [z0, some (mx_i u104.1), some (mx_r (some (0, 74, 0))), some (mx_i (Int32.ofNat 128)), some (mx_i u104.2), z5] [] (hC I J h, μ) Q
  refine mx_WP.go 1 (pc' := 37) (L' := [z0, some (mx_i u104.1), some (mx_r (some (0, 74, 0))), some (mx_i (Int32.ofNat 128)), some (mx_i u104.2), z5]) (st' := [mx_i u104.1]) (σ' := (hC I J h, μ)) rfl ?_
  rw [← Option.some.inj hf] at hk
  refine mx_WP.ret (v := some (mx_i u104.1)) rfl ?_
  exact hk
def b28_80_10 (x3 : Int32) (I : Nat → Nat → Nat → Int32) (s : Int32 × Int32) : Option ((Int32 × Int32) ⊕ (Int32 × Int32)) :=
  if x3 ≤ s.2 then (some (Sum.inr (s.1, s.2))) else if s.2 < 0 ∨ 24 ≤ s.2.toNatClampNeg then none else if (I 80 0 s.2.toNatClampNeg) = (0 : Int32) then (some (Sum.inl (s.1, s.2 + 1))) else some (Sum.inl (s.1 + 1, s.2 + 1))
theorem B28_80_10 {d : Nat} {x3 : Int32} {I : Nat → Nat → Nat → Int32} {J : Nat → Nat → Nat → Int64} {h : Nat → Nat} {μ : mx_Rg × (Nat × (Nat → Int32)) × (Nat × Nat)} {Q : Option mx_V → mx_Hp → Prop} {s : Int32 × Int32} {o : (Int32 × Int32) ⊕ (Int32 × Int32)} (hf : b28_80_10 x3 I s = some o) (hk : Sum.elim (fun s : Int32 × Int32 => ∀ (z0 z5 : Option mx_V), mx_WP (d + 0) 28 10 [z0, some (mx_i s.1), some (mx_r (some (0, 80, 0))), some (mx_i x3), some (mx_i s.2), z5] [] (hC I J h, μ) Q) (fun x : Int32 × Int32 => ∀ (z0 z5 : Option mx_V), mx_WP (d + 0) 28 36 [z0, some (mx_i x.1), some (mx_r (some (0, 80, 0))), some (mx_i x3), some (mx_i x.2), z5] [] (hC I J h, μ) Q) o) : ∀ (z0 z5 : Option mx_V), mx_WP (d + 0) 28 10 [z0, some (mx_i s.1), some (mx_r (some (0, 80, 0))), some (mx_i x3), some (mx_i s.2), z5] [] (hC I J h, μ) Q := by
  intro z0 z5
  unfold b28_80_10 at hf
  refine mx_WP.go 2 (pc' := 13) (L' := [z0, some (mx_i s.1), some (mx_r (some (0, 80, 0))), some (mx_i x3), some (mx_i s.2), z5]) (st' := [mx_i x3, mx_i s.2]) (σ' := (hC I J h, μ)) rfl ?_
  by_cases c101 : x3 ≤ s.2
  · rw [if_pos c101] at hf
    refine mx_WP.bge (x := s.2) (y := x3) (q := 36) (p3 := 16) rfl (fun _ => ?_) (fun hh => absurd c101 hh)
    rw [← Option.some.inj hf] at hk
    exact hk (z0) (z5)
  · rw [if_neg c101] at hf
    refine mx_WP.bge (x := s.2) (y := x3) (q := 36) (p3 := 16) rfl (fun hh => absurd hh c101) (fun _ => ?_)
    refine mx_WP.go 2 (pc' := 19) (L' := [z0, some (mx_i s.1), some (mx_r (some (0, 80, 0))), some (mx_i x3), some (mx_i s.2), z5]) (st' := [mx_i s.2, mx_r (some (0, 80, 0))]) (σ' := (hC I J h, μ)) rfl ?_
    by_cases c102 : s.2 < 0 ∨ 24 ≤ s.2.toNatClampNeg
    · rw [if_pos c102] at hf
      cases hf
    rw [if_neg c102] at hf
    refine mx_WP.baldx c102 ?_
    show mx_WP (d + 0) 28 20 [z0, some (mx_i s.1), some (mx_r (some (0, 80, 0))), some (mx_i x3), some (mx_i s.2), z5] [mx_i (I 80 0 s.2.toNatClampNeg)] (hC I J h, μ) Q
    refine mx_WP.go 2 (pc' := 24) (L' := [z0, some (mx_i s.1), some (mx_r (some (0, 80, 0))), some (mx_i x3), some (mx_i s.2), some (mx_i (I 80 0 s.2.toNatClampNeg))]) (st' := [mx_i (I 80 0 s.2.toNatClampNeg)]) (σ' := (hC I J h, μ)) rfl ?_
    by_cases c103 : (I 80 0 s.2.toNatClampNeg) = (0 : Int32)
    · rw [if_pos c103] at hf
      refine mx_WP.beq (x := (I 80 0 s.2.toNatClampNeg)) (y := (0 : Int32)) (q := 30) (p3 := 27) rfl (fun _ => ?_) (fun hh => absurd c103 hh)
      refine mx_WP.go 2 (pc' := 10) (L' := [z0, some (mx_i s.1), some (mx_r (some (0, 80, 0))), some (mx_i x3), some (mx_i (s.2 + 1)), some (mx_i (I 80 0 s.2.toNatClampNeg))]) (st' := []) (σ' := (hC I J h, μ)) rfl ?_
      rw [← Option.some.inj hf] at hk
      exact hk (z0) (some (mx_i (I 80 0 s.2.toNatClampNeg)))
    · rw [if_neg c103] at hf
      refine mx_WP.beq (x := (I 80 0 s.2.toNatClampNeg)) (y := (0 : Int32)) (q := 30) (p3 := 27) rfl (fun hh => absurd hh c103) (fun _ => ?_)
      refine mx_WP.go 3 (pc' := 10) (L' := [z0, some (mx_i (s.1 + 1)), some (mx_r (some (0, 80, 0))), some (mx_i x3), some (mx_i (s.2 + 1)), some (mx_i (I 80 0 s.2.toNatClampNeg))]) (st' := []) (σ' := (hC I J h, μ)) rfl ?_
      rw [← Option.some.inj hf] at hk
      exact hk (z0) (some (mx_i (I 80 0 s.2.toNatClampNeg)))
theorem L28_80_10 {d : Nat} {x3 : Int32} {I : Nat → Nat → Nat → Int32} {J : Nat → Nat → Nat → Int64} {h : Nat → Nat} {μ : mx_Rg × (Nat × (Nat → Int32)) × (Nat × Nat)} {Q : Option mx_V → mx_Hp → Prop} {n : Nat} {s : Int32 × Int32} {o : Int32 × Int32} (hf : mx_lp (b28_80_10 x3 I) n s = some o) (hk : (fun x : Int32 × Int32 => ∀ (z0 z5 : Option mx_V), mx_WP (d + 0) 28 36 [z0, some (mx_i x.1), some (mx_r (some (0, 80, 0))), some (mx_i x3), some (mx_i x.2), z5] [] (hC I J h, μ) Q) o) : ∀ (z0 z5 : Option mx_V), mx_WP (d + 0) 28 10 [z0, some (mx_i s.1), some (mx_r (some (0, 80, 0))), some (mx_i x3), some (mx_i s.2), z5] [] (hC I J h, μ) Q := mx_lp_ok (P := fun s : Int32 × Int32 => ∀ (z0 z5 : Option mx_V), mx_WP (d + 0) 28 10 [z0, some (mx_i s.1), some (mx_r (some (0, 80, 0))), some (mx_i x3), some (mx_i s.2), z5] [] (hC I J h, μ) Q) (E := (fun x : Int32 × Int32 => ∀ (z0 z5 : Option mx_V), mx_WP (d + 0) 28 36 [z0, some (mx_i x.1), some (mx_r (some (0, 80, 0))), some (mx_i x3), some (mx_i x.2), z5] [] (hC I J h, μ) Q)) (fun s o hf hk => B28_80_10 hf hk) n s o hf hk
def f28_80 (I : Nat → Nat → Nat → Int32) : Option (Int32) :=
  (mx_lp (b28_80_10 (Int32.ofNat 24) I) mx_fu ((0 : Int32), (0 : Int32))).bind fun u104 =>
  some u104.1
theorem T28_80 {d : Nat} {I : Nat → Nat → Nat → Int32} {J : Nat → Nat → Nat → Int64} {h : Nat → Nat} {μ : mx_Rg × (Nat × (Nat → Int32)) × (Nat × Nat)} {Q : Option mx_V → mx_Hp → Prop} {o : Int32} (hf : f28_80 I = some o) (hk : Q (some (mx_i o)) (hC I J h, μ)) : mx_WP (d + 0) 28 0 (mx_ent 28 [mx_r (some (0, 80, 0))]) [] (hC I J h, μ) Q := by
  unfold f28_80 at hf
  refine mx_WP.go 9 (pc' := 10) (L' := [some (mx_r (some (0, 80, 0))), some (mx_i (0 : Int32)), some (mx_r (some (0, 80, 0))), some (mx_i (Int32.ofNat 24)), some (mx_i (0 : Int32)), none]) (st' := []) (σ' := (hC I J h, μ)) rfl ?_
  obtain ⟨u104, e105, hf⟩ := Option.bind_eq_some_iff.mp hf
  refine (L28_80_10 (d := d) e105 ?_) (some (mx_r (some (0, 80, 0)))) (none)
  intro z0 z5
  show mx_WP (d + 0) 28 36 [z0, some (mx_i u104.1), some (mx_r (some (0, 80, 0))), some (mx_i (Int32.ofNat 24)), some (mx_i u104.2), z5] [] (hC I J h, μ) Q
  refine mx_WP.go 1 (pc' := 37) (L' := [z0, some (mx_i u104.1), some (mx_r (some (0, 80, 0))), some (mx_i (Int32.ofNat 24)), some (mx_i u104.2), z5]) (st' := [mx_i u104.1]) (σ' := (hC I J h, μ)) rfl ?_
  rw [← Option.some.inj hf] at hk
  refine mx_WP.ret (v := some (mx_i u104.1)) rfl ?_
  exact hk
def f112 (I : Nat → Nat → Nat → Int32) : Option (Int32) :=
  (f28_80 I).bind fun u1 =>
  some ((I 9 0 4) - u1)
theorem T112 {d : Nat} {I : Nat → Nat → Nat → Int32} {J : Nat → Nat → Nat → Int64} {h : Nat → Nat} {μ : mx_Rg × (Nat × (Nat → Int32)) × (Nat × Nat)} {Q : Option mx_V → mx_Hp → Prop} {o : Int32} (hf : f112 I = some o) (hk : Q (some (mx_i o)) (hC I J h, μ)) : mx_WP (d + 1) 112 0 (mx_ent 112 [mx_r (some (0, 9, 0))]) [] (hC I J h, μ) Q := by
  unfold f112 at hf
  refine mx_WP.go 4 (pc' := 8) (L' := [some (mx_r (some (0, 9, 0)))]) (st' := [mx_r (some (0, 80, 0)), mx_i (I 9 0 4)]) (σ' := (hC I J h, μ)) rfl ?_
  obtain ⟨u1, e2, hf⟩ := Option.bind_eq_some_iff.mp hf
  refine mx_WP.call (d := d + 0) (y := 28) (as := [mx_r (some (0, 80, 0))]) (pc' := 11) (r := [mx_i (I 9 0 4)]) rfl rfl (T28_80 (d := d + 0)  e2 ?_)
  show mx_WP (d + 1) 112 11 [some (mx_r (some (0, 9, 0)))] [mx_i u1, mx_i (I 9 0 4)] (hC I J h, μ) Q
  refine mx_WP.go 1 (pc' := 12) (L' := [some (mx_r (some (0, 9, 0)))]) (st' := [mx_i ((I 9 0 4) - u1)]) (σ' := (hC I J h, μ)) rfl ?_
  rw [← Option.some.inj hf] at hk
  refine mx_WP.ret (v := some (mx_i ((I 9 0 4) - u1))) rfl ?_
  exact hk
def f27 (x1 : Int32) (I : Nat → Nat → Nat → Int32) : Option (Int32) :=
  if x1 = (0 : Int32) then ((f95 (1 : Int32) I).bind fun u2 =>
  some u2) else if x1 = (1 : Int32) then ((f95 (2 : Int32) I).bind fun u5 =>
  some u5) else if x1 = (2 : Int32) then ((f95 (3 : Int32) I).bind fun u8 =>
  some u8) else if x1 = (3 : Int32) then ((f28_75 I).bind fun u11 =>
  some u11) else if x1 = (4 : Int32) then ((f28_74 I).bind fun u14 =>
  some u14) else if x1 = (5 : Int32) then (some (I 9 0 4)) else if x1 = (6 : Int32) then ((f112 I).bind fun u18 =>
  some u18) else if x1 = (7 : Int32) then (some (I 10 1 2)) else if x1 = (8 : Int32) then (some (I 10 0 2)) else if x1 = (9 : Int32) then (some (I 1 0 2)) else some (-1 : Int32)
theorem T27 {d : Nat} {x1 : Int32} {I : Nat → Nat → Nat → Int32} {J : Nat → Nat → Nat → Int64} {h : Nat → Nat} {μ : mx_Rg × (Nat × (Nat → Int32)) × (Nat × Nat)} {Q : Option mx_V → mx_Hp → Prop} {o : Int32} (hf : f27 x1 I = some o) (hk : Q (some (mx_i o)) (hC I J h, μ)) : mx_WP (d + 2) 27 0 (mx_ent 27 [mx_r (some (0, 0, 0)), mx_i x1]) [] (hC I J h, μ) Q := by
  unfold f27 at hf
  refine mx_WP.go 1 (pc' := 1) (L' := [some (mx_r (some (0, 0, 0))), some (mx_i x1)]) (st' := [mx_i x1]) (σ' := (hC I J h, μ)) rfl ?_
  by_cases c1 : x1 = (0 : Int32)
  · rw [if_pos c1] at hf
    refine mx_WP.sw (c := (0 : Int32)) (q := 56) c1 (by rfl) ?_
    refine mx_WP.go 3 (pc' := 61) (L' := [some (mx_r (some (0, 0, 0))), some (mx_i x1)]) (st' := [mx_i (1 : Int32), mx_r (some (0, 7, 0))]) (σ' := (hC I J h, μ)) rfl ?_
    obtain ⟨u2, e3, hf⟩ := Option.bind_eq_some_iff.mp hf
    refine mx_WP.call (d := d + 1) (y := 95) (as := [mx_r (some (0, 7, 0)), mx_i (1 : Int32)]) (pc' := 64) (r := []) rfl rfl (T95 (d := d + 0)  e3 ?_)
    show mx_WP (d + 2) 27 64 [some (mx_r (some (0, 0, 0))), some (mx_i x1)] [mx_i u2] (hC I J h, μ) Q
    rw [← Option.some.inj hf] at hk
    refine mx_WP.ret (v := some (mx_i u2)) rfl ?_
    exact hk
  rw [if_neg c1] at hf
  by_cases c4 : x1 = (1 : Int32)
  · rw [if_pos c4] at hf
    refine mx_WP.sw (c := (1 : Int32)) (q := 65) c4 (by rfl) ?_
    refine mx_WP.go 3 (pc' := 70) (L' := [some (mx_r (some (0, 0, 0))), some (mx_i x1)]) (st' := [mx_i (2 : Int32), mx_r (some (0, 7, 0))]) (σ' := (hC I J h, μ)) rfl ?_
    obtain ⟨u5, e6, hf⟩ := Option.bind_eq_some_iff.mp hf
    refine mx_WP.call (d := d + 1) (y := 95) (as := [mx_r (some (0, 7, 0)), mx_i (2 : Int32)]) (pc' := 73) (r := []) rfl rfl (T95 (d := d + 0)  e6 ?_)
    show mx_WP (d + 2) 27 73 [some (mx_r (some (0, 0, 0))), some (mx_i x1)] [mx_i u5] (hC I J h, μ) Q
    rw [← Option.some.inj hf] at hk
    refine mx_WP.ret (v := some (mx_i u5)) rfl ?_
    exact hk
  rw [if_neg c4] at hf
  by_cases c7 : x1 = (2 : Int32)
  · rw [if_pos c7] at hf
    refine mx_WP.sw (c := (2 : Int32)) (q := 74) c7 (by rfl) ?_
    refine mx_WP.go 3 (pc' := 79) (L' := [some (mx_r (some (0, 0, 0))), some (mx_i x1)]) (st' := [mx_i (3 : Int32), mx_r (some (0, 7, 0))]) (σ' := (hC I J h, μ)) rfl ?_
    obtain ⟨u8, e9, hf⟩ := Option.bind_eq_some_iff.mp hf
    refine mx_WP.call (d := d + 1) (y := 95) (as := [mx_r (some (0, 7, 0)), mx_i (3 : Int32)]) (pc' := 82) (r := []) rfl rfl (T95 (d := d + 0)  e9 ?_)
    show mx_WP (d + 2) 27 82 [some (mx_r (some (0, 0, 0))), some (mx_i x1)] [mx_i u8] (hC I J h, μ) Q
    rw [← Option.some.inj hf] at hk
    refine mx_WP.ret (v := some (mx_i u8)) rfl ?_
    exact hk
  rw [if_neg c7] at hf
  by_cases c10 : x1 = (3 : Int32)
  · rw [if_pos c10] at hf
    refine mx_WP.sw (c := (3 : Int32)) (q := 83) c10 (by rfl) ?_
    refine mx_WP.go 3 (pc' := 90) (L' := [some (mx_r (some (0, 0, 0))), some (mx_i x1)]) (st' := [mx_r (some (0, 75, 0))]) (σ' := (hC I J h, μ)) rfl ?_
    obtain ⟨u11, e12, hf⟩ := Option.bind_eq_some_iff.mp hf
    refine mx_WP.call (d := d + 1) (y := 28) (as := [mx_r (some (0, 75, 0))]) (pc' := 93) (r := []) rfl rfl (T28_75 (d := d + 1)  e12 ?_)
    show mx_WP (d + 2) 27 93 [some (mx_r (some (0, 0, 0))), some (mx_i x1)] [mx_i u11] (hC I J h, μ) Q
    rw [← Option.some.inj hf] at hk
    refine mx_WP.ret (v := some (mx_i u11)) rfl ?_
    exact hk
  rw [if_neg c10] at hf
  by_cases c13 : x1 = (4 : Int32)
  · rw [if_pos c13] at hf
    refine mx_WP.sw (c := (4 : Int32)) (q := 94) c13 (by rfl) ?_
    refine mx_WP.go 3 (pc' := 101) (L' := [some (mx_r (some (0, 0, 0))), some (mx_i x1)]) (st' := [mx_r (some (0, 74, 0))]) (σ' := (hC I J h, μ)) rfl ?_
    obtain ⟨u14, e15, hf⟩ := Option.bind_eq_some_iff.mp hf
    refine mx_WP.call (d := d + 1) (y := 28) (as := [mx_r (some (0, 74, 0))]) (pc' := 104) (r := []) rfl rfl (T28_74 (d := d + 1)  e15 ?_)
    show mx_WP (d + 2) 27 104 [some (mx_r (some (0, 0, 0))), some (mx_i x1)] [mx_i u14] (hC I J h, μ) Q
    rw [← Option.some.inj hf] at hk
    refine mx_WP.ret (v := some (mx_i u14)) rfl ?_
    exact hk
  rw [if_neg c13] at hf
  by_cases c16 : x1 = (5 : Int32)
  · rw [if_pos c16] at hf
    refine mx_WP.sw (c := (5 : Int32)) (q := 105) c16 (by rfl) ?_
    refine mx_WP.go 3 (pc' := 112) (L' := [some (mx_r (some (0, 0, 0))), some (mx_i x1)]) (st' := [mx_i (I 9 0 4)]) (σ' := (hC I J h, μ)) rfl ?_
    rw [← Option.some.inj hf] at hk
    refine mx_WP.ret (v := some (mx_i (I 9 0 4))) rfl ?_
    exact hk
  rw [if_neg c16] at hf
  by_cases c17 : x1 = (6 : Int32)
  · rw [if_pos c17] at hf
    refine mx_WP.sw (c := (6 : Int32)) (q := 113) c17 (by rfl) ?_
    refine mx_WP.go 2 (pc' := 117) (L' := [some (mx_r (some (0, 0, 0))), some (mx_i x1)]) (st' := [mx_r (some (0, 9, 0))]) (σ' := (hC I J h, μ)) rfl ?_
    obtain ⟨u18, e19, hf⟩ := Option.bind_eq_some_iff.mp hf
    refine mx_WP.call (d := d + 1) (y := 112) (as := [mx_r (some (0, 9, 0))]) (pc' := 120) (r := []) rfl rfl (T112 (d := d + 0)  e19 ?_)
    show mx_WP (d + 2) 27 120 [some (mx_r (some (0, 0, 0))), some (mx_i x1)] [mx_i u18] (hC I J h, μ) Q
    rw [← Option.some.inj hf] at hk
    refine mx_WP.ret (v := some (mx_i u18)) rfl ?_
    exact hk
  rw [if_neg c17] at hf
  by_cases c20 : x1 = (7 : Int32)
  · rw [if_pos c20] at hf
    refine mx_WP.sw (c := (7 : Int32)) (q := 121) c20 (by rfl) ?_
    refine mx_WP.go 3 (pc' := 128) (L' := [some (mx_r (some (0, 0, 0))), some (mx_i x1)]) (st' := [mx_i (I 10 1 2)]) (σ' := (hC I J h, μ)) rfl ?_
    rw [← Option.some.inj hf] at hk
    refine mx_WP.ret (v := some (mx_i (I 10 1 2))) rfl ?_
    exact hk
  rw [if_neg c20] at hf
  by_cases c21 : x1 = (8 : Int32)
  · rw [if_pos c21] at hf
    refine mx_WP.sw (c := (8 : Int32)) (q := 129) c21 (by rfl) ?_
    refine mx_WP.go 4 (pc' := 139) (L' := [some (mx_r (some (0, 0, 0))), some (mx_i x1)]) (st' := [mx_i (I 10 0 2)]) (σ' := (hC I J h, μ)) rfl ?_
    rw [← Option.some.inj hf] at hk
    refine mx_WP.ret (v := some (mx_i (I 10 0 2))) rfl ?_
    exact hk
  rw [if_neg c21] at hf
  by_cases c22 : x1 = (9 : Int32)
  · rw [if_pos c22] at hf
    refine mx_WP.sw (c := (9 : Int32)) (q := 140) c22 (by rfl) ?_
    refine mx_WP.go 3 (pc' := 147) (L' := [some (mx_r (some (0, 0, 0))), some (mx_i x1)]) (st' := [mx_i (I 1 0 2)]) (σ' := (hC I J h, μ)) rfl ?_
    rw [← Option.some.inj hf] at hk
    refine mx_WP.ret (v := some (mx_i (I 1 0 2))) rfl ?_
    exact hk
  rw [if_neg c22] at hf
  refine mx_WP.swt (q := 148) (mx_tso10 c1 c4 c7 c10 c13 c16 c17 c20 c21 c22) (by rfl) (by rfl) ?_
  refine mx_WP.go 1 (pc' := 149) (L' := [some (mx_r (some (0, 0, 0))), some (mx_i x1)]) (st' := [mx_i (-1 : Int32)]) (σ' := (hC I J h, μ)) rfl ?_
  rw [← Option.some.inj hf] at hk
  refine mx_WP.ret (v := some (mx_i (-1 : Int32))) rfl ?_
  exact hk
