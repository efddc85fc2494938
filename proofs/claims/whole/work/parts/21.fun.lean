def f2 (x0 : Int64) (x1 : Int32) : Option (Int32) :=
  some ((((x0.toUInt64 >>> (((8 : Int32) * x1).toInt64.toUInt64 &&& Int64.toUInt64 63)).toInt64).toInt32) &&& (255 : Int32))
theorem T2 {d : Nat} {x0 : Int64} {x1 : Int32} {σ : mx_Hp} {Q : Option mx_V → mx_Hp → Prop} {o : Int32} (hf : f2 x0 x1 = some o) (hk : Q (some (mx_i o)) σ) : mx_WP (d + 0) 2 0 (mx_ent 2 [mx_l x0, mx_i x1]) [] σ Q := by
  unfold f2 at hf
  refine mx_WP.go 8 (pc' := 11) (L' := [some (mx_l x0), none, some (mx_i x1)]) (st' := [mx_i ((((x0.toUInt64 >>> (((8 : Int32) * x1).toInt64.toUInt64 &&& Int64.toUInt64 63)).toInt64).toInt32) &&& (255 : Int32))]) (σ' := σ) rfl ?_
  rw [← Option.some.inj hf] at hk
  refine mx_WP.ret (v := some (mx_i ((((x0.toUInt64 >>> (((8 : Int32) * x1).toInt64.toUInt64 &&& Int64.toUInt64 63)).toInt64).toInt32) &&& (255 : Int32)))) rfl ?_
  exact hk
def b31_2 (x0 : Int64)  (s : Int32) : Option ((Int32) ⊕ ((Int32) ⊕ (Int32))) :=
  if (8 : Int32) ≤ s then (some (Sum.inr (Sum.inl s))) else (f2 x0 s).bind fun u102 =>
  if u102 = (0 : Int32) then (some (Sum.inr (Sum.inl s))) else (f2 x0 s).bind fun u104 =>
  if u104 ≤ (127 : Int32) then (some (Sum.inl (s + 1))) else some (Sum.inr (Sum.inr (0 : Int32)))
theorem B31_2 {d : Nat} {x0 : Int64} {σ : mx_Hp} {Q : Option mx_V → mx_Hp → Prop} {s : Int32} {o : (Int32) ⊕ ((Int32) ⊕ (Int32))} (hf : b31_2 x0 s = some o) (hk : Sum.elim (fun s : Int32 => mx_WP (d + 1) 31 2 [some (mx_l x0), none, some (mx_i s)] [] σ Q) (Sum.elim (fun x : Int32 => mx_WP (d + 1) 31 34 [some (mx_l x0), none, some (mx_i x)] [] σ Q) (fun x : Int32 => Q (some (mx_i x)) σ)) o) : mx_WP (d + 1) 31 2 [some (mx_l x0), none, some (mx_i s)] [] σ Q := by
  unfold b31_2 at hf
  refine mx_WP.go 2 (pc' := 5) (L' := [some (mx_l x0), none, some (mx_i s)]) (st' := [mx_i (8 : Int32), mx_i s]) (σ' := σ) rfl ?_
  by_cases c101 : (8 : Int32) ≤ s
  · rw [if_pos c101] at hf
    refine mx_WP.bge (x := s) (y := (8 : Int32)) (q := 34) (p3 := 8) rfl (fun _ => ?_) (fun hh => absurd c101 hh)
    rw [← Option.some.inj hf] at hk
    exact hk
  · rw [if_neg c101] at hf
    refine mx_WP.bge (x := s) (y := (8 : Int32)) (q := 34) (p3 := 8) rfl (fun hh => absurd hh c101) (fun _ => ?_)
    refine mx_WP.go 2 (pc' := 10) (L' := [some (mx_l x0), none, some (mx_i s)]) (st' := [mx_i s, mx_l x0]) (σ' := σ) rfl ?_
    obtain ⟨u102, e107, hf⟩ := Option.bind_eq_some_iff.mp hf
    refine mx_WP.call (d := d + 0) (y := 2) (as := [mx_l x0, mx_i s]) (pc' := 13) (r := []) rfl rfl (T2 (d := d + 0) e107 ?_)
    show mx_WP (d + 1) 31 13 [some (mx_l x0), none, some (mx_i s)] [mx_i u102] σ Q
    by_cases c103 : u102 = (0 : Int32)
    · rw [if_pos c103] at hf
      refine mx_WP.beq (x := u102) (y := (0 : Int32)) (q := 34) (p3 := 16) rfl (fun _ => ?_) (fun hh => absurd c103 hh)
      rw [← Option.some.inj hf] at hk
      exact hk
    · rw [if_neg c103] at hf
      refine mx_WP.beq (x := u102) (y := (0 : Int32)) (q := 34) (p3 := 16) rfl (fun hh => absurd hh c103) (fun _ => ?_)
      refine mx_WP.go 2 (pc' := 18) (L' := [some (mx_l x0), none, some (mx_i s)]) (st' := [mx_i s, mx_l x0]) (σ' := σ) rfl ?_
      obtain ⟨u104, e106, hf⟩ := Option.bind_eq_some_iff.mp hf
      refine mx_WP.call (d := d + 0) (y := 2) (as := [mx_l x0, mx_i s]) (pc' := 21) (r := []) rfl rfl (T2 (d := d + 0) e106 ?_)
      show mx_WP (d + 1) 31 21 [some (mx_l x0), none, some (mx_i s)] [mx_i u104] σ Q
      refine mx_WP.go 1 (pc' := 23) (L' := [some (mx_l x0), none, some (mx_i s)]) (st' := [mx_i (127 : Int32), mx_i u104]) (σ' := σ) rfl ?_
      by_cases c105 : u104 ≤ (127 : Int32)
      · rw [if_pos c105] at hf
        refine mx_WP.ble (x := u104) (y := (127 : Int32)) (q := 28) (p3 := 26) rfl (fun _ => ?_) (fun hh => absurd c105 hh)
        refine mx_WP.go 2 (pc' := 2) (L' := [some (mx_l x0), none, some (mx_i (s + 1))]) (st' := []) (σ' := σ) rfl ?_
        rw [← Option.some.inj hf] at hk
        exact hk
      · rw [if_neg c105] at hf
        refine mx_WP.ble (x := u104) (y := (127 : Int32)) (q := 28) (p3 := 26) rfl (fun hh => absurd hh c105) (fun _ => ?_)
        refine mx_WP.go 1 (pc' := 27) (L' := [some (mx_l x0), none, some (mx_i s)]) (st' := [mx_i (0 : Int32)]) (σ' := σ) rfl ?_
        rw [← Option.some.inj hf] at hk
        refine mx_WP.ret (v := some (mx_i (0 : Int32))) rfl ?_
        exact hk
theorem L31_2 {d : Nat} {x0 : Int64} {σ : mx_Hp} {Q : Option mx_V → mx_Hp → Prop} {n : Nat} {s : Int32} {o : (Int32) ⊕ (Int32)} (hf : mx_lp (b31_2 x0) n s = some o) (hk : (Sum.elim (fun x : Int32 => mx_WP (d + 1) 31 34 [some (mx_l x0), none, some (mx_i x)] [] σ Q) (fun x : Int32 => Q (some (mx_i x)) σ)) o) : mx_WP (d + 1) 31 2 [some (mx_l x0), none, some (mx_i s)] [] σ Q := mx_lp_ok (P := fun s : Int32 => mx_WP (d + 1) 31 2 [some (mx_l x0), none, some (mx_i s)] [] σ Q) (E := (Sum.elim (fun x : Int32 => mx_WP (d + 1) 31 34 [some (mx_l x0), none, some (mx_i x)] [] σ Q) (fun x : Int32 => Q (some (mx_i x)) σ))) (fun s o hf hk => B31_2 hf hk) n s o hf hk
def f31 (x0 : Int64) : Option (Int32) :=
  (mx_lp (b31_2 x0) mx_fu (0 : Int32)).bind fun u108 => Sum.elim (fun w110 =>
  some w110) (fun y111 => some y111) u108
theorem T31 {d : Nat} {x0 : Int64} {σ : mx_Hp} {Q : Option mx_V → mx_Hp → Prop} {o : Int32} (hf : f31 x0 = some o) (hk : Q (some (mx_i o)) σ) : mx_WP (d + 1) 31 0 (mx_ent 31 [mx_l x0]) [] σ Q := by
  unfold f31 at hf
  refine mx_WP.go 2 (pc' := 2) (L' := [some (mx_l x0), none, some (mx_i (0 : Int32))]) (st' := []) (σ' := σ) rfl ?_
  obtain ⟨u108, e109, hf⟩ := Option.bind_eq_some_iff.mp hf
  cases u108 with
  | inr y111 =>
    rw [Sum.elim_inr] at hf
    rw [← Option.some.inj hf] at hk
    exact (L31_2 (d := d) e109 hk)
  | inl w110 =>
    rw [Sum.elim_inl] at hf
    refine (L31_2 (d := d) e109 ?_)
    show mx_WP (d + 1) 31 34 [some (mx_l x0), none, some (mx_i w110)] [] σ Q
    refine mx_WP.go 1 (pc' := 35) (L' := [some (mx_l x0), none, some (mx_i w110)]) (st' := [mx_i w110]) (σ' := σ) rfl ?_
    rw [← Option.some.inj hf] at hk
    refine mx_WP.ret (v := some (mx_i w110)) rfl ?_
    exact hk
def b30_29 (x1 : Int64) (x3 : Int32) (I : Nat → Nat → Nat → Int32) (s : Int32 × (Nat → Nat → Nat → Int32)) : Option ((Int32 × (Nat → Nat → Nat → Int32)) ⊕ (Int32 × (Nat → Nat → Nat → Int32))) :=
  if x3 ≤ s.1 then (some (Sum.inr (s.1, s.2))) else (f2 x1 s.1).bind fun u105 =>
  if ((s.2 1 0 2) + s.1) < 0 ∨ 200 ≤ ((s.2 1 0 2) + s.1).toNatClampNeg then none else some (Sum.inl (s.1 + 1, (mx_u3 s.2 64 0 (((s.2 1 0 2) + s.1).toNatClampNeg) (vp_nar .byte u105.toInt8.toInt32))))
theorem B30_29 {d : Nat} {x1 : Int64} {x3 : Int32} {I : Nat → Nat → Nat → Int32} {J : Nat → Nat → Nat → Int64} {h : Nat → Nat} {μ : mx_Rg × (Nat × (Nat → Int32)) × (Nat × Nat)} {Q : Option mx_V → mx_Hp → Prop} {s : Int32 × (Nat → Nat → Nat → Int32)} {o : (Int32 × (Nat → Nat → Nat → Int32)) ⊕ (Int32 × (Nat → Nat → Nat → Int32))} (hf : b30_29 x1 x3 I s = some o) (hk : Sum.elim (fun s : Int32 × (Nat → Nat → Nat → Int32) => mx_WP (d + 2) 30 29 [some (mx_r (some (0, 1, 0))), some (mx_l x1), none, some (mx_i x3), some (mx_i s.1)] [] (hC s.2 J h, μ) Q) (fun x : Int32 × (Nat → Nat → Nat → Int32) => mx_WP (d + 2) 30 60 [some (mx_r (some (0, 1, 0))), some (mx_l x1), none, some (mx_i x3), some (mx_i x.1)] [] (hC x.2 J h, μ) Q) o) : mx_WP (d + 2) 30 29 [some (mx_r (some (0, 1, 0))), some (mx_l x1), none, some (mx_i x3), some (mx_i s.1)] [] (hC s.2 J h, μ) Q := by
  unfold b30_29 at hf
  refine mx_WP.go 2 (pc' := 32) (L' := [some (mx_r (some (0, 1, 0))), some (mx_l x1), none, some (mx_i x3), some (mx_i s.1)]) (st' := [mx_i x3, mx_i s.1]) (σ' := (hC s.2 J h, μ)) rfl ?_
  by_cases c104 : x3 ≤ s.1
  · rw [if_pos c104] at hf
    refine mx_WP.bge (x := s.1) (y := x3) (q := 60) (p3 := 35) rfl (fun _ => ?_) (fun hh => absurd c104 hh)
    rw [← Option.some.inj hf] at hk
    exact hk
  · rw [if_neg c104] at hf
    refine mx_WP.bge (x := s.1) (y := x3) (q := 60) (p3 := 35) rfl (fun hh => absurd hh c104) (fun _ => ?_)
    refine mx_WP.go 8 (pc' := 49) (L' := [some (mx_r (some (0, 1, 0))), some (mx_l x1), none, some (mx_i x3), some (mx_i s.1)]) (st' := [mx_i s.1, mx_l x1, mx_i ((s.2 1 0 2) + s.1), mx_r (some (0, 64, 0))]) (σ' := (hC s.2 J h, μ)) rfl ?_
    obtain ⟨u105, e107, hf⟩ := Option.bind_eq_some_iff.mp hf
    refine mx_WP.call (d := d + 1) (y := 2) (as := [mx_l x1, mx_i s.1]) (pc' := 52) (r := [mx_i ((s.2 1 0 2) + s.1), mx_r (some (0, 64, 0))]) rfl rfl (T2 (d := d + 1) e107 ?_)
    show mx_WP (d + 2) 30 52 [some (mx_r (some (0, 1, 0))), some (mx_l x1), none, some (mx_i x3), some (mx_i s.1)] [mx_i u105, mx_i ((s.2 1 0 2) + s.1), mx_r (some (0, 64, 0))] (hC s.2 J h, μ) Q
    refine mx_WP.go 1 (pc' := 53) (L' := [some (mx_r (some (0, 1, 0))), some (mx_l x1), none, some (mx_i x3), some (mx_i s.1)]) (st' := [mx_i u105.toInt8.toInt32, mx_i ((s.2 1 0 2) + s.1), mx_r (some (0, 64, 0))]) (σ' := (hC s.2 J h, μ)) rfl ?_
    by_cases c106 : ((s.2 1 0 2) + s.1) < 0 ∨ 200 ≤ ((s.2 1 0 2) + s.1).toNatClampNeg
    · rw [if_pos c106] at hf
      cases hf
    rw [if_neg c106] at hf
    refine mx_WP.bastx c106 ?_
    show mx_WP (d + 2) 30 54 [some (mx_r (some (0, 1, 0))), some (mx_l x1), none, some (mx_i x3), some (mx_i s.1)] [] (hC (mx_u3 s.2 64 0 (((s.2 1 0 2) + s.1).toNatClampNeg) (vp_nar .byte u105.toInt8.toInt32)) J h, μ) Q
    refine mx_WP.go 2 (pc' := 29) (L' := [some (mx_r (some (0, 1, 0))), some (mx_l x1), none, some (mx_i x3), some (mx_i (s.1 + 1))]) (st' := []) (σ' := (hC (mx_u3 s.2 64 0 (((s.2 1 0 2) + s.1).toNatClampNeg) (vp_nar .byte u105.toInt8.toInt32)) J h, μ)) rfl ?_
    rw [← Option.some.inj hf] at hk
    exact hk
theorem L30_29 {d : Nat} {x1 : Int64} {x3 : Int32} {I : Nat → Nat → Nat → Int32} {J : Nat → Nat → Nat → Int64} {h : Nat → Nat} {μ : mx_Rg × (Nat × (Nat → Int32)) × (Nat × Nat)} {Q : Option mx_V → mx_Hp → Prop} {n : Nat} {s : Int32 × (Nat → Nat → Nat → Int32)} {o : Int32 × (Nat → Nat → Nat → Int32)} (hf : mx_lp (b30_29 x1 x3 I) n s = some o) (hk : (fun x : Int32 × (Nat → Nat → Nat → Int32) => mx_WP (d + 2) 30 60 [some (mx_r (some (0, 1, 0))), some (mx_l x1), none, some (mx_i x3), some (mx_i x.1)] [] (hC x.2 J h, μ) Q) o) : mx_WP (d + 2) 30 29 [some (mx_r (some (0, 1, 0))), some (mx_l x1), none, some (mx_i x3), some (mx_i s.1)] [] (hC s.2 J h, μ) Q := mx_lp_ok (P := fun s : Int32 × (Nat → Nat → Nat → Int32) => mx_WP (d + 2) 30 29 [some (mx_r (some (0, 1, 0))), some (mx_l x1), none, some (mx_i x3), some (mx_i s.1)] [] (hC s.2 J h, μ) Q) (E := (fun x : Int32 × (Nat → Nat → Nat → Int32) => mx_WP (d + 2) 30 60 [some (mx_r (some (0, 1, 0))), some (mx_l x1), none, some (mx_i x3), some (mx_i x.1)] [] (hC x.2 J h, μ) Q)) (fun s o hf hk => B30_29 hf hk) n s o hf hk
def f30 (x1 : Int64) (I : Nat → Nat → Nat → Int32) : Option (Int32 × (Nat → Nat → Nat → Int32)) :=
  (f31 x1).bind fun u1 =>
  if u1 = (0 : Int32) then (some ((-1 : Int32), I)) else if ((I 1 0 2) + u1) ≤ (200 : Int32) then ((mx_lp (b30_29 x1 u1 I) mx_fu ((0 : Int32), I)).bind fun u108 =>
  some ((mx_u3 u108.2 1 0 2 ((u108.2 1 0 2) + u1)) 1 0 2, (mx_u3 u108.2 1 0 2 ((u108.2 1 0 2) + u1)))) else some ((-2 : Int32), I)
theorem T30 {d : Nat} {x1 : Int64} {I : Nat → Nat → Nat → Int32} {J : Nat → Nat → Nat → Int64} {h : Nat → Nat} {μ : mx_Rg × (Nat × (Nat → Int32)) × (Nat × Nat)} {Q : Option mx_V → mx_Hp → Prop} {o : Int32 × (Nat → Nat → Nat → Int32)} (hf : f30 x1 I = some o) (hk : Q (some (mx_i o.1)) (hC o.2 J h, μ)) : mx_WP (d + 2) 30 0 (mx_ent 30 [mx_r (some (0, 1, 0)), mx_l x1]) [] (hC I J h, μ) Q := by
  unfold f30 at hf
  refine mx_WP.go 1 (pc' := 1) (L' := [some (mx_r (some (0, 1, 0))), some (mx_l x1), none, none, none]) (st' := [mx_l x1]) (σ' := (hC I J h, μ)) rfl ?_
  obtain ⟨u1, e110, hf⟩ := Option.bind_eq_some_iff.mp hf
  refine mx_WP.call (d := d + 1) (y := 31) (as := [mx_l x1]) (pc' := 4) (r := []) rfl rfl (T31 (d := d + 0) e110 ?_)
  show mx_WP (d + 2) 30 4 [some (mx_r (some (0, 1, 0))), some (mx_l x1), none, none, none] [mx_i u1] (hC I J h, μ) Q
  refine mx_WP.go 2 (pc' := 6) (L' := [some (mx_r (some (0, 1, 0))), some (mx_l x1), none, some (mx_i u1), none]) (st' := [mx_i u1]) (σ' := (hC I J h, μ)) rfl ?_
  by_cases c2 : u1 = (0 : Int32)
  · rw [if_pos c2] at hf
    refine mx_WP.bne (x := u1) (y := (0 : Int32)) (q := 11) (p3 := 9) rfl (fun hh => absurd c2 hh) (fun _ => ?_)
    refine mx_WP.go 1 (pc' := 10) (L' := [some (mx_r (some (0, 1, 0))), some (mx_l x1), none, some (mx_i u1), none]) (st' := [mx_i (-1 : Int32)]) (σ' := (hC I J h, μ)) rfl ?_
    rw [← Option.some.inj hf] at hk
    refine mx_WP.ret (v := some (mx_i (-1 : Int32))) rfl ?_
    exact hk
  · rw [if_neg c2] at hf
    refine mx_WP.bne (x := u1) (y := (0 : Int32)) (q := 11) (p3 := 9) rfl (fun _ => ?_) (fun hh => absurd c2 hh)
    refine mx_WP.go 5 (pc' := 20) (L' := [some (mx_r (some (0, 1, 0))), some (mx_l x1), none, some (mx_i u1), none]) (st' := [mx_i (200 : Int32), mx_i ((I 1 0 2) + u1)]) (σ' := (hC I J h, μ)) rfl ?_
    by_cases c3 : ((I 1 0 2) + u1) ≤ (200 : Int32)
    · rw [if_pos c3] at hf
      refine mx_WP.ble (x := ((I 1 0 2) + u1)) (y := (200 : Int32)) (q := 26) (p3 := 23) rfl (fun _ => ?_) (fun hh => absurd c3 hh)
      refine mx_WP.go 2 (pc' := 29) (L' := [some (mx_r (some (0, 1, 0))), some (mx_l x1), none, some (mx_i u1), some (mx_i (0 : Int32))]) (st' := []) (σ' := (hC I J h, μ)) rfl ?_
      obtain ⟨u108, e109, hf⟩ := Option.bind_eq_some_iff.mp hf
      refine L30_29 (d := d) e109 ?_
      show mx_WP (d + 2) 30 60 [some (mx_r (some (0, 1, 0))), some (mx_l x1), none, some (mx_i u1), some (mx_i u108.1)] [] (hC u108.2 J h, μ) Q
      refine mx_WP.go 8 (pc' := 74) (L' := [some (mx_r (some (0, 1, 0))), some (mx_l x1), none, some (mx_i u1), some (mx_i u108.1)]) (st' := [mx_i ((mx_u3 u108.2 1 0 2 ((u108.2 1 0 2) + u1)) 1 0 2)]) (σ' := (hC (mx_u3 u108.2 1 0 2 ((u108.2 1 0 2) + u1)) J h, μ)) rfl ?_
      rw [← Option.some.inj hf] at hk
      refine mx_WP.ret (v := some (mx_i ((mx_u3 u108.2 1 0 2 ((u108.2 1 0 2) + u1)) 1 0 2))) rfl ?_
      exact hk
    · rw [if_neg c3] at hf
      refine mx_WP.ble (x := ((I 1 0 2) + u1)) (y := (200 : Int32)) (q := 26) (p3 := 23) rfl (fun hh => absurd hh c3) (fun _ => ?_)
      refine mx_WP.go 1 (pc' := 25) (L' := [some (mx_r (some (0, 1, 0))), some (mx_l x1), none, some (mx_i u1), none]) (st' := [mx_i (-2 : Int32)]) (σ' := (hC I J h, μ)) rfl ?_
      rw [← Option.some.inj hf] at hk
      refine mx_WP.ret (v := some (mx_i (-2 : Int32))) rfl ?_
      exact hk
def f1 (x1 : Int64) (I : Nat → Nat → Nat → Int32) : Option (Int32 × (Nat → Nat → Nat → Int32)) :=
  (f30 x1 I).bind fun u1 =>
  some (u1.1, u1.2)
theorem T1 {d : Nat} {x1 : Int64} {I : Nat → Nat → Nat → Int32} {J : Nat → Nat → Nat → Int64} {h : Nat → Nat} {μ : mx_Rg × (Nat × (Nat → Int32)) × (Nat × Nat)} {Q : Option mx_V → mx_Hp → Prop} {o : Int32 × (Nat → Nat → Nat → Int32)} (hf : f1 x1 I = some o) (hk : Q (some (mx_i o.1)) (hC o.2 J h, μ)) : mx_WP (d + 3) 1 0 (mx_ent 1 [mx_r (some (0, 0, 0)), mx_l x1]) [] (hC I J h, μ) Q := by
  unfold f1 at hf
  refine mx_WP.go 3 (pc' := 5) (L' := [some (mx_r (some (0, 0, 0))), some (mx_l x1), none]) (st' := [mx_l x1, mx_r (some (0, 1, 0))]) (σ' := (hC I J h, μ)) rfl ?_
  obtain ⟨u1, e2, hf⟩ := Option.bind_eq_some_iff.mp hf
  refine mx_WP.call (d := d + 2) (y := 30) (as := [mx_r (some (0, 1, 0)), mx_l x1]) (pc' := 8) (r := []) rfl rfl (T30 (d := d + 0) e2 ?_)
  show mx_WP (d + 3) 1 8 [some (mx_r (some (0, 0, 0))), some (mx_l x1), none] [mx_i u1.1] (hC u1.2 J h, μ) Q
  rw [← Option.some.inj hf] at hk
  refine mx_WP.ret (v := some (mx_i u1.1)) rfl ?_
  exact hk
def f4 (x0 : Int32) : Option (Bool) :=
  if x0 < (0 : Int32) then (some false) else if (8 : Int32) ≤ x0 then (some false) else some true
theorem T4 {d : Nat} {x0 : Int32} {σ : mx_Hp} {Q : Option mx_V → mx_Hp → Prop} {o : Bool} (hf : f4 x0 = some o) (hk : Q (some (mx_i (b2i o))) σ) : mx_WP (d + 0) 4 0 (mx_ent 4 [mx_i x0]) [] σ Q := by
  unfold f4 at hf
  refine mx_WP.go 1 (pc' := 1) (L' := [some (mx_i x0)]) (st' := [mx_i x0]) (σ' := σ) rfl ?_
  by_cases c1 : x0 < (0 : Int32)
  · rw [if_pos c1] at hf
    refine mx_WP.blt (x := x0) (y := (0 : Int32)) (q := 14) (p3 := 4) rfl (fun _ => ?_) (fun hh => absurd c1 hh)
    refine mx_WP.go 1 (pc' := 15) (L' := [some (mx_i x0)]) (st' := [mx_i (0 : Int32)]) (σ' := σ) rfl ?_
    rw [← Option.some.inj hf] at hk
    refine mx_WP.ret (v := some (mx_i (0 : Int32))) rfl ?_
    exact hk
  · rw [if_neg c1] at hf
    refine mx_WP.blt (x := x0) (y := (0 : Int32)) (q := 14) (p3 := 4) rfl (fun hh => absurd hh c1) (fun _ => ?_)
    refine mx_WP.go 2 (pc' := 7) (L' := [some (mx_i x0)]) (st' := [mx_i (8 : Int32), mx_i x0]) (σ' := σ) rfl ?_
    by_cases c2 : (8 : Int32) ≤ x0
    · rw [if_pos c2] at hf
      refine mx_WP.bge (x := x0) (y := (8 : Int32)) (q := 14) (p3 := 10) rfl (fun _ => ?_) (fun hh => absurd c2 hh)
      refine mx_WP.go 1 (pc' := 15) (L' := [some (mx_i x0)]) (st' := [mx_i (0 : Int32)]) (σ' := σ) rfl ?_
      rw [← Option.some.inj hf] at hk
      refine mx_WP.ret (v := some (mx_i (0 : Int32))) rfl ?_
      exact hk
    · rw [if_neg c2] at hf
      refine mx_WP.bge (x := x0) (y := (8 : Int32)) (q := 14) (p3 := 10) rfl (fun hh => absurd hh c2) (fun _ => ?_)
      refine mx_WP.go 2 (pc' := 15) (L' := [some (mx_i x0)]) (st' := [mx_i (1 : Int32)]) (σ' := σ) rfl ?_
      rw [← Option.some.inj hf] at hk
      refine mx_WP.ret (v := some (mx_i (1 : Int32))) rfl ?_
      exact hk
def f34 (x0 : Nat) (x1 : Int32) (x2 : Int32) (x3 : Int32) (I : Nat → Nat → Nat → Int32) : Option (Int32 × (Nat → Nat → Nat → Int32)) :=
  if (I 2 x0 5) < (3 : Int32) then (if (I 2 x0 5) < 0 ∨ 3 ≤ (I 2 x0 5).toNatClampNeg then none else if ((mx_u3 I 65 x0 ((I 2 x0 5).toNatClampNeg) x1) 2 x0 5) < 0 ∨ 3 ≤ ((mx_u3 I 65 x0 ((I 2 x0 5).toNatClampNeg) x1) 2 x0 5).toNatClampNeg then none else if ((mx_u3 (mx_u3 I 65 x0 ((I 2 x0 5).toNatClampNeg) x1) 66 x0 (((mx_u3 I 65 x0 ((I 2 x0 5).toNatClampNeg) x1) 2 x0 5).toNatClampNeg) x2) 2 x0 5) < 0 ∨ 3 ≤ ((mx_u3 (mx_u3 I 65 x0 ((I 2 x0 5).toNatClampNeg) x1) 66 x0 (((mx_u3 I 65 x0 ((I 2 x0 5).toNatClampNeg) x1) 2 x0 5).toNatClampNeg) x2) 2 x0 5).toNatClampNeg then none else some ((mx_u3 (mx_u3 (mx_u3 (mx_u3 I 65 x0 ((I 2 x0 5).toNatClampNeg) x1) 66 x0 (((mx_u3 I 65 x0 ((I 2 x0 5).toNatClampNeg) x1) 2 x0 5).toNatClampNeg) x2) 67 x0 (((mx_u3 (mx_u3 I 65 x0 ((I 2 x0 5).toNatClampNeg) x1) 66 x0 (((mx_u3 I 65 x0 ((I 2 x0 5).toNatClampNeg) x1) 2 x0 5).toNatClampNeg) x2) 2 x0 5).toNatClampNeg) x3) 2 x0 5 (((mx_u3 (mx_u3 (mx_u3 I 65 x0 ((I 2 x0 5).toNatClampNeg) x1) 66 x0 (((mx_u3 I 65 x0 ((I 2 x0 5).toNatClampNeg) x1) 2 x0 5).toNatClampNeg) x2) 67 x0 (((mx_u3 (mx_u3 I 65 x0 ((I 2 x0 5).toNatClampNeg) x1) 66 x0 (((mx_u3 I 65 x0 ((I 2 x0 5).toNatClampNeg) x1) 2 x0 5).toNatClampNeg) x2) 2 x0 5).toNatClampNeg) x3) 2 x0 5) + (1 : Int32))) 2 x0 5, (mx_u3 (mx_u3 (mx_u3 (mx_u3 I 65 x0 ((I 2 x0 5).toNatClampNeg) x1) 66 x0 (((mx_u3 I 65 x0 ((I 2 x0 5).toNatClampNeg) x1) 2 x0 5).toNatClampNeg) x2) 67 x0 (((mx_u3 (mx_u3 I 65 x0 ((I 2 x0 5).toNatClampNeg) x1) 66 x0 (((mx_u3 I 65 x0 ((I 2 x0 5).toNatClampNeg) x1) 2 x0 5).toNatClampNeg) x2) 2 x0 5).toNatClampNeg) x3) 2 x0 5 (((mx_u3 (mx_u3 (mx_u3 I 65 x0 ((I 2 x0 5).toNatClampNeg) x1) 66 x0 (((mx_u3 I 65 x0 ((I 2 x0 5).toNatClampNeg) x1) 2 x0 5).toNatClampNeg) x2) 67 x0 (((mx_u3 (mx_u3 I 65 x0 ((I 2 x0 5).toNatClampNeg) x1) 66 x0 (((mx_u3 I 65 x0 ((I 2 x0 5).toNatClampNeg) x1) 2 x0 5).toNatClampNeg) x2) 2 x0 5).toNatClampNeg) x3) 2 x0 5) + (1 : Int32))))) else some ((-2 : Int32), I)
theorem T34 {d : Nat} {x0 : Nat} {x1 : Int32} {x2 : Int32} {x3 : Int32} {I : Nat → Nat → Nat → Int32} {J : Nat → Nat → Nat → Int64} {h : Nat → Nat} {μ : mx_Rg × (Nat × (Nat → Int32)) × (Nat × Nat)} {Q : Option mx_V → mx_Hp → Prop} {o : Int32 × (Nat → Nat → Nat → Int32)} (hf : f34 x0 x1 x2 x3 I = some o) (hk : Q (some (mx_i o.1)) (hC o.2 J h, μ)) : mx_WP (d + 0) 34 0 (mx_ent 34 [mx_r (some (0, 2, x0)), mx_i x1, mx_i x2, mx_i x3]) [] (hC I J h, μ) Q := by
  unfold f34 at hf
  refine mx_WP.go 3 (pc' := 5) (L' := [some (mx_r (some (0, 2, x0))), some (mx_i x1), some (mx_i x2), some (mx_i x3)]) (st' := [mx_i (3 : Int32), mx_i (I 2 x0 5)]) (σ' := (hC I J h, μ)) rfl ?_
  by_cases c1 : (I 2 x0 5) < (3 : Int32)
  · rw [if_pos c1] at hf
    refine mx_WP.blt (x := (I 2 x0 5)) (y := (3 : Int32)) (q := 11) (p3 := 8) rfl (fun _ => ?_) (fun hh => absurd c1 hh)
    refine mx_WP.go 5 (pc' := 20) (L' := [some (mx_r (some (0, 2, x0))), some (mx_i x1), some (mx_i x2), some (mx_i x3)]) (st' := [mx_i x1, mx_i (I 2 x0 5), mx_r (some (0, 65, x0))]) (σ' := (hC I J h, μ)) rfl ?_
    by_cases c2 : (I 2 x0 5) < 0 ∨ 3 ≤ (I 2 x0 5).toNatClampNeg
    · rw [if_pos c2] at hf
      cases hf
    rw [if_neg c2] at hf
    refine mx_WP.iastx c2 ?_
    show mx_WP (d + 0) 34 21 [some (mx_r (some (0, 2, x0))), some (mx_i x1), some (mx_i x2), some (mx_i x3)] [] (hC (mx_u3 I 65 x0 ((I 2 x0 5).toNatClampNeg) x1) J h, μ) Q
    refine mx_WP.go 5 (pc' := 30) (L' := [some (mx_r (some (0, 2, x0))), some (mx_i x1), some (mx_i x2), some (mx_i x3)]) (st' := [mx_i x2, mx_i ((mx_u3 I 65 x0 ((I 2 x0 5).toNatClampNeg) x1) 2 x0 5), mx_r (some (0, 66, x0))]) (σ' := (hC (mx_u3 I 65 x0 ((I 2 x0 5).toNatClampNeg) x1) J h, μ)) rfl ?_
    by_cases c3 : ((mx_u3 I 65 x0 ((I 2 x0 5).toNatClampNeg) x1) 2 x0 5) < 0 ∨ 3 ≤ ((mx_u3 I 65 x0 ((I 2 x0 5).toNatClampNeg) x1) 2 x0 5).toNatClampNeg
    · rw [if_pos c3] at hf
      cases hf
    rw [if_neg c3] at hf
    refine mx_WP.iastx c3 ?_
    show mx_WP (d + 0) 34 31 [some (mx_r (some (0, 2, x0))), some (mx_i x1), some (mx_i x2), some (mx_i x3)] [] (hC (mx_u3 (mx_u3 I 65 x0 ((I 2 x0 5).toNatClampNeg) x1) 66 x0 (((mx_u3 I 65 x0 ((I 2 x0 5).toNatClampNeg) x1) 2 x0 5).toNatClampNeg) x2) J h, μ) Q
    refine mx_WP.go 5 (pc' := 40) (L' := [some (mx_r (some (0, 2, x0))), some (mx_i x1), some (mx_i x2), some (mx_i x3)]) (st' := [mx_i x3, mx_i ((mx_u3 (mx_u3 I 65 x0 ((I 2 x0 5).toNatClampNeg) x1) 66 x0 (((mx_u3 I 65 x0 ((I 2 x0 5).toNatClampNeg) x1) 2 x0 5).toNatClampNeg) x2) 2 x0 5), mx_r (some (0, 67, x0))]) (σ' := (hC (mx_u3 (mx_u3 I 65 x0 ((I 2 x0 5).toNatClampNeg) x1) 66 x0 (((mx_u3 I 65 x0 ((I 2 x0 5).toNatClampNeg) x1) 2 x0 5).toNatClampNeg) x2) J h, μ)) rfl ?_
    by_cases c4 : ((mx_u3 (mx_u3 I 65 x0 ((I 2 x0 5).toNatClampNeg) x1) 66 x0 (((mx_u3 I 65 x0 ((I 2 x0 5).toNatClampNeg) x1) 2 x0 5).toNatClampNeg) x2) 2 x0 5) < 0 ∨ 3 ≤ ((mx_u3 (mx_u3 I 65 x0 ((I 2 x0 5).toNatClampNeg) x1) 66 x0 (((mx_u3 I 65 x0 ((I 2 x0 5).toNatClampNeg) x1) 2 x0 5).toNatClampNeg) x2) 2 x0 5).toNatClampNeg
    · rw [if_pos c4] at hf
      cases hf
    rw [if_neg c4] at hf
    refine mx_WP.iastx c4 ?_
    show mx_WP (d + 0) 34 41 [some (mx_r (some (0, 2, x0))), some (mx_i x1), some (mx_i x2), some (mx_i x3)] [] (hC (mx_u3 (mx_u3 (mx_u3 I 65 x0 ((I 2 x0 5).toNatClampNeg) x1) 66 x0 (((mx_u3 I 65 x0 ((I 2 x0 5).toNatClampNeg) x1) 2 x0 5).toNatClampNeg) x2) 67 x0 (((mx_u3 (mx_u3 I 65 x0 ((I 2 x0 5).toNatClampNeg) x1) 66 x0 (((mx_u3 I 65 x0 ((I 2 x0 5).toNatClampNeg) x1) 2 x0 5).toNatClampNeg) x2) 2 x0 5).toNatClampNeg) x3) J h, μ) Q
    refine mx_WP.go 8 (pc' := 55) (L' := [some (mx_r (some (0, 2, x0))), some (mx_i x1), some (mx_i x2), some (mx_i x3)]) (st' := [mx_i ((mx_u3 (mx_u3 (mx_u3 (mx_u3 I 65 x0 ((I 2 x0 5).toNatClampNeg) x1) 66 x0 (((mx_u3 I 65 x0 ((I 2 x0 5).toNatClampNeg) x1) 2 x0 5).toNatClampNeg) x2) 67 x0 (((mx_u3 (mx_u3 I 65 x0 ((I 2 x0 5).toNatClampNeg) x1) 66 x0 (((mx_u3 I 65 x0 ((I 2 x0 5).toNatClampNeg) x1) 2 x0 5).toNatClampNeg) x2) 2 x0 5).toNatClampNeg) x3) 2 x0 5 (((mx_u3 (mx_u3 (mx_u3 I 65 x0 ((I 2 x0 5).toNatClampNeg) x1) 66 x0 (((mx_u3 I 65 x0 ((I 2 x0 5).toNatClampNeg) x1) 2 x0 5).toNatClampNeg) x2) 67 x0 (((mx_u3 (mx_u3 I 65 x0 ((I 2 x0 5).toNatClampNeg) x1) 66 x0 (((mx_u3 I 65 x0 ((I 2 x0 5).toNatClampNeg) x1) 2 x0 5).toNatClampNeg) x2) 2 x0 5).toNatClampNeg) x3) 2 x0 5) + (1 : Int32))) 2 x0 5)]) (σ' := (hC (mx_u3 (mx_u3 (mx_u3 (mx_u3 I 65 x0 ((I 2 x0 5).toNatClampNeg) x1) 66 x0 (((mx_u3 I 65 x0 ((I 2 x0 5).toNatClampNeg) x1) 2 x0 5).toNatClampNeg) x2) 67 x0 (((mx_u3 (mx_u3 I 65 x0 ((I 2 x0 5).toNatClampNeg) x1) 66 x0 (((mx_u3 I 65 x0 ((I 2 x0 5).toNatClampNeg) x1) 2 x0 5).toNatClampNeg) x2) 2 x0 5).toNatClampNeg) x3) 2 x0 5 (((mx_u3 (mx_u3 (mx_u3 I 65 x0 ((I 2 x0 5).toNatClampNeg) x1) 66 x0 (((mx_u3 I 65 x0 ((I 2 x0 5).toNatClampNeg) x1) 2 x0 5).toNatClampNeg) x2) 67 x0 (((mx_u3 (mx_u3 I 65 x0 ((I 2 x0 5).toNatClampNeg) x1) 66 x0 (((mx_u3 I 65 x0 ((I 2 x0 5).toNatClampNeg) x1) 2 x0 5).toNatClampNeg) x2) 2 x0 5).toNatClampNeg) x3) 2 x0 5) + (1 : Int32))) J h, μ)) rfl ?_
    rw [← Option.some.inj hf] at hk
    refine mx_WP.ret (v := some (mx_i ((mx_u3 (mx_u3 (mx_u3 (mx_u3 I 65 x0 ((I 2 x0 5).toNatClampNeg) x1) 66 x0 (((mx_u3 I 65 x0 ((I 2 x0 5).toNatClampNeg) x1) 2 x0 5).toNatClampNeg) x2) 67 x0 (((mx_u3 (mx_u3 I 65 x0 ((I 2 x0 5).toNatClampNeg) x1) 66 x0 (((mx_u3 I 65 x0 ((I 2 x0 5).toNatClampNeg) x1) 2 x0 5).toNatClampNeg) x2) 2 x0 5).toNatClampNeg) x3) 2 x0 5 (((mx_u3 (mx_u3 (mx_u3 I 65 x0 ((I 2 x0 5).toNatClampNeg) x1) 66 x0 (((mx_u3 I 65 x0 ((I 2 x0 5).toNatClampNeg) x1) 2 x0 5).toNatClampNeg) x2) 67 x0 (((mx_u3 (mx_u3 I 65 x0 ((I 2 x0 5).toNatClampNeg) x1) 66 x0 (((mx_u3 I 65 x0 ((I 2 x0 5).toNatClampNeg) x1) 2 x0 5).toNatClampNeg) x2) 2 x0 5).toNatClampNeg) x3) 2 x0 5) + (1 : Int32))) 2 x0 5))) rfl ?_
    exact hk
  · rw [if_neg c1] at hf
    refine mx_WP.blt (x := (I 2 x0 5)) (y := (3 : Int32)) (q := 11) (p3 := 8) rfl (fun hh => absurd hh c1) (fun _ => ?_)
    refine mx_WP.go 1 (pc' := 10) (L' := [some (mx_r (some (0, 2, x0))), some (mx_i x1), some (mx_i x2), some (mx_i x3)]) (st' := [mx_i (-2 : Int32)]) (σ' := (hC I J h, μ)) rfl ?_
    rw [← Option.some.inj hf] at hk
    refine mx_WP.ret (v := some (mx_i (-2 : Int32))) rfl ?_
    exact hk
def f3 (x1 : Int32) (x2 : Int32) (x3 : Int32) (I : Nat → Nat → Nat → Int32) : Option (Int32 × (Nat → Nat → Nat → Int32)) :=
  (f4 x1).bind fun u1 =>
  if u1 = true then (if x2 < (0 : Int32) then (some ((-1 : Int32), I)) else if x3 < x2 then (some ((-1 : Int32), I)) else if x3 ≤ (255 : Int32) then ((f34 0 x1 x2 x3 I).bind fun u6 =>
  some (u6.1, u6.2)) else some ((-1 : Int32), I)) else some ((-1 : Int32), I)
theorem T3 {d : Nat} {x1 : Int32} {x2 : Int32} {x3 : Int32} {I : Nat → Nat → Nat → Int32} {J : Nat → Nat → Nat → Int64} {h : Nat → Nat} {μ : mx_Rg × (Nat × (Nat → Int32)) × (Nat × Nat)} {Q : Option mx_V → mx_Hp → Prop} {o : Int32 × (Nat → Nat → Nat → Int32)} (hf : f3 x1 x2 x3 I = some o) (hk : Q (some (mx_i o.1)) (hC o.2 J h, μ)) : mx_WP (d + 1) 3 0 (mx_ent 3 [mx_r (some (0, 0, 0)), mx_i x1, mx_i x2, mx_i x3]) [] (hC I J h, μ) Q := by
  unfold f3 at hf
  refine mx_WP.go 1 (pc' := 1) (L' := [some (mx_r (some (0, 0, 0))), some (mx_i x1), some (mx_i x2), some (mx_i x3)]) (st' := [mx_i x1]) (σ' := (hC I J h, μ)) rfl ?_
  obtain ⟨u1, e8, hf⟩ := Option.bind_eq_some_iff.mp hf
  refine mx_WP.call (d := d + 0) (y := 4) (as := [mx_i x1]) (pc' := 4) (r := []) rfl rfl (T4 (d := d + 0) e8 ?_)
  show mx_WP (d + 1) 3 4 [some (mx_r (some (0, 0, 0))), some (mx_i x1), some (mx_i x2), some (mx_i x3)] [mx_i (b2i u1)] (hC I J h, μ) Q
  by_cases c2 : u1 = true
  · rw [if_pos c2] at hf
    refine mx_WP.zeq (b := u1) (q := 23) (p3 := 7) rfl (fun hh => absurd hh (by simp [c2])) (fun _ => ?_)
    refine mx_WP.go 1 (pc' := 8) (L' := [some (mx_r (some (0, 0, 0))), some (mx_i x1), some (mx_i x2), some (mx_i x3)]) (st' := [mx_i x2]) (σ' := (hC I J h, μ)) rfl ?_
    by_cases c3 : x2 < (0 : Int32)
    · rw [if_pos c3] at hf
      refine mx_WP.blt (x := x2) (y := (0 : Int32)) (q := 23) (p3 := 11) rfl (fun _ => ?_) (fun hh => absurd c3 hh)
      refine mx_WP.go 1 (pc' := 24) (L' := [some (mx_r (some (0, 0, 0))), some (mx_i x1), some (mx_i x2), some (mx_i x3)]) (st' := [mx_i (-1 : Int32)]) (σ' := (hC I J h, μ)) rfl ?_
      rw [← Option.some.inj hf] at hk
      refine mx_WP.ret (v := some (mx_i (-1 : Int32))) rfl ?_
      exact hk
    · rw [if_neg c3] at hf
      refine mx_WP.blt (x := x2) (y := (0 : Int32)) (q := 23) (p3 := 11) rfl (fun hh => absurd hh c3) (fun _ => ?_)
      refine mx_WP.go 2 (pc' := 13) (L' := [some (mx_r (some (0, 0, 0))), some (mx_i x1), some (mx_i x2), some (mx_i x3)]) (st' := [mx_i x3, mx_i x2]) (σ' := (hC I J h, μ)) rfl ?_
      by_cases c4 : x3 < x2
      · rw [if_pos c4] at hf
        refine mx_WP.bgt (x := x2) (y := x3) (q := 23) (p3 := 16) rfl (fun _ => ?_) (fun hh => absurd c4 hh)
        refine mx_WP.go 1 (pc' := 24) (L' := [some (mx_r (some (0, 0, 0))), some (mx_i x1), some (mx_i x2), some (mx_i x3)]) (st' := [mx_i (-1 : Int32)]) (σ' := (hC I J h, μ)) rfl ?_
        rw [← Option.some.inj hf] at hk
        refine mx_WP.ret (v := some (mx_i (-1 : Int32))) rfl ?_
        exact hk
      · rw [if_neg c4] at hf
        refine mx_WP.bgt (x := x2) (y := x3) (q := 23) (p3 := 16) rfl (fun hh => absurd hh c4) (fun _ => ?_)
        refine mx_WP.go 2 (pc' := 20) (L' := [some (mx_r (some (0, 0, 0))), some (mx_i x1), some (mx_i x2), some (mx_i x3)]) (st' := [mx_i (255 : Int32), mx_i x3]) (σ' := (hC I J h, μ)) rfl ?_
        by_cases c5 : x3 ≤ (255 : Int32)
        · rw [if_pos c5] at hf
          refine mx_WP.ble (x := x3) (y := (255 : Int32)) (q := 25) (p3 := 23) rfl (fun _ => ?_) (fun hh => absurd c5 hh)
          refine mx_WP.go 6 (pc' := 35) (L' := [some (mx_r (some (0, 0, 0))), some (mx_i x1), some (mx_i x2), some (mx_i x3)]) (st' := [mx_i x3, mx_i x2, mx_i x1, mx_r (some (0, 2, 0))]) (σ' := (hC I J h, μ)) rfl ?_
          obtain ⟨u6, e7, hf⟩ := Option.bind_eq_some_iff.mp hf
          refine mx_WP.call (d := d + 0) (y := 34) (as := [mx_r (some (0, 2, 0)), mx_i x1, mx_i x2, mx_i x3]) (pc' := 38) (r := []) rfl rfl (T34 (d := d + 0) e7 ?_)
          show mx_WP (d + 1) 3 38 [some (mx_r (some (0, 0, 0))), some (mx_i x1), some (mx_i x2), some (mx_i x3)] [mx_i u6.1] (hC u6.2 J h, μ) Q
          rw [← Option.some.inj hf] at hk
          refine mx_WP.ret (v := some (mx_i u6.1)) rfl ?_
          exact hk
        · rw [if_neg c5] at hf
          refine mx_WP.ble (x := x3) (y := (255 : Int32)) (q := 25) (p3 := 23) rfl (fun hh => absurd hh c5) (fun _ => ?_)
          refine mx_WP.go 1 (pc' := 24) (L' := [some (mx_r (some (0, 0, 0))), some (mx_i x1), some (mx_i x2), some (mx_i x3)]) (st' := [mx_i (-1 : Int32)]) (σ' := (hC I J h, μ)) rfl ?_
          rw [← Option.some.inj hf] at hk
          refine mx_WP.ret (v := some (mx_i (-1 : Int32))) rfl ?_
          exact hk
  · rw [if_neg c2] at hf
    refine mx_WP.zeq (b := u1) (q := 23) (p3 := 7) rfl (fun _ => ?_) (fun hh => absurd hh (by simp [c2]))
    refine mx_WP.go 1 (pc' := 24) (L' := [some (mx_r (some (0, 0, 0))), some (mx_i x1), some (mx_i x2), some (mx_i x3)]) (st' := [mx_i (-1 : Int32)]) (σ' := (hC I J h, μ)) rfl ?_
    rw [← Option.some.inj hf] at hk
    refine mx_WP.ret (v := some (mx_i (-1 : Int32))) rfl ?_
    exact hk
def f8 (x0 : Int32) : Option (Bool) :=
  if x0 < (97 : Int32) then (some false) else if (122 : Int32) < x0 then (some false) else some true
theorem T8 {d : Nat} {x0 : Int32} {σ : mx_Hp} {Q : Option mx_V → mx_Hp → Prop} {o : Bool} (hf : f8 x0 = some o) (hk : Q (some (mx_i (b2i o))) σ) : mx_WP (d + 0) 8 0 (mx_ent 8 [mx_i x0]) [] σ Q := by
  unfold f8 at hf
  refine mx_WP.go 2 (pc' := 3) (L' := [some (mx_i x0)]) (st' := [mx_i (97 : Int32), mx_i x0]) (σ' := σ) rfl ?_
  by_cases c1 : x0 < (97 : Int32)
  · rw [if_pos c1] at hf
    refine mx_WP.blt (x := x0) (y := (97 : Int32)) (q := 16) (p3 := 6) rfl (fun _ => ?_) (fun hh => absurd c1 hh)
    refine mx_WP.go 1 (pc' := 17) (L' := [some (mx_i x0)]) (st' := [mx_i (0 : Int32)]) (σ' := σ) rfl ?_
    rw [← Option.some.inj hf] at hk
    refine mx_WP.ret (v := some (mx_i (0 : Int32))) rfl ?_
    exact hk
  · rw [if_neg c1] at hf
    refine mx_WP.blt (x := x0) (y := (97 : Int32)) (q := 16) (p3 := 6) rfl (fun hh => absurd hh c1) (fun _ => ?_)
    refine mx_WP.go 2 (pc' := 9) (L' := [some (mx_i x0)]) (st' := [mx_i (122 : Int32), mx_i x0]) (σ' := σ) rfl ?_
    by_cases c2 : (122 : Int32) < x0
    · rw [if_pos c2] at hf
      refine mx_WP.bgt (x := x0) (y := (122 : Int32)) (q := 16) (p3 := 12) rfl (fun _ => ?_) (fun hh => absurd c2 hh)
      refine mx_WP.go 1 (pc' := 17) (L' := [some (mx_i x0)]) (st' := [mx_i (0 : Int32)]) (σ' := σ) rfl ?_
      rw [← Option.some.inj hf] at hk
      refine mx_WP.ret (v := some (mx_i (0 : Int32))) rfl ?_
      exact hk
    · rw [if_neg c2] at hf
      refine mx_WP.bgt (x := x0) (y := (122 : Int32)) (q := 16) (p3 := 12) rfl (fun hh => absurd hh c2) (fun _ => ?_)
      refine mx_WP.go 2 (pc' := 17) (L' := [some (mx_i x0)]) (st' := [mx_i (1 : Int32)]) (σ' := σ) rfl ?_
      rw [← Option.some.inj hf] at hk
      refine mx_WP.ret (v := some (mx_i (1 : Int32))) rfl ?_
      exact hk
def f7 (x0 : Int32) : Option (Bool) :=
  (f8 x0).bind fun u1 =>
  if u1 = true then (some true) else if x0 < (48 : Int32) then (if x0 = (46 : Int32) then (some true) else some false) else if x0 ≤ (57 : Int32) then (some true) else if x0 = (46 : Int32) then (some true) else some false
theorem T7 {d : Nat} {x0 : Int32} {σ : mx_Hp} {Q : Option mx_V → mx_Hp → Prop} {o : Bool} (hf : f7 x0 = some o) (hk : Q (some (mx_i (b2i o))) σ) : mx_WP (d + 1) 7 0 (mx_ent 7 [mx_i x0]) [] σ Q := by
  unfold f7 at hf
  refine mx_WP.go 1 (pc' := 1) (L' := [some (mx_i x0)]) (st' := [mx_i x0]) (σ' := σ) rfl ?_
  obtain ⟨u1, e7, hf⟩ := Option.bind_eq_some_iff.mp hf
  refine mx_WP.call (d := d + 0) (y := 8) (as := [mx_i x0]) (pc' := 4) (r := []) rfl rfl (T8 (d := d + 0) e7 ?_)
  show mx_WP (d + 1) 7 4 [some (mx_i x0)] [mx_i (b2i u1)] σ Q
  by_cases c2 : u1 = true
  · rw [if_pos c2] at hf
    refine mx_WP.zne (b := u1) (q := 25) (p3 := 7) rfl (fun _ => ?_) (fun hh => absurd hh (by simp [c2]))
    refine mx_WP.go 2 (pc' := 30) (L' := [some (mx_i x0)]) (st' := [mx_i (1 : Int32)]) (σ' := σ) rfl ?_
    rw [← Option.some.inj hf] at hk
    refine mx_WP.ret (v := some (mx_i (1 : Int32))) rfl ?_
    exact hk
  · rw [if_neg c2] at hf
    refine mx_WP.zne (b := u1) (q := 25) (p3 := 7) rfl (fun hh => absurd hh (by simp [c2])) (fun _ => ?_)
    refine mx_WP.go 2 (pc' := 10) (L' := [some (mx_i x0)]) (st' := [mx_i (48 : Int32), mx_i x0]) (σ' := σ) rfl ?_
    by_cases c3 : x0 < (48 : Int32)
    · rw [if_pos c3] at hf
      refine mx_WP.blt (x := x0) (y := (48 : Int32)) (q := 19) (p3 := 13) rfl (fun _ => ?_) (fun hh => absurd c3 hh)
      refine mx_WP.go 2 (pc' := 22) (L' := [some (mx_i x0)]) (st' := [mx_i (46 : Int32), mx_i x0]) (σ' := σ) rfl ?_
      by_cases c4 : x0 = (46 : Int32)
      · rw [if_pos c4] at hf
        refine mx_WP.bne (x := x0) (y := (46 : Int32)) (q := 29) (p3 := 25) rfl (fun hh => absurd c4 hh) (fun _ => ?_)
        refine mx_WP.go 2 (pc' := 30) (L' := [some (mx_i x0)]) (st' := [mx_i (1 : Int32)]) (σ' := σ) rfl ?_
        rw [← Option.some.inj hf] at hk
        refine mx_WP.ret (v := some (mx_i (1 : Int32))) rfl ?_
        exact hk
      · rw [if_neg c4] at hf
        refine mx_WP.bne (x := x0) (y := (46 : Int32)) (q := 29) (p3 := 25) rfl (fun _ => ?_) (fun hh => absurd c4 hh)
        refine mx_WP.go 1 (pc' := 30) (L' := [some (mx_i x0)]) (st' := [mx_i (0 : Int32)]) (σ' := σ) rfl ?_
        rw [← Option.some.inj hf] at hk
        refine mx_WP.ret (v := some (mx_i (0 : Int32))) rfl ?_
        exact hk
    · rw [if_neg c3] at hf
      refine mx_WP.blt (x := x0) (y := (48 : Int32)) (q := 19) (p3 := 13) rfl (fun hh => absurd hh c3) (fun _ => ?_)
      refine mx_WP.go 2 (pc' := 16) (L' := [some (mx_i x0)]) (st' := [mx_i (57 : Int32), mx_i x0]) (σ' := σ) rfl ?_
      by_cases c5 : x0 ≤ (57 : Int32)
      · rw [if_pos c5] at hf
        refine mx_WP.ble (x := x0) (y := (57 : Int32)) (q := 25) (p3 := 19) rfl (fun _ => ?_) (fun hh => absurd c5 hh)
        refine mx_WP.go 2 (pc' := 30) (L' := [some (mx_i x0)]) (st' := [mx_i (1 : Int32)]) (σ' := σ) rfl ?_
        rw [← Option.some.inj hf] at hk
        refine mx_WP.ret (v := some (mx_i (1 : Int32))) rfl ?_
        exact hk
      · rw [if_neg c5] at hf
        refine mx_WP.ble (x := x0) (y := (57 : Int32)) (q := 25) (p3 := 19) rfl (fun hh => absurd hh c5) (fun _ => ?_)
        refine mx_WP.go 2 (pc' := 22) (L' := [some (mx_i x0)]) (st' := [mx_i (46 : Int32), mx_i x0]) (σ' := σ) rfl ?_
        by_cases c6 : x0 = (46 : Int32)
        · rw [if_pos c6] at hf
          refine mx_WP.bne (x := x0) (y := (46 : Int32)) (q := 29) (p3 := 25) rfl (fun hh => absurd c6 hh) (fun _ => ?_)
          refine mx_WP.go 2 (pc' := 30) (L' := [some (mx_i x0)]) (st' := [mx_i (1 : Int32)]) (σ' := σ) rfl ?_
          rw [← Option.some.inj hf] at hk
          refine mx_WP.ret (v := some (mx_i (1 : Int32))) rfl ?_
          exact hk
        · rw [if_neg c6] at hf
          refine mx_WP.bne (x := x0) (y := (46 : Int32)) (q := 29) (p3 := 25) rfl (fun _ => ?_) (fun hh => absurd c6 hh)
          refine mx_WP.go 1 (pc' := 30) (L' := [some (mx_i x0)]) (st' := [mx_i (0 : Int32)]) (σ' := σ) rfl ?_
          rw [← Option.some.inj hf] at hk
          refine mx_WP.ret (v := some (mx_i (0 : Int32))) rfl ?_
          exact hk
def b6_2 (x0 : Int64)  (s : Int32) : Option ((Int32) ⊕ (Int32)) :=
  if (8 : Int32) ≤ s then (some (Sum.inr s)) else (f2 x0 s).bind fun u102 =>
  (f7 u102).bind fun u103 =>
  if u103 = true then (some (Sum.inl (s + 1))) else some (Sum.inr s)
theorem B6_2 {d : Nat} {x0 : Int64} {σ : mx_Hp} {Q : Option mx_V → mx_Hp → Prop} {s : Int32} {o : (Int32) ⊕ (Int32)} (hf : b6_2 x0 s = some o) (hk : Sum.elim (fun s : Int32 => mx_WP (d + 2) 6 2 [some (mx_l x0), none, some (mx_i s)] [] σ Q) (fun x : Int32 => mx_WP (d + 2) 6 25 [some (mx_l x0), none, some (mx_i x)] [] σ Q) o) : mx_WP (d + 2) 6 2 [some (mx_l x0), none, some (mx_i s)] [] σ Q := by
  unfold b6_2 at hf
  refine mx_WP.go 2 (pc' := 5) (L' := [some (mx_l x0), none, some (mx_i s)]) (st' := [mx_i (8 : Int32), mx_i s]) (σ' := σ) rfl ?_
  by_cases c101 : (8 : Int32) ≤ s
  · rw [if_pos c101] at hf
    refine mx_WP.bge (x := s) (y := (8 : Int32)) (q := 25) (p3 := 8) rfl (fun _ => ?_) (fun hh => absurd c101 hh)
    rw [← Option.some.inj hf] at hk
    exact hk
  · rw [if_neg c101] at hf
    refine mx_WP.bge (x := s) (y := (8 : Int32)) (q := 25) (p3 := 8) rfl (fun hh => absurd hh c101) (fun _ => ?_)
    refine mx_WP.go 2 (pc' := 10) (L' := [some (mx_l x0), none, some (mx_i s)]) (st' := [mx_i s, mx_l x0]) (σ' := σ) rfl ?_
    obtain ⟨u102, e106, hf⟩ := Option.bind_eq_some_iff.mp hf
    refine mx_WP.call (d := d + 1) (y := 2) (as := [mx_l x0, mx_i s]) (pc' := 13) (r := []) rfl rfl (T2 (d := d + 1) e106 ?_)
    show mx_WP (d + 2) 6 13 [some (mx_l x0), none, some (mx_i s)] [mx_i u102] σ Q
    obtain ⟨u103, e105, hf⟩ := Option.bind_eq_some_iff.mp hf
    refine mx_WP.call (d := d + 1) (y := 7) (as := [mx_i u102]) (pc' := 16) (r := []) rfl rfl (T7 (d := d + 0) e105 ?_)
    show mx_WP (d + 2) 6 16 [some (mx_l x0), none, some (mx_i s)] [mx_i (b2i u103)] σ Q
    by_cases c104 : u103 = true
    · rw [if_pos c104] at hf
      refine mx_WP.zeq (b := u103) (q := 25) (p3 := 19) rfl (fun hh => absurd hh (by simp [c104])) (fun _ => ?_)
      refine mx_WP.go 2 (pc' := 2) (L' := [some (mx_l x0), none, some (mx_i (s + 1))]) (st' := []) (σ' := σ) rfl ?_
      rw [← Option.some.inj hf] at hk
      exact hk
    · rw [if_neg c104] at hf
      refine mx_WP.zeq (b := u103) (q := 25) (p3 := 19) rfl (fun _ => ?_) (fun hh => absurd hh (by simp [c104]))
      rw [← Option.some.inj hf] at hk
      exact hk
theorem L6_2 {d : Nat} {x0 : Int64} {σ : mx_Hp} {Q : Option mx_V → mx_Hp → Prop} {n : Nat} {s : Int32} {o : Int32} (hf : mx_lp (b6_2 x0) n s = some o) (hk : (fun x : Int32 => mx_WP (d + 2) 6 25 [some (mx_l x0), none, some (mx_i x)] [] σ Q) o) : mx_WP (d + 2) 6 2 [some (mx_l x0), none, some (mx_i s)] [] σ Q := mx_lp_ok (P := fun s : Int32 => mx_WP (d + 2) 6 2 [some (mx_l x0), none, some (mx_i s)] [] σ Q) (E := (fun x : Int32 => mx_WP (d + 2) 6 25 [some (mx_l x0), none, some (mx_i x)] [] σ Q)) (fun s o hf hk => B6_2 hf hk) n s o hf hk
def j6_25 (v0 : Int64) (v2 : Int32)  : Option (Bool) :=
  if v2 = (8 : Int32) then (some true) else if v2 ≤ (0 : Int32) then (some false) else if (lg_cmp ((v0.toUInt64 >>> (((8 : Int32) * v2).toInt64.toUInt64 &&& Int64.toUInt64 63)).toInt64) (0 : Int64)) = (0 : Int32) then (some true) else some false
theorem J6_25 {d : Nat} {v0 : Int64} {v2 : Int32}  {σ : mx_Hp} {Q : Option mx_V → mx_Hp → Prop} {o : Bool} (hf : j6_25 v0 v2 = some o) (hk : Q (some (mx_i (b2i o))) σ) : mx_WP (d + 2) 6 25 [some (mx_l v0), none, some (mx_i v2)] [] σ Q := by
  unfold j6_25 at hf
  refine mx_WP.go 2 (pc' := 28) (L' := [some (mx_l v0), none, some (mx_i v2)]) (st' := [mx_i (8 : Int32), mx_i v2]) (σ' := σ) rfl ?_
  by_cases c1109 : v2 = (8 : Int32)
  · rw [if_pos c1109] at hf
    refine mx_WP.beq (x := v2) (y := (8 : Int32)) (q := 46) (p3 := 31) rfl (fun _ => ?_) (fun hh => absurd c1109 hh)
    refine mx_WP.go 2 (pc' := 51) (L' := [some (mx_l v0), none, some (mx_i v2)]) (st' := [mx_i (1 : Int32)]) (σ' := σ) rfl ?_
    rw [← Option.some.inj hf] at hk
    refine mx_WP.ret (v := some (mx_i (1 : Int32))) rfl ?_
    exact hk
  · rw [if_neg c1109] at hf
    refine mx_WP.beq (x := v2) (y := (8 : Int32)) (q := 46) (p3 := 31) rfl (fun hh => absurd hh c1109) (fun _ => ?_)
    refine mx_WP.go 1 (pc' := 32) (L' := [some (mx_l v0), none, some (mx_i v2)]) (st' := [mx_i v2]) (σ' := σ) rfl ?_
    by_cases c1110 : v2 ≤ (0 : Int32)
    · rw [if_pos c1110] at hf
      refine mx_WP.ble (x := v2) (y := (0 : Int32)) (q := 50) (p3 := 35) rfl (fun _ => ?_) (fun hh => absurd c1110 hh)
      refine mx_WP.go 1 (pc' := 51) (L' := [some (mx_l v0), none, some (mx_i v2)]) (st' := [mx_i (0 : Int32)]) (σ' := σ) rfl ?_
      rw [← Option.some.inj hf] at hk
      refine mx_WP.ret (v := some (mx_i (0 : Int32))) rfl ?_
      exact hk
    · rw [if_neg c1110] at hf
      refine mx_WP.ble (x := v2) (y := (0 : Int32)) (q := 50) (p3 := 35) rfl (fun hh => absurd hh c1110) (fun _ => ?_)
      refine mx_WP.go 7 (pc' := 43) (L' := [some (mx_l v0), none, some (mx_i v2)]) (st' := [mx_i (lg_cmp ((v0.toUInt64 >>> (((8 : Int32) * v2).toInt64.toUInt64 &&& Int64.toUInt64 63)).toInt64) (0 : Int64))]) (σ' := σ) rfl ?_
      by_cases c1111 : (lg_cmp ((v0.toUInt64 >>> (((8 : Int32) * v2).toInt64.toUInt64 &&& Int64.toUInt64 63)).toInt64) (0 : Int64)) = (0 : Int32)
      · rw [if_pos c1111] at hf
        refine mx_WP.bne (x := (lg_cmp ((v0.toUInt64 >>> (((8 : Int32) * v2).toInt64.toUInt64 &&& Int64.toUInt64 63)).toInt64) (0 : Int64))) (y := (0 : Int32)) (q := 50) (p3 := 46) rfl (fun hh => absurd c1111 hh) (fun _ => ?_)
        refine mx_WP.go 2 (pc' := 51) (L' := [some (mx_l v0), none, some (mx_i v2)]) (st' := [mx_i (1 : Int32)]) (σ' := σ) rfl ?_
        rw [← Option.some.inj hf] at hk
        refine mx_WP.ret (v := some (mx_i (1 : Int32))) rfl ?_
        exact hk
      · rw [if_neg c1111] at hf
        refine mx_WP.bne (x := (lg_cmp ((v0.toUInt64 >>> (((8 : Int32) * v2).toInt64.toUInt64 &&& Int64.toUInt64 63)).toInt64) (0 : Int64))) (y := (0 : Int32)) (q := 50) (p3 := 46) rfl (fun _ => ?_) (fun hh => absurd c1111 hh)
        refine mx_WP.go 1 (pc' := 51) (L' := [some (mx_l v0), none, some (mx_i v2)]) (st' := [mx_i (0 : Int32)]) (σ' := σ) rfl ?_
        rw [← Option.some.inj hf] at hk
        refine mx_WP.ret (v := some (mx_i (0 : Int32))) rfl ?_
        exact hk
def f6 (x0 : Int64) : Option (Bool) :=
  (mx_lp (b6_2 x0) mx_fu (0 : Int32)).bind fun u107 =>
  j6_25 x0 u107
theorem T6 {d : Nat} {x0 : Int64} {σ : mx_Hp} {Q : Option mx_V → mx_Hp → Prop} {o : Bool} (hf : f6 x0 = some o) (hk : Q (some (mx_i (b2i o))) σ) : mx_WP (d + 2) 6 0 (mx_ent 6 [mx_l x0]) [] σ Q := by
  unfold f6 at hf
  refine mx_WP.go 2 (pc' := 2) (L' := [some (mx_l x0), none, some (mx_i (0 : Int32))]) (st' := []) (σ' := σ) rfl ?_
  obtain ⟨u107, e108, hf⟩ := Option.bind_eq_some_iff.mp hf
  refine L6_2 (d := d) e108 ?_
  show mx_WP (d + 2) 6 25 [some (mx_l x0), none, some (mx_i u107)] [] σ Q
  exact J6_25 (d := d) hf hk
def f35 (x0 : Nat) (x1 : Int64) (x2 : Int32) (I : Nat → Nat → Nat → Int32) (J : Nat → Nat → Nat → Int64) : Option (Int32 × (Nat → Nat → Nat → Int32) × (Nat → Nat → Nat → Int64)) :=
  if (I 2 x0 6) < (4 : Int32) then (if (I 2 x0 6) < 0 ∨ 4 ≤ (I 2 x0 6).toNatClampNeg then none else if (I 2 x0 6) < 0 ∨ 4 ≤ (I 2 x0 6).toNatClampNeg then none else some ((mx_u3 (mx_u3 I 69 x0 ((I 2 x0 6).toNatClampNeg) x2) 2 x0 6 (((mx_u3 I 69 x0 ((I 2 x0 6).toNatClampNeg) x2) 2 x0 6) + (1 : Int32))) 2 x0 6, (mx_u3 (mx_u3 I 69 x0 ((I 2 x0 6).toNatClampNeg) x2) 2 x0 6 (((mx_u3 I 69 x0 ((I 2 x0 6).toNatClampNeg) x2) 2 x0 6) + (1 : Int32))), (mx_u3 J 68 x0 ((I 2 x0 6).toNatClampNeg) x1))) else some ((-2 : Int32), I, J)
theorem T35 {d : Nat} {x0 : Nat} {x1 : Int64} {x2 : Int32} {I : Nat → Nat → Nat → Int32} {J : Nat → Nat → Nat → Int64} {h : Nat → Nat} {μ : mx_Rg × (Nat × (Nat → Int32)) × (Nat × Nat)} {Q : Option mx_V → mx_Hp → Prop} {o : Int32 × (Nat → Nat → Nat → Int32) × (Nat → Nat → Nat → Int64)} (hf : f35 x0 x1 x2 I J = some o) (hk : Q (some (mx_i o.1)) (hC o.2.1 o.2.2 h, μ)) : mx_WP (d + 0) 35 0 (mx_ent 35 [mx_r (some (0, 2, x0)), mx_l x1, mx_i x2]) [] (hC I J h, μ) Q := by
  unfold f35 at hf
  refine mx_WP.go 3 (pc' := 5) (L' := [some (mx_r (some (0, 2, x0))), some (mx_l x1), none, some (mx_i x2)]) (st' := [mx_i (4 : Int32), mx_i (I 2 x0 6)]) (σ' := (hC I J h, μ)) rfl ?_
  by_cases c1 : (I 2 x0 6) < (4 : Int32)
  · rw [if_pos c1] at hf
    refine mx_WP.blt (x := (I 2 x0 6)) (y := (4 : Int32)) (q := 11) (p3 := 8) rfl (fun _ => ?_) (fun hh => absurd c1 hh)
    refine mx_WP.go 5 (pc' := 20) (L' := [some (mx_r (some (0, 2, x0))), some (mx_l x1), none, some (mx_i x2)]) (st' := [mx_l x1, mx_i (I 2 x0 6), mx_r (some (0, 68, x0))]) (σ' := (hC I J h, μ)) rfl ?_
    by_cases c2 : (I 2 x0 6) < 0 ∨ 4 ≤ (I 2 x0 6).toNatClampNeg
    · rw [if_pos c2] at hf
      cases hf
    rw [if_neg c2] at hf
    refine mx_WP.lastx c2 ?_
    show mx_WP (d + 0) 35 21 [some (mx_r (some (0, 2, x0))), some (mx_l x1), none, some (mx_i x2)] [] (hC I (mx_u3 J 68 x0 ((I 2 x0 6).toNatClampNeg) x1) h, μ) Q
    refine mx_WP.go 5 (pc' := 30) (L' := [some (mx_r (some (0, 2, x0))), some (mx_l x1), none, some (mx_i x2)]) (st' := [mx_i x2, mx_i (I 2 x0 6), mx_r (some (0, 69, x0))]) (σ' := (hC I (mx_u3 J 68 x0 ((I 2 x0 6).toNatClampNeg) x1) h, μ)) rfl ?_
    by_cases c3 : (I 2 x0 6) < 0 ∨ 4 ≤ (I 2 x0 6).toNatClampNeg
    · rw [if_pos c3] at hf
      cases hf
    rw [if_neg c3] at hf
    refine mx_WP.iastx c3 ?_
    show mx_WP (d + 0) 35 31 [some (mx_r (some (0, 2, x0))), some (mx_l x1), none, some (mx_i x2)] [] (hC (mx_u3 I 69 x0 ((I 2 x0 6).toNatClampNeg) x2) (mx_u3 J 68 x0 ((I 2 x0 6).toNatClampNeg) x1) h, μ) Q
    refine mx_WP.go 8 (pc' := 45) (L' := [some (mx_r (some (0, 2, x0))), some (mx_l x1), none, some (mx_i x2)]) (st' := [mx_i ((mx_u3 (mx_u3 I 69 x0 ((I 2 x0 6).toNatClampNeg) x2) 2 x0 6 (((mx_u3 I 69 x0 ((I 2 x0 6).toNatClampNeg) x2) 2 x0 6) + (1 : Int32))) 2 x0 6)]) (σ' := (hC (mx_u3 (mx_u3 I 69 x0 ((I 2 x0 6).toNatClampNeg) x2) 2 x0 6 (((mx_u3 I 69 x0 ((I 2 x0 6).toNatClampNeg) x2) 2 x0 6) + (1 : Int32))) (mx_u3 J 68 x0 ((I 2 x0 6).toNatClampNeg) x1) h, μ)) rfl ?_
    rw [← Option.some.inj hf] at hk
    refine mx_WP.ret (v := some (mx_i ((mx_u3 (mx_u3 I 69 x0 ((I 2 x0 6).toNatClampNeg) x2) 2 x0 6 (((mx_u3 I 69 x0 ((I 2 x0 6).toNatClampNeg) x2) 2 x0 6) + (1 : Int32))) 2 x0 6))) rfl ?_
    exact hk
  · rw [if_neg c1] at hf
    refine mx_WP.blt (x := (I 2 x0 6)) (y := (4 : Int32)) (q := 11) (p3 := 8) rfl (fun hh => absurd hh c1) (fun _ => ?_)
    refine mx_WP.go 1 (pc' := 10) (L' := [some (mx_r (some (0, 2, x0))), some (mx_l x1), none, some (mx_i x2)]) (st' := [mx_i (-2 : Int32)]) (σ' := (hC I J h, μ)) rfl ?_
    rw [← Option.some.inj hf] at hk
    refine mx_WP.ret (v := some (mx_i (-2 : Int32))) rfl ?_
    exact hk
def f5 (x1 : Int64) (x2 : Int32) (I : Nat → Nat → Nat → Int32) (J : Nat → Nat → Nat → Int64) : Option (Int32 × (Nat → Nat → Nat → Int32) × (Nat → Nat → Nat → Int64)) :=
  (f6 x1).bind fun u1 =>
  if u1 = true then (if x2 < (0 : Int32) then (some ((-1 : Int32), I, J)) else if (6 : Int32) < x2 then (some ((-1 : Int32), I, J)) else if x2 = (3 : Int32) then (some ((-1 : Int32), I, J)) else (f35 0 x1 x2 I J).bind fun u6 =>
  some (u6.1, u6.2.1, u6.2.2)) else some ((-1 : Int32), I, J)
theorem T5 {d : Nat} {x1 : Int64} {x2 : Int32} {I : Nat → Nat → Nat → Int32} {J : Nat → Nat → Nat → Int64} {h : Nat → Nat} {μ : mx_Rg × (Nat × (Nat → Int32)) × (Nat × Nat)} {Q : Option mx_V → mx_Hp → Prop} {o : Int32 × (Nat → Nat → Nat → Int32) × (Nat → Nat → Nat → Int64)} (hf : f5 x1 x2 I J = some o) (hk : Q (some (mx_i o.1)) (hC o.2.1 o.2.2 h, μ)) : mx_WP (d + 3) 5 0 (mx_ent 5 [mx_r (some (0, 0, 0)), mx_l x1, mx_i x2]) [] (hC I J h, μ) Q := by
  unfold f5 at hf
  refine mx_WP.go 1 (pc' := 1) (L' := [some (mx_r (some (0, 0, 0))), some (mx_l x1), none, some (mx_i x2)]) (st' := [mx_l x1]) (σ' := (hC I J h, μ)) rfl ?_
  obtain ⟨u1, e8, hf⟩ := Option.bind_eq_some_iff.mp hf
  refine mx_WP.call (d := d + 2) (y := 6) (as := [mx_l x1]) (pc' := 4) (r := []) rfl rfl (T6 (d := d + 0) e8 ?_)
  show mx_WP (d + 3) 5 4 [some (mx_r (some (0, 0, 0))), some (mx_l x1), none, some (mx_i x2)] [mx_i (b2i u1)] (hC I J h, μ) Q
  by_cases c2 : u1 = true
  · rw [if_pos c2] at hf
    refine mx_WP.zeq (b := u1) (q := 22) (p3 := 7) rfl (fun hh => absurd hh (by simp [c2])) (fun _ => ?_)
    refine mx_WP.go 1 (pc' := 8) (L' := [some (mx_r (some (0, 0, 0))), some (mx_l x1), none, some (mx_i x2)]) (st' := [mx_i x2]) (σ' := (hC I J h, μ)) rfl ?_
    by_cases c3 : x2 < (0 : Int32)
    · rw [if_pos c3] at hf
      refine mx_WP.blt (x := x2) (y := (0 : Int32)) (q := 22) (p3 := 11) rfl (fun _ => ?_) (fun hh => absurd c3 hh)
      refine mx_WP.go 1 (pc' := 23) (L' := [some (mx_r (some (0, 0, 0))), some (mx_l x1), none, some (mx_i x2)]) (st' := [mx_i (-1 : Int32)]) (σ' := (hC I J h, μ)) rfl ?_
      rw [← Option.some.inj hf] at hk
      refine mx_WP.ret (v := some (mx_i (-1 : Int32))) rfl ?_
      exact hk
    · rw [if_neg c3] at hf
      refine mx_WP.blt (x := x2) (y := (0 : Int32)) (q := 22) (p3 := 11) rfl (fun hh => absurd hh c3) (fun _ => ?_)
      refine mx_WP.go 2 (pc' := 14) (L' := [some (mx_r (some (0, 0, 0))), some (mx_l x1), none, some (mx_i x2)]) (st' := [mx_i (6 : Int32), mx_i x2]) (σ' := (hC I J h, μ)) rfl ?_
      by_cases c4 : (6 : Int32) < x2
      · rw [if_pos c4] at hf
        refine mx_WP.bgt (x := x2) (y := (6 : Int32)) (q := 22) (p3 := 17) rfl (fun _ => ?_) (fun hh => absurd c4 hh)
        refine mx_WP.go 1 (pc' := 23) (L' := [some (mx_r (some (0, 0, 0))), some (mx_l x1), none, some (mx_i x2)]) (st' := [mx_i (-1 : Int32)]) (σ' := (hC I J h, μ)) rfl ?_
        rw [← Option.some.inj hf] at hk
        refine mx_WP.ret (v := some (mx_i (-1 : Int32))) rfl ?_
        exact hk
      · rw [if_neg c4] at hf
        refine mx_WP.bgt (x := x2) (y := (6 : Int32)) (q := 22) (p3 := 17) rfl (fun hh => absurd hh c4) (fun _ => ?_)
        refine mx_WP.go 2 (pc' := 19) (L' := [some (mx_r (some (0, 0, 0))), some (mx_l x1), none, some (mx_i x2)]) (st' := [mx_i (3 : Int32), mx_i x2]) (σ' := (hC I J h, μ)) rfl ?_
        by_cases c5 : x2 = (3 : Int32)
        · rw [if_pos c5] at hf
          refine mx_WP.bne (x := x2) (y := (3 : Int32)) (q := 24) (p3 := 22) rfl (fun hh => absurd c5 hh) (fun _ => ?_)
          refine mx_WP.go 1 (pc' := 23) (L' := [some (mx_r (some (0, 0, 0))), some (mx_l x1), none, some (mx_i x2)]) (st' := [mx_i (-1 : Int32)]) (σ' := (hC I J h, μ)) rfl ?_
          rw [← Option.some.inj hf] at hk
          refine mx_WP.ret (v := some (mx_i (-1 : Int32))) rfl ?_
          exact hk
        · rw [if_neg c5] at hf
          refine mx_WP.bne (x := x2) (y := (3 : Int32)) (q := 24) (p3 := 22) rfl (fun _ => ?_) (fun hh => absurd c5 hh)
          refine mx_WP.go 5 (pc' := 33) (L' := [some (mx_r (some (0, 0, 0))), some (mx_l x1), none, some (mx_i x2)]) (st' := [mx_i x2, mx_l x1, mx_r (some (0, 2, 0))]) (σ' := (hC I J h, μ)) rfl ?_
          obtain ⟨u6, e7, hf⟩ := Option.bind_eq_some_iff.mp hf
          refine mx_WP.call (d := d + 2) (y := 35) (as := [mx_r (some (0, 2, 0)), mx_l x1, mx_i x2]) (pc' := 36) (r := []) rfl rfl (T35 (d := d + 2) e7 ?_)
          show mx_WP (d + 3) 5 36 [some (mx_r (some (0, 0, 0))), some (mx_l x1), none, some (mx_i x2)] [mx_i u6.1] (hC u6.2.1 u6.2.2 h, μ) Q
          rw [← Option.some.inj hf] at hk
          refine mx_WP.ret (v := some (mx_i u6.1)) rfl ?_
          exact hk
  · rw [if_neg c2] at hf
    refine mx_WP.zeq (b := u1) (q := 22) (p3 := 7) rfl (fun _ => ?_) (fun hh => absurd hh (by simp [c2]))
    refine mx_WP.go 1 (pc' := 23) (L' := [some (mx_r (some (0, 0, 0))), some (mx_l x1), none, some (mx_i x2)]) (st' := [mx_i (-1 : Int32)]) (σ' := (hC I J h, μ)) rfl ?_
    rw [← Option.some.inj hf] at hk
    refine mx_WP.ret (v := some (mx_i (-1 : Int32))) rfl ?_
    exact hk
def f36 (x0 : Nat) (x1 : Int32) (x2 : Int64) (I : Nat → Nat → Nat → Int32) (J : Nat → Nat → Nat → Int64) : Option ((Nat → Nat → Nat → Int32) × (Nat → Nat → Nat → Int64)) :=
  if x1 = (0 : Int32) then (some ((mx_u3 I 2 x0 7 x1), (mx_u3 J 2 x0 8 (0 : Int64)))) else some ((mx_u3 I 2 x0 7 x1), (mx_u3 J 2 x0 8 x2))
theorem T36 {d : Nat} {x0 : Nat} {x1 : Int32} {x2 : Int64} {I : Nat → Nat → Nat → Int32} {J : Nat → Nat → Nat → Int64} {h : Nat → Nat} {μ : mx_Rg × (Nat × (Nat → Int32)) × (Nat × Nat)} {Q : Option mx_V → mx_Hp → Prop} {o : (Nat → Nat → Nat → Int32) × (Nat → Nat → Nat → Int64)} (hf : f36 x0 x1 x2 I J = some o) (hk : Q (none) (hC o.1 o.2 h, μ)) : mx_WP (d + 0) 36 0 (mx_ent 36 [mx_r (some (0, 2, x0)), mx_i x1, mx_l x2]) [] (hC I J h, μ) Q := by
  unfold f36 at hf
  refine mx_WP.go 5 (pc' := 7) (L' := [some (mx_r (some (0, 2, x0))), some (mx_i x1), some (mx_l x2), none]) (st' := [mx_i x1, mx_r (some (0, 2, x0))]) (σ' := (hC (mx_u3 I 2 x0 7 x1) J h, μ)) rfl ?_
  by_cases c1 : x1 = (0 : Int32)
  · rw [if_pos c1] at hf
    refine mx_WP.bne (x := x1) (y := (0 : Int32)) (q := 14) (p3 := 10) rfl (fun hh => absurd c1 hh) (fun _ => ?_)
    refine mx_WP.go 3 (pc' := 18) (L' := [some (mx_r (some (0, 2, x0))), some (mx_i x1), some (mx_l x2), none]) (st' := []) (σ' := (hC (mx_u3 I 2 x0 7 x1) (mx_u3 J 2 x0 8 (0 : Int64)) h, μ)) rfl ?_
    rw [← Option.some.inj hf] at hk
    refine mx_WP.ret (v := none) rfl ?_
    exact hk
  · rw [if_neg c1] at hf
    refine mx_WP.bne (x := x1) (y := (0 : Int32)) (q := 14) (p3 := 10) rfl (fun _ => ?_) (fun hh => absurd c1 hh)
    refine mx_WP.go 2 (pc' := 18) (L' := [some (mx_r (some (0, 2, x0))), some (mx_i x1), some (mx_l x2), none]) (st' := []) (σ' := (hC (mx_u3 I 2 x0 7 x1) (mx_u3 J 2 x0 8 x2) h, μ)) rfl ?_
    rw [← Option.some.inj hf] at hk
    refine mx_WP.ret (v := none) rfl ?_
    exact hk
def f9 (x1 : Int32) (x2 : Int64) (I : Nat → Nat → Nat → Int32) (J : Nat → Nat → Nat → Int64) : Option (Bool × (Nat → Nat → Nat → Int32) × (Nat → Nat → Nat → Int64)) :=
  if x1 < (0 : Int32) then (some (false, I, J)) else if (2 : Int32) < x1 then (some (false, I, J)) else if (lg_cmp x2 (0 : Int64)) = (0 : Int32) then ((f36 0 x1 x2 I J).bind fun u4 =>
  some (true, u4.1, u4.2)) else (f6 x2).bind fun u6 =>
  if u6 = true then ((f36 0 x1 x2 I J).bind fun u8 =>
  some (true, u8.1, u8.2)) else some (false, I, J)
theorem T9 {d : Nat} {x1 : Int32} {x2 : Int64} {I : Nat → Nat → Nat → Int32} {J : Nat → Nat → Nat → Int64} {h : Nat → Nat} {μ : mx_Rg × (Nat × (Nat → Int32)) × (Nat × Nat)} {Q : Option mx_V → mx_Hp → Prop} {o : Bool × (Nat → Nat → Nat → Int32) × (Nat → Nat → Nat → Int64)} (hf : f9 x1 x2 I J = some o) (hk : Q (some (mx_i (b2i o.1))) (hC o.2.1 o.2.2 h, μ)) : mx_WP (d + 3) 9 0 (mx_ent 9 [mx_r (some (0, 0, 0)), mx_i x1, mx_l x2]) [] (hC I J h, μ) Q := by
  unfold f9 at hf
  refine mx_WP.go 1 (pc' := 1) (L' := [some (mx_r (some (0, 0, 0))), some (mx_i x1), some (mx_l x2), none]) (st' := [mx_i x1]) (σ' := (hC I J h, μ)) rfl ?_
  by_cases c1 : x1 < (0 : Int32)
  · rw [if_pos c1] at hf
    refine mx_WP.blt (x := x1) (y := (0 : Int32)) (q := 22) (p3 := 4) rfl (fun _ => ?_) (fun hh => absurd c1 hh)
    refine mx_WP.go 1 (pc' := 23) (L' := [some (mx_r (some (0, 0, 0))), some (mx_i x1), some (mx_l x2), none]) (st' := [mx_i (0 : Int32)]) (σ' := (hC I J h, μ)) rfl ?_
    rw [← Option.some.inj hf] at hk
    refine mx_WP.ret (v := some (mx_i (0 : Int32))) rfl ?_
    exact hk
  · rw [if_neg c1] at hf
    refine mx_WP.blt (x := x1) (y := (0 : Int32)) (q := 22) (p3 := 4) rfl (fun hh => absurd hh c1) (fun _ => ?_)
    refine mx_WP.go 2 (pc' := 6) (L' := [some (mx_r (some (0, 0, 0))), some (mx_i x1), some (mx_l x2), none]) (st' := [mx_i (2 : Int32), mx_i x1]) (σ' := (hC I J h, μ)) rfl ?_
    by_cases c2 : (2 : Int32) < x1
    · rw [if_pos c2] at hf
      refine mx_WP.bgt (x := x1) (y := (2 : Int32)) (q := 22) (p3 := 9) rfl (fun _ => ?_) (fun hh => absurd c2 hh)
      refine mx_WP.go 1 (pc' := 23) (L' := [some (mx_r (some (0, 0, 0))), some (mx_i x1), some (mx_l x2), none]) (st' := [mx_i (0 : Int32)]) (σ' := (hC I J h, μ)) rfl ?_
      rw [← Option.some.inj hf] at hk
      refine mx_WP.ret (v := some (mx_i (0 : Int32))) rfl ?_
      exact hk
    · rw [if_neg c2] at hf
      refine mx_WP.bgt (x := x1) (y := (2 : Int32)) (q := 22) (p3 := 9) rfl (fun hh => absurd hh c2) (fun _ => ?_)
      refine mx_WP.go 3 (pc' := 12) (L' := [some (mx_r (some (0, 0, 0))), some (mx_i x1), some (mx_l x2), none]) (st' := [mx_i (lg_cmp x2 (0 : Int64))]) (σ' := (hC I J h, μ)) rfl ?_
      by_cases c3 : (lg_cmp x2 (0 : Int64)) = (0 : Int32)
      · rw [if_pos c3] at hf
        refine mx_WP.beq (x := (lg_cmp x2 (0 : Int64))) (y := (0 : Int32)) (q := 24) (p3 := 15) rfl (fun _ => ?_) (fun hh => absurd c3 hh)
        refine mx_WP.go 5 (pc' := 33) (L' := [some (mx_r (some (0, 0, 0))), some (mx_i x1), some (mx_l x2), none]) (st' := [mx_l x2, mx_i x1, mx_r (some (0, 2, 0))]) (σ' := (hC I J h, μ)) rfl ?_
        obtain ⟨u4, e5, hf⟩ := Option.bind_eq_some_iff.mp hf
        refine mx_WP.call (d := d + 2) (y := 36) (as := [mx_r (some (0, 2, 0)), mx_i x1, mx_l x2]) (pc' := 36) (r := []) rfl rfl (T36 (d := d + 2) e5 ?_)
        show mx_WP (d + 3) 9 36 [some (mx_r (some (0, 0, 0))), some (mx_i x1), some (mx_l x2), none] [] (hC u4.1 u4.2 h, μ) Q
        refine mx_WP.go 1 (pc' := 37) (L' := [some (mx_r (some (0, 0, 0))), some (mx_i x1), some (mx_l x2), none]) (st' := [mx_i (1 : Int32)]) (σ' := (hC u4.1 u4.2 h, μ)) rfl ?_
        rw [← Option.some.inj hf] at hk
        refine mx_WP.ret (v := some (mx_i (1 : Int32))) rfl ?_
        exact hk
      · rw [if_neg c3] at hf
        refine mx_WP.beq (x := (lg_cmp x2 (0 : Int64))) (y := (0 : Int32)) (q := 24) (p3 := 15) rfl (fun hh => absurd hh c3) (fun _ => ?_)
        refine mx_WP.go 1 (pc' := 16) (L' := [some (mx_r (some (0, 0, 0))), some (mx_i x1), some (mx_l x2), none]) (st' := [mx_l x2]) (σ' := (hC I J h, μ)) rfl ?_
        obtain ⟨u6, e10, hf⟩ := Option.bind_eq_some_iff.mp hf
        refine mx_WP.call (d := d + 2) (y := 6) (as := [mx_l x2]) (pc' := 19) (r := []) rfl rfl (T6 (d := d + 0) e10 ?_)
        show mx_WP (d + 3) 9 19 [some (mx_r (some (0, 0, 0))), some (mx_i x1), some (mx_l x2), none] [mx_i (b2i u6)] (hC I J h, μ) Q
        by_cases c7 : u6 = true
        · rw [if_pos c7] at hf
          refine mx_WP.zne (b := u6) (q := 24) (p3 := 22) rfl (fun _ => ?_) (fun hh => absurd hh (by simp [c7]))
          refine mx_WP.go 5 (pc' := 33) (L' := [some (mx_r (some (0, 0, 0))), some (mx_i x1), some (mx_l x2), none]) (st' := [mx_l x2, mx_i x1, mx_r (some (0, 2, 0))]) (σ' := (hC I J h, μ)) rfl ?_
          obtain ⟨u8, e9, hf⟩ := Option.bind_eq_some_iff.mp hf
          refine mx_WP.call (d := d + 2) (y := 36) (as := [mx_r (some (0, 2, 0)), mx_i x1, mx_l x2]) (pc' := 36) (r := []) rfl rfl (T36 (d := d + 2) e9 ?_)
          show mx_WP (d + 3) 9 36 [some (mx_r (some (0, 0, 0))), some (mx_i x1), some (mx_l x2), none] [] (hC u8.1 u8.2 h, μ) Q
          refine mx_WP.go 1 (pc' := 37) (L' := [some (mx_r (some (0, 0, 0))), some (mx_i x1), some (mx_l x2), none]) (st' := [mx_i (1 : Int32)]) (σ' := (hC u8.1 u8.2 h, μ)) rfl ?_
          rw [← Option.some.inj hf] at hk
          refine mx_WP.ret (v := some (mx_i (1 : Int32))) rfl ?_
          exact hk
        · rw [if_neg c7] at hf
          refine mx_WP.zne (b := u6) (q := 24) (p3 := 22) rfl (fun hh => absurd hh (by simp [c7])) (fun _ => ?_)
          refine mx_WP.go 1 (pc' := 23) (L' := [some (mx_r (some (0, 0, 0))), some (mx_i x1), some (mx_l x2), none]) (st' := [mx_i (0 : Int32)]) (σ' := (hC I J h, μ)) rfl ?_
          rw [← Option.some.inj hf] at hk
          refine mx_WP.ret (v := some (mx_i (0 : Int32))) rfl ?_
          exact hk
def f37 (x0 : Nat) (I : Nat → Nat → Nat → Int32) (J : Nat → Nat → Nat → Int64) : Option ((Nat → Nat → Nat → Int32) × (Nat → Nat → Nat → Int64)) :=
  (f36 x0 (0 : Int32) (0 : Int64) (mx_u3 (mx_u3 I 2 x0 5 (0 : Int32)) 2 x0 6 (0 : Int32)) J).bind fun u1 =>
  some (u1.1, u1.2)
theorem T37 {d : Nat} {x0 : Nat} {I : Nat → Nat → Nat → Int32} {J : Nat → Nat → Nat → Int64} {h : Nat → Nat} {μ : mx_Rg × (Nat × (Nat → Int32)) × (Nat × Nat)} {Q : Option mx_V → mx_Hp → Prop} {o : (Nat → Nat → Nat → Int32) × (Nat → Nat → Nat → Int64)} (hf : f37 x0 I J = some o) (hk : Q (none) (hC o.1 o.2 h, μ)) : mx_WP (d + 1) 37 0 (mx_ent 37 [mx_r (some (0, 2, x0))]) [] (hC I J h, μ) Q := by
  unfold f37 at hf
  refine mx_WP.go 9 (pc' := 13) (L' := [some (mx_r (some (0, 2, x0)))]) (st' := [mx_l (0 : Int64), mx_i (0 : Int32), mx_r (some (0, 2, x0))]) (σ' := (hC (mx_u3 (mx_u3 I 2 x0 5 (0 : Int32)) 2 x0 6 (0 : Int32)) J h, μ)) rfl ?_
  obtain ⟨u1, e2, hf⟩ := Option.bind_eq_some_iff.mp hf
  refine mx_WP.call (d := d + 0) (y := 36) (as := [mx_r (some (0, 2, x0)), mx_i (0 : Int32), mx_l (0 : Int64)]) (pc' := 16) (r := []) rfl rfl (T36 (d := d + 0) e2 ?_)
  show mx_WP (d + 1) 37 16 [some (mx_r (some (0, 2, x0)))] [] (hC u1.1 u1.2 h, μ) Q
  rw [← Option.some.inj hf] at hk
  refine mx_WP.ret (v := none) rfl ?_
  exact hk
def f32 (I : Nat → Nat → Nat → Int32) (J : Nat → Nat → Nat → Int64) : Option ((Nat → Nat → Nat → Int32) × (Nat → Nat → Nat → Int64)) :=
  (f37 0 (mx_u3 I 1 0 2 (0 : Int32)) J).bind fun u1 =>
  some (u1.1, u1.2)
theorem T32 {d : Nat} {I : Nat → Nat → Nat → Int32} {J : Nat → Nat → Nat → Int64} {h : Nat → Nat} {μ : mx_Rg × (Nat × (Nat → Int32)) × (Nat × Nat)} {Q : Option mx_V → mx_Hp → Prop} {o : (Nat → Nat → Nat → Int32) × (Nat → Nat → Nat → Int64)} (hf : f32 I J = some o) (hk : Q (none) (hC o.1 o.2 h, μ)) : mx_WP (d + 2) 32 0 (mx_ent 32 [mx_r (some (0, 1, 0))]) [] (hC I J h, μ) Q := by
  unfold f32 at hf
  refine mx_WP.go 5 (pc' := 9) (L' := [some (mx_r (some (0, 1, 0)))]) (st' := [mx_r (some (0, 2, 0))]) (σ' := (hC (mx_u3 I 1 0 2 (0 : Int32)) J h, μ)) rfl ?_
  obtain ⟨u1, e2, hf⟩ := Option.bind_eq_some_iff.mp hf
  refine mx_WP.call (d := d + 1) (y := 37) (as := [mx_r (some (0, 2, 0))]) (pc' := 12) (r := []) rfl rfl (T37 (d := d + 0) e2 ?_)
  show mx_WP (d + 2) 32 12 [some (mx_r (some (0, 1, 0)))] [] (hC u1.1 u1.2 h, μ) Q
  rw [← Option.some.inj hf] at hk
  refine mx_WP.ret (v := none) rfl ?_
  exact hk
def f10 (I : Nat → Nat → Nat → Int32) (J : Nat → Nat → Nat → Int64) : Option (Int32 × (Nat → Nat → Nat → Int32) × (Nat → Nat → Nat → Int64)) :=
  (f32 I J).bind fun u1 =>
  some (I 1 0 2, u1.1, u1.2)
theorem T10 {d : Nat} {I : Nat → Nat → Nat → Int32} {J : Nat → Nat → Nat → Int64} {h : Nat → Nat} {μ : mx_Rg × (Nat × (Nat → Int32)) × (Nat × Nat)} {Q : Option mx_V → mx_Hp → Prop} {o : Int32 × (Nat → Nat → Nat → Int32) × (Nat → Nat → Nat → Int64)} (hf : f10 I J = some o) (hk : Q (some (mx_i o.1)) (hC o.2.1 o.2.2 h, μ)) : mx_WP (d + 3) 10 0 (mx_ent 10 [mx_r (some (0, 0, 0))]) [] (hC I J h, μ) Q := by
  unfold f10 at hf
  refine mx_WP.go 6 (pc' := 12) (L' := [some (mx_r (some (0, 0, 0))), some (mx_i (I 1 0 2))]) (st' := [mx_r (some (0, 1, 0))]) (σ' := (hC I J h, μ)) rfl ?_
  obtain ⟨u1, e2, hf⟩ := Option.bind_eq_some_iff.mp hf
  refine mx_WP.call (d := d + 2) (y := 32) (as := [mx_r (some (0, 1, 0))]) (pc' := 15) (r := []) rfl rfl (T32 (d := d + 0) e2 ?_)
  show mx_WP (d + 3) 10 15 [some (mx_r (some (0, 0, 0))), some (mx_i (I 1 0 2))] [] (hC u1.1 u1.2 h, μ) Q
  refine mx_WP.go 1 (pc' := 16) (L' := [some (mx_r (some (0, 0, 0))), some (mx_i (I 1 0 2))]) (st' := [mx_i (I 1 0 2)]) (σ' := (hC u1.1 u1.2 h, μ)) rfl ?_
  rw [← Option.some.inj hf] at hk
  refine mx_WP.ret (v := some (mx_i (I 1 0 2))) rfl ?_
  exact hk
