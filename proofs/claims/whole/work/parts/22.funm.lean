def f118 (x0 : Int64) (x1 : Int32) : Option (Int32) :=
  some (((x0 >>> (((8 : Int32) * x1).toInt64 &&& 63)) &&& (255 : Int64)).toInt32)
theorem T118 {d : Nat} {x0 : Int64} {x1 : Int32} {σ : mx_Hp} {Q : Option mx_V → mx_Hp → Prop} {o : Int32} (hf : f118 x0 x1 = some o) (hk : Q (some (mx_i o)) σ) : mx_WP (d + 0) 118 0 (mx_ent 118 [mx_l x0, mx_i x1]) [] σ Q := by
  unfold f118 at hf
  refine mx_WP.go 8 (pc' := 11) (L' := [some (mx_l x0), none, some (mx_i x1)]) (st' := [mx_i (((x0 >>> (((8 : Int32) * x1).toInt64 &&& 63)) &&& (255 : Int64)).toInt32)]) (σ' := σ) rfl ?_
  rw [← Option.some.inj hf] at hk
  refine mx_WP.ret (v := some (mx_i (((x0 >>> (((8 : Int32) * x1).toInt64 &&& 63)) &&& (255 : Int64)).toInt32))) rfl ?_
  exact hk
def b117_2 (x1 : Int64) (I : Nat → Nat → Nat → Int32) (s : Int32) : Option ((Int32) ⊕ ((Int32) ⊕ (Int32 × (Nat → Nat → Nat → Int32)))) :=
  if (8 : Int32) ≤ s then (some (Sum.inr (Sum.inl s))) else (f118 x1 s).bind fun u102 =>
  if u102 ≤ (0 : Int32) then (some (Sum.inr (Sum.inl s))) else (f118 x1 s).bind fun u104 =>
  if u104 ≤ (127 : Int32) then (some (Sum.inl (s + 1))) else some (Sum.inr (Sum.inr ((-1 : Int32), I)))
theorem B117_2 {d : Nat} {x1 : Int64} {γ : mx_Rg} {I : Nat → Nat → Nat → Int32} {J : Nat → Nat → Nat → Int64} {κ : (Nat × (Nat → Int32)) × (Nat × Nat)} {Q : Option mx_V → mx_Hp → Prop} {s : Int32} {o : (Int32) ⊕ ((Int32) ⊕ (Int32 × (Nat → Nat → Nat → Int32)))} (hf : b117_2 x1 I s = some o) (hk : Sum.elim (fun s : Int32 => ∀ (z4 : Option mx_V), mx_WP (d + 1) 117 2 [some (mx_r (some (1, 11, 0))), some (mx_l x1), none, some (mx_i s), z4] [] (γ, hM I J, κ) Q) (Sum.elim (fun x : Int32 => ∀ (z4 : Option mx_V), mx_WP (d + 1) 117 34 [some (mx_r (some (1, 11, 0))), some (mx_l x1), none, some (mx_i x), z4] [] (γ, hM I J, κ) Q) (fun x : Int32 × (Nat → Nat → Nat → Int32) => Q (some (mx_i x.1)) (γ, hM x.2 J, κ))) o) : ∀ (z4 : Option mx_V), mx_WP (d + 1) 117 2 [some (mx_r (some (1, 11, 0))), some (mx_l x1), none, some (mx_i s), z4] [] (γ, hM I J, κ) Q := by
  intro z4
  unfold b117_2 at hf
  refine mx_WP.go 2 (pc' := 5) (L' := [some (mx_r (some (1, 11, 0))), some (mx_l x1), none, some (mx_i s), z4]) (st' := [mx_i (8 : Int32), mx_i s]) (σ' := (γ, hM I J, κ)) rfl ?_
  by_cases c101 : (8 : Int32) ≤ s
  · rw [if_pos c101] at hf
    refine mx_WP.bge (x := s) (y := (8 : Int32)) (q := 34) (p3 := 8) rfl (fun _ => ?_) (fun hh => absurd c101 hh)
    rw [← Option.some.inj hf] at hk
    exact hk (z4)
  · rw [if_neg c101] at hf
    refine mx_WP.bge (x := s) (y := (8 : Int32)) (q := 34) (p3 := 8) rfl (fun hh => absurd hh c101) (fun _ => ?_)
    refine mx_WP.go 2 (pc' := 10) (L' := [some (mx_r (some (1, 11, 0))), some (mx_l x1), none, some (mx_i s), z4]) (st' := [mx_i s, mx_l x1]) (σ' := (γ, hM I J, κ)) rfl ?_
    obtain ⟨u102, e107, hf⟩ := Option.bind_eq_some_iff.mp hf
    refine mx_WP.call (d := d + 0) (y := 118) (as := [mx_l x1, mx_i s]) (pc' := 13) (r := []) rfl rfl (T118 (d := d + 0)  e107 ?_)
    show mx_WP (d + 1) 117 13 [some (mx_r (some (1, 11, 0))), some (mx_l x1), none, some (mx_i s), z4] [mx_i u102] (γ, hM I J, κ) Q
    by_cases c103 : u102 ≤ (0 : Int32)
    · rw [if_pos c103] at hf
      refine mx_WP.ble (x := u102) (y := (0 : Int32)) (q := 34) (p3 := 16) rfl (fun _ => ?_) (fun hh => absurd c103 hh)
      rw [← Option.some.inj hf] at hk
      exact hk (z4)
    · rw [if_neg c103] at hf
      refine mx_WP.ble (x := u102) (y := (0 : Int32)) (q := 34) (p3 := 16) rfl (fun hh => absurd hh c103) (fun _ => ?_)
      refine mx_WP.go 2 (pc' := 18) (L' := [some (mx_r (some (1, 11, 0))), some (mx_l x1), none, some (mx_i s), z4]) (st' := [mx_i s, mx_l x1]) (σ' := (γ, hM I J, κ)) rfl ?_
      obtain ⟨u104, e106, hf⟩ := Option.bind_eq_some_iff.mp hf
      refine mx_WP.call (d := d + 0) (y := 118) (as := [mx_l x1, mx_i s]) (pc' := 21) (r := []) rfl rfl (T118 (d := d + 0)  e106 ?_)
      show mx_WP (d + 1) 117 21 [some (mx_r (some (1, 11, 0))), some (mx_l x1), none, some (mx_i s), z4] [mx_i u104] (γ, hM I J, κ) Q
      refine mx_WP.go 1 (pc' := 23) (L' := [some (mx_r (some (1, 11, 0))), some (mx_l x1), none, some (mx_i s), z4]) (st' := [mx_i (127 : Int32), mx_i u104]) (σ' := (γ, hM I J, κ)) rfl ?_
      by_cases c105 : u104 ≤ (127 : Int32)
      · rw [if_pos c105] at hf
        refine mx_WP.ble (x := u104) (y := (127 : Int32)) (q := 28) (p3 := 26) rfl (fun _ => ?_) (fun hh => absurd c105 hh)
        refine mx_WP.go 2 (pc' := 2) (L' := [some (mx_r (some (1, 11, 0))), some (mx_l x1), none, some (mx_i (s + 1)), z4]) (st' := []) (σ' := (γ, hM I J, κ)) rfl ?_
        rw [← Option.some.inj hf] at hk
        exact hk (z4)
      · rw [if_neg c105] at hf
        refine mx_WP.ble (x := u104) (y := (127 : Int32)) (q := 28) (p3 := 26) rfl (fun hh => absurd hh c105) (fun _ => ?_)
        refine mx_WP.go 1 (pc' := 27) (L' := [some (mx_r (some (1, 11, 0))), some (mx_l x1), none, some (mx_i s), z4]) (st' := [mx_i (-1 : Int32)]) (σ' := (γ, hM I J, κ)) rfl ?_
        rw [← Option.some.inj hf] at hk
        refine mx_WP.ret (v := some (mx_i (-1 : Int32))) rfl ?_
        exact hk
theorem L117_2 {d : Nat} {x1 : Int64} {γ : mx_Rg} {I : Nat → Nat → Nat → Int32} {J : Nat → Nat → Nat → Int64} {κ : (Nat × (Nat → Int32)) × (Nat × Nat)} {Q : Option mx_V → mx_Hp → Prop} {n : Nat} {s : Int32} {o : (Int32) ⊕ (Int32 × (Nat → Nat → Nat → Int32))} (hf : mx_lp (b117_2 x1 I) n s = some o) (hk : (Sum.elim (fun x : Int32 => ∀ (z4 : Option mx_V), mx_WP (d + 1) 117 34 [some (mx_r (some (1, 11, 0))), some (mx_l x1), none, some (mx_i x), z4] [] (γ, hM I J, κ) Q) (fun x : Int32 × (Nat → Nat → Nat → Int32) => Q (some (mx_i x.1)) (γ, hM x.2 J, κ))) o) : ∀ (z4 : Option mx_V), mx_WP (d + 1) 117 2 [some (mx_r (some (1, 11, 0))), some (mx_l x1), none, some (mx_i s), z4] [] (γ, hM I J, κ) Q := mx_lp_ok (P := fun s : Int32 => ∀ (z4 : Option mx_V), mx_WP (d + 1) 117 2 [some (mx_r (some (1, 11, 0))), some (mx_l x1), none, some (mx_i s), z4] [] (γ, hM I J, κ) Q) (E := (Sum.elim (fun x : Int32 => ∀ (z4 : Option mx_V), mx_WP (d + 1) 117 34 [some (mx_r (some (1, 11, 0))), some (mx_l x1), none, some (mx_i x), z4] [] (γ, hM I J, κ) Q) (fun x : Int32 × (Nat → Nat → Nat → Int32) => Q (some (mx_i x.1)) (γ, hM x.2 J, κ)))) (fun s o hf hk => B117_2 hf hk) n s o hf hk
def b117_58 (x1 : Int64) (x3 : Int32) (I : Nat → Nat → Nat → Int32) (s : Int32 × (Nat → Nat → Nat → Int32)) : Option ((Int32 × (Nat → Nat → Nat → Int32)) ⊕ (Int32 × (Nat → Nat → Nat → Int32))) :=
  if x3 ≤ s.1 then (some (Sum.inr (s.1, s.2))) else (f118 x1 s.1).bind fun u1214 =>
  if (s.2 11 0 10) < 0 ∨ 200 ≤ (s.2 11 0 10).toNatClampNeg then none else some (Sum.inl (s.1 + 1, (mx_u3 (mx_u3 s.2 11 0 10 ((s.2 11 0 10) + (1 : Int32))) 82 0 ((s.2 11 0 10).toNatClampNeg) u1214)))
theorem B117_58 {d : Nat} {x1 : Int64} {x3 : Int32} {γ : mx_Rg} {I : Nat → Nat → Nat → Int32} {J : Nat → Nat → Nat → Int64} {κ : (Nat × (Nat → Int32)) × (Nat × Nat)} {Q : Option mx_V → mx_Hp → Prop} {s : Int32 × (Nat → Nat → Nat → Int32)} {o : (Int32 × (Nat → Nat → Nat → Int32)) ⊕ (Int32 × (Nat → Nat → Nat → Int32))} (hf : b117_58 x1 x3 I s = some o) (hk : Sum.elim (fun s : Int32 × (Nat → Nat → Nat → Int32) => mx_WP (d + 1) 117 58 [some (mx_r (some (1, 11, 0))), some (mx_l x1), none, some (mx_i x3), some (mx_i s.1)] [] (γ, hM s.2 J, κ) Q) (fun x : Int32 × (Nat → Nat → Nat → Int32) => mx_WP (d + 1) 117 92 [some (mx_r (some (1, 11, 0))), some (mx_l x1), none, some (mx_i x3), some (mx_i x.1)] [] (γ, hM x.2 J, κ) Q) o) : mx_WP (d + 1) 117 58 [some (mx_r (some (1, 11, 0))), some (mx_l x1), none, some (mx_i x3), some (mx_i s.1)] [] (γ, hM s.2 J, κ) Q := by
  unfold b117_58 at hf
  refine mx_WP.go 2 (pc' := 61) (L' := [some (mx_r (some (1, 11, 0))), some (mx_l x1), none, some (mx_i x3), some (mx_i s.1)]) (st' := [mx_i x3, mx_i s.1]) (σ' := (γ, hM s.2 J, κ)) rfl ?_
  by_cases c1213 : x3 ≤ s.1
  · rw [if_pos c1213] at hf
    refine mx_WP.bge (x := s.1) (y := x3) (q := 92) (p3 := 64) rfl (fun _ => ?_) (fun hh => absurd c1213 hh)
    rw [← Option.some.inj hf] at hk
    exact hk
  · rw [if_neg c1213] at hf
    refine mx_WP.bge (x := s.1) (y := x3) (q := 92) (p3 := 64) rfl (fun hh => absurd hh c1213) (fun _ => ?_)
    refine mx_WP.go 11 (pc' := 82) (L' := [some (mx_r (some (1, 11, 0))), some (mx_l x1), none, some (mx_i x3), some (mx_i s.1)]) (st' := [mx_i s.1, mx_l x1, mx_i (s.2 11 0 10), mx_r (some (1, 82, 0))]) (σ' := (γ, hM (mx_u3 s.2 11 0 10 ((s.2 11 0 10) + (1 : Int32))) J, κ)) rfl ?_
    obtain ⟨u1214, e1216, hf⟩ := Option.bind_eq_some_iff.mp hf
    refine mx_WP.call (d := d + 0) (y := 118) (as := [mx_l x1, mx_i s.1]) (pc' := 85) (r := [mx_i (s.2 11 0 10), mx_r (some (1, 82, 0))]) rfl rfl (T118 (d := d + 0)  e1216 ?_)
    show mx_WP (d + 1) 117 85 [some (mx_r (some (1, 11, 0))), some (mx_l x1), none, some (mx_i x3), some (mx_i s.1)] [mx_i u1214, mx_i (s.2 11 0 10), mx_r (some (1, 82, 0))] (γ, hM (mx_u3 s.2 11 0 10 ((s.2 11 0 10) + (1 : Int32))) J, κ) Q
    by_cases c1215 : (s.2 11 0 10) < 0 ∨ 200 ≤ (s.2 11 0 10).toNatClampNeg
    · rw [if_pos c1215] at hf
      cases hf
    rw [if_neg c1215] at hf
    refine mx_WP.iastx c1215 ?_
    show mx_WP (d + 1) 117 86 [some (mx_r (some (1, 11, 0))), some (mx_l x1), none, some (mx_i x3), some (mx_i s.1)] [] (γ, hM (mx_u3 (mx_u3 s.2 11 0 10 ((s.2 11 0 10) + (1 : Int32))) 82 0 ((s.2 11 0 10).toNatClampNeg) u1214) J, κ) Q
    refine mx_WP.go 2 (pc' := 58) (L' := [some (mx_r (some (1, 11, 0))), some (mx_l x1), none, some (mx_i x3), some (mx_i (s.1 + 1))]) (st' := []) (σ' := (γ, hM (mx_u3 (mx_u3 s.2 11 0 10 ((s.2 11 0 10) + (1 : Int32))) 82 0 ((s.2 11 0 10).toNatClampNeg) u1214) J, κ)) rfl ?_
    rw [← Option.some.inj hf] at hk
    exact hk
theorem L117_58 {d : Nat} {x1 : Int64} {x3 : Int32} {γ : mx_Rg} {I : Nat → Nat → Nat → Int32} {J : Nat → Nat → Nat → Int64} {κ : (Nat × (Nat → Int32)) × (Nat × Nat)} {Q : Option mx_V → mx_Hp → Prop} {n : Nat} {s : Int32 × (Nat → Nat → Nat → Int32)} {o : Int32 × (Nat → Nat → Nat → Int32)} (hf : mx_lp (b117_58 x1 x3 I) n s = some o) (hk : (fun x : Int32 × (Nat → Nat → Nat → Int32) => mx_WP (d + 1) 117 92 [some (mx_r (some (1, 11, 0))), some (mx_l x1), none, some (mx_i x3), some (mx_i x.1)] [] (γ, hM x.2 J, κ) Q) o) : mx_WP (d + 1) 117 58 [some (mx_r (some (1, 11, 0))), some (mx_l x1), none, some (mx_i x3), some (mx_i s.1)] [] (γ, hM s.2 J, κ) Q := mx_lp_ok (P := fun s : Int32 × (Nat → Nat → Nat → Int32) => mx_WP (d + 1) 117 58 [some (mx_r (some (1, 11, 0))), some (mx_l x1), none, some (mx_i x3), some (mx_i s.1)] [] (γ, hM s.2 J, κ) Q) (E := (fun x : Int32 × (Nat → Nat → Nat → Int32) => mx_WP (d + 1) 117 92 [some (mx_r (some (1, 11, 0))), some (mx_l x1), none, some (mx_i x3), some (mx_i x.1)] [] (γ, hM x.2 J, κ) Q)) (fun s o hf hk => B117_58 hf hk) n s o hf hk
def j117_34 (v1 : Int64) (v3 : Int32) (I : Nat → Nat → Nat → Int32) : Option (Int32 × (Nat → Nat → Nat → Int32)) :=
  if v3 = (0 : Int32) then (some ((-1 : Int32), I)) else if ((I 11 0 10) + v3) ≤ (200 : Int32) then ((mx_lp (b117_58 v1 v3 I) mx_fu ((0 : Int32), I)).bind fun u1217 =>
  some (u1217.2 11 0 10, u1217.2)) else some ((-2 : Int32), I)
theorem J117_34 {d : Nat} {v1 : Int64} {v3 : Int32} {z4 : Option mx_V} {γ : mx_Rg} {I : Nat → Nat → Nat → Int32} {J : Nat → Nat → Nat → Int64} {κ : (Nat × (Nat → Int32)) × (Nat × Nat)} {Q : Option mx_V → mx_Hp → Prop} {o : Int32 × (Nat → Nat → Nat → Int32)} (hf : j117_34 v1 v3 I = some o) (hk : Q (some (mx_i o.1)) (γ, hM o.2 J, κ)) : mx_WP (d + 1) 117 34 [some (mx_r (some (1, 11, 0))), some (mx_l v1), none, some (mx_i v3), z4] [] (γ, hM I J, κ) Q := by
  unfold j117_34 at hf
  refine mx_WP.go 1 (pc' := 35) (L' := [some (mx_r (some (1, 11, 0))), some (mx_l v1), none, some (mx_i v3), z4]) (st' := [mx_i v3]) (σ' := (γ, hM I J, κ)) rfl ?_
  by_cases c1111 : v3 = (0 : Int32)
  · rw [if_pos c1111] at hf
    refine mx_WP.bne (x := v3) (y := (0 : Int32)) (q := 40) (p3 := 38) rfl (fun hh => absurd c1111 hh) (fun _ => ?_)
    refine mx_WP.go 1 (pc' := 39) (L' := [some (mx_r (some (1, 11, 0))), some (mx_l v1), none, some (mx_i v3), z4]) (st' := [mx_i (-1 : Int32)]) (σ' := (γ, hM I J, κ)) rfl ?_
    rw [← Option.some.inj hf] at hk
    refine mx_WP.ret (v := some (mx_i (-1 : Int32))) rfl ?_
    exact hk
  · rw [if_neg c1111] at hf
    refine mx_WP.bne (x := v3) (y := (0 : Int32)) (q := 40) (p3 := 38) rfl (fun _ => ?_) (fun hh => absurd c1111 hh)
    refine mx_WP.go 5 (pc' := 49) (L' := [some (mx_r (some (1, 11, 0))), some (mx_l v1), none, some (mx_i v3), z4]) (st' := [mx_i (200 : Int32), mx_i ((I 11 0 10) + v3)]) (σ' := (γ, hM I J, κ)) rfl ?_
    by_cases c1112 : ((I 11 0 10) + v3) ≤ (200 : Int32)
    · rw [if_pos c1112] at hf
      refine mx_WP.ble (x := ((I 11 0 10) + v3)) (y := (200 : Int32)) (q := 55) (p3 := 52) rfl (fun _ => ?_) (fun hh => absurd c1112 hh)
      refine mx_WP.go 2 (pc' := 58) (L' := [some (mx_r (some (1, 11, 0))), some (mx_l v1), none, some (mx_i v3), some (mx_i (0 : Int32))]) (st' := []) (σ' := (γ, hM I J, κ)) rfl ?_
      obtain ⟨u1217, e1218, hf⟩ := Option.bind_eq_some_iff.mp hf
      refine L117_58 (d := d) e1218 ?_
      show mx_WP (d + 1) 117 92 [some (mx_r (some (1, 11, 0))), some (mx_l v1), none, some (mx_i v3), some (mx_i u1217.1)] [] (γ, hM u1217.2 J, κ) Q
      refine mx_WP.go 2 (pc' := 96) (L' := [some (mx_r (some (1, 11, 0))), some (mx_l v1), none, some (mx_i v3), some (mx_i u1217.1)]) (st' := [mx_i (u1217.2 11 0 10)]) (σ' := (γ, hM u1217.2 J, κ)) rfl ?_
      rw [← Option.some.inj hf] at hk
      refine mx_WP.ret (v := some (mx_i (u1217.2 11 0 10))) rfl ?_
      exact hk
    · rw [if_neg c1112] at hf
      refine mx_WP.ble (x := ((I 11 0 10) + v3)) (y := (200 : Int32)) (q := 55) (p3 := 52) rfl (fun hh => absurd hh c1112) (fun _ => ?_)
      refine mx_WP.go 1 (pc' := 54) (L' := [some (mx_r (some (1, 11, 0))), some (mx_l v1), none, some (mx_i v3), z4]) (st' := [mx_i (-2 : Int32)]) (σ' := (γ, hM I J, κ)) rfl ?_
      rw [← Option.some.inj hf] at hk
      refine mx_WP.ret (v := some (mx_i (-2 : Int32))) rfl ?_
      exact hk
def f117 (x1 : Int64) (I : Nat → Nat → Nat → Int32) : Option (Int32 × (Nat → Nat → Nat → Int32)) :=
  (mx_lp (b117_2 x1 I) mx_fu (0 : Int32)).bind fun u108 => Sum.elim (fun w110 =>
  j117_34 x1 w110 I) (fun y1219 => some y1219) u108
theorem T117 {d : Nat} {x1 : Int64} {γ : mx_Rg} {I : Nat → Nat → Nat → Int32} {J : Nat → Nat → Nat → Int64} {κ : (Nat × (Nat → Int32)) × (Nat × Nat)} {Q : Option mx_V → mx_Hp → Prop} {o : Int32 × (Nat → Nat → Nat → Int32)} (hf : f117 x1 I = some o) (hk : Q (some (mx_i o.1)) (γ, hM o.2 J, κ)) : mx_WP (d + 1) 117 0 (mx_ent 117 [mx_r (some (1, 11, 0)), mx_l x1]) [] (γ, hM I J, κ) Q := by
  unfold f117 at hf
  refine mx_WP.go 2 (pc' := 2) (L' := [some (mx_r (some (1, 11, 0))), some (mx_l x1), none, some (mx_i (0 : Int32)), none]) (st' := []) (σ' := (γ, hM I J, κ)) rfl ?_
  obtain ⟨u108, e109, hf⟩ := Option.bind_eq_some_iff.mp hf
  cases u108 with
  | inr y1219 =>
    rw [Sum.elim_inr] at hf
    rw [← Option.some.inj hf] at hk
    exact (L117_2 (d := d) e109 hk) (none)
  | inl w110 =>
    rw [Sum.elim_inl] at hf
    refine (L117_2 (d := d) e109 ?_) (none)
    intro z4
    show mx_WP (d + 1) 117 34 [some (mx_r (some (1, 11, 0))), some (mx_l x1), none, some (mx_i w110), z4] [] (γ, hM I J, κ) Q
    exact J117_34 (d := d) hf hk
def f120 (x0 : Int32) (x1 : Int32) (x2 : Int32) : Option (Bool) :=
  if x0 < x1 then (some false) else if x2 < x0 then (some false) else some true
theorem T120 {d : Nat} {x0 : Int32} {x1 : Int32} {x2 : Int32} {σ : mx_Hp} {Q : Option mx_V → mx_Hp → Prop} {o : Bool} (hf : f120 x0 x1 x2 = some o) (hk : Q (some (mx_i (b2i o))) σ) : mx_WP (d + 0) 120 0 (mx_ent 120 [mx_i x0, mx_i x1, mx_i x2]) [] σ Q := by
  unfold f120 at hf
  refine mx_WP.go 2 (pc' := 2) (L' := [some (mx_i x0), some (mx_i x1), some (mx_i x2)]) (st' := [mx_i x1, mx_i x0]) (σ' := σ) rfl ?_
  by_cases c1 : x0 < x1
  · rw [if_pos c1] at hf
    refine mx_WP.blt (x := x0) (y := x1) (q := 14) (p3 := 5) rfl (fun _ => ?_) (fun hh => absurd c1 hh)
    refine mx_WP.go 1 (pc' := 15) (L' := [some (mx_i x0), some (mx_i x1), some (mx_i x2)]) (st' := [mx_i (0 : Int32)]) (σ' := σ) rfl ?_
    rw [← Option.some.inj hf] at hk
    refine mx_WP.ret (v := some (mx_i (0 : Int32))) rfl ?_
    exact hk
  · rw [if_neg c1] at hf
    refine mx_WP.blt (x := x0) (y := x1) (q := 14) (p3 := 5) rfl (fun hh => absurd hh c1) (fun _ => ?_)
    refine mx_WP.go 2 (pc' := 7) (L' := [some (mx_i x0), some (mx_i x1), some (mx_i x2)]) (st' := [mx_i x2, mx_i x0]) (σ' := σ) rfl ?_
    by_cases c2 : x2 < x0
    · rw [if_pos c2] at hf
      refine mx_WP.bgt (x := x0) (y := x2) (q := 14) (p3 := 10) rfl (fun _ => ?_) (fun hh => absurd c2 hh)
      refine mx_WP.go 1 (pc' := 15) (L' := [some (mx_i x0), some (mx_i x1), some (mx_i x2)]) (st' := [mx_i (0 : Int32)]) (σ' := σ) rfl ?_
      rw [← Option.some.inj hf] at hk
      refine mx_WP.ret (v := some (mx_i (0 : Int32))) rfl ?_
      exact hk
    · rw [if_neg c2] at hf
      refine mx_WP.bgt (x := x0) (y := x2) (q := 14) (p3 := 10) rfl (fun hh => absurd hh c2) (fun _ => ?_)
      refine mx_WP.go 2 (pc' := 15) (L' := [some (mx_i x0), some (mx_i x1), some (mx_i x2)]) (st' := [mx_i (1 : Int32)]) (σ' := σ) rfl ?_
      rw [← Option.some.inj hf] at hk
      refine mx_WP.ret (v := some (mx_i (1 : Int32))) rfl ?_
      exact hk
def f119 (x1 : Int32) (x2 : Int32) (x3 : Int32) (I : Nat → Nat → Nat → Int32) : Option (Int32 × (Nat → Nat → Nat → Int32)) :=
  (f120 x1 (0 : Int32) (7 : Int32)).bind fun u1 =>
  if u1 = true then ((f120 x2 (0 : Int32) (255 : Int32)).bind fun u3 =>
  if u3 = true then ((f120 x3 x2 (255 : Int32)).bind fun u5 =>
  if u5 = true then (if (I 83 0 8) = (3 : Int32) then (some ((-2 : Int32), I)) else if ((24 : Int32) + (I 83 0 8)) < 0 ∨ 27 ≤ ((24 : Int32) + (I 83 0 8)).toNatClampNeg then none else if ((24 : Int32) + (I 83 0 8)) < 0 ∨ 27 ≤ ((24 : Int32) + (I 83 0 8)).toNatClampNeg then none else if ((24 : Int32) + (I 83 0 8)) < 0 ∨ 27 ≤ ((24 : Int32) + (I 83 0 8)).toNatClampNeg then none else some ((mx_u3 I 83 0 8 ((I 83 0 8) + (1 : Int32))) 83 0 8, (mx_u3 (mx_u3 (mx_u3 (mx_u3 I 83 0 8 ((I 83 0 8) + (1 : Int32))) 84 0 (((24 : Int32) + (I 83 0 8)).toNatClampNeg) x1) 85 0 (((24 : Int32) + (I 83 0 8)).toNatClampNeg) x2) 86 0 (((24 : Int32) + (I 83 0 8)).toNatClampNeg) x3))) else some ((-1 : Int32), I)) else some ((-1 : Int32), I)) else some ((-1 : Int32), I)
theorem T119 {d : Nat} {x1 : Int32} {x2 : Int32} {x3 : Int32} {γ : mx_Rg} {I : Nat → Nat → Nat → Int32} {J : Nat → Nat → Nat → Int64} {κ : (Nat × (Nat → Int32)) × (Nat × Nat)} {Q : Option mx_V → mx_Hp → Prop} {o : Int32 × (Nat → Nat → Nat → Int32)} (hf : f119 x1 x2 x3 I = some o) (hk : Q (some (mx_i o.1)) (γ, hM o.2 J, κ)) : mx_WP (d + 1) 119 0 (mx_ent 119 [mx_r (some (1, 11, 0)), mx_i x1, mx_i x2, mx_i x3]) [] (γ, hM I J, κ) Q := by
  unfold f119 at hf
  refine mx_WP.go 3 (pc' := 4) (L' := [some (mx_r (some (1, 11, 0))), some (mx_i x1), some (mx_i x2), some (mx_i x3), none]) (st' := [mx_i (7 : Int32), mx_i (0 : Int32), mx_i x1]) (σ' := (γ, hM I J, κ)) rfl ?_
  obtain ⟨u1, e17, hf⟩ := Option.bind_eq_some_iff.mp hf
  refine mx_WP.call (d := d + 0) (y := 120) (as := [mx_i x1, mx_i (0 : Int32), mx_i (7 : Int32)]) (pc' := 7) (r := []) rfl rfl (T120 (d := d + 0)  e17 ?_)
  show mx_WP (d + 1) 119 7 [some (mx_r (some (1, 11, 0))), some (mx_i x1), some (mx_i x2), some (mx_i x3), none] [mx_i (b2i u1)] (γ, hM I J, κ) Q
  by_cases c2 : u1 = true
  · rw [if_pos c2] at hf
    refine mx_WP.zeq (b := u1) (q := 32) (p3 := 10) rfl (fun hh => absurd hh (by simp [c2])) (fun _ => ?_)
    refine mx_WP.go 3 (pc' := 15) (L' := [some (mx_r (some (1, 11, 0))), some (mx_i x1), some (mx_i x2), some (mx_i x3), none]) (st' := [mx_i (255 : Int32), mx_i (0 : Int32), mx_i x2]) (σ' := (γ, hM I J, κ)) rfl ?_
    obtain ⟨u3, e16, hf⟩ := Option.bind_eq_some_iff.mp hf
    refine mx_WP.call (d := d + 0) (y := 120) (as := [mx_i x2, mx_i (0 : Int32), mx_i (255 : Int32)]) (pc' := 18) (r := []) rfl rfl (T120 (d := d + 0)  e16 ?_)
    show mx_WP (d + 1) 119 18 [some (mx_r (some (1, 11, 0))), some (mx_i x1), some (mx_i x2), some (mx_i x3), none] [mx_i (b2i u3)] (γ, hM I J, κ) Q
    by_cases c4 : u3 = true
    · rw [if_pos c4] at hf
      refine mx_WP.zeq (b := u3) (q := 32) (p3 := 21) rfl (fun hh => absurd hh (by simp [c4])) (fun _ => ?_)
      refine mx_WP.go 3 (pc' := 26) (L' := [some (mx_r (some (1, 11, 0))), some (mx_i x1), some (mx_i x2), some (mx_i x3), none]) (st' := [mx_i (255 : Int32), mx_i x2, mx_i x3]) (σ' := (γ, hM I J, κ)) rfl ?_
      obtain ⟨u5, e15, hf⟩ := Option.bind_eq_some_iff.mp hf
      refine mx_WP.call (d := d + 0) (y := 120) (as := [mx_i x3, mx_i x2, mx_i (255 : Int32)]) (pc' := 29) (r := []) rfl rfl (T120 (d := d + 0)  e15 ?_)
      show mx_WP (d + 1) 119 29 [some (mx_r (some (1, 11, 0))), some (mx_i x1), some (mx_i x2), some (mx_i x3), none] [mx_i (b2i u5)] (γ, hM I J, κ) Q
      by_cases c6 : u5 = true
      · rw [if_pos c6] at hf
        refine mx_WP.zne (b := u5) (q := 34) (p3 := 32) rfl (fun _ => ?_) (fun hh => absurd hh (by simp [c6]))
        refine mx_WP.go 3 (pc' := 40) (L' := [some (mx_r (some (1, 11, 0))), some (mx_i x1), some (mx_i x2), some (mx_i x3), none]) (st' := [mx_i (8 : Int32), mx_r (some (1, 83, 0))]) (σ' := (γ, hM I J, κ)) rfl ?_
        refine mx_WP.ialdx (show ¬ ((8 : Int32) < 0 ∨ 9 ≤ (8 : Int32).toNatClampNeg) by decide) ?_
        show mx_WP (d + 1) 119 41 [some (mx_r (some (1, 11, 0))), some (mx_i x1), some (mx_i x2), some (mx_i x3), none] [mx_i (I 83 0 8)] (γ, hM I J, κ) Q
        refine mx_WP.go 1 (pc' := 42) (L' := [some (mx_r (some (1, 11, 0))), some (mx_i x1), some (mx_i x2), some (mx_i x3), none]) (st' := [mx_i (3 : Int32), mx_i (I 83 0 8)]) (σ' := (γ, hM I J, κ)) rfl ?_
        by_cases c8 : (I 83 0 8) = (3 : Int32)
        · rw [if_pos c8] at hf
          refine mx_WP.bne (x := (I 83 0 8)) (y := (3 : Int32)) (q := 48) (p3 := 45) rfl (fun hh => absurd c8 hh) (fun _ => ?_)
          refine mx_WP.go 1 (pc' := 47) (L' := [some (mx_r (some (1, 11, 0))), some (mx_i x1), some (mx_i x2), some (mx_i x3), none]) (st' := [mx_i (-2 : Int32)]) (σ' := (γ, hM I J, κ)) rfl ?_
          rw [← Option.some.inj hf] at hk
          refine mx_WP.ret (v := some (mx_i (-2 : Int32))) rfl ?_
          exact hk
        · rw [if_neg c8] at hf
          refine mx_WP.bne (x := (I 83 0 8)) (y := (3 : Int32)) (q := 48) (p3 := 45) rfl (fun _ => ?_) (fun hh => absurd c8 hh)
          refine mx_WP.go 5 (pc' := 57) (L' := [some (mx_r (some (1, 11, 0))), some (mx_i x1), some (mx_i x2), some (mx_i x3), none]) (st' := [mx_i (8 : Int32), mx_r (some (1, 83, 0)), mx_i (8 : Int32), mx_r (some (1, 83, 0)), mx_i (24 : Int32)]) (σ' := (γ, hM I J, κ)) rfl ?_
          refine mx_WP.ialdx (show ¬ ((8 : Int32) < 0 ∨ 9 ≤ (8 : Int32).toNatClampNeg) by decide) ?_
          show mx_WP (d + 1) 119 58 [some (mx_r (some (1, 11, 0))), some (mx_i x1), some (mx_i x2), some (mx_i x3), none] [mx_i (I 83 0 8), mx_i (8 : Int32), mx_r (some (1, 83, 0)), mx_i (24 : Int32)] (γ, hM I J, κ) Q
          refine mx_WP.go 3 (pc' := 61) (L' := [some (mx_r (some (1, 11, 0))), some (mx_i x1), some (mx_i x2), some (mx_i x3), none]) (st' := [mx_i ((I 83 0 8) + (1 : Int32)), mx_i (8 : Int32), mx_r (some (1, 83, 0)), mx_i (I 83 0 8), mx_i (24 : Int32)]) (σ' := (γ, hM I J, κ)) rfl ?_
          refine mx_WP.iastx (show ¬ ((8 : Int32) < 0 ∨ 9 ≤ (8 : Int32).toNatClampNeg) by decide) ?_
          show mx_WP (d + 1) 119 62 [some (mx_r (some (1, 11, 0))), some (mx_i x1), some (mx_i x2), some (mx_i x3), none] [mx_i (I 83 0 8), mx_i (24 : Int32)] (γ, hM (mx_u3 I 83 0 8 ((I 83 0 8) + (1 : Int32))) J, κ) Q
          refine mx_WP.go 6 (pc' := 72) (L' := [some (mx_r (some (1, 11, 0))), some (mx_i x1), some (mx_i x2), some (mx_i x3), some (mx_i ((24 : Int32) + (I 83 0 8)))]) (st' := [mx_i x1, mx_i ((24 : Int32) + (I 83 0 8)), mx_r (some (1, 84, 0))]) (σ' := (γ, hM (mx_u3 I 83 0 8 ((I 83 0 8) + (1 : Int32))) J, κ)) rfl ?_
          by_cases c11 : ((24 : Int32) + (I 83 0 8)) < 0 ∨ 27 ≤ ((24 : Int32) + (I 83 0 8)).toNatClampNeg
          · rw [if_pos c11] at hf
            cases hf
          rw [if_neg c11] at hf
          refine mx_WP.iastx c11 ?_
          show mx_WP (d + 1) 119 73 [some (mx_r (some (1, 11, 0))), some (mx_i x1), some (mx_i x2), some (mx_i x3), some (mx_i ((24 : Int32) + (I 83 0 8)))] [] (γ, hM (mx_u3 (mx_u3 I 83 0 8 ((I 83 0 8) + (1 : Int32))) 84 0 (((24 : Int32) + (I 83 0 8)).toNatClampNeg) x1) J, κ) Q
          refine mx_WP.go 4 (pc' := 80) (L' := [some (mx_r (some (1, 11, 0))), some (mx_i x1), some (mx_i x2), some (mx_i x3), some (mx_i ((24 : Int32) + (I 83 0 8)))]) (st' := [mx_i x2, mx_i ((24 : Int32) + (I 83 0 8)), mx_r (some (1, 85, 0))]) (σ' := (γ, hM (mx_u3 (mx_u3 I 83 0 8 ((I 83 0 8) + (1 : Int32))) 84 0 (((24 : Int32) + (I 83 0 8)).toNatClampNeg) x1) J, κ)) rfl ?_
          by_cases c12 : ((24 : Int32) + (I 83 0 8)) < 0 ∨ 27 ≤ ((24 : Int32) + (I 83 0 8)).toNatClampNeg
          · rw [if_pos c12] at hf
            cases hf
          rw [if_neg c12] at hf
          refine mx_WP.iastx c12 ?_
          show mx_WP (d + 1) 119 81 [some (mx_r (some (1, 11, 0))), some (mx_i x1), some (mx_i x2), some (mx_i x3), some (mx_i ((24 : Int32) + (I 83 0 8)))] [] (γ, hM (mx_u3 (mx_u3 (mx_u3 I 83 0 8 ((I 83 0 8) + (1 : Int32))) 84 0 (((24 : Int32) + (I 83 0 8)).toNatClampNeg) x1) 85 0 (((24 : Int32) + (I 83 0 8)).toNatClampNeg) x2) J, κ) Q
          refine mx_WP.go 4 (pc' := 88) (L' := [some (mx_r (some (1, 11, 0))), some (mx_i x1), some (mx_i x2), some (mx_i x3), some (mx_i ((24 : Int32) + (I 83 0 8)))]) (st' := [mx_i x3, mx_i ((24 : Int32) + (I 83 0 8)), mx_r (some (1, 86, 0))]) (σ' := (γ, hM (mx_u3 (mx_u3 (mx_u3 I 83 0 8 ((I 83 0 8) + (1 : Int32))) 84 0 (((24 : Int32) + (I 83 0 8)).toNatClampNeg) x1) 85 0 (((24 : Int32) + (I 83 0 8)).toNatClampNeg) x2) J, κ)) rfl ?_
          by_cases c13 : ((24 : Int32) + (I 83 0 8)) < 0 ∨ 27 ≤ ((24 : Int32) + (I 83 0 8)).toNatClampNeg
          · rw [if_pos c13] at hf
            cases hf
          rw [if_neg c13] at hf
          refine mx_WP.iastx c13 ?_
          show mx_WP (d + 1) 119 89 [some (mx_r (some (1, 11, 0))), some (mx_i x1), some (mx_i x2), some (mx_i x3), some (mx_i ((24 : Int32) + (I 83 0 8)))] [] (γ, hM (mx_u3 (mx_u3 (mx_u3 (mx_u3 I 83 0 8 ((I 83 0 8) + (1 : Int32))) 84 0 (((24 : Int32) + (I 83 0 8)).toNatClampNeg) x1) 85 0 (((24 : Int32) + (I 83 0 8)).toNatClampNeg) x2) 86 0 (((24 : Int32) + (I 83 0 8)).toNatClampNeg) x3) J, κ) Q
          refine mx_WP.go 3 (pc' := 95) (L' := [some (mx_r (some (1, 11, 0))), some (mx_i x1), some (mx_i x2), some (mx_i x3), some (mx_i ((24 : Int32) + (I 83 0 8)))]) (st' := [mx_i (8 : Int32), mx_r (some (1, 83, 0))]) (σ' := (γ, hM (mx_u3 (mx_u3 (mx_u3 (mx_u3 I 83 0 8 ((I 83 0 8) + (1 : Int32))) 84 0 (((24 : Int32) + (I 83 0 8)).toNatClampNeg) x1) 85 0 (((24 : Int32) + (I 83 0 8)).toNatClampNeg) x2) 86 0 (((24 : Int32) + (I 83 0 8)).toNatClampNeg) x3) J, κ)) rfl ?_
          refine mx_WP.ialdx (show ¬ ((8 : Int32) < 0 ∨ 9 ≤ (8 : Int32).toNatClampNeg) by decide) ?_
          show mx_WP (d + 1) 119 96 [some (mx_r (some (1, 11, 0))), some (mx_i x1), some (mx_i x2), some (mx_i x3), some (mx_i ((24 : Int32) + (I 83 0 8)))] [mx_i ((mx_u3 I 83 0 8 ((I 83 0 8) + (1 : Int32))) 83 0 8)] (γ, hM (mx_u3 (mx_u3 (mx_u3 (mx_u3 I 83 0 8 ((I 83 0 8) + (1 : Int32))) 84 0 (((24 : Int32) + (I 83 0 8)).toNatClampNeg) x1) 85 0 (((24 : Int32) + (I 83 0 8)).toNatClampNeg) x2) 86 0 (((24 : Int32) + (I 83 0 8)).toNatClampNeg) x3) J, κ) Q
          rw [← Option.some.inj hf] at hk
          refine mx_WP.ret (v := some (mx_i ((mx_u3 I 83 0 8 ((I 83 0 8) + (1 : Int32))) 83 0 8))) rfl ?_
          exact hk
      · rw [if_neg c6] at hf
        refine mx_WP.zne (b := u5) (q := 34) (p3 := 32) rfl (fun hh => absurd hh (by simp [c6])) (fun _ => ?_)
        refine mx_WP.go 1 (pc' := 33) (L' := [some (mx_r (some (1, 11, 0))), some (mx_i x1), some (mx_i x2), some (mx_i x3), none]) (st' := [mx_i (-1 : Int32)]) (σ' := (γ, hM I J, κ)) rfl ?_
        rw [← Option.some.inj hf] at hk
        refine mx_WP.ret (v := some (mx_i (-1 : Int32))) rfl ?_
        exact hk
    · rw [if_neg c4] at hf
      refine mx_WP.zeq (b := u3) (q := 32) (p3 := 21) rfl (fun _ => ?_) (fun hh => absurd hh (by simp [c4]))
      refine mx_WP.go 1 (pc' := 33) (L' := [some (mx_r (some (1, 11, 0))), some (mx_i x1), some (mx_i x2), some (mx_i x3), none]) (st' := [mx_i (-1 : Int32)]) (σ' := (γ, hM I J, κ)) rfl ?_
      rw [← Option.some.inj hf] at hk
      refine mx_WP.ret (v := some (mx_i (-1 : Int32))) rfl ?_
      exact hk
  · rw [if_neg c2] at hf
    refine mx_WP.zeq (b := u1) (q := 32) (p3 := 10) rfl (fun _ => ?_) (fun hh => absurd hh (by simp [c2]))
    refine mx_WP.go 1 (pc' := 33) (L' := [some (mx_r (some (1, 11, 0))), some (mx_i x1), some (mx_i x2), some (mx_i x3), none]) (st' := [mx_i (-1 : Int32)]) (σ' := (γ, hM I J, κ)) rfl ?_
    rw [← Option.some.inj hf] at hk
    refine mx_WP.ret (v := some (mx_i (-1 : Int32))) rfl ?_
    exact hk
def f123 (x0 : Int32) : Option (Bool) :=
  (f120 x0 (97 : Int32) (122 : Int32)).bind fun u1 =>
  if u1 = true then (some true) else (f120 x0 (48 : Int32) (57 : Int32)).bind fun u3 =>
  if u3 = true then (some true) else if x0 = (46 : Int32) then (some true) else some false
theorem T123 {d : Nat} {x0 : Int32} {σ : mx_Hp} {Q : Option mx_V → mx_Hp → Prop} {o : Bool} (hf : f123 x0 = some o) (hk : Q (some (mx_i (b2i o))) σ) : mx_WP (d + 1) 123 0 (mx_ent 123 [mx_i x0]) [] σ Q := by
  unfold f123 at hf
  refine mx_WP.go 3 (pc' := 5) (L' := [some (mx_i x0)]) (st' := [mx_i (122 : Int32), mx_i (97 : Int32), mx_i x0]) (σ' := σ) rfl ?_
  obtain ⟨u1, e7, hf⟩ := Option.bind_eq_some_iff.mp hf
  refine mx_WP.call (d := d + 0) (y := 120) (as := [mx_i x0, mx_i (97 : Int32), mx_i (122 : Int32)]) (pc' := 8) (r := []) rfl rfl (T120 (d := d + 0)  e7 ?_)
  show mx_WP (d + 1) 123 8 [some (mx_i x0)] [mx_i (b2i u1)] σ Q
  by_cases c2 : u1 = true
  · rw [if_pos c2] at hf
    refine mx_WP.zne (b := u1) (q := 28) (p3 := 11) rfl (fun _ => ?_) (fun hh => absurd hh (by simp [c2]))
    refine mx_WP.go 2 (pc' := 33) (L' := [some (mx_i x0)]) (st' := [mx_i (1 : Int32)]) (σ' := σ) rfl ?_
    rw [← Option.some.inj hf] at hk
    refine mx_WP.ret (v := some (mx_i (1 : Int32))) rfl ?_
    exact hk
  · rw [if_neg c2] at hf
    refine mx_WP.zne (b := u1) (q := 28) (p3 := 11) rfl (fun hh => absurd hh (by simp [c2])) (fun _ => ?_)
    refine mx_WP.go 3 (pc' := 16) (L' := [some (mx_i x0)]) (st' := [mx_i (57 : Int32), mx_i (48 : Int32), mx_i x0]) (σ' := σ) rfl ?_
    obtain ⟨u3, e6, hf⟩ := Option.bind_eq_some_iff.mp hf
    refine mx_WP.call (d := d + 0) (y := 120) (as := [mx_i x0, mx_i (48 : Int32), mx_i (57 : Int32)]) (pc' := 19) (r := []) rfl rfl (T120 (d := d + 0)  e6 ?_)
    show mx_WP (d + 1) 123 19 [some (mx_i x0)] [mx_i (b2i u3)] σ Q
    by_cases c4 : u3 = true
    · rw [if_pos c4] at hf
      refine mx_WP.zne (b := u3) (q := 28) (p3 := 22) rfl (fun _ => ?_) (fun hh => absurd hh (by simp [c4]))
      refine mx_WP.go 2 (pc' := 33) (L' := [some (mx_i x0)]) (st' := [mx_i (1 : Int32)]) (σ' := σ) rfl ?_
      rw [← Option.some.inj hf] at hk
      refine mx_WP.ret (v := some (mx_i (1 : Int32))) rfl ?_
      exact hk
    · rw [if_neg c4] at hf
      refine mx_WP.zne (b := u3) (q := 28) (p3 := 22) rfl (fun hh => absurd hh (by simp [c4])) (fun _ => ?_)
      refine mx_WP.go 2 (pc' := 25) (L' := [some (mx_i x0)]) (st' := [mx_i (46 : Int32), mx_i x0]) (σ' := σ) rfl ?_
      by_cases c5 : x0 = (46 : Int32)
      · rw [if_pos c5] at hf
        refine mx_WP.bne (x := x0) (y := (46 : Int32)) (q := 32) (p3 := 28) rfl (fun hh => absurd c5 hh) (fun _ => ?_)
        refine mx_WP.go 2 (pc' := 33) (L' := [some (mx_i x0)]) (st' := [mx_i (1 : Int32)]) (σ' := σ) rfl ?_
        rw [← Option.some.inj hf] at hk
        refine mx_WP.ret (v := some (mx_i (1 : Int32))) rfl ?_
        exact hk
      · rw [if_neg c5] at hf
        refine mx_WP.bne (x := x0) (y := (46 : Int32)) (q := 32) (p3 := 28) rfl (fun _ => ?_) (fun hh => absurd c5 hh)
        refine mx_WP.go 1 (pc' := 33) (L' := [some (mx_i x0)]) (st' := [mx_i (0 : Int32)]) (σ' := σ) rfl ?_
        rw [← Option.some.inj hf] at hk
        refine mx_WP.ret (v := some (mx_i (0 : Int32))) rfl ?_
        exact hk
def b122_2 (x0 : Int64)  (s : Int32) : Option ((Int32) ⊕ (Int32)) :=
  if (8 : Int32) ≤ s then (some (Sum.inr s)) else (f118 x0 s).bind fun u102 =>
  (f123 u102).bind fun u103 =>
  if u103 = true then (some (Sum.inl (s + 1))) else some (Sum.inr s)
theorem B122_2 {d : Nat} {x0 : Int64} {σ : mx_Hp} {Q : Option mx_V → mx_Hp → Prop} {s : Int32} {o : (Int32) ⊕ (Int32)} (hf : b122_2 x0 s = some o) (hk : Sum.elim (fun s : Int32 => mx_WP (d + 2) 122 2 [some (mx_l x0), none, some (mx_i s)] [] σ Q) (fun x : Int32 => mx_WP (d + 2) 122 25 [some (mx_l x0), none, some (mx_i x)] [] σ Q) o) : mx_WP (d + 2) 122 2 [some (mx_l x0), none, some (mx_i s)] [] σ Q := by
  unfold b122_2 at hf
  refine mx_WP.go 2 (pc' := 5) (L' := [some (mx_l x0), none, some (mx_i s)]) (st' := [mx_i (8 : Int32), mx_i s]) (σ' := σ) rfl ?_
  by_cases c101 : (8 : Int32) ≤ s
  · rw [if_pos c101] at hf
    refine mx_WP.bge (x := s) (y := (8 : Int32)) (q := 25) (p3 := 8) rfl (fun _ => ?_) (fun hh => absurd c101 hh)
    rw [← Option.some.inj hf] at hk
    exact hk
  · rw [if_neg c101] at hf
    refine mx_WP.bge (x := s) (y := (8 : Int32)) (q := 25) (p3 := 8) rfl (fun hh => absurd hh c101) (fun _ => ?_)
    refine mx_WP.go 2 (pc' := 10) (L' := [some (mx_l x0), none, some (mx_i s)]) (st' := [mx_i s, mx_l x0]) (σ' := σ) rfl ?_
    obtain ⟨u102, e106, hf⟩ := Option.bind_eq_some_iff.mp hf
    refine mx_WP.call (d := d + 1) (y := 118) (as := [mx_l x0, mx_i s]) (pc' := 13) (r := []) rfl rfl (T118 (d := d + 1)  e106 ?_)
    show mx_WP (d + 2) 122 13 [some (mx_l x0), none, some (mx_i s)] [mx_i u102] σ Q
    obtain ⟨u103, e105, hf⟩ := Option.bind_eq_some_iff.mp hf
    refine mx_WP.call (d := d + 1) (y := 123) (as := [mx_i u102]) (pc' := 16) (r := []) rfl rfl (T123 (d := d + 0)  e105 ?_)
    show mx_WP (d + 2) 122 16 [some (mx_l x0), none, some (mx_i s)] [mx_i (b2i u103)] σ Q
    by_cases c104 : u103 = true
    · rw [if_pos c104] at hf
      refine mx_WP.zeq (b := u103) (q := 25) (p3 := 19) rfl (fun hh => absurd hh (by simp [c104])) (fun _ => ?_)
      refine mx_WP.go 2 (pc' := 2) (L' := [some (mx_l x0), none, some (mx_i (s + 1))]) (st' := []) (σ' := σ) rfl ?_
      rw [← Option.some.inj hf] at hk
      exact hk
    · rw [if_neg c104] at hf
      refine mx_WP.zeq (b := u103) (q := 25) (p3 := 19) rfl (fun _ => ?_) (fun hh => absurd hh (by simp [c104]))
      rw [← Option.some.inj hf] at hk
      exact hk
theorem L122_2 {d : Nat} {x0 : Int64} {σ : mx_Hp} {Q : Option mx_V → mx_Hp → Prop} {n : Nat} {s : Int32} {o : Int32} (hf : mx_lp (b122_2 x0) n s = some o) (hk : (fun x : Int32 => mx_WP (d + 2) 122 25 [some (mx_l x0), none, some (mx_i x)] [] σ Q) o) : mx_WP (d + 2) 122 2 [some (mx_l x0), none, some (mx_i s)] [] σ Q := mx_lp_ok (P := fun s : Int32 => mx_WP (d + 2) 122 2 [some (mx_l x0), none, some (mx_i s)] [] σ Q) (E := (fun x : Int32 => mx_WP (d + 2) 122 25 [some (mx_l x0), none, some (mx_i x)] [] σ Q)) (fun s o hf hk => B122_2 hf hk) n s o hf hk
def j122_25 (v0 : Int64) (v2 : Int32)  : Option (Bool) :=
  if v2 ≤ (0 : Int32) then (some false) else if v2 = (8 : Int32) then (some true) else if (lg_cmp ((v0.toUInt64 >>> (((8 : Int32) * v2).toInt64.toUInt64 &&& Int64.toUInt64 63)).toInt64) (0 : Int64)) = (0 : Int32) then (some true) else some false
theorem J122_25 {d : Nat} {v0 : Int64} {v2 : Int32}  {σ : mx_Hp} {Q : Option mx_V → mx_Hp → Prop} {o : Bool} (hf : j122_25 v0 v2 = some o) (hk : Q (some (mx_i (b2i o))) σ) : mx_WP (d + 2) 122 25 [some (mx_l v0), none, some (mx_i v2)] [] σ Q := by
  unfold j122_25 at hf
  refine mx_WP.go 1 (pc' := 26) (L' := [some (mx_l v0), none, some (mx_i v2)]) (st' := [mx_i v2]) (σ' := σ) rfl ?_
  by_cases c1109 : v2 ≤ (0 : Int32)
  · rw [if_pos c1109] at hf
    refine mx_WP.ble (x := v2) (y := (0 : Int32)) (q := 50) (p3 := 29) rfl (fun _ => ?_) (fun hh => absurd c1109 hh)
    refine mx_WP.go 1 (pc' := 51) (L' := [some (mx_l v0), none, some (mx_i v2)]) (st' := [mx_i (0 : Int32)]) (σ' := σ) rfl ?_
    rw [← Option.some.inj hf] at hk
    refine mx_WP.ret (v := some (mx_i (0 : Int32))) rfl ?_
    exact hk
  · rw [if_neg c1109] at hf
    refine mx_WP.ble (x := v2) (y := (0 : Int32)) (q := 50) (p3 := 29) rfl (fun hh => absurd hh c1109) (fun _ => ?_)
    refine mx_WP.go 2 (pc' := 32) (L' := [some (mx_l v0), none, some (mx_i v2)]) (st' := [mx_i (8 : Int32), mx_i v2]) (σ' := σ) rfl ?_
    by_cases c1110 : v2 = (8 : Int32)
    · rw [if_pos c1110] at hf
      refine mx_WP.beq (x := v2) (y := (8 : Int32)) (q := 46) (p3 := 35) rfl (fun _ => ?_) (fun hh => absurd c1110 hh)
      refine mx_WP.go 2 (pc' := 51) (L' := [some (mx_l v0), none, some (mx_i v2)]) (st' := [mx_i (1 : Int32)]) (σ' := σ) rfl ?_
      rw [← Option.some.inj hf] at hk
      refine mx_WP.ret (v := some (mx_i (1 : Int32))) rfl ?_
      exact hk
    · rw [if_neg c1110] at hf
      refine mx_WP.beq (x := v2) (y := (8 : Int32)) (q := 46) (p3 := 35) rfl (fun hh => absurd hh c1110) (fun _ => ?_)
      refine mx_WP.go 7 (pc' := 43) (L' := [some (mx_l v0), none, some (mx_i v2)]) (st' := [mx_i (lg_cmp ((v0.toUInt64 >>> (((8 : Int32) * v2).toInt64.toUInt64 &&& Int64.toUInt64 63)).toInt64) (0 : Int64))]) (σ' := σ) rfl ?_
      by_cases c1111 : (lg_cmp ((v0.toUInt64 >>> (((8 : Int32) * v2).toInt64.toUInt64 &&& Int64.toUInt64 63)).toInt64) (0 : Int64)) = (0 : Int32)
      · rw [if_pos c1111] at hf
        refine mx_WP.bne (x := (lg_cmp ((v0.toUInt64 >>> (((8 : Int32) * v2).toInt64.toUInt64 &&& Int64.toUInt64 63)).toInt64) (0 : Int64))) (y := (0 : Int32)) (q := 50) (p3 := 46) rfl (fun hh => absurd c1111 hh) (fun _ => ?_)
        refine mx_WP.go 2 (pc' := 51) (L' := [some (mx_l v0), none, some (mx_i v2)]) (st' := [mx_i (1 : Int32)]) (σ' := σ) rfl ?_
        rw [← Option.some.inj hf] at hk
        refine mx_WP.ret (v := some (mx_i (1 : Int32))) rfl ?_
        exact hk
      · rw [if_neg c1111] at hf
        refine mx_WP.bne (x := (lg_cmp ((v0.toUInt64 >>> (((8 : Int32) * v2).toInt64.toUInt64 &&& Int64.toUInt64 63)).toInt64) (0 : Int64))) (y := (0 : Int32)) (q := 50) (p3 := 46) rfl (fun _ => ?_) (fun hh => absurd c1111 hh)
        refine mx_WP.go 1 (pc' := 51) (L' := [some (mx_l v0), none, some (mx_i v2)]) (st' := [mx_i (0 : Int32)]) (σ' := σ) rfl ?_
        rw [← Option.some.inj hf] at hk
        refine mx_WP.ret (v := some (mx_i (0 : Int32))) rfl ?_
        exact hk
def f122 (x0 : Int64) : Option (Bool) :=
  (mx_lp (b122_2 x0) mx_fu (0 : Int32)).bind fun u107 =>
  j122_25 x0 u107
theorem T122 {d : Nat} {x0 : Int64} {σ : mx_Hp} {Q : Option mx_V → mx_Hp → Prop} {o : Bool} (hf : f122 x0 = some o) (hk : Q (some (mx_i (b2i o))) σ) : mx_WP (d + 2) 122 0 (mx_ent 122 [mx_l x0]) [] σ Q := by
  unfold f122 at hf
  refine mx_WP.go 2 (pc' := 2) (L' := [some (mx_l x0), none, some (mx_i (0 : Int32))]) (st' := []) (σ' := σ) rfl ?_
  obtain ⟨u107, e108, hf⟩ := Option.bind_eq_some_iff.mp hf
  refine L122_2 (d := d) e108 ?_
  show mx_WP (d + 2) 122 25 [some (mx_l x0), none, some (mx_i u107)] [] σ Q
  exact J122_25 (d := d) hf hk
def f121 (x1 : Int64) (x2 : Int32) (I : Nat → Nat → Nat → Int32) (J : Nat → Nat → Nat → Int64) : Option (Int32 × (Nat → Nat → Nat → Int32) × (Nat → Nat → Nat → Int64)) :=
  (f122 x1).bind fun u1 =>
  if u1 = true then ((f120 x2 (0 : Int32) (6 : Int32)).bind fun u3 =>
  if u3 = true then (if x2 = (3 : Int32) then (some ((-1 : Int32), I, J)) else if (I 87 0 8) = (4 : Int32) then (some ((-2 : Int32), I, J)) else if ((32 : Int32) + (I 87 0 8)) < 0 ∨ 36 ≤ ((32 : Int32) + (I 87 0 8)).toNatClampNeg then none else if ((32 : Int32) + (I 87 0 8)) < 0 ∨ 36 ≤ ((32 : Int32) + (I 87 0 8)).toNatClampNeg then none else some ((I 87 0 8) + (1 : Int32), (mx_u3 (mx_u3 I 88 0 (((32 : Int32) + (I 87 0 8)).toNatClampNeg) x2) 87 0 8 ((I 87 0 8) + (1 : Int32))), (mx_u3 J 90 0 (((32 : Int32) + (I 87 0 8)).toNatClampNeg) x1))) else some ((-1 : Int32), I, J)) else some ((-1 : Int32), I, J)
theorem T121 {d : Nat} {x1 : Int64} {x2 : Int32} {γ : mx_Rg} {I : Nat → Nat → Nat → Int32} {J : Nat → Nat → Nat → Int64} {κ : (Nat × (Nat → Int32)) × (Nat × Nat)} {Q : Option mx_V → mx_Hp → Prop} {o : Int32 × (Nat → Nat → Nat → Int32) × (Nat → Nat → Nat → Int64)} (hf : f121 x1 x2 I J = some o) (hk : Q (some (mx_i o.1)) (γ, hM o.2.1 o.2.2, κ)) : mx_WP (d + 3) 121 0 (mx_ent 121 [mx_r (some (1, 11, 0)), mx_l x1, mx_i x2]) [] (γ, hM I J, κ) Q := by
  unfold f121 at hf
  refine mx_WP.go 1 (pc' := 1) (L' := [some (mx_r (some (1, 11, 0))), some (mx_l x1), none, some (mx_i x2)]) (st' := [mx_l x1]) (σ' := (γ, hM I J, κ)) rfl ?_
  obtain ⟨u1, e15, hf⟩ := Option.bind_eq_some_iff.mp hf
  refine mx_WP.call (d := d + 2) (y := 122) (as := [mx_l x1]) (pc' := 4) (r := []) rfl rfl (T122 (d := d + 0)  e15 ?_)
  show mx_WP (d + 3) 121 4 [some (mx_r (some (1, 11, 0))), some (mx_l x1), none, some (mx_i x2)] [mx_i (b2i u1)] (γ, hM I J, κ) Q
  by_cases c2 : u1 = true
  · rw [if_pos c2] at hf
    refine mx_WP.zeq (b := u1) (q := 22) (p3 := 7) rfl (fun hh => absurd hh (by simp [c2])) (fun _ => ?_)
    refine mx_WP.go 3 (pc' := 11) (L' := [some (mx_r (some (1, 11, 0))), some (mx_l x1), none, some (mx_i x2)]) (st' := [mx_i (6 : Int32), mx_i (0 : Int32), mx_i x2]) (σ' := (γ, hM I J, κ)) rfl ?_
    obtain ⟨u3, e14, hf⟩ := Option.bind_eq_some_iff.mp hf
    refine mx_WP.call (d := d + 2) (y := 120) (as := [mx_i x2, mx_i (0 : Int32), mx_i (6 : Int32)]) (pc' := 14) (r := []) rfl rfl (T120 (d := d + 2)  e14 ?_)
    show mx_WP (d + 3) 121 14 [some (mx_r (some (1, 11, 0))), some (mx_l x1), none, some (mx_i x2)] [mx_i (b2i u3)] (γ, hM I J, κ) Q
    by_cases c4 : u3 = true
    · rw [if_pos c4] at hf
      refine mx_WP.zeq (b := u3) (q := 22) (p3 := 17) rfl (fun hh => absurd hh (by simp [c4])) (fun _ => ?_)
      refine mx_WP.go 2 (pc' := 19) (L' := [some (mx_r (some (1, 11, 0))), some (mx_l x1), none, some (mx_i x2)]) (st' := [mx_i (3 : Int32), mx_i x2]) (σ' := (γ, hM I J, κ)) rfl ?_
      by_cases c5 : x2 = (3 : Int32)
      · rw [if_pos c5] at hf
        refine mx_WP.bne (x := x2) (y := (3 : Int32)) (q := 24) (p3 := 22) rfl (fun hh => absurd c5 hh) (fun _ => ?_)
        refine mx_WP.go 1 (pc' := 23) (L' := [some (mx_r (some (1, 11, 0))), some (mx_l x1), none, some (mx_i x2)]) (st' := [mx_i (-1 : Int32)]) (σ' := (γ, hM I J, κ)) rfl ?_
        rw [← Option.some.inj hf] at hk
        refine mx_WP.ret (v := some (mx_i (-1 : Int32))) rfl ?_
        exact hk
      · rw [if_neg c5] at hf
        refine mx_WP.bne (x := x2) (y := (3 : Int32)) (q := 24) (p3 := 22) rfl (fun _ => ?_) (fun hh => absurd c5 hh)
        refine mx_WP.go 3 (pc' := 30) (L' := [some (mx_r (some (1, 11, 0))), some (mx_l x1), none, some (mx_i x2)]) (st' := [mx_i (8 : Int32), mx_r (some (1, 87, 0))]) (σ' := (γ, hM I J, κ)) rfl ?_
        refine mx_WP.ialdx (show ¬ ((8 : Int32) < 0 ∨ 9 ≤ (8 : Int32).toNatClampNeg) by decide) ?_
        show mx_WP (d + 3) 121 31 [some (mx_r (some (1, 11, 0))), some (mx_l x1), none, some (mx_i x2)] [mx_i (I 87 0 8)] (γ, hM I J, κ) Q
        refine mx_WP.go 1 (pc' := 32) (L' := [some (mx_r (some (1, 11, 0))), some (mx_l x1), none, some (mx_i x2)]) (st' := [mx_i (4 : Int32), mx_i (I 87 0 8)]) (σ' := (γ, hM I J, κ)) rfl ?_
        by_cases c7 : (I 87 0 8) = (4 : Int32)
        · rw [if_pos c7] at hf
          refine mx_WP.bne (x := (I 87 0 8)) (y := (4 : Int32)) (q := 38) (p3 := 35) rfl (fun hh => absurd c7 hh) (fun _ => ?_)
          refine mx_WP.go 1 (pc' := 37) (L' := [some (mx_r (some (1, 11, 0))), some (mx_l x1), none, some (mx_i x2)]) (st' := [mx_i (-2 : Int32)]) (σ' := (γ, hM I J, κ)) rfl ?_
          rw [← Option.some.inj hf] at hk
          refine mx_WP.ret (v := some (mx_i (-2 : Int32))) rfl ?_
          exact hk
        · rw [if_neg c7] at hf
          refine mx_WP.bne (x := (I 87 0 8)) (y := (4 : Int32)) (q := 38) (p3 := 35) rfl (fun _ => ?_) (fun hh => absurd c7 hh)
          refine mx_WP.go 6 (pc' := 50) (L' := [some (mx_r (some (1, 11, 0))), some (mx_l x1), none, some (mx_i x2)]) (st' := [mx_i (8 : Int32), mx_r (some (1, 87, 0)), mx_i (32 : Int32), mx_r (some (1, 90, 0))]) (σ' := (γ, hM I J, κ)) rfl ?_
          refine mx_WP.ialdx (show ¬ ((8 : Int32) < 0 ∨ 9 ≤ (8 : Int32).toNatClampNeg) by decide) ?_
          show mx_WP (d + 3) 121 51 [some (mx_r (some (1, 11, 0))), some (mx_l x1), none, some (mx_i x2)] [mx_i (I 87 0 8), mx_i (32 : Int32), mx_r (some (1, 90, 0))] (γ, hM I J, κ) Q
          refine mx_WP.go 2 (pc' := 53) (L' := [some (mx_r (some (1, 11, 0))), some (mx_l x1), none, some (mx_i x2)]) (st' := [mx_l x1, mx_i ((32 : Int32) + (I 87 0 8)), mx_r (some (1, 90, 0))]) (σ' := (γ, hM I J, κ)) rfl ?_
          by_cases c9 : ((32 : Int32) + (I 87 0 8)) < 0 ∨ 36 ≤ ((32 : Int32) + (I 87 0 8)).toNatClampNeg
          · rw [if_pos c9] at hf
            cases hf
          rw [if_neg c9] at hf
          refine mx_WP.lastx c9 ?_
          show mx_WP (d + 3) 121 54 [some (mx_r (some (1, 11, 0))), some (mx_l x1), none, some (mx_i x2)] [] (γ, hM I (mx_u3 J 90 0 (((32 : Int32) + (I 87 0 8)).toNatClampNeg) x1), κ) Q
          refine mx_WP.go 6 (pc' := 66) (L' := [some (mx_r (some (1, 11, 0))), some (mx_l x1), none, some (mx_i x2)]) (st' := [mx_i (8 : Int32), mx_r (some (1, 87, 0)), mx_i (32 : Int32), mx_r (some (1, 88, 0))]) (σ' := (γ, hM I (mx_u3 J 90 0 (((32 : Int32) + (I 87 0 8)).toNatClampNeg) x1), κ)) rfl ?_
          refine mx_WP.ialdx (show ¬ ((8 : Int32) < 0 ∨ 9 ≤ (8 : Int32).toNatClampNeg) by decide) ?_
          show mx_WP (d + 3) 121 67 [some (mx_r (some (1, 11, 0))), some (mx_l x1), none, some (mx_i x2)] [mx_i (I 87 0 8), mx_i (32 : Int32), mx_r (some (1, 88, 0))] (γ, hM I (mx_u3 J 90 0 (((32 : Int32) + (I 87 0 8)).toNatClampNeg) x1), κ) Q
          refine mx_WP.go 2 (pc' := 69) (L' := [some (mx_r (some (1, 11, 0))), some (mx_l x1), none, some (mx_i x2)]) (st' := [mx_i x2, mx_i ((32 : Int32) + (I 87 0 8)), mx_r (some (1, 88, 0))]) (σ' := (γ, hM I (mx_u3 J 90 0 (((32 : Int32) + (I 87 0 8)).toNatClampNeg) x1), κ)) rfl ?_
          by_cases c11 : ((32 : Int32) + (I 87 0 8)) < 0 ∨ 36 ≤ ((32 : Int32) + (I 87 0 8)).toNatClampNeg
          · rw [if_pos c11] at hf
            cases hf
          rw [if_neg c11] at hf
          refine mx_WP.iastx c11 ?_
          show mx_WP (d + 3) 121 70 [some (mx_r (some (1, 11, 0))), some (mx_l x1), none, some (mx_i x2)] [] (γ, hM (mx_u3 I 88 0 (((32 : Int32) + (I 87 0 8)).toNatClampNeg) x2) (mx_u3 J 90 0 (((32 : Int32) + (I 87 0 8)).toNatClampNeg) x1), κ) Q
          refine mx_WP.go 4 (pc' := 77) (L' := [some (mx_r (some (1, 11, 0))), some (mx_l x1), none, some (mx_i x2)]) (st' := [mx_i (8 : Int32), mx_r (some (1, 87, 0)), mx_i (8 : Int32), mx_r (some (1, 87, 0))]) (σ' := (γ, hM (mx_u3 I 88 0 (((32 : Int32) + (I 87 0 8)).toNatClampNeg) x2) (mx_u3 J 90 0 (((32 : Int32) + (I 87 0 8)).toNatClampNeg) x1), κ)) rfl ?_
          refine mx_WP.ialdx (show ¬ ((8 : Int32) < 0 ∨ 9 ≤ (8 : Int32).toNatClampNeg) by decide) ?_
          show mx_WP (d + 3) 121 78 [some (mx_r (some (1, 11, 0))), some (mx_l x1), none, some (mx_i x2)] [mx_i (I 87 0 8), mx_i (8 : Int32), mx_r (some (1, 87, 0))] (γ, hM (mx_u3 I 88 0 (((32 : Int32) + (I 87 0 8)).toNatClampNeg) x2) (mx_u3 J 90 0 (((32 : Int32) + (I 87 0 8)).toNatClampNeg) x1), κ) Q
          refine mx_WP.go 3 (pc' := 81) (L' := [some (mx_r (some (1, 11, 0))), some (mx_l x1), none, some (mx_i x2)]) (st' := [mx_i ((I 87 0 8) + (1 : Int32)), mx_i (8 : Int32), mx_r (some (1, 87, 0)), mx_i ((I 87 0 8) + (1 : Int32))]) (σ' := (γ, hM (mx_u3 I 88 0 (((32 : Int32) + (I 87 0 8)).toNatClampNeg) x2) (mx_u3 J 90 0 (((32 : Int32) + (I 87 0 8)).toNatClampNeg) x1), κ)) rfl ?_
          refine mx_WP.iastx (show ¬ ((8 : Int32) < 0 ∨ 9 ≤ (8 : Int32).toNatClampNeg) by decide) ?_
          show mx_WP (d + 3) 121 82 [some (mx_r (some (1, 11, 0))), some (mx_l x1), none, some (mx_i x2)] [mx_i ((I 87 0 8) + (1 : Int32))] (γ, hM (mx_u3 (mx_u3 I 88 0 (((32 : Int32) + (I 87 0 8)).toNatClampNeg) x2) 87 0 8 ((I 87 0 8) + (1 : Int32))) (mx_u3 J 90 0 (((32 : Int32) + (I 87 0 8)).toNatClampNeg) x1), κ) Q
          rw [← Option.some.inj hf] at hk
          refine mx_WP.ret (v := some (mx_i ((I 87 0 8) + (1 : Int32)))) rfl ?_
          exact hk
    · rw [if_neg c4] at hf
      refine mx_WP.zeq (b := u3) (q := 22) (p3 := 17) rfl (fun _ => ?_) (fun hh => absurd hh (by simp [c4]))
      refine mx_WP.go 1 (pc' := 23) (L' := [some (mx_r (some (1, 11, 0))), some (mx_l x1), none, some (mx_i x2)]) (st' := [mx_i (-1 : Int32)]) (σ' := (γ, hM I J, κ)) rfl ?_
      rw [← Option.some.inj hf] at hk
      refine mx_WP.ret (v := some (mx_i (-1 : Int32))) rfl ?_
      exact hk
  · rw [if_neg c2] at hf
    refine mx_WP.zeq (b := u1) (q := 22) (p3 := 7) rfl (fun _ => ?_) (fun hh => absurd hh (by simp [c2]))
    refine mx_WP.go 1 (pc' := 23) (L' := [some (mx_r (some (1, 11, 0))), some (mx_l x1), none, some (mx_i x2)]) (st' := [mx_i (-1 : Int32)]) (σ' := (γ, hM I J, κ)) rfl ?_
    rw [← Option.some.inj hf] at hk
    refine mx_WP.ret (v := some (mx_i (-1 : Int32))) rfl ?_
    exact hk
def j124_24 (v1 : Int32) (v2 : Int64) (I : Nat → Nat → Nat → Int32) (J : Nat → Nat → Nat → Int64) : Option (Bool × (Nat → Nat → Nat → Int32) × (Nat → Nat → Nat → Int64)) :=
  some (true, (mx_u3 I 89 0 8 v1), (mx_u3 J 91 0 8 v2))
theorem J124_24 {d : Nat} {v1 : Int32} {v2 : Int64}  {γ : mx_Rg} {I : Nat → Nat → Nat → Int32} {J : Nat → Nat → Nat → Int64} {κ : (Nat × (Nat → Int32)) × (Nat × Nat)} {Q : Option mx_V → mx_Hp → Prop} {o : Bool × (Nat → Nat → Nat → Int32) × (Nat → Nat → Nat → Int64)} (hf : j124_24 v1 v2 I J = some o) (hk : Q (some (mx_i (b2i o.1))) (γ, hM o.2.1 o.2.2, κ)) : mx_WP (d + 3) 124 24 [some (mx_r (some (1, 11, 0))), some (mx_i v1), some (mx_l v2), none] [] (γ, hM I J, κ) Q := by
  unfold j124_24 at hf
  refine mx_WP.go 4 (pc' := 31) (L' := [some (mx_r (some (1, 11, 0))), some (mx_i v1), some (mx_l v2), none]) (st' := [mx_i v1, mx_i (8 : Int32), mx_r (some (1, 89, 0))]) (σ' := (γ, hM I J, κ)) rfl ?_
  refine mx_WP.iastx (show ¬ ((8 : Int32) < 0 ∨ 9 ≤ (8 : Int32).toNatClampNeg) by decide) ?_
  show mx_WP (d + 3) 124 32 [some (mx_r (some (1, 11, 0))), some (mx_i v1), some (mx_l v2), none] [] (γ, hM (mx_u3 I 89 0 8 v1) J, κ) Q
  refine mx_WP.go 4 (pc' := 39) (L' := [some (mx_r (some (1, 11, 0))), some (mx_i v1), some (mx_l v2), none]) (st' := [mx_l v2, mx_i (8 : Int32), mx_r (some (1, 91, 0))]) (σ' := (γ, hM (mx_u3 I 89 0 8 v1) J, κ)) rfl ?_
  refine mx_WP.lastx (show ¬ ((8 : Int32) < 0 ∨ 9 ≤ (8 : Int32).toNatClampNeg) by decide) ?_
  show mx_WP (d + 3) 124 40 [some (mx_r (some (1, 11, 0))), some (mx_i v1), some (mx_l v2), none] [] (γ, hM (mx_u3 I 89 0 8 v1) (mx_u3 J 91 0 8 v2), κ) Q
  refine mx_WP.go 1 (pc' := 41) (L' := [some (mx_r (some (1, 11, 0))), some (mx_i v1), some (mx_l v2), none]) (st' := [mx_i (1 : Int32)]) (σ' := (γ, hM (mx_u3 I 89 0 8 v1) (mx_u3 J 91 0 8 v2), κ)) rfl ?_
  rw [← Option.some.inj hf] at hk
  refine mx_WP.ret (v := some (mx_i (1 : Int32))) rfl ?_
  exact hk
def f124 (x1 : Int32) (x2 : Int64) (I : Nat → Nat → Nat → Int32) (J : Nat → Nat → Nat → Int64) : Option (Bool × (Nat → Nat → Nat → Int32) × (Nat → Nat → Nat → Int64)) :=
  (f120 x1 (0 : Int32) (2 : Int32)).bind fun u1 =>
  if u1 = true then (if (lg_cmp x2 (0 : Int64)) = (0 : Int32) then (j124_24 x1 x2 I J) else (f122 x2).bind fun u1006 =>
  if u1006 = true then (j124_24 x1 x2 I J) else some (false, I, J)) else some (false, I, J)
theorem T124 {d : Nat} {x1 : Int32} {x2 : Int64} {γ : mx_Rg} {I : Nat → Nat → Nat → Int32} {J : Nat → Nat → Nat → Int64} {κ : (Nat × (Nat → Int32)) × (Nat × Nat)} {Q : Option mx_V → mx_Hp → Prop} {o : Bool × (Nat → Nat → Nat → Int32) × (Nat → Nat → Nat → Int64)} (hf : f124 x1 x2 I J = some o) (hk : Q (some (mx_i (b2i o.1))) (γ, hM o.2.1 o.2.2, κ)) : mx_WP (d + 3) 124 0 (mx_ent 124 [mx_r (some (1, 11, 0)), mx_i x1, mx_l x2]) [] (γ, hM I J, κ) Q := by
  unfold f124 at hf
  refine mx_WP.go 3 (pc' := 3) (L' := [some (mx_r (some (1, 11, 0))), some (mx_i x1), some (mx_l x2), none]) (st' := [mx_i (2 : Int32), mx_i (0 : Int32), mx_i x1]) (σ' := (γ, hM I J, κ)) rfl ?_
  obtain ⟨u1, e1009, hf⟩ := Option.bind_eq_some_iff.mp hf
  refine mx_WP.call (d := d + 2) (y := 120) (as := [mx_i x1, mx_i (0 : Int32), mx_i (2 : Int32)]) (pc' := 6) (r := []) rfl rfl (T120 (d := d + 2)  e1009 ?_)
  show mx_WP (d + 3) 124 6 [some (mx_r (some (1, 11, 0))), some (mx_i x1), some (mx_l x2), none] [mx_i (b2i u1)] (γ, hM I J, κ) Q
  by_cases c2 : u1 = true
  · rw [if_pos c2] at hf
    refine mx_WP.zeq (b := u1) (q := 22) (p3 := 9) rfl (fun hh => absurd hh (by simp [c2])) (fun _ => ?_)
    refine mx_WP.go 3 (pc' := 12) (L' := [some (mx_r (some (1, 11, 0))), some (mx_i x1), some (mx_l x2), none]) (st' := [mx_i (lg_cmp x2 (0 : Int64))]) (σ' := (γ, hM I J, κ)) rfl ?_
    by_cases c3 : (lg_cmp x2 (0 : Int64)) = (0 : Int32)
    · rw [if_pos c3] at hf
      refine mx_WP.beq (x := (lg_cmp x2 (0 : Int64))) (y := (0 : Int32)) (q := 24) (p3 := 15) rfl (fun _ => ?_) (fun hh => absurd c3 hh)
      exact J124_24 (d := d) hf hk
    · rw [if_neg c3] at hf
      refine mx_WP.beq (x := (lg_cmp x2 (0 : Int64))) (y := (0 : Int32)) (q := 24) (p3 := 15) rfl (fun hh => absurd hh c3) (fun _ => ?_)
      refine mx_WP.go 1 (pc' := 16) (L' := [some (mx_r (some (1, 11, 0))), some (mx_i x1), some (mx_l x2), none]) (st' := [mx_l x2]) (σ' := (γ, hM I J, κ)) rfl ?_
      obtain ⟨u1006, e1008, hf⟩ := Option.bind_eq_some_iff.mp hf
      refine mx_WP.call (d := d + 2) (y := 122) (as := [mx_l x2]) (pc' := 19) (r := []) rfl rfl (T122 (d := d + 0)  e1008 ?_)
      show mx_WP (d + 3) 124 19 [some (mx_r (some (1, 11, 0))), some (mx_i x1), some (mx_l x2), none] [mx_i (b2i u1006)] (γ, hM I J, κ) Q
      by_cases c1007 : u1006 = true
      · rw [if_pos c1007] at hf
        refine mx_WP.zne (b := u1006) (q := 24) (p3 := 22) rfl (fun _ => ?_) (fun hh => absurd hh (by simp [c1007]))
        exact J124_24 (d := d) hf hk
      · rw [if_neg c1007] at hf
        refine mx_WP.zne (b := u1006) (q := 24) (p3 := 22) rfl (fun hh => absurd hh (by simp [c1007])) (fun _ => ?_)
        refine mx_WP.go 1 (pc' := 23) (L' := [some (mx_r (some (1, 11, 0))), some (mx_i x1), some (mx_l x2), none]) (st' := [mx_i (0 : Int32)]) (σ' := (γ, hM I J, κ)) rfl ?_
        rw [← Option.some.inj hf] at hk
        refine mx_WP.ret (v := some (mx_i (0 : Int32))) rfl ?_
        exact hk
  · rw [if_neg c2] at hf
    refine mx_WP.zeq (b := u1) (q := 22) (p3 := 9) rfl (fun _ => ?_) (fun hh => absurd hh (by simp [c2]))
    refine mx_WP.go 1 (pc' := 23) (L' := [some (mx_r (some (1, 11, 0))), some (mx_i x1), some (mx_l x2), none]) (st' := [mx_i (0 : Int32)]) (σ' := (γ, hM I J, κ)) rfl ?_
    rw [← Option.some.inj hf] at hk
    refine mx_WP.ret (v := some (mx_i (0 : Int32))) rfl ?_
    exact hk
def f125 (I : Nat → Nat → Nat → Int32) (J : Nat → Nat → Nat → Int64) : Option (Int32 × (Nat → Nat → Nat → Int32) × (Nat → Nat → Nat → Int64)) :=
  some (I 11 0 10, (mx_u3 (mx_u3 (mx_u3 (mx_u3 I 11 0 10 (0 : Int32)) 83 0 8 (0 : Int32)) 87 0 8 (0 : Int32)) 89 0 8 (0 : Int32)), (mx_u3 J 91 0 8 (0 : Int64)))
theorem T125 {d : Nat} {γ : mx_Rg} {I : Nat → Nat → Nat → Int32} {J : Nat → Nat → Nat → Int64} {κ : (Nat × (Nat → Int32)) × (Nat × Nat)} {Q : Option mx_V → mx_Hp → Prop} {o : Int32 × (Nat → Nat → Nat → Int32) × (Nat → Nat → Nat → Int64)} (hf : f125 I J = some o) (hk : Q (some (mx_i o.1)) (γ, hM o.2.1 o.2.2, κ)) : mx_WP (d + 0) 125 0 (mx_ent 125 [mx_r (some (1, 11, 0))]) [] (γ, hM I J, κ) Q := by
  unfold f125 at hf
  refine mx_WP.go 10 (pc' := 17) (L' := [some (mx_r (some (1, 11, 0))), some (mx_i (I 11 0 10))]) (st' := [mx_i (0 : Int32), mx_i (8 : Int32), mx_r (some (1, 83, 0))]) (σ' := (γ, hM (mx_u3 I 11 0 10 (0 : Int32)) J, κ)) rfl ?_
  refine mx_WP.iastx (show ¬ ((8 : Int32) < 0 ∨ 9 ≤ (8 : Int32).toNatClampNeg) by decide) ?_
  show mx_WP (d + 0) 125 18 [some (mx_r (some (1, 11, 0))), some (mx_i (I 11 0 10))] [] (γ, hM (mx_u3 (mx_u3 I 11 0 10 (0 : Int32)) 83 0 8 (0 : Int32)) J, κ) Q
  refine mx_WP.go 4 (pc' := 25) (L' := [some (mx_r (some (1, 11, 0))), some (mx_i (I 11 0 10))]) (st' := [mx_i (0 : Int32), mx_i (8 : Int32), mx_r (some (1, 87, 0))]) (σ' := (γ, hM (mx_u3 (mx_u3 I 11 0 10 (0 : Int32)) 83 0 8 (0 : Int32)) J, κ)) rfl ?_
  refine mx_WP.iastx (show ¬ ((8 : Int32) < 0 ∨ 9 ≤ (8 : Int32).toNatClampNeg) by decide) ?_
  show mx_WP (d + 0) 125 26 [some (mx_r (some (1, 11, 0))), some (mx_i (I 11 0 10))] [] (γ, hM (mx_u3 (mx_u3 (mx_u3 I 11 0 10 (0 : Int32)) 83 0 8 (0 : Int32)) 87 0 8 (0 : Int32)) J, κ) Q
  refine mx_WP.go 4 (pc' := 33) (L' := [some (mx_r (some (1, 11, 0))), some (mx_i (I 11 0 10))]) (st' := [mx_i (0 : Int32), mx_i (8 : Int32), mx_r (some (1, 89, 0))]) (σ' := (γ, hM (mx_u3 (mx_u3 (mx_u3 I 11 0 10 (0 : Int32)) 83 0 8 (0 : Int32)) 87 0 8 (0 : Int32)) J, κ)) rfl ?_
  refine mx_WP.iastx (show ¬ ((8 : Int32) < 0 ∨ 9 ≤ (8 : Int32).toNatClampNeg) by decide) ?_
  show mx_WP (d + 0) 125 34 [some (mx_r (some (1, 11, 0))), some (mx_i (I 11 0 10))] [] (γ, hM (mx_u3 (mx_u3 (mx_u3 (mx_u3 I 11 0 10 (0 : Int32)) 83 0 8 (0 : Int32)) 87 0 8 (0 : Int32)) 89 0 8 (0 : Int32)) J, κ) Q
  refine mx_WP.go 4 (pc' := 41) (L' := [some (mx_r (some (1, 11, 0))), some (mx_i (I 11 0 10))]) (st' := [mx_l (0 : Int64), mx_i (8 : Int32), mx_r (some (1, 91, 0))]) (σ' := (γ, hM (mx_u3 (mx_u3 (mx_u3 (mx_u3 I 11 0 10 (0 : Int32)) 83 0 8 (0 : Int32)) 87 0 8 (0 : Int32)) 89 0 8 (0 : Int32)) J, κ)) rfl ?_
  refine mx_WP.lastx (show ¬ ((8 : Int32) < 0 ∨ 9 ≤ (8 : Int32).toNatClampNeg) by decide) ?_
  show mx_WP (d + 0) 125 42 [some (mx_r (some (1, 11, 0))), some (mx_i (I 11 0 10))] [] (γ, hM (mx_u3 (mx_u3 (mx_u3 (mx_u3 I 11 0 10 (0 : Int32)) 83 0 8 (0 : Int32)) 87 0 8 (0 : Int32)) 89 0 8 (0 : Int32)) (mx_u3 J 91 0 8 (0 : Int64)), κ) Q
  refine mx_WP.go 1 (pc' := 43) (L' := [some (mx_r (some (1, 11, 0))), some (mx_i (I 11 0 10))]) (st' := [mx_i (I 11 0 10)]) (σ' := (γ, hM (mx_u3 (mx_u3 (mx_u3 (mx_u3 I 11 0 10 (0 : Int32)) 83 0 8 (0 : Int32)) 87 0 8 (0 : Int32)) 89 0 8 (0 : Int32)) (mx_u3 J 91 0 8 (0 : Int64)), κ)) rfl ?_
  rw [← Option.some.inj hf] at hk
  refine mx_WP.ret (v := some (mx_i (I 11 0 10))) rfl ?_
  exact hk
def f137 (x1 : Int32) (x2 : Int32) (I : Nat → Nat → Nat → Int32) : Option (Bool) :=
  if (((3 : Int32) * x1) + x2) < 0 ∨ 27 ≤ (((3 : Int32) * x1) + x2).toNatClampNeg then none else if (I 84 0 ((((3 : Int32) * x1) + x2).toNatClampNeg)) < 0 ∨ 8 ≤ (I 84 0 ((((3 : Int32) * x1) + x2).toNatClampNeg)).toNatClampNeg then none else if (I 93 0 ((I 84 0 ((((3 : Int32) * x1) + x2).toNatClampNeg)).toNatClampNeg)) = (0 : Int32) then (some false) else if (I 84 0 ((((3 : Int32) * x1) + x2).toNatClampNeg)) < 0 ∨ 8 ≤ (I 84 0 ((((3 : Int32) * x1) + x2).toNatClampNeg)).toNatClampNeg then none else if (((3 : Int32) * x1) + x2) < 0 ∨ 27 ≤ (((3 : Int32) * x1) + x2).toNatClampNeg then none else if (((3 : Int32) * x1) + x2) < 0 ∨ 27 ≤ (((3 : Int32) * x1) + x2).toNatClampNeg then none else (f120 (I 96 0 ((I 84 0 ((((3 : Int32) * x1) + x2).toNatClampNeg)).toNatClampNeg)) (I 85 0 ((((3 : Int32) * x1) + x2).toNatClampNeg)) (I 86 0 ((((3 : Int32) * x1) + x2).toNatClampNeg))).bind fun u7 =>
  if u7 = true then (some true) else some false
theorem T137 {d : Nat} {x1 : Int32} {x2 : Int32} {γ : mx_Rg} {I : Nat → Nat → Nat → Int32} {J : Nat → Nat → Nat → Int64} {κ : (Nat × (Nat → Int32)) × (Nat × Nat)} {Q : Option mx_V → mx_Hp → Prop} {o : Bool} (hf : f137 x1 x2 I = some o) (hk : Q (some (mx_i (b2i o))) (γ, hM I J, κ)) : mx_WP (d + 1) 137 0 (mx_ent 137 [mx_r (some (1, 11, 0)), mx_i x1, mx_i x2]) [] (γ, hM I J, κ) Q := by
  unfold f137 at hf
  refine mx_WP.go 7 (pc' := 9) (L' := [some (mx_r (some (1, 11, 0))), some (mx_i x1), some (mx_i x2), none]) (st' := [mx_i (((3 : Int32) * x1) + x2), mx_r (some (1, 84, 0))]) (σ' := (γ, hM I J, κ)) rfl ?_
  by_cases c1 : (((3 : Int32) * x1) + x2) < 0 ∨ 27 ≤ (((3 : Int32) * x1) + x2).toNatClampNeg
  · rw [if_pos c1] at hf
    cases hf
  rw [if_neg c1] at hf
  refine mx_WP.ialdx c1 ?_
  show mx_WP (d + 1) 137 10 [some (mx_r (some (1, 11, 0))), some (mx_i x1), some (mx_i x2), none] [mx_i (I 84 0 ((((3 : Int32) * x1) + x2).toNatClampNeg))] (γ, hM I J, κ) Q
  refine mx_WP.go 4 (pc' := 16) (L' := [some (mx_r (some (1, 11, 0))), some (mx_i x1), some (mx_i x2), some (mx_i (I 84 0 ((((3 : Int32) * x1) + x2).toNatClampNeg)))]) (st' := [mx_i (I 84 0 ((((3 : Int32) * x1) + x2).toNatClampNeg)), mx_r (some (1, 93, 0))]) (σ' := (γ, hM I J, κ)) rfl ?_
  by_cases c2 : (I 84 0 ((((3 : Int32) * x1) + x2).toNatClampNeg)) < 0 ∨ 8 ≤ (I 84 0 ((((3 : Int32) * x1) + x2).toNatClampNeg)).toNatClampNeg
  · rw [if_pos c2] at hf
    cases hf
  rw [if_neg c2] at hf
  refine mx_WP.baldx c2 ?_
  show mx_WP (d + 1) 137 17 [some (mx_r (some (1, 11, 0))), some (mx_i x1), some (mx_i x2), some (mx_i (I 84 0 ((((3 : Int32) * x1) + x2).toNatClampNeg)))] [mx_i (I 93 0 ((I 84 0 ((((3 : Int32) * x1) + x2).toNatClampNeg)).toNatClampNeg))] (γ, hM I J, κ) Q
  by_cases c3 : (I 93 0 ((I 84 0 ((((3 : Int32) * x1) + x2).toNatClampNeg)).toNatClampNeg)) = (0 : Int32)
  · rw [if_pos c3] at hf
    refine mx_WP.beq (x := (I 93 0 ((I 84 0 ((((3 : Int32) * x1) + x2).toNatClampNeg)).toNatClampNeg))) (y := (0 : Int32)) (q := 56) (p3 := 20) rfl (fun _ => ?_) (fun hh => absurd c3 hh)
    refine mx_WP.go 1 (pc' := 57) (L' := [some (mx_r (some (1, 11, 0))), some (mx_i x1), some (mx_i x2), some (mx_i (I 84 0 ((((3 : Int32) * x1) + x2).toNatClampNeg)))]) (st' := [mx_i (0 : Int32)]) (σ' := (γ, hM I J, κ)) rfl ?_
    rw [← Option.some.inj hf] at hk
    refine mx_WP.ret (v := some (mx_i (0 : Int32))) rfl ?_
    exact hk
  · rw [if_neg c3] at hf
    refine mx_WP.beq (x := (I 93 0 ((I 84 0 ((((3 : Int32) * x1) + x2).toNatClampNeg)).toNatClampNeg))) (y := (0 : Int32)) (q := 56) (p3 := 20) rfl (fun hh => absurd hh c3) (fun _ => ?_)
    refine mx_WP.go 3 (pc' := 25) (L' := [some (mx_r (some (1, 11, 0))), some (mx_i x1), some (mx_i x2), some (mx_i (I 84 0 ((((3 : Int32) * x1) + x2).toNatClampNeg)))]) (st' := [mx_i (I 84 0 ((((3 : Int32) * x1) + x2).toNatClampNeg)), mx_r (some (1, 96, 0))]) (σ' := (γ, hM I J, κ)) rfl ?_
    by_cases c4 : (I 84 0 ((((3 : Int32) * x1) + x2).toNatClampNeg)) < 0 ∨ 8 ≤ (I 84 0 ((((3 : Int32) * x1) + x2).toNatClampNeg)).toNatClampNeg
    · rw [if_pos c4] at hf
      cases hf
    rw [if_neg c4] at hf
    refine mx_WP.ialdx c4 ?_
    show mx_WP (d + 1) 137 26 [some (mx_r (some (1, 11, 0))), some (mx_i x1), some (mx_i x2), some (mx_i (I 84 0 ((((3 : Int32) * x1) + x2).toNatClampNeg)))] [mx_i (I 96 0 ((I 84 0 ((((3 : Int32) * x1) + x2).toNatClampNeg)).toNatClampNeg))] (γ, hM I J, κ) Q
    refine mx_WP.go 7 (pc' := 35) (L' := [some (mx_r (some (1, 11, 0))), some (mx_i x1), some (mx_i x2), some (mx_i (I 84 0 ((((3 : Int32) * x1) + x2).toNatClampNeg)))]) (st' := [mx_i (((3 : Int32) * x1) + x2), mx_r (some (1, 85, 0)), mx_i (I 96 0 ((I 84 0 ((((3 : Int32) * x1) + x2).toNatClampNeg)).toNatClampNeg))]) (σ' := (γ, hM I J, κ)) rfl ?_
    by_cases c5 : (((3 : Int32) * x1) + x2) < 0 ∨ 27 ≤ (((3 : Int32) * x1) + x2).toNatClampNeg
    · rw [if_pos c5] at hf
      cases hf
    rw [if_neg c5] at hf
    refine mx_WP.ialdx c5 ?_
    show mx_WP (d + 1) 137 36 [some (mx_r (some (1, 11, 0))), some (mx_i x1), some (mx_i x2), some (mx_i (I 84 0 ((((3 : Int32) * x1) + x2).toNatClampNeg)))] [mx_i (I 85 0 ((((3 : Int32) * x1) + x2).toNatClampNeg)), mx_i (I 96 0 ((I 84 0 ((((3 : Int32) * x1) + x2).toNatClampNeg)).toNatClampNeg))] (γ, hM I J, κ) Q
    refine mx_WP.go 7 (pc' := 45) (L' := [some (mx_r (some (1, 11, 0))), some (mx_i x1), some (mx_i x2), some (mx_i (I 84 0 ((((3 : Int32) * x1) + x2).toNatClampNeg)))]) (st' := [mx_i (((3 : Int32) * x1) + x2), mx_r (some (1, 86, 0)), mx_i (I 85 0 ((((3 : Int32) * x1) + x2).toNatClampNeg)), mx_i (I 96 0 ((I 84 0 ((((3 : Int32) * x1) + x2).toNatClampNeg)).toNatClampNeg))]) (σ' := (γ, hM I J, κ)) rfl ?_
    by_cases c6 : (((3 : Int32) * x1) + x2) < 0 ∨ 27 ≤ (((3 : Int32) * x1) + x2).toNatClampNeg
    · rw [if_pos c6] at hf
      cases hf
    rw [if_neg c6] at hf
    refine mx_WP.ialdx c6 ?_
    show mx_WP (d + 1) 137 46 [some (mx_r (some (1, 11, 0))), some (mx_i x1), some (mx_i x2), some (mx_i (I 84 0 ((((3 : Int32) * x1) + x2).toNatClampNeg)))] [mx_i (I 86 0 ((((3 : Int32) * x1) + x2).toNatClampNeg)), mx_i (I 85 0 ((((3 : Int32) * x1) + x2).toNatClampNeg)), mx_i (I 96 0 ((I 84 0 ((((3 : Int32) * x1) + x2).toNatClampNeg)).toNatClampNeg))] (γ, hM I J, κ) Q
    obtain ⟨u7, e9, hf⟩ := Option.bind_eq_some_iff.mp hf
    refine mx_WP.call (d := d + 0) (y := 120) (as := [mx_i (I 96 0 ((I 84 0 ((((3 : Int32) * x1) + x2).toNatClampNeg)).toNatClampNeg)), mx_i (I 85 0 ((((3 : Int32) * x1) + x2).toNatClampNeg)), mx_i (I 86 0 ((((3 : Int32) * x1) + x2).toNatClampNeg))]) (pc' := 49) (r := []) rfl rfl (T120 (d := d + 0)  e9 ?_)
    show mx_WP (d + 1) 137 49 [some (mx_r (some (1, 11, 0))), some (mx_i x1), some (mx_i x2), some (mx_i (I 84 0 ((((3 : Int32) * x1) + x2).toNatClampNeg)))] [mx_i (b2i u7)] (γ, hM I J, κ) Q
    by_cases c8 : u7 = true
    · rw [if_pos c8] at hf
      refine mx_WP.zeq (b := u7) (q := 56) (p3 := 52) rfl (fun hh => absurd hh (by simp [c8])) (fun _ => ?_)
      refine mx_WP.go 2 (pc' := 57) (L' := [some (mx_r (some (1, 11, 0))), some (mx_i x1), some (mx_i x2), some (mx_i (I 84 0 ((((3 : Int32) * x1) + x2).toNatClampNeg)))]) (st' := [mx_i (1 : Int32)]) (σ' := (γ, hM I J, κ)) rfl ?_
      rw [← Option.some.inj hf] at hk
      refine mx_WP.ret (v := some (mx_i (1 : Int32))) rfl ?_
      exact hk
    · rw [if_neg c8] at hf
      refine mx_WP.zeq (b := u7) (q := 56) (p3 := 52) rfl (fun _ => ?_) (fun hh => absurd hh (by simp [c8]))
      refine mx_WP.go 1 (pc' := 57) (L' := [some (mx_r (some (1, 11, 0))), some (mx_i x1), some (mx_i x2), some (mx_i (I 84 0 ((((3 : Int32) * x1) + x2).toNatClampNeg)))]) (st' := [mx_i (0 : Int32)]) (σ' := (γ, hM I J, κ)) rfl ?_
      rw [← Option.some.inj hf] at hk
      refine mx_WP.ret (v := some (mx_i (0 : Int32))) rfl ?_
      exact hk
def b136_2 (x1 : Int32) (I : Nat → Nat → Nat → Int32) (s : Int32) : Option ((Int32) ⊕ ((Int32) ⊕ (Int32))) :=
  if x1 < 0 ∨ 9 ≤ x1.toNatClampNeg then none else if (I 83 0 x1.toNatClampNeg) ≤ s then (some (Sum.inr (Sum.inl s))) else (f137 x1 s I).bind fun u103 =>
  if u103 = true then (some (Sum.inl (s + 1))) else some (Sum.inr (Sum.inr (s + (1 : Int32))))
theorem B136_2 {d : Nat} {x1 : Int32} {γ : mx_Rg} {I : Nat → Nat → Nat → Int32} {J : Nat → Nat → Nat → Int64} {κ : (Nat × (Nat → Int32)) × (Nat × Nat)} {Q : Option mx_V → mx_Hp → Prop} {s : Int32} {o : (Int32) ⊕ ((Int32) ⊕ (Int32))} (hf : b136_2 x1 I s = some o) (hk : Sum.elim (fun s : Int32 => mx_WP (d + 2) 136 2 [some (mx_r (some (1, 11, 0))), some (mx_i x1), some (mx_i s)] [] (γ, hM I J, κ) Q) (Sum.elim (fun x : Int32 => mx_WP (d + 2) 136 31 [some (mx_r (some (1, 11, 0))), some (mx_i x1), some (mx_i x)] [] (γ, hM I J, κ) Q) (fun x : Int32 => Q (some (mx_i x)) (γ, hM I J, κ))) o) : mx_WP (d + 2) 136 2 [some (mx_r (some (1, 11, 0))), some (mx_i x1), some (mx_i s)] [] (γ, hM I J, κ) Q := by
  unfold b136_2 at hf
  refine mx_WP.go 4 (pc' := 8) (L' := [some (mx_r (some (1, 11, 0))), some (mx_i x1), some (mx_i s)]) (st' := [mx_i x1, mx_r (some (1, 83, 0)), mx_i s]) (σ' := (γ, hM I J, κ)) rfl ?_
  by_cases c101 : x1 < 0 ∨ 9 ≤ x1.toNatClampNeg
  · rw [if_pos c101] at hf
    cases hf
  rw [if_neg c101] at hf
  refine mx_WP.ialdx c101 ?_
  show mx_WP (d + 2) 136 9 [some (mx_r (some (1, 11, 0))), some (mx_i x1), some (mx_i s)] [mx_i (I 83 0 x1.toNatClampNeg), mx_i s] (γ, hM I J, κ) Q
  by_cases c102 : (I 83 0 x1.toNatClampNeg) ≤ s
  · rw [if_pos c102] at hf
    refine mx_WP.bge (x := s) (y := (I 83 0 x1.toNatClampNeg)) (q := 31) (p3 := 12) rfl (fun _ => ?_) (fun hh => absurd c102 hh)
    rw [← Option.some.inj hf] at hk
    exact hk
  · rw [if_neg c102] at hf
    refine mx_WP.bge (x := s) (y := (I 83 0 x1.toNatClampNeg)) (q := 31) (p3 := 12) rfl (fun hh => absurd hh c102) (fun _ => ?_)
    refine mx_WP.go 3 (pc' := 15) (L' := [some (mx_r (some (1, 11, 0))), some (mx_i x1), some (mx_i s)]) (st' := [mx_i s, mx_i x1, mx_r (some (1, 11, 0))]) (σ' := (γ, hM I J, κ)) rfl ?_
    obtain ⟨u103, e105, hf⟩ := Option.bind_eq_some_iff.mp hf
    refine mx_WP.call (d := d + 1) (y := 137) (as := [mx_r (some (1, 11, 0)), mx_i x1, mx_i s]) (pc' := 18) (r := []) rfl rfl (T137 (d := d + 0)  e105 ?_)
    show mx_WP (d + 2) 136 18 [some (mx_r (some (1, 11, 0))), some (mx_i x1), some (mx_i s)] [mx_i (b2i u103)] (γ, hM I J, κ) Q
    by_cases c104 : u103 = true
    · rw [if_pos c104] at hf
      refine mx_WP.zne (b := u103) (q := 25) (p3 := 21) rfl (fun _ => ?_) (fun hh => absurd hh (by simp [c104]))
      refine mx_WP.go 2 (pc' := 2) (L' := [some (mx_r (some (1, 11, 0))), some (mx_i x1), some (mx_i (s + 1))]) (st' := []) (σ' := (γ, hM I J, κ)) rfl ?_
      rw [← Option.some.inj hf] at hk
      exact hk
    · rw [if_neg c104] at hf
      refine mx_WP.zne (b := u103) (q := 25) (p3 := 21) rfl (fun hh => absurd hh (by simp [c104])) (fun _ => ?_)
      refine mx_WP.go 3 (pc' := 24) (L' := [some (mx_r (some (1, 11, 0))), some (mx_i x1), some (mx_i s)]) (st' := [mx_i (s + (1 : Int32))]) (σ' := (γ, hM I J, κ)) rfl ?_
      rw [← Option.some.inj hf] at hk
      refine mx_WP.ret (v := some (mx_i (s + (1 : Int32)))) rfl ?_
      exact hk
theorem L136_2 {d : Nat} {x1 : Int32} {γ : mx_Rg} {I : Nat → Nat → Nat → Int32} {J : Nat → Nat → Nat → Int64} {κ : (Nat × (Nat → Int32)) × (Nat × Nat)} {Q : Option mx_V → mx_Hp → Prop} {n : Nat} {s : Int32} {o : (Int32) ⊕ (Int32)} (hf : mx_lp (b136_2 x1 I) n s = some o) (hk : (Sum.elim (fun x : Int32 => mx_WP (d + 2) 136 31 [some (mx_r (some (1, 11, 0))), some (mx_i x1), some (mx_i x)] [] (γ, hM I J, κ) Q) (fun x : Int32 => Q (some (mx_i x)) (γ, hM I J, κ))) o) : mx_WP (d + 2) 136 2 [some (mx_r (some (1, 11, 0))), some (mx_i x1), some (mx_i s)] [] (γ, hM I J, κ) Q := mx_lp_ok (P := fun s : Int32 => mx_WP (d + 2) 136 2 [some (mx_r (some (1, 11, 0))), some (mx_i x1), some (mx_i s)] [] (γ, hM I J, κ) Q) (E := (Sum.elim (fun x : Int32 => mx_WP (d + 2) 136 31 [some (mx_r (some (1, 11, 0))), some (mx_i x1), some (mx_i x)] [] (γ, hM I J, κ) Q) (fun x : Int32 => Q (some (mx_i x)) (γ, hM I J, κ)))) (fun s o hf hk => B136_2 hf hk) n s o hf hk
def f136 (x1 : Int32) (I : Nat → Nat → Nat → Int32) : Option (Int32) :=
  (mx_lp (b136_2 x1 I) mx_fu (0 : Int32)).bind fun u106 => Sum.elim (fun w108 =>
  some (0 : Int32)) (fun y109 => some y109) u106
theorem T136 {d : Nat} {x1 : Int32} {γ : mx_Rg} {I : Nat → Nat → Nat → Int32} {J : Nat → Nat → Nat → Int64} {κ : (Nat × (Nat → Int32)) × (Nat × Nat)} {Q : Option mx_V → mx_Hp → Prop} {o : Int32} (hf : f136 x1 I = some o) (hk : Q (some (mx_i o)) (γ, hM I J, κ)) : mx_WP (d + 2) 136 0 (mx_ent 136 [mx_r (some (1, 11, 0)), mx_i x1]) [] (γ, hM I J, κ) Q := by
  unfold f136 at hf
  refine mx_WP.go 2 (pc' := 2) (L' := [some (mx_r (some (1, 11, 0))), some (mx_i x1), some (mx_i (0 : Int32))]) (st' := []) (σ' := (γ, hM I J, κ)) rfl ?_
  obtain ⟨u106, e107, hf⟩ := Option.bind_eq_some_iff.mp hf
  cases u106 with
  | inr y109 =>
    rw [Sum.elim_inr] at hf
    rw [← Option.some.inj hf] at hk
    exact (L136_2 (d := d) e107 hk)
  | inl w108 =>
    rw [Sum.elim_inl] at hf
    refine (L136_2 (d := d) e107 ?_)
    show mx_WP (d + 2) 136 31 [some (mx_r (some (1, 11, 0))), some (mx_i x1), some (mx_i w108)] [] (γ, hM I J, κ) Q
    refine mx_WP.go 1 (pc' := 32) (L' := [some (mx_r (some (1, 11, 0))), some (mx_i x1), some (mx_i w108)]) (st' := [mx_i (0 : Int32)]) (σ' := (γ, hM I J, κ)) rfl ?_
    rw [← Option.some.inj hf] at hk
    refine mx_WP.ret (v := some (mx_i (0 : Int32))) rfl ?_
    exact hk
def f154 (x1 : Int32) (x2 : Int32) (I : Nat → Nat → Nat → Int32) : Option (Int32) :=
  (f120 x1 (0 : Int32) (7 : Int32)).bind fun u1 =>
  if u1 = true then ((f120 x2 (0 : Int32) (7 : Int32)).bind fun u3 =>
  if u3 = true then (if x1 < 0 ∨ 8 ≤ x1.toNatClampNeg then none else if (I 92 0 x1.toNatClampNeg) = (0 : Int32) then (some (0 : Int32)) else if x2 = (0 : Int32) then (if x1 < 0 ∨ 8 ≤ x1.toNatClampNeg then none else if (I 94 0 x1.toNatClampNeg) = (0 : Int32) then (if x1 < 0 ∨ 8 ≤ x1.toNatClampNeg then none else if (I 93 0 x1.toNatClampNeg) = (0 : Int32) then (some (1 : Int32)) else some (2 : Int32)) else some (3 : Int32)) else if x2 = (1 : Int32) then (if x1 < 0 ∨ 8 ≤ x1.toNatClampNeg then none else some (I 96 0 x1.toNatClampNeg)) else if x2 = (2 : Int32) then (if x1 < 0 ∨ 8 ≤ x1.toNatClampNeg then none else if (0 : Int32) ≤ (I 97 0 x1.toNatClampNeg) then (some (1 : Int32)) else some (0 : Int32)) else if x2 = (3 : Int32) then (if x1 < 0 ∨ 8 ≤ x1.toNatClampNeg then none else some (I 97 0 x1.toNatClampNeg)) else if x2 = (4 : Int32) then (if x1 < 0 ∨ 8 ≤ x1.toNatClampNeg then none else some (I 98 0 x1.toNatClampNeg)) else if x2 = (5 : Int32) then (if x1 < 0 ∨ 8 ≤ x1.toNatClampNeg then none else some (I 99 0 x1.toNatClampNeg)) else if x2 = (6 : Int32) then (if x1 < 0 ∨ 8 ≤ x1.toNatClampNeg then none else some (I 100 0 x1.toNatClampNeg)) else (f136 x1 I).bind fun u25 =>
  some u25) else some (-1 : Int32)) else some (-1 : Int32)
theorem T154 {d : Nat} {x1 : Int32} {x2 : Int32} {γ : mx_Rg} {I : Nat → Nat → Nat → Int32} {J : Nat → Nat → Nat → Int64} {κ : (Nat × (Nat → Int32)) × (Nat × Nat)} {Q : Option mx_V → mx_Hp → Prop} {o : Int32} (hf : f154 x1 x2 I = some o) (hk : Q (some (mx_i o)) (γ, hM I J, κ)) : mx_WP (d + 3) 154 0 (mx_ent 154 [mx_r (some (1, 11, 0)), mx_i x1, mx_i x2]) [] (γ, hM I J, κ) Q := by
  unfold f154 at hf
  refine mx_WP.go 3 (pc' := 4) (L' := [some (mx_r (some (1, 11, 0))), some (mx_i x1), some (mx_i x2)]) (st' := [mx_i (7 : Int32), mx_i (0 : Int32), mx_i x1]) (σ' := (γ, hM I J, κ)) rfl ?_
  obtain ⟨u1, e28, hf⟩ := Option.bind_eq_some_iff.mp hf
  refine mx_WP.call (d := d + 2) (y := 120) (as := [mx_i x1, mx_i (0 : Int32), mx_i (7 : Int32)]) (pc' := 7) (r := []) rfl rfl (T120 (d := d + 2)  e28 ?_)
  show mx_WP (d + 3) 154 7 [some (mx_r (some (1, 11, 0))), some (mx_i x1), some (mx_i x2)] [mx_i (b2i u1)] (γ, hM I J, κ) Q
  by_cases c2 : u1 = true
  · rw [if_pos c2] at hf
    refine mx_WP.zeq (b := u1) (q := 20) (p3 := 10) rfl (fun hh => absurd hh (by simp [c2])) (fun _ => ?_)
    refine mx_WP.go 3 (pc' := 14) (L' := [some (mx_r (some (1, 11, 0))), some (mx_i x1), some (mx_i x2)]) (st' := [mx_i (7 : Int32), mx_i (0 : Int32), mx_i x2]) (σ' := (γ, hM I J, κ)) rfl ?_
    obtain ⟨u3, e27, hf⟩ := Option.bind_eq_some_iff.mp hf
    refine mx_WP.call (d := d + 2) (y := 120) (as := [mx_i x2, mx_i (0 : Int32), mx_i (7 : Int32)]) (pc' := 17) (r := []) rfl rfl (T120 (d := d + 2)  e27 ?_)
    show mx_WP (d + 3) 154 17 [some (mx_r (some (1, 11, 0))), some (mx_i x1), some (mx_i x2)] [mx_i (b2i u3)] (γ, hM I J, κ) Q
    by_cases c4 : u3 = true
    · rw [if_pos c4] at hf
      refine mx_WP.zne (b := u3) (q := 22) (p3 := 20) rfl (fun _ => ?_) (fun hh => absurd hh (by simp [c4]))
      refine mx_WP.go 3 (pc' := 27) (L' := [some (mx_r (some (1, 11, 0))), some (mx_i x1), some (mx_i x2)]) (st' := [mx_i x1, mx_r (some (1, 92, 0))]) (σ' := (γ, hM I J, κ)) rfl ?_
      by_cases c5 : x1 < 0 ∨ 8 ≤ x1.toNatClampNeg
      · rw [if_pos c5] at hf
        cases hf
      rw [if_neg c5] at hf
      refine mx_WP.baldx c5 ?_
      show mx_WP (d + 3) 154 28 [some (mx_r (some (1, 11, 0))), some (mx_i x1), some (mx_i x2)] [mx_i (I 92 0 x1.toNatClampNeg)] (γ, hM I J, κ) Q
      by_cases c6 : (I 92 0 x1.toNatClampNeg) = (0 : Int32)
      · rw [if_pos c6] at hf
        refine mx_WP.bne (x := (I 92 0 x1.toNatClampNeg)) (y := (0 : Int32)) (q := 33) (p3 := 31) rfl (fun hh => absurd c6 hh) (fun _ => ?_)
        refine mx_WP.go 1 (pc' := 32) (L' := [some (mx_r (some (1, 11, 0))), some (mx_i x1), some (mx_i x2)]) (st' := [mx_i (0 : Int32)]) (σ' := (γ, hM I J, κ)) rfl ?_
        rw [← Option.some.inj hf] at hk
        refine mx_WP.ret (v := some (mx_i (0 : Int32))) rfl ?_
        exact hk
      · rw [if_neg c6] at hf
        refine mx_WP.bne (x := (I 92 0 x1.toNatClampNeg)) (y := (0 : Int32)) (q := 33) (p3 := 31) rfl (fun _ => ?_) (fun hh => absurd c6 hh)
        refine mx_WP.go 1 (pc' := 34) (L' := [some (mx_r (some (1, 11, 0))), some (mx_i x1), some (mx_i x2)]) (st' := [mx_i x2]) (σ' := (γ, hM I J, κ)) rfl ?_
        by_cases c7 : x2 = (0 : Int32)
        · rw [if_pos c7] at hf
          refine mx_WP.sw (c := (0 : Int32)) (q := 76) c7 (by rfl) ?_
          refine mx_WP.go 3 (pc' := 81) (L' := [some (mx_r (some (1, 11, 0))), some (mx_i x1), some (mx_i x2)]) (st' := [mx_i x1, mx_r (some (1, 94, 0))]) (σ' := (γ, hM I J, κ)) rfl ?_
          by_cases c8 : x1 < 0 ∨ 8 ≤ x1.toNatClampNeg
          · rw [if_pos c8] at hf
            cases hf
          rw [if_neg c8] at hf
          refine mx_WP.baldx c8 ?_
          show mx_WP (d + 3) 154 82 [some (mx_r (some (1, 11, 0))), some (mx_i x1), some (mx_i x2)] [mx_i (I 94 0 x1.toNatClampNeg)] (γ, hM I J, κ) Q
          by_cases c9 : (I 94 0 x1.toNatClampNeg) = (0 : Int32)
          · rw [if_pos c9] at hf
            refine mx_WP.beq (x := (I 94 0 x1.toNatClampNeg)) (y := (0 : Int32)) (q := 89) (p3 := 85) rfl (fun _ => ?_) (fun hh => absurd c9 hh)
            refine mx_WP.go 3 (pc' := 94) (L' := [some (mx_r (some (1, 11, 0))), some (mx_i x1), some (mx_i x2)]) (st' := [mx_i x1, mx_r (some (1, 93, 0))]) (σ' := (γ, hM I J, κ)) rfl ?_
            by_cases c10 : x1 < 0 ∨ 8 ≤ x1.toNatClampNeg
            · rw [if_pos c10] at hf
              cases hf
            rw [if_neg c10] at hf
            refine mx_WP.baldx c10 ?_
            show mx_WP (d + 3) 154 95 [some (mx_r (some (1, 11, 0))), some (mx_i x1), some (mx_i x2)] [mx_i (I 93 0 x1.toNatClampNeg)] (γ, hM I J, κ) Q
            by_cases c11 : (I 93 0 x1.toNatClampNeg) = (0 : Int32)
            · rw [if_pos c11] at hf
              refine mx_WP.beq (x := (I 93 0 x1.toNatClampNeg)) (y := (0 : Int32)) (q := 102) (p3 := 98) rfl (fun _ => ?_) (fun hh => absurd c11 hh)
              refine mx_WP.go 1 (pc' := 103) (L' := [some (mx_r (some (1, 11, 0))), some (mx_i x1), some (mx_i x2)]) (st' := [mx_i (1 : Int32)]) (σ' := (γ, hM I J, κ)) rfl ?_
              rw [← Option.some.inj hf] at hk
              refine mx_WP.ret (v := some (mx_i (1 : Int32))) rfl ?_
              exact hk
            · rw [if_neg c11] at hf
              refine mx_WP.beq (x := (I 93 0 x1.toNatClampNeg)) (y := (0 : Int32)) (q := 102) (p3 := 98) rfl (fun hh => absurd hh c11) (fun _ => ?_)
              refine mx_WP.go 2 (pc' := 103) (L' := [some (mx_r (some (1, 11, 0))), some (mx_i x1), some (mx_i x2)]) (st' := [mx_i (2 : Int32)]) (σ' := (γ, hM I J, κ)) rfl ?_
              rw [← Option.some.inj hf] at hk
              refine mx_WP.ret (v := some (mx_i (2 : Int32))) rfl ?_
              exact hk
          · rw [if_neg c9] at hf
            refine mx_WP.beq (x := (I 94 0 x1.toNatClampNeg)) (y := (0 : Int32)) (q := 89) (p3 := 85) rfl (fun hh => absurd hh c9) (fun _ => ?_)
            refine mx_WP.go 2 (pc' := 103) (L' := [some (mx_r (some (1, 11, 0))), some (mx_i x1), some (mx_i x2)]) (st' := [mx_i (3 : Int32)]) (σ' := (γ, hM I J, κ)) rfl ?_
            rw [← Option.some.inj hf] at hk
            refine mx_WP.ret (v := some (mx_i (3 : Int32))) rfl ?_
            exact hk
        rw [if_neg c7] at hf
        by_cases c12 : x2 = (1 : Int32)
        · rw [if_pos c12] at hf
          refine mx_WP.sw (c := (1 : Int32)) (q := 104) c12 (by rfl) ?_
          refine mx_WP.go 3 (pc' := 109) (L' := [some (mx_r (some (1, 11, 0))), some (mx_i x1), some (mx_i x2)]) (st' := [mx_i x1, mx_r (some (1, 96, 0))]) (σ' := (γ, hM I J, κ)) rfl ?_
          by_cases c13 : x1 < 0 ∨ 8 ≤ x1.toNatClampNeg
          · rw [if_pos c13] at hf
            cases hf
          rw [if_neg c13] at hf
          refine mx_WP.ialdx c13 ?_
          show mx_WP (d + 3) 154 110 [some (mx_r (some (1, 11, 0))), some (mx_i x1), some (mx_i x2)] [mx_i (I 96 0 x1.toNatClampNeg)] (γ, hM I J, κ) Q
          rw [← Option.some.inj hf] at hk
          refine mx_WP.ret (v := some (mx_i (I 96 0 x1.toNatClampNeg))) rfl ?_
          exact hk
        rw [if_neg c12] at hf
        by_cases c14 : x2 = (2 : Int32)
        · rw [if_pos c14] at hf
          refine mx_WP.sw (c := (2 : Int32)) (q := 111) c14 (by rfl) ?_
          refine mx_WP.go 3 (pc' := 116) (L' := [some (mx_r (some (1, 11, 0))), some (mx_i x1), some (mx_i x2)]) (st' := [mx_i x1, mx_r (some (1, 97, 0))]) (σ' := (γ, hM I J, κ)) rfl ?_
          by_cases c15 : x1 < 0 ∨ 8 ≤ x1.toNatClampNeg
          · rw [if_pos c15] at hf
            cases hf
          rw [if_neg c15] at hf
          refine mx_WP.ialdx c15 ?_
          show mx_WP (d + 3) 154 117 [some (mx_r (some (1, 11, 0))), some (mx_i x1), some (mx_i x2)] [mx_i (I 97 0 x1.toNatClampNeg)] (γ, hM I J, κ) Q
          by_cases c16 : (0 : Int32) ≤ (I 97 0 x1.toNatClampNeg)
          · rw [if_pos c16] at hf
            refine mx_WP.bge (x := (I 97 0 x1.toNatClampNeg)) (y := (0 : Int32)) (q := 124) (p3 := 120) rfl (fun _ => ?_) (fun hh => absurd c16 hh)
            refine mx_WP.go 1 (pc' := 125) (L' := [some (mx_r (some (1, 11, 0))), some (mx_i x1), some (mx_i x2)]) (st' := [mx_i (1 : Int32)]) (σ' := (γ, hM I J, κ)) rfl ?_
            rw [← Option.some.inj hf] at hk
            refine mx_WP.ret (v := some (mx_i (1 : Int32))) rfl ?_
            exact hk
          · rw [if_neg c16] at hf
            refine mx_WP.bge (x := (I 97 0 x1.toNatClampNeg)) (y := (0 : Int32)) (q := 124) (p3 := 120) rfl (fun hh => absurd hh c16) (fun _ => ?_)
            refine mx_WP.go 2 (pc' := 125) (L' := [some (mx_r (some (1, 11, 0))), some (mx_i x1), some (mx_i x2)]) (st' := [mx_i (0 : Int32)]) (σ' := (γ, hM I J, κ)) rfl ?_
            rw [← Option.some.inj hf] at hk
            refine mx_WP.ret (v := some (mx_i (0 : Int32))) rfl ?_
            exact hk
        rw [if_neg c14] at hf
        by_cases c17 : x2 = (3 : Int32)
        · rw [if_pos c17] at hf
          refine mx_WP.sw (c := (3 : Int32)) (q := 126) c17 (by rfl) ?_
          refine mx_WP.go 3 (pc' := 131) (L' := [some (mx_r (some (1, 11, 0))), some (mx_i x1), some (mx_i x2)]) (st' := [mx_i x1, mx_r (some (1, 97, 0))]) (σ' := (γ, hM I J, κ)) rfl ?_
          by_cases c18 : x1 < 0 ∨ 8 ≤ x1.toNatClampNeg
          · rw [if_pos c18] at hf
            cases hf
          rw [if_neg c18] at hf
          refine mx_WP.ialdx c18 ?_
          show mx_WP (d + 3) 154 132 [some (mx_r (some (1, 11, 0))), some (mx_i x1), some (mx_i x2)] [mx_i (I 97 0 x1.toNatClampNeg)] (γ, hM I J, κ) Q
          rw [← Option.some.inj hf] at hk
          refine mx_WP.ret (v := some (mx_i (I 97 0 x1.toNatClampNeg))) rfl ?_
          exact hk
        rw [if_neg c17] at hf
        by_cases c19 : x2 = (4 : Int32)
        · rw [if_pos c19] at hf
          refine mx_WP.sw (c := (4 : Int32)) (q := 133) c19 (by rfl) ?_
          refine mx_WP.go 3 (pc' := 138) (L' := [some (mx_r (some (1, 11, 0))), some (mx_i x1), some (mx_i x2)]) (st' := [mx_i x1, mx_r (some (1, 98, 0))]) (σ' := (γ, hM I J, κ)) rfl ?_
          by_cases c20 : x1 < 0 ∨ 8 ≤ x1.toNatClampNeg
          · rw [if_pos c20] at hf
            cases hf
          rw [if_neg c20] at hf
          refine mx_WP.ialdx c20 ?_
          show mx_WP (d + 3) 154 139 [some (mx_r (some (1, 11, 0))), some (mx_i x1), some (mx_i x2)] [mx_i (I 98 0 x1.toNatClampNeg)] (γ, hM I J, κ) Q
          rw [← Option.some.inj hf] at hk
          refine mx_WP.ret (v := some (mx_i (I 98 0 x1.toNatClampNeg))) rfl ?_
          exact hk
        rw [if_neg c19] at hf
        by_cases c21 : x2 = (5 : Int32)
        · rw [if_pos c21] at hf
          refine mx_WP.sw (c := (5 : Int32)) (q := 140) c21 (by rfl) ?_
          refine mx_WP.go 3 (pc' := 145) (L' := [some (mx_r (some (1, 11, 0))), some (mx_i x1), some (mx_i x2)]) (st' := [mx_i x1, mx_r (some (1, 99, 0))]) (σ' := (γ, hM I J, κ)) rfl ?_
          by_cases c22 : x1 < 0 ∨ 8 ≤ x1.toNatClampNeg
          · rw [if_pos c22] at hf
            cases hf
          rw [if_neg c22] at hf
          refine mx_WP.ialdx c22 ?_
          show mx_WP (d + 3) 154 146 [some (mx_r (some (1, 11, 0))), some (mx_i x1), some (mx_i x2)] [mx_i (I 99 0 x1.toNatClampNeg)] (γ, hM I J, κ) Q
          rw [← Option.some.inj hf] at hk
          refine mx_WP.ret (v := some (mx_i (I 99 0 x1.toNatClampNeg))) rfl ?_
          exact hk
        rw [if_neg c21] at hf
        by_cases c23 : x2 = (6 : Int32)
        · rw [if_pos c23] at hf
          refine mx_WP.sw (c := (6 : Int32)) (q := 147) c23 (by rfl) ?_
          refine mx_WP.go 3 (pc' := 152) (L' := [some (mx_r (some (1, 11, 0))), some (mx_i x1), some (mx_i x2)]) (st' := [mx_i x1, mx_r (some (1, 100, 0))]) (σ' := (γ, hM I J, κ)) rfl ?_
          by_cases c24 : x1 < 0 ∨ 8 ≤ x1.toNatClampNeg
          · rw [if_pos c24] at hf
            cases hf
          rw [if_neg c24] at hf
          refine mx_WP.ialdx c24 ?_
          show mx_WP (d + 3) 154 153 [some (mx_r (some (1, 11, 0))), some (mx_i x1), some (mx_i x2)] [mx_i (I 100 0 x1.toNatClampNeg)] (γ, hM I J, κ) Q
          rw [← Option.some.inj hf] at hk
          refine mx_WP.ret (v := some (mx_i (I 100 0 x1.toNatClampNeg))) rfl ?_
          exact hk
        rw [if_neg c23] at hf
        refine mx_WP.swt (q := 154) (mx_tso7 c7 c12 c14 c17 c19 c21 c23) (by rfl) (by rfl) ?_
        refine mx_WP.go 2 (pc' := 156) (L' := [some (mx_r (some (1, 11, 0))), some (mx_i x1), some (mx_i x2)]) (st' := [mx_i x1, mx_r (some (1, 11, 0))]) (σ' := (γ, hM I J, κ)) rfl ?_
        obtain ⟨u25, e26, hf⟩ := Option.bind_eq_some_iff.mp hf
        refine mx_WP.call (d := d + 2) (y := 136) (as := [mx_r (some (1, 11, 0)), mx_i x1]) (pc' := 159) (r := []) rfl rfl (T136 (d := d + 0)  e26 ?_)
        show mx_WP (d + 3) 154 159 [some (mx_r (some (1, 11, 0))), some (mx_i x1), some (mx_i x2)] [mx_i u25] (γ, hM I J, κ) Q
        rw [← Option.some.inj hf] at hk
        refine mx_WP.ret (v := some (mx_i u25)) rfl ?_
        exact hk
    · rw [if_neg c4] at hf
      refine mx_WP.zne (b := u3) (q := 22) (p3 := 20) rfl (fun hh => absurd hh (by simp [c4])) (fun _ => ?_)
      refine mx_WP.go 1 (pc' := 21) (L' := [some (mx_r (some (1, 11, 0))), some (mx_i x1), some (mx_i x2)]) (st' := [mx_i (-1 : Int32)]) (σ' := (γ, hM I J, κ)) rfl ?_
      rw [← Option.some.inj hf] at hk
      refine mx_WP.ret (v := some (mx_i (-1 : Int32))) rfl ?_
      exact hk
  · rw [if_neg c2] at hf
    refine mx_WP.zeq (b := u1) (q := 20) (p3 := 10) rfl (fun _ => ?_) (fun hh => absurd hh (by simp [c2]))
    refine mx_WP.go 1 (pc' := 21) (L' := [some (mx_r (some (1, 11, 0))), some (mx_i x1), some (mx_i x2)]) (st' := [mx_i (-1 : Int32)]) (σ' := (γ, hM I J, κ)) rfl ?_
    rw [← Option.some.inj hf] at hk
    refine mx_WP.ret (v := some (mx_i (-1 : Int32))) rfl ?_
    exact hk
def f140 (x1 : Int32) (I : Nat → Nat → Nat → Int32) : Option (Bool) :=
  (f120 x1 (0 : Int32) (127 : Int32)).bind fun u1 =>
  if u1 = true then (if (x1 / (16 : Int32)) < 0 ∨ 8 ≤ (x1 / (16 : Int32)).toNatClampNeg then none else if (I 92 0 ((x1 / (16 : Int32)).toNatClampNeg)) = (0 : Int32) then (some false) else if (x1 / (16 : Int32)) < 0 ∨ 8 ≤ (x1 / (16 : Int32)).toNatClampNeg then none else if (I 100 0 ((x1 / (16 : Int32)).toNatClampNeg)) ≤ (x1 - x1 / (16 : Int32) * (16 : Int32)) then (some false) else some true) else some false
theorem T140 {d : Nat} {x1 : Int32} {γ : mx_Rg} {I : Nat → Nat → Nat → Int32} {J : Nat → Nat → Nat → Int64} {κ : (Nat × (Nat → Int32)) × (Nat × Nat)} {Q : Option mx_V → mx_Hp → Prop} {o : Bool} (hf : f140 x1 I = some o) (hk : Q (some (mx_i (b2i o))) (γ, hM I J, κ)) : mx_WP (d + 1) 140 0 (mx_ent 140 [mx_r (some (1, 11, 0)), mx_i x1]) [] (γ, hM I J, κ) Q := by
  unfold f140 at hf
  refine mx_WP.go 3 (pc' := 4) (L' := [some (mx_r (some (1, 11, 0))), some (mx_i x1)]) (st' := [mx_i (127 : Int32), mx_i (0 : Int32), mx_i x1]) (σ' := (γ, hM I J, κ)) rfl ?_
  obtain ⟨u1, e7, hf⟩ := Option.bind_eq_some_iff.mp hf
  refine mx_WP.call (d := d + 0) (y := 120) (as := [mx_i x1, mx_i (0 : Int32), mx_i (127 : Int32)]) (pc' := 7) (r := []) rfl rfl (T120 (d := d + 0)  e7 ?_)
  show mx_WP (d + 1) 140 7 [some (mx_r (some (1, 11, 0))), some (mx_i x1)] [mx_i (b2i u1)] (γ, hM I J, κ) Q
  by_cases c2 : u1 = true
  · rw [if_pos c2] at hf
    refine mx_WP.zeq (b := u1) (q := 42) (p3 := 10) rfl (fun hh => absurd hh (by simp [c2])) (fun _ => ?_)
    refine mx_WP.go 5 (pc' := 18) (L' := [some (mx_r (some (1, 11, 0))), some (mx_i x1)]) (st' := [mx_i (x1 / (16 : Int32)), mx_r (some (1, 92, 0))]) (σ' := (γ, hM I J, κ)) rfl ?_
    by_cases c3 : (x1 / (16 : Int32)) < 0 ∨ 8 ≤ (x1 / (16 : Int32)).toNatClampNeg
    · rw [if_pos c3] at hf
      cases hf
    rw [if_neg c3] at hf
    refine mx_WP.baldx c3 ?_
    show mx_WP (d + 1) 140 19 [some (mx_r (some (1, 11, 0))), some (mx_i x1)] [mx_i (I 92 0 ((x1 / (16 : Int32)).toNatClampNeg))] (γ, hM I J, κ) Q
    by_cases c4 : (I 92 0 ((x1 / (16 : Int32)).toNatClampNeg)) = (0 : Int32)
    · rw [if_pos c4] at hf
      refine mx_WP.beq (x := (I 92 0 ((x1 / (16 : Int32)).toNatClampNeg))) (y := (0 : Int32)) (q := 42) (p3 := 22) rfl (fun _ => ?_) (fun hh => absurd c4 hh)
      refine mx_WP.go 1 (pc' := 43) (L' := [some (mx_r (some (1, 11, 0))), some (mx_i x1)]) (st' := [mx_i (0 : Int32)]) (σ' := (γ, hM I J, κ)) rfl ?_
      rw [← Option.some.inj hf] at hk
      refine mx_WP.ret (v := some (mx_i (0 : Int32))) rfl ?_
      exact hk
    · rw [if_neg c4] at hf
      refine mx_WP.beq (x := (I 92 0 ((x1 / (16 : Int32)).toNatClampNeg))) (y := (0 : Int32)) (q := 42) (p3 := 22) rfl (fun hh => absurd hh c4) (fun _ => ?_)
      refine mx_WP.go 8 (pc' := 34) (L' := [some (mx_r (some (1, 11, 0))), some (mx_i x1)]) (st' := [mx_i (x1 / (16 : Int32)), mx_r (some (1, 100, 0)), mx_i (x1 - x1 / (16 : Int32) * (16 : Int32))]) (σ' := (γ, hM I J, κ)) rfl ?_
      by_cases c5 : (x1 / (16 : Int32)) < 0 ∨ 8 ≤ (x1 / (16 : Int32)).toNatClampNeg
      · rw [if_pos c5] at hf
        cases hf
      rw [if_neg c5] at hf
      refine mx_WP.ialdx c5 ?_
      show mx_WP (d + 1) 140 35 [some (mx_r (some (1, 11, 0))), some (mx_i x1)] [mx_i (I 100 0 ((x1 / (16 : Int32)).toNatClampNeg)), mx_i (x1 - x1 / (16 : Int32) * (16 : Int32))] (γ, hM I J, κ) Q
      by_cases c6 : (I 100 0 ((x1 / (16 : Int32)).toNatClampNeg)) ≤ (x1 - x1 / (16 : Int32) * (16 : Int32))
      · rw [if_pos c6] at hf
        refine mx_WP.bge (x := (x1 - x1 / (16 : Int32) * (16 : Int32))) (y := (I 100 0 ((x1 / (16 : Int32)).toNatClampNeg))) (q := 42) (p3 := 38) rfl (fun _ => ?_) (fun hh => absurd c6 hh)
        refine mx_WP.go 1 (pc' := 43) (L' := [some (mx_r (some (1, 11, 0))), some (mx_i x1)]) (st' := [mx_i (0 : Int32)]) (σ' := (γ, hM I J, κ)) rfl ?_
        rw [← Option.some.inj hf] at hk
        refine mx_WP.ret (v := some (mx_i (0 : Int32))) rfl ?_
        exact hk
      · rw [if_neg c6] at hf
        refine mx_WP.bge (x := (x1 - x1 / (16 : Int32) * (16 : Int32))) (y := (I 100 0 ((x1 / (16 : Int32)).toNatClampNeg))) (q := 42) (p3 := 38) rfl (fun hh => absurd hh c6) (fun _ => ?_)
        refine mx_WP.go 2 (pc' := 43) (L' := [some (mx_r (some (1, 11, 0))), some (mx_i x1)]) (st' := [mx_i (1 : Int32)]) (σ' := (γ, hM I J, κ)) rfl ?_
        rw [← Option.some.inj hf] at hk
        refine mx_WP.ret (v := some (mx_i (1 : Int32))) rfl ?_
        exact hk
  · rw [if_neg c2] at hf
    refine mx_WP.zeq (b := u1) (q := 42) (p3 := 10) rfl (fun _ => ?_) (fun hh => absurd hh (by simp [c2]))
    refine mx_WP.go 1 (pc' := 43) (L' := [some (mx_r (some (1, 11, 0))), some (mx_i x1)]) (st' := [mx_i (0 : Int32)]) (σ' := (γ, hM I J, κ)) rfl ?_
    rw [← Option.some.inj hf] at hk
    refine mx_WP.ret (v := some (mx_i (0 : Int32))) rfl ?_
    exact hk
def f139 (x1 : Int32) (x2 : Int64) (I : Nat → Nat → Nat → Int32) (J : Nat → Nat → Nat → Int64) : Option (Bool) :=
  (f140 x1 I).bind fun u1 =>
  if u1 = true then (if (x1 / (16 : Int32)) < 0 ∨ 8 ≤ (x1 / (16 : Int32)).toNatClampNeg then none else if (I 93 0 ((x1 / (16 : Int32)).toNatClampNeg)) = (0 : Int32) then (some false) else if x1 < 0 ∨ 128 ≤ x1.toNatClampNeg then none else if (I 106 0 x1.toNatClampNeg) = (1 : Int32) then (if x1 < 0 ∨ 128 ≤ x1.toNatClampNeg then none else if (lg_cmp (J 102 0 x1.toNatClampNeg) x2) = (0 : Int32) then (some true) else some false) else some false) else some false
theorem T139 {d : Nat} {x1 : Int32} {x2 : Int64} {γ : mx_Rg} {I : Nat → Nat → Nat → Int32} {J : Nat → Nat → Nat → Int64} {κ : (Nat × (Nat → Int32)) × (Nat × Nat)} {Q : Option mx_V → mx_Hp → Prop} {o : Bool} (hf : f139 x1 x2 I J = some o) (hk : Q (some (mx_i (b2i o))) (γ, hM I J, κ)) : mx_WP (d + 2) 139 0 (mx_ent 139 [mx_r (some (1, 11, 0)), mx_i x1, mx_l x2]) [] (γ, hM I J, κ) Q := by
  unfold f139 at hf
  refine mx_WP.go 2 (pc' := 2) (L' := [some (mx_r (some (1, 11, 0))), some (mx_i x1), some (mx_l x2), none]) (st' := [mx_i x1, mx_r (some (1, 11, 0))]) (σ' := (γ, hM I J, κ)) rfl ?_
  obtain ⟨u1, e9, hf⟩ := Option.bind_eq_some_iff.mp hf
  refine mx_WP.call (d := d + 1) (y := 140) (as := [mx_r (some (1, 11, 0)), mx_i x1]) (pc' := 5) (r := []) rfl rfl (T140 (d := d + 0)  e9 ?_)
  show mx_WP (d + 2) 139 5 [some (mx_r (some (1, 11, 0))), some (mx_i x1), some (mx_l x2), none] [mx_i (b2i u1)] (γ, hM I J, κ) Q
  by_cases c2 : u1 = true
  · rw [if_pos c2] at hf
    refine mx_WP.zeq (b := u1) (q := 45) (p3 := 8) rfl (fun hh => absurd hh (by simp [c2])) (fun _ => ?_)
    refine mx_WP.go 5 (pc' := 16) (L' := [some (mx_r (some (1, 11, 0))), some (mx_i x1), some (mx_l x2), none]) (st' := [mx_i (x1 / (16 : Int32)), mx_r (some (1, 93, 0))]) (σ' := (γ, hM I J, κ)) rfl ?_
    by_cases c3 : (x1 / (16 : Int32)) < 0 ∨ 8 ≤ (x1 / (16 : Int32)).toNatClampNeg
    · rw [if_pos c3] at hf
      cases hf
    rw [if_neg c3] at hf
    refine mx_WP.baldx c3 ?_
    show mx_WP (d + 2) 139 17 [some (mx_r (some (1, 11, 0))), some (mx_i x1), some (mx_l x2), none] [mx_i (I 93 0 ((x1 / (16 : Int32)).toNatClampNeg))] (γ, hM I J, κ) Q
    by_cases c4 : (I 93 0 ((x1 / (16 : Int32)).toNatClampNeg)) = (0 : Int32)
    · rw [if_pos c4] at hf
      refine mx_WP.beq (x := (I 93 0 ((x1 / (16 : Int32)).toNatClampNeg))) (y := (0 : Int32)) (q := 45) (p3 := 20) rfl (fun _ => ?_) (fun hh => absurd c4 hh)
      refine mx_WP.go 1 (pc' := 46) (L' := [some (mx_r (some (1, 11, 0))), some (mx_i x1), some (mx_l x2), none]) (st' := [mx_i (0 : Int32)]) (σ' := (γ, hM I J, κ)) rfl ?_
      rw [← Option.some.inj hf] at hk
      refine mx_WP.ret (v := some (mx_i (0 : Int32))) rfl ?_
      exact hk
    · rw [if_neg c4] at hf
      refine mx_WP.beq (x := (I 93 0 ((x1 / (16 : Int32)).toNatClampNeg))) (y := (0 : Int32)) (q := 45) (p3 := 20) rfl (fun hh => absurd hh c4) (fun _ => ?_)
      refine mx_WP.go 3 (pc' := 25) (L' := [some (mx_r (some (1, 11, 0))), some (mx_i x1), some (mx_l x2), none]) (st' := [mx_i x1, mx_r (some (1, 106, 0))]) (σ' := (γ, hM I J, κ)) rfl ?_
      by_cases c5 : x1 < 0 ∨ 128 ≤ x1.toNatClampNeg
      · rw [if_pos c5] at hf
        cases hf
      rw [if_neg c5] at hf
      refine mx_WP.ialdx c5 ?_
      show mx_WP (d + 2) 139 26 [some (mx_r (some (1, 11, 0))), some (mx_i x1), some (mx_l x2), none] [mx_i (I 106 0 x1.toNatClampNeg)] (γ, hM I J, κ) Q
      refine mx_WP.go 1 (pc' := 27) (L' := [some (mx_r (some (1, 11, 0))), some (mx_i x1), some (mx_l x2), none]) (st' := [mx_i (1 : Int32), mx_i (I 106 0 x1.toNatClampNeg)]) (σ' := (γ, hM I J, κ)) rfl ?_
      by_cases c6 : (I 106 0 x1.toNatClampNeg) = (1 : Int32)
      · rw [if_pos c6] at hf
        refine mx_WP.bne (x := (I 106 0 x1.toNatClampNeg)) (y := (1 : Int32)) (q := 45) (p3 := 30) rfl (fun hh => absurd c6 hh) (fun _ => ?_)
        refine mx_WP.go 3 (pc' := 35) (L' := [some (mx_r (some (1, 11, 0))), some (mx_i x1), some (mx_l x2), none]) (st' := [mx_i x1, mx_r (some (1, 102, 0))]) (σ' := (γ, hM I J, κ)) rfl ?_
        by_cases c7 : x1 < 0 ∨ 128 ≤ x1.toNatClampNeg
        · rw [if_pos c7] at hf
          cases hf
        rw [if_neg c7] at hf
        refine mx_WP.laldx c7 ?_
        show mx_WP (d + 2) 139 36 [some (mx_r (some (1, 11, 0))), some (mx_i x1), some (mx_l x2), none] [mx_l (J 102 0 x1.toNatClampNeg)] (γ, hM I J, κ) Q
        refine mx_WP.go 2 (pc' := 38) (L' := [some (mx_r (some (1, 11, 0))), some (mx_i x1), some (mx_l x2), none]) (st' := [mx_i (lg_cmp (J 102 0 x1.toNatClampNeg) x2)]) (σ' := (γ, hM I J, κ)) rfl ?_
        by_cases c8 : (lg_cmp (J 102 0 x1.toNatClampNeg) x2) = (0 : Int32)
        · rw [if_pos c8] at hf
          refine mx_WP.bne (x := (lg_cmp (J 102 0 x1.toNatClampNeg) x2)) (y := (0 : Int32)) (q := 45) (p3 := 41) rfl (fun hh => absurd c8 hh) (fun _ => ?_)
          refine mx_WP.go 2 (pc' := 46) (L' := [some (mx_r (some (1, 11, 0))), some (mx_i x1), some (mx_l x2), none]) (st' := [mx_i (1 : Int32)]) (σ' := (γ, hM I J, κ)) rfl ?_
          rw [← Option.some.inj hf] at hk
          refine mx_WP.ret (v := some (mx_i (1 : Int32))) rfl ?_
          exact hk
        · rw [if_neg c8] at hf
          refine mx_WP.bne (x := (lg_cmp (J 102 0 x1.toNatClampNeg) x2)) (y := (0 : Int32)) (q := 45) (p3 := 41) rfl (fun _ => ?_) (fun hh => absurd c8 hh)
          refine mx_WP.go 1 (pc' := 46) (L' := [some (mx_r (some (1, 11, 0))), some (mx_i x1), some (mx_l x2), none]) (st' := [mx_i (0 : Int32)]) (σ' := (γ, hM I J, κ)) rfl ?_
          rw [← Option.some.inj hf] at hk
          refine mx_WP.ret (v := some (mx_i (0 : Int32))) rfl ?_
          exact hk
      · rw [if_neg c6] at hf
        refine mx_WP.bne (x := (I 106 0 x1.toNatClampNeg)) (y := (1 : Int32)) (q := 45) (p3 := 30) rfl (fun _ => ?_) (fun hh => absurd c6 hh)
        refine mx_WP.go 1 (pc' := 46) (L' := [some (mx_r (some (1, 11, 0))), some (mx_i x1), some (mx_l x2), none]) (st' := [mx_i (0 : Int32)]) (σ' := (γ, hM I J, κ)) rfl ?_
        rw [← Option.some.inj hf] at hk
        refine mx_WP.ret (v := some (mx_i (0 : Int32))) rfl ?_
        exact hk
  · rw [if_neg c2] at hf
    refine mx_WP.zeq (b := u1) (q := 45) (p3 := 8) rfl (fun _ => ?_) (fun hh => absurd hh (by simp [c2]))
    refine mx_WP.go 1 (pc' := 46) (L' := [some (mx_r (some (1, 11, 0))), some (mx_i x1), some (mx_l x2), none]) (st' := [mx_i (0 : Int32)]) (σ' := (γ, hM I J, κ)) rfl ?_
    rw [← Option.some.inj hf] at hk
    refine mx_WP.ret (v := some (mx_i (0 : Int32))) rfl ?_
    exact hk
def b141_3 (x1 : Int32) (x2 : Int64) (I : Nat → Nat → Nat → Int32) (J : Nat → Nat → Nat → Int64) (s : Int32) : Option ((Int32) ⊕ ((Int32) ⊕ (Int64))) :=
  if x1 < 0 ∨ 128 ≤ x1.toNatClampNeg then none else if (I 107 0 x1.toNatClampNeg) ≤ s then (some (Sum.inr (Sum.inl s))) else if (((4 : Int32) * x1) + s) < 0 ∨ 512 ≤ (((4 : Int32) * x1) + s).toNatClampNeg then none else if (lg_cmp (J 103 0 ((((4 : Int32) * x1) + s).toNatClampNeg)) x2) = (0 : Int32) then (if (((4 : Int32) * x1) + s) < 0 ∨ 512 ≤ (((4 : Int32) * x1) + s).toNatClampNeg then none else some (Sum.inr (Sum.inr (J 104 0 ((((4 : Int32) * x1) + s).toNatClampNeg))))) else some (Sum.inl (s + 1))
theorem B141_3 {d : Nat} {x1 : Int32} {x2 : Int64} {γ : mx_Rg} {I : Nat → Nat → Nat → Int32} {J : Nat → Nat → Nat → Int64} {κ : (Nat × (Nat → Int32)) × (Nat × Nat)} {Q : Option mx_V → mx_Hp → Prop} {s : Int32} {o : (Int32) ⊕ ((Int32) ⊕ (Int64))} (hf : b141_3 x1 x2 I J s = some o) (hk : Sum.elim (fun s : Int32 => mx_WP (d + 0) 141 3 [some (mx_r (some (1, 11, 0))), some (mx_i x1), some (mx_l x2), none, some (mx_i s)] [] (γ, hM I J, κ) Q) (Sum.elim (fun x : Int32 => mx_WP (d + 0) 141 48 [some (mx_r (some (1, 11, 0))), some (mx_i x1), some (mx_l x2), none, some (mx_i x)] [] (γ, hM I J, κ) Q) (fun x : Int64 => Q (some (mx_l x)) (γ, hM I J, κ))) o) : mx_WP (d + 0) 141 3 [some (mx_r (some (1, 11, 0))), some (mx_i x1), some (mx_l x2), none, some (mx_i s)] [] (γ, hM I J, κ) Q := by
  unfold b141_3 at hf
  refine mx_WP.go 4 (pc' := 10) (L' := [some (mx_r (some (1, 11, 0))), some (mx_i x1), some (mx_l x2), none, some (mx_i s)]) (st' := [mx_i x1, mx_r (some (1, 107, 0)), mx_i s]) (σ' := (γ, hM I J, κ)) rfl ?_
  by_cases c101 : x1 < 0 ∨ 128 ≤ x1.toNatClampNeg
  · rw [if_pos c101] at hf
    cases hf
  rw [if_neg c101] at hf
  refine mx_WP.ialdx c101 ?_
  show mx_WP (d + 0) 141 11 [some (mx_r (some (1, 11, 0))), some (mx_i x1), some (mx_l x2), none, some (mx_i s)] [mx_i (I 107 0 x1.toNatClampNeg), mx_i s] (γ, hM I J, κ) Q
  by_cases c102 : (I 107 0 x1.toNatClampNeg) ≤ s
  · rw [if_pos c102] at hf
    refine mx_WP.bge (x := s) (y := (I 107 0 x1.toNatClampNeg)) (q := 48) (p3 := 14) rfl (fun _ => ?_) (fun hh => absurd c102 hh)
    rw [← Option.some.inj hf] at hk
    exact hk
  · rw [if_neg c102] at hf
    refine mx_WP.bge (x := s) (y := (I 107 0 x1.toNatClampNeg)) (q := 48) (p3 := 14) rfl (fun hh => absurd hh c102) (fun _ => ?_)
    refine mx_WP.go 7 (pc' := 24) (L' := [some (mx_r (some (1, 11, 0))), some (mx_i x1), some (mx_l x2), none, some (mx_i s)]) (st' := [mx_i (((4 : Int32) * x1) + s), mx_r (some (1, 103, 0))]) (σ' := (γ, hM I J, κ)) rfl ?_
    by_cases c103 : (((4 : Int32) * x1) + s) < 0 ∨ 512 ≤ (((4 : Int32) * x1) + s).toNatClampNeg
    · rw [if_pos c103] at hf
      cases hf
    rw [if_neg c103] at hf
    refine mx_WP.laldx c103 ?_
    show mx_WP (d + 0) 141 25 [some (mx_r (some (1, 11, 0))), some (mx_i x1), some (mx_l x2), none, some (mx_i s)] [mx_l (J 103 0 ((((4 : Int32) * x1) + s).toNatClampNeg))] (γ, hM I J, κ) Q
    refine mx_WP.go 2 (pc' := 27) (L' := [some (mx_r (some (1, 11, 0))), some (mx_i x1), some (mx_l x2), none, some (mx_i s)]) (st' := [mx_i (lg_cmp (J 103 0 ((((4 : Int32) * x1) + s).toNatClampNeg)) x2)]) (σ' := (γ, hM I J, κ)) rfl ?_
    by_cases c104 : (lg_cmp (J 103 0 ((((4 : Int32) * x1) + s).toNatClampNeg)) x2) = (0 : Int32)
    · rw [if_pos c104] at hf
      refine mx_WP.bne (x := (lg_cmp (J 103 0 ((((4 : Int32) * x1) + s).toNatClampNeg)) x2)) (y := (0 : Int32)) (q := 42) (p3 := 30) rfl (fun hh => absurd c104 hh) (fun _ => ?_)
      refine mx_WP.go 7 (pc' := 40) (L' := [some (mx_r (some (1, 11, 0))), some (mx_i x1), some (mx_l x2), none, some (mx_i s)]) (st' := [mx_i (((4 : Int32) * x1) + s), mx_r (some (1, 104, 0))]) (σ' := (γ, hM I J, κ)) rfl ?_
      by_cases c105 : (((4 : Int32) * x1) + s) < 0 ∨ 512 ≤ (((4 : Int32) * x1) + s).toNatClampNeg
      · rw [if_pos c105] at hf
        cases hf
      rw [if_neg c105] at hf
      refine mx_WP.laldx c105 ?_
      show mx_WP (d + 0) 141 41 [some (mx_r (some (1, 11, 0))), some (mx_i x1), some (mx_l x2), none, some (mx_i s)] [mx_l (J 104 0 ((((4 : Int32) * x1) + s).toNatClampNeg))] (γ, hM I J, κ) Q
      rw [← Option.some.inj hf] at hk
      refine mx_WP.ret (v := some (mx_l (J 104 0 ((((4 : Int32) * x1) + s).toNatClampNeg)))) rfl ?_
      exact hk
    · rw [if_neg c104] at hf
      refine mx_WP.bne (x := (lg_cmp (J 103 0 ((((4 : Int32) * x1) + s).toNatClampNeg)) x2)) (y := (0 : Int32)) (q := 42) (p3 := 30) rfl (fun _ => ?_) (fun hh => absurd c104 hh)
      refine mx_WP.go 2 (pc' := 3) (L' := [some (mx_r (some (1, 11, 0))), some (mx_i x1), some (mx_l x2), none, some (mx_i (s + 1))]) (st' := []) (σ' := (γ, hM I J, κ)) rfl ?_
      rw [← Option.some.inj hf] at hk
      exact hk
theorem L141_3 {d : Nat} {x1 : Int32} {x2 : Int64} {γ : mx_Rg} {I : Nat → Nat → Nat → Int32} {J : Nat → Nat → Nat → Int64} {κ : (Nat × (Nat → Int32)) × (Nat × Nat)} {Q : Option mx_V → mx_Hp → Prop} {n : Nat} {s : Int32} {o : (Int32) ⊕ (Int64)} (hf : mx_lp (b141_3 x1 x2 I J) n s = some o) (hk : (Sum.elim (fun x : Int32 => mx_WP (d + 0) 141 48 [some (mx_r (some (1, 11, 0))), some (mx_i x1), some (mx_l x2), none, some (mx_i x)] [] (γ, hM I J, κ) Q) (fun x : Int64 => Q (some (mx_l x)) (γ, hM I J, κ))) o) : mx_WP (d + 0) 141 3 [some (mx_r (some (1, 11, 0))), some (mx_i x1), some (mx_l x2), none, some (mx_i s)] [] (γ, hM I J, κ) Q := mx_lp_ok (P := fun s : Int32 => mx_WP (d + 0) 141 3 [some (mx_r (some (1, 11, 0))), some (mx_i x1), some (mx_l x2), none, some (mx_i s)] [] (γ, hM I J, κ) Q) (E := (Sum.elim (fun x : Int32 => mx_WP (d + 0) 141 48 [some (mx_r (some (1, 11, 0))), some (mx_i x1), some (mx_l x2), none, some (mx_i x)] [] (γ, hM I J, κ) Q) (fun x : Int64 => Q (some (mx_l x)) (γ, hM I J, κ)))) (fun s o hf hk => B141_3 hf hk) n s o hf hk
def f141 (x1 : Int32) (x2 : Int64) (I : Nat → Nat → Nat → Int32) (J : Nat → Nat → Nat → Int64) : Option (Int64) :=
  (mx_lp (b141_3 x1 x2 I J) mx_fu (0 : Int32)).bind fun u106 => Sum.elim (fun w108 =>
  some (-1 : Int64)) (fun y109 => some y109) u106
theorem T141 {d : Nat} {x1 : Int32} {x2 : Int64} {γ : mx_Rg} {I : Nat → Nat → Nat → Int32} {J : Nat → Nat → Nat → Int64} {κ : (Nat × (Nat → Int32)) × (Nat × Nat)} {Q : Option mx_V → mx_Hp → Prop} {o : Int64} (hf : f141 x1 x2 I J = some o) (hk : Q (some (mx_l o)) (γ, hM I J, κ)) : mx_WP (d + 0) 141 0 (mx_ent 141 [mx_r (some (1, 11, 0)), mx_i x1, mx_l x2]) [] (γ, hM I J, κ) Q := by
  unfold f141 at hf
  refine mx_WP.go 2 (pc' := 3) (L' := [some (mx_r (some (1, 11, 0))), some (mx_i x1), some (mx_l x2), none, some (mx_i (0 : Int32))]) (st' := []) (σ' := (γ, hM I J, κ)) rfl ?_
  obtain ⟨u106, e107, hf⟩ := Option.bind_eq_some_iff.mp hf
  cases u106 with
  | inr y109 =>
    rw [Sum.elim_inr] at hf
    rw [← Option.some.inj hf] at hk
    exact (L141_3 (d := d) e107 hk)
  | inl w108 =>
    rw [Sum.elim_inl] at hf
    refine (L141_3 (d := d) e107 ?_)
    show mx_WP (d + 0) 141 48 [some (mx_r (some (1, 11, 0))), some (mx_i x1), some (mx_l x2), none, some (mx_i w108)] [] (γ, hM I J, κ) Q
    refine mx_WP.go 1 (pc' := 51) (L' := [some (mx_r (some (1, 11, 0))), some (mx_i x1), some (mx_l x2), none, some (mx_i w108)]) (st' := [mx_l (-1 : Int64)]) (σ' := (γ, hM I J, κ)) rfl ?_
    rw [← Option.some.inj hf] at hk
    refine mx_WP.ret (v := some (mx_l (-1 : Int64))) rfl ?_
    exact hk
def b142_2 (x1 : Int64) (I : Nat → Nat → Nat → Int32) (J : Nat → Nat → Nat → Int64) (s : Int32) : Option ((Int32) ⊕ ((Int32) ⊕ (Int32))) :=
  if (128 : Int32) ≤ s then (some (Sum.inr (Sum.inl s))) else if (lg_cmp x1 (0 : Int64)) ≤ (0 : Int32) then (some (Sum.inl (s + 1))) else (f139 s (500068609904 : Int64) I J).bind fun u103 =>
  if u103 = true then ((f141 s (25705 : Int64) I J).bind fun u105 =>
  if (lg_cmp u105 x1) = (0 : Int32) then (some (Sum.inr (Sum.inr s))) else some (Sum.inl (s + 1))) else some (Sum.inl (s + 1))
theorem B142_2 {d : Nat} {x1 : Int64} {γ : mx_Rg} {I : Nat → Nat → Nat → Int32} {J : Nat → Nat → Nat → Int64} {κ : (Nat × (Nat → Int32)) × (Nat × Nat)} {Q : Option mx_V → mx_Hp → Prop} {s : Int32} {o : (Int32) ⊕ ((Int32) ⊕ (Int32))} (hf : b142_2 x1 I J s = some o) (hk : Sum.elim (fun s : Int32 => mx_WP (d + 3) 142 2 [some (mx_r (some (1, 11, 0))), some (mx_l x1), none, some (mx_i s)] [] (γ, hM I J, κ) Q) (Sum.elim (fun x : Int32 => mx_WP (d + 3) 142 47 [some (mx_r (some (1, 11, 0))), some (mx_l x1), none, some (mx_i x)] [] (γ, hM I J, κ) Q) (fun x : Int32 => Q (some (mx_i x)) (γ, hM I J, κ))) o) : mx_WP (d + 3) 142 2 [some (mx_r (some (1, 11, 0))), some (mx_l x1), none, some (mx_i s)] [] (γ, hM I J, κ) Q := by
  unfold b142_2 at hf
  refine mx_WP.go 2 (pc' := 6) (L' := [some (mx_r (some (1, 11, 0))), some (mx_l x1), none, some (mx_i s)]) (st' := [mx_i (128 : Int32), mx_i s]) (σ' := (γ, hM I J, κ)) rfl ?_
  by_cases c101 : (128 : Int32) ≤ s
  · rw [if_pos c101] at hf
    refine mx_WP.bge (x := s) (y := (128 : Int32)) (q := 47) (p3 := 9) rfl (fun _ => ?_) (fun hh => absurd c101 hh)
    rw [← Option.some.inj hf] at hk
    exact hk
  · rw [if_neg c101] at hf
    refine mx_WP.bge (x := s) (y := (128 : Int32)) (q := 47) (p3 := 9) rfl (fun hh => absurd hh c101) (fun _ => ?_)
    refine mx_WP.go 3 (pc' := 12) (L' := [some (mx_r (some (1, 11, 0))), some (mx_l x1), none, some (mx_i s)]) (st' := [mx_i (lg_cmp x1 (0 : Int64))]) (σ' := (γ, hM I J, κ)) rfl ?_
    by_cases c102 : (lg_cmp x1 (0 : Int64)) ≤ (0 : Int32)
    · rw [if_pos c102] at hf
      refine mx_WP.ble (x := (lg_cmp x1 (0 : Int64))) (y := (0 : Int32)) (q := 41) (p3 := 15) rfl (fun _ => ?_) (fun hh => absurd c102 hh)
      refine mx_WP.go 2 (pc' := 2) (L' := [some (mx_r (some (1, 11, 0))), some (mx_l x1), none, some (mx_i (s + 1))]) (st' := []) (σ' := (γ, hM I J, κ)) rfl ?_
      rw [← Option.some.inj hf] at hk
      exact hk
    · rw [if_neg c102] at hf
      refine mx_WP.ble (x := (lg_cmp x1 (0 : Int64))) (y := (0 : Int32)) (q := 41) (p3 := 15) rfl (fun hh => absurd hh c102) (fun _ => ?_)
      refine mx_WP.go 3 (pc' := 20) (L' := [some (mx_r (some (1, 11, 0))), some (mx_l x1), none, some (mx_i s)]) (st' := [mx_l (500068609904 : Int64), mx_i s, mx_r (some (1, 11, 0))]) (σ' := (γ, hM I J, κ)) rfl ?_
      obtain ⟨u103, e108, hf⟩ := Option.bind_eq_some_iff.mp hf
      refine mx_WP.call (d := d + 2) (y := 139) (as := [mx_r (some (1, 11, 0)), mx_i s, mx_l (500068609904 : Int64)]) (pc' := 23) (r := []) rfl rfl (T139 (d := d + 0)  e108 ?_)
      show mx_WP (d + 3) 142 23 [some (mx_r (some (1, 11, 0))), some (mx_l x1), none, some (mx_i s)] [mx_i (b2i u103)] (γ, hM I J, κ) Q
      by_cases c104 : u103 = true
      · rw [if_pos c104] at hf
        refine mx_WP.zeq (b := u103) (q := 41) (p3 := 26) rfl (fun hh => absurd hh (by simp [c104])) (fun _ => ?_)
        refine mx_WP.go 3 (pc' := 31) (L' := [some (mx_r (some (1, 11, 0))), some (mx_l x1), none, some (mx_i s)]) (st' := [mx_l (25705 : Int64), mx_i s, mx_r (some (1, 11, 0))]) (σ' := (γ, hM I J, κ)) rfl ?_
        obtain ⟨u105, e107, hf⟩ := Option.bind_eq_some_iff.mp hf
        refine mx_WP.call (d := d + 2) (y := 141) (as := [mx_r (some (1, 11, 0)), mx_i s, mx_l (25705 : Int64)]) (pc' := 34) (r := []) rfl rfl (T141 (d := d + 2)  e107 ?_)
        show mx_WP (d + 3) 142 34 [some (mx_r (some (1, 11, 0))), some (mx_l x1), none, some (mx_i s)] [mx_l u105] (γ, hM I J, κ) Q
        refine mx_WP.go 2 (pc' := 36) (L' := [some (mx_r (some (1, 11, 0))), some (mx_l x1), none, some (mx_i s)]) (st' := [mx_i (lg_cmp u105 x1)]) (σ' := (γ, hM I J, κ)) rfl ?_
        by_cases c106 : (lg_cmp u105 x1) = (0 : Int32)
        · rw [if_pos c106] at hf
          refine mx_WP.bne (x := (lg_cmp u105 x1)) (y := (0 : Int32)) (q := 41) (p3 := 39) rfl (fun hh => absurd c106 hh) (fun _ => ?_)
          refine mx_WP.go 1 (pc' := 40) (L' := [some (mx_r (some (1, 11, 0))), some (mx_l x1), none, some (mx_i s)]) (st' := [mx_i s]) (σ' := (γ, hM I J, κ)) rfl ?_
          rw [← Option.some.inj hf] at hk
          refine mx_WP.ret (v := some (mx_i s)) rfl ?_
          exact hk
        · rw [if_neg c106] at hf
          refine mx_WP.bne (x := (lg_cmp u105 x1)) (y := (0 : Int32)) (q := 41) (p3 := 39) rfl (fun _ => ?_) (fun hh => absurd c106 hh)
          refine mx_WP.go 2 (pc' := 2) (L' := [some (mx_r (some (1, 11, 0))), some (mx_l x1), none, some (mx_i (s + 1))]) (st' := []) (σ' := (γ, hM I J, κ)) rfl ?_
          rw [← Option.some.inj hf] at hk
          exact hk
      · rw [if_neg c104] at hf
        refine mx_WP.zeq (b := u103) (q := 41) (p3 := 26) rfl (fun _ => ?_) (fun hh => absurd hh (by simp [c104]))
        refine mx_WP.go 2 (pc' := 2) (L' := [some (mx_r (some (1, 11, 0))), some (mx_l x1), none, some (mx_i (s + 1))]) (st' := []) (σ' := (γ, hM I J, κ)) rfl ?_
        rw [← Option.some.inj hf] at hk
        exact hk
theorem L142_2 {d : Nat} {x1 : Int64} {γ : mx_Rg} {I : Nat → Nat → Nat → Int32} {J : Nat → Nat → Nat → Int64} {κ : (Nat × (Nat → Int32)) × (Nat × Nat)} {Q : Option mx_V → mx_Hp → Prop} {n : Nat} {s : Int32} {o : (Int32) ⊕ (Int32)} (hf : mx_lp (b142_2 x1 I J) n s = some o) (hk : (Sum.elim (fun x : Int32 => mx_WP (d + 3) 142 47 [some (mx_r (some (1, 11, 0))), some (mx_l x1), none, some (mx_i x)] [] (γ, hM I J, κ) Q) (fun x : Int32 => Q (some (mx_i x)) (γ, hM I J, κ))) o) : mx_WP (d + 3) 142 2 [some (mx_r (some (1, 11, 0))), some (mx_l x1), none, some (mx_i s)] [] (γ, hM I J, κ) Q := mx_lp_ok (P := fun s : Int32 => mx_WP (d + 3) 142 2 [some (mx_r (some (1, 11, 0))), some (mx_l x1), none, some (mx_i s)] [] (γ, hM I J, κ) Q) (E := (Sum.elim (fun x : Int32 => mx_WP (d + 3) 142 47 [some (mx_r (some (1, 11, 0))), some (mx_l x1), none, some (mx_i x)] [] (γ, hM I J, κ) Q) (fun x : Int32 => Q (some (mx_i x)) (γ, hM I J, κ)))) (fun s o hf hk => B142_2 hf hk) n s o hf hk
def f142 (x1 : Int64) (I : Nat → Nat → Nat → Int32) (J : Nat → Nat → Nat → Int64) : Option (Int32) :=
  (mx_lp (b142_2 x1 I J) mx_fu (0 : Int32)).bind fun u109 => Sum.elim (fun w111 =>
  some (-1 : Int32)) (fun y112 => some y112) u109
theorem T142 {d : Nat} {x1 : Int64} {γ : mx_Rg} {I : Nat → Nat → Nat → Int32} {J : Nat → Nat → Nat → Int64} {κ : (Nat × (Nat → Int32)) × (Nat × Nat)} {Q : Option mx_V → mx_Hp → Prop} {o : Int32} (hf : f142 x1 I J = some o) (hk : Q (some (mx_i o)) (γ, hM I J, κ)) : mx_WP (d + 3) 142 0 (mx_ent 142 [mx_r (some (1, 11, 0)), mx_l x1]) [] (γ, hM I J, κ) Q := by
  unfold f142 at hf
  refine mx_WP.go 2 (pc' := 2) (L' := [some (mx_r (some (1, 11, 0))), some (mx_l x1), none, some (mx_i (0 : Int32))]) (st' := []) (σ' := (γ, hM I J, κ)) rfl ?_
  obtain ⟨u109, e110, hf⟩ := Option.bind_eq_some_iff.mp hf
  cases u109 with
  | inr y112 =>
    rw [Sum.elim_inr] at hf
    rw [← Option.some.inj hf] at hk
    exact (L142_2 (d := d) e110 hk)
  | inl w111 =>
    rw [Sum.elim_inl] at hf
    refine (L142_2 (d := d) e110 ?_)
    show mx_WP (d + 3) 142 47 [some (mx_r (some (1, 11, 0))), some (mx_l x1), none, some (mx_i w111)] [] (γ, hM I J, κ) Q
    refine mx_WP.go 1 (pc' := 48) (L' := [some (mx_r (some (1, 11, 0))), some (mx_l x1), none, some (mx_i w111)]) (st' := [mx_i (-1 : Int32)]) (σ' := (γ, hM I J, κ)) rfl ?_
    rw [← Option.some.inj hf] at hk
    refine mx_WP.ret (v := some (mx_i (-1 : Int32))) rfl ?_
    exact hk
def b155_15 (x1 : Int64) (I : Nat → Nat → Nat → Int32) (J : Nat → Nat → Nat → Int64) (s : Int32 × Int32) : Option ((Int32 × Int32) ⊕ (Int32 × Int32)) :=
  if (128 : Int32) ≤ s.2 then (some (Sum.inr (s.1, s.2))) else if s.2 < 0 ∨ 128 ≤ s.2.toNatClampNeg then none else if (I 108 0 s.2.toNatClampNeg) = (0 : Int32) then (some (Sum.inl (s.1, s.2 + 1))) else (f141 s.2 (500068609904 : Int64) I J).bind fun u106 =>
  if (lg_cmp u106 x1) = (0 : Int32) then (some (Sum.inl (s.1 + 1, s.2 + 1))) else some (Sum.inl (s.1, s.2 + 1))
theorem B155_15 {d : Nat} {x1 : Int64} {γ : mx_Rg} {I : Nat → Nat → Nat → Int32} {J : Nat → Nat → Nat → Int64} {κ : (Nat × (Nat → Int32)) × (Nat × Nat)} {Q : Option mx_V → mx_Hp → Prop} {s : Int32 × Int32} {o : (Int32 × Int32) ⊕ (Int32 × Int32)} (hf : b155_15 x1 I J s = some o) (hk : Sum.elim (fun s : Int32 × Int32 => mx_WP (d + 4) 155 15 [some (mx_r (some (1, 11, 0))), some (mx_l x1), none, some (mx_i s.1), some (mx_i s.2)] [] (γ, hM I J, κ) Q) (fun x : Int32 × Int32 => mx_WP (d + 4) 155 56 [some (mx_r (some (1, 11, 0))), some (mx_l x1), none, some (mx_i x.1), some (mx_i x.2)] [] (γ, hM I J, κ) Q) o) : mx_WP (d + 4) 155 15 [some (mx_r (some (1, 11, 0))), some (mx_l x1), none, some (mx_i s.1), some (mx_i s.2)] [] (γ, hM I J, κ) Q := by
  unfold b155_15 at hf
  refine mx_WP.go 2 (pc' := 20) (L' := [some (mx_r (some (1, 11, 0))), some (mx_l x1), none, some (mx_i s.1), some (mx_i s.2)]) (st' := [mx_i (128 : Int32), mx_i s.2]) (σ' := (γ, hM I J, κ)) rfl ?_
  by_cases c103 : (128 : Int32) ≤ s.2
  · rw [if_pos c103] at hf
    refine mx_WP.bge (x := s.2) (y := (128 : Int32)) (q := 56) (p3 := 23) rfl (fun _ => ?_) (fun hh => absurd c103 hh)
    rw [← Option.some.inj hf] at hk
    exact hk
  · rw [if_neg c103] at hf
    refine mx_WP.bge (x := s.2) (y := (128 : Int32)) (q := 56) (p3 := 23) rfl (fun hh => absurd hh c103) (fun _ => ?_)
    refine mx_WP.go 3 (pc' := 29) (L' := [some (mx_r (some (1, 11, 0))), some (mx_l x1), none, some (mx_i s.1), some (mx_i s.2)]) (st' := [mx_i s.2, mx_r (some (1, 108, 0))]) (σ' := (γ, hM I J, κ)) rfl ?_
    by_cases c104 : s.2 < 0 ∨ 128 ≤ s.2.toNatClampNeg
    · rw [if_pos c104] at hf
      cases hf
    rw [if_neg c104] at hf
    refine mx_WP.baldx c104 ?_
    show mx_WP (d + 4) 155 30 [some (mx_r (some (1, 11, 0))), some (mx_l x1), none, some (mx_i s.1), some (mx_i s.2)] [mx_i (I 108 0 s.2.toNatClampNeg)] (γ, hM I J, κ) Q
    by_cases c105 : (I 108 0 s.2.toNatClampNeg) = (0 : Int32)
    · rw [if_pos c105] at hf
      refine mx_WP.beq (x := (I 108 0 s.2.toNatClampNeg)) (y := (0 : Int32)) (q := 50) (p3 := 33) rfl (fun _ => ?_) (fun hh => absurd c105 hh)
      refine mx_WP.go 2 (pc' := 15) (L' := [some (mx_r (some (1, 11, 0))), some (mx_l x1), none, some (mx_i s.1), some (mx_i (s.2 + 1))]) (st' := []) (σ' := (γ, hM I J, κ)) rfl ?_
      rw [← Option.some.inj hf] at hk
      exact hk
    · rw [if_neg c105] at hf
      refine mx_WP.beq (x := (I 108 0 s.2.toNatClampNeg)) (y := (0 : Int32)) (q := 50) (p3 := 33) rfl (fun hh => absurd hh c105) (fun _ => ?_)
      refine mx_WP.go 3 (pc' := 39) (L' := [some (mx_r (some (1, 11, 0))), some (mx_l x1), none, some (mx_i s.1), some (mx_i s.2)]) (st' := [mx_l (500068609904 : Int64), mx_i s.2, mx_r (some (1, 11, 0))]) (σ' := (γ, hM I J, κ)) rfl ?_
      obtain ⟨u106, e108, hf⟩ := Option.bind_eq_some_iff.mp hf
      refine mx_WP.call (d := d + 3) (y := 141) (as := [mx_r (some (1, 11, 0)), mx_i s.2, mx_l (500068609904 : Int64)]) (pc' := 42) (r := []) rfl rfl (T141 (d := d + 3)  e108 ?_)
      show mx_WP (d + 4) 155 42 [some (mx_r (some (1, 11, 0))), some (mx_l x1), none, some (mx_i s.1), some (mx_i s.2)] [mx_l u106] (γ, hM I J, κ) Q
      refine mx_WP.go 2 (pc' := 44) (L' := [some (mx_r (some (1, 11, 0))), some (mx_l x1), none, some (mx_i s.1), some (mx_i s.2)]) (st' := [mx_i (lg_cmp u106 x1)]) (σ' := (γ, hM I J, κ)) rfl ?_
      by_cases c107 : (lg_cmp u106 x1) = (0 : Int32)
      · rw [if_pos c107] at hf
        refine mx_WP.bne (x := (lg_cmp u106 x1)) (y := (0 : Int32)) (q := 50) (p3 := 47) rfl (fun hh => absurd c107 hh) (fun _ => ?_)
        refine mx_WP.go 3 (pc' := 15) (L' := [some (mx_r (some (1, 11, 0))), some (mx_l x1), none, some (mx_i (s.1 + 1)), some (mx_i (s.2 + 1))]) (st' := []) (σ' := (γ, hM I J, κ)) rfl ?_
        rw [← Option.some.inj hf] at hk
        exact hk
      · rw [if_neg c107] at hf
        refine mx_WP.bne (x := (lg_cmp u106 x1)) (y := (0 : Int32)) (q := 50) (p3 := 47) rfl (fun _ => ?_) (fun hh => absurd c107 hh)
        refine mx_WP.go 2 (pc' := 15) (L' := [some (mx_r (some (1, 11, 0))), some (mx_l x1), none, some (mx_i s.1), some (mx_i (s.2 + 1))]) (st' := []) (σ' := (γ, hM I J, κ)) rfl ?_
        rw [← Option.some.inj hf] at hk
        exact hk
theorem L155_15 {d : Nat} {x1 : Int64} {γ : mx_Rg} {I : Nat → Nat → Nat → Int32} {J : Nat → Nat → Nat → Int64} {κ : (Nat × (Nat → Int32)) × (Nat × Nat)} {Q : Option mx_V → mx_Hp → Prop} {n : Nat} {s : Int32 × Int32} {o : Int32 × Int32} (hf : mx_lp (b155_15 x1 I J) n s = some o) (hk : (fun x : Int32 × Int32 => mx_WP (d + 4) 155 56 [some (mx_r (some (1, 11, 0))), some (mx_l x1), none, some (mx_i x.1), some (mx_i x.2)] [] (γ, hM I J, κ) Q) o) : mx_WP (d + 4) 155 15 [some (mx_r (some (1, 11, 0))), some (mx_l x1), none, some (mx_i s.1), some (mx_i s.2)] [] (γ, hM I J, κ) Q := mx_lp_ok (P := fun s : Int32 × Int32 => mx_WP (d + 4) 155 15 [some (mx_r (some (1, 11, 0))), some (mx_l x1), none, some (mx_i s.1), some (mx_i s.2)] [] (γ, hM I J, κ) Q) (E := (fun x : Int32 × Int32 => mx_WP (d + 4) 155 56 [some (mx_r (some (1, 11, 0))), some (mx_l x1), none, some (mx_i x.1), some (mx_i x.2)] [] (γ, hM I J, κ) Q)) (fun s o hf hk => B155_15 hf hk) n s o hf hk
def f155 (x1 : Int64) (I : Nat → Nat → Nat → Int32) (J : Nat → Nat → Nat → Int64) : Option (Int32) :=
  (f142 x1 I J).bind fun u1 =>
  if (0 : Int32) ≤ u1 then ((mx_lp (b155_15 x1 I J) mx_fu ((0 : Int32), (0 : Int32))).bind fun u109 =>
  some u109.1) else some (-1 : Int32)
theorem T155 {d : Nat} {x1 : Int64} {γ : mx_Rg} {I : Nat → Nat → Nat → Int32} {J : Nat → Nat → Nat → Int64} {κ : (Nat × (Nat → Int32)) × (Nat × Nat)} {Q : Option mx_V → mx_Hp → Prop} {o : Int32} (hf : f155 x1 I J = some o) (hk : Q (some (mx_i o)) (γ, hM I J, κ)) : mx_WP (d + 4) 155 0 (mx_ent 155 [mx_r (some (1, 11, 0)), mx_l x1]) [] (γ, hM I J, κ) Q := by
  unfold f155 at hf
  refine mx_WP.go 2 (pc' := 2) (L' := [some (mx_r (some (1, 11, 0))), some (mx_l x1), none, none, none]) (st' := [mx_l x1, mx_r (some (1, 11, 0))]) (σ' := (γ, hM I J, κ)) rfl ?_
  obtain ⟨u1, e111, hf⟩ := Option.bind_eq_some_iff.mp hf
  refine mx_WP.call (d := d + 3) (y := 142) (as := [mx_r (some (1, 11, 0)), mx_l x1]) (pc' := 5) (r := []) rfl rfl (T142 (d := d + 0)  e111 ?_)
  show mx_WP (d + 4) 155 5 [some (mx_r (some (1, 11, 0))), some (mx_l x1), none, none, none] [mx_i u1] (γ, hM I J, κ) Q
  by_cases c2 : (0 : Int32) ≤ u1
  · rw [if_pos c2] at hf
    refine mx_WP.bge (x := u1) (y := (0 : Int32)) (q := 10) (p3 := 8) rfl (fun _ => ?_) (fun hh => absurd c2 hh)
    refine mx_WP.go 4 (pc' := 15) (L' := [some (mx_r (some (1, 11, 0))), some (mx_l x1), none, some (mx_i (0 : Int32)), some (mx_i (0 : Int32))]) (st' := []) (σ' := (γ, hM I J, κ)) rfl ?_
    obtain ⟨u109, e110, hf⟩ := Option.bind_eq_some_iff.mp hf
    refine L155_15 (d := d) e110 ?_
    show mx_WP (d + 4) 155 56 [some (mx_r (some (1, 11, 0))), some (mx_l x1), none, some (mx_i u109.1), some (mx_i u109.2)] [] (γ, hM I J, κ) Q
    refine mx_WP.go 1 (pc' := 57) (L' := [some (mx_r (some (1, 11, 0))), some (mx_l x1), none, some (mx_i u109.1), some (mx_i u109.2)]) (st' := [mx_i u109.1]) (σ' := (γ, hM I J, κ)) rfl ?_
    rw [← Option.some.inj hf] at hk
    refine mx_WP.ret (v := some (mx_i u109.1)) rfl ?_
    exact hk
  · rw [if_neg c2] at hf
    refine mx_WP.bge (x := u1) (y := (0 : Int32)) (q := 10) (p3 := 8) rfl (fun hh => absurd hh c2) (fun _ => ?_)
    refine mx_WP.go 1 (pc' := 9) (L' := [some (mx_r (some (1, 11, 0))), some (mx_l x1), none, none, none]) (st' := [mx_i (-1 : Int32)]) (σ' := (γ, hM I J, κ)) rfl ?_
    rw [← Option.some.inj hf] at hk
    refine mx_WP.ret (v := some (mx_i (-1 : Int32))) rfl ?_
    exact hk
def b156_6 (x1 : Int64) (x3 : Int32) (I : Nat → Nat → Nat → Int32) (J : Nat → Nat → Nat → Int64) (s : Int32 × Int32) : Option ((Int32 × Int32) ⊕ ((Int32 × Int32) ⊕ (Int32))) :=
  if (128 : Int32) ≤ s.2 then (some (Sum.inr (Sum.inl (s.1, s.2)))) else if s.2 < 0 ∨ 128 ≤ s.2.toNatClampNeg then none else if (I 108 0 s.2.toNatClampNeg) = (0 : Int32) then (some (Sum.inl (s.1, s.2 + 1))) else (f141 s.2 (500068609904 : Int64) I J).bind fun u104 =>
  if (lg_cmp u104 x1) = (0 : Int32) then (if s.1 = x3 then (some (Sum.inr (Sum.inr s.2))) else some (Sum.inl (s.1 + 1, s.2 + 1))) else some (Sum.inl (s.1, s.2 + 1))
theorem B156_6 {d : Nat} {x1 : Int64} {x3 : Int32} {γ : mx_Rg} {I : Nat → Nat → Nat → Int32} {J : Nat → Nat → Nat → Int64} {κ : (Nat × (Nat → Int32)) × (Nat × Nat)} {Q : Option mx_V → mx_Hp → Prop} {s : Int32 × Int32} {o : (Int32 × Int32) ⊕ ((Int32 × Int32) ⊕ (Int32))} (hf : b156_6 x1 x3 I J s = some o) (hk : Sum.elim (fun s : Int32 × Int32 => mx_WP (d + 1) 156 6 [some (mx_r (some (1, 11, 0))), some (mx_l x1), none, some (mx_i x3), some (mx_i s.1), some (mx_i s.2)] [] (γ, hM I J, κ) Q) (Sum.elim (fun x : Int32 × Int32 => mx_WP (d + 1) 156 56 [some (mx_r (some (1, 11, 0))), some (mx_l x1), none, some (mx_i x3), some (mx_i x.1), some (mx_i x.2)] [] (γ, hM I J, κ) Q) (fun x : Int32 => Q (some (mx_i x)) (γ, hM I J, κ))) o) : mx_WP (d + 1) 156 6 [some (mx_r (some (1, 11, 0))), some (mx_l x1), none, some (mx_i x3), some (mx_i s.1), some (mx_i s.2)] [] (γ, hM I J, κ) Q := by
  unfold b156_6 at hf
  refine mx_WP.go 2 (pc' := 11) (L' := [some (mx_r (some (1, 11, 0))), some (mx_l x1), none, some (mx_i x3), some (mx_i s.1), some (mx_i s.2)]) (st' := [mx_i (128 : Int32), mx_i s.2]) (σ' := (γ, hM I J, κ)) rfl ?_
  by_cases c101 : (128 : Int32) ≤ s.2
  · rw [if_pos c101] at hf
    refine mx_WP.bge (x := s.2) (y := (128 : Int32)) (q := 56) (p3 := 14) rfl (fun _ => ?_) (fun hh => absurd c101 hh)
    rw [← Option.some.inj hf] at hk
    exact hk
  · rw [if_neg c101] at hf
    refine mx_WP.bge (x := s.2) (y := (128 : Int32)) (q := 56) (p3 := 14) rfl (fun hh => absurd hh c101) (fun _ => ?_)
    refine mx_WP.go 3 (pc' := 20) (L' := [some (mx_r (some (1, 11, 0))), some (mx_l x1), none, some (mx_i x3), some (mx_i s.1), some (mx_i s.2)]) (st' := [mx_i s.2, mx_r (some (1, 108, 0))]) (σ' := (γ, hM I J, κ)) rfl ?_
    by_cases c102 : s.2 < 0 ∨ 128 ≤ s.2.toNatClampNeg
    · rw [if_pos c102] at hf
      cases hf
    rw [if_neg c102] at hf
    refine mx_WP.baldx c102 ?_
    show mx_WP (d + 1) 156 21 [some (mx_r (some (1, 11, 0))), some (mx_l x1), none, some (mx_i x3), some (mx_i s.1), some (mx_i s.2)] [mx_i (I 108 0 s.2.toNatClampNeg)] (γ, hM I J, κ) Q
    by_cases c103 : (I 108 0 s.2.toNatClampNeg) = (0 : Int32)
    · rw [if_pos c103] at hf
      refine mx_WP.beq (x := (I 108 0 s.2.toNatClampNeg)) (y := (0 : Int32)) (q := 50) (p3 := 24) rfl (fun _ => ?_) (fun hh => absurd c103 hh)
      refine mx_WP.go 2 (pc' := 6) (L' := [some (mx_r (some (1, 11, 0))), some (mx_l x1), none, some (mx_i x3), some (mx_i s.1), some (mx_i (s.2 + 1))]) (st' := []) (σ' := (γ, hM I J, κ)) rfl ?_
      rw [← Option.some.inj hf] at hk
      exact hk
    · rw [if_neg c103] at hf
      refine mx_WP.beq (x := (I 108 0 s.2.toNatClampNeg)) (y := (0 : Int32)) (q := 50) (p3 := 24) rfl (fun hh => absurd hh c103) (fun _ => ?_)
      refine mx_WP.go 3 (pc' := 30) (L' := [some (mx_r (some (1, 11, 0))), some (mx_l x1), none, some (mx_i x3), some (mx_i s.1), some (mx_i s.2)]) (st' := [mx_l (500068609904 : Int64), mx_i s.2, mx_r (some (1, 11, 0))]) (σ' := (γ, hM I J, κ)) rfl ?_
      obtain ⟨u104, e107, hf⟩ := Option.bind_eq_some_iff.mp hf
      refine mx_WP.call (d := d + 0) (y := 141) (as := [mx_r (some (1, 11, 0)), mx_i s.2, mx_l (500068609904 : Int64)]) (pc' := 33) (r := []) rfl rfl (T141 (d := d + 0)  e107 ?_)
      show mx_WP (d + 1) 156 33 [some (mx_r (some (1, 11, 0))), some (mx_l x1), none, some (mx_i x3), some (mx_i s.1), some (mx_i s.2)] [mx_l u104] (γ, hM I J, κ) Q
      refine mx_WP.go 2 (pc' := 35) (L' := [some (mx_r (some (1, 11, 0))), some (mx_l x1), none, some (mx_i x3), some (mx_i s.1), some (mx_i s.2)]) (st' := [mx_i (lg_cmp u104 x1)]) (σ' := (γ, hM I J, κ)) rfl ?_
      by_cases c105 : (lg_cmp u104 x1) = (0 : Int32)
      · rw [if_pos c105] at hf
        refine mx_WP.bne (x := (lg_cmp u104 x1)) (y := (0 : Int32)) (q := 50) (p3 := 38) rfl (fun hh => absurd c105 hh) (fun _ => ?_)
        refine mx_WP.go 3 (pc' := 44) (L' := [some (mx_r (some (1, 11, 0))), some (mx_l x1), none, some (mx_i x3), some (mx_i (s.1 + 1)), some (mx_i s.2)]) (st' := [mx_i x3, mx_i s.1]) (σ' := (γ, hM I J, κ)) rfl ?_
        by_cases c106 : s.1 = x3
        · rw [if_pos c106] at hf
          refine mx_WP.bne (x := s.1) (y := x3) (q := 50) (p3 := 47) rfl (fun hh => absurd c106 hh) (fun _ => ?_)
          refine mx_WP.go 1 (pc' := 49) (L' := [some (mx_r (some (1, 11, 0))), some (mx_l x1), none, some (mx_i x3), some (mx_i (s.1 + 1)), some (mx_i s.2)]) (st' := [mx_i s.2]) (σ' := (γ, hM I J, κ)) rfl ?_
          rw [← Option.some.inj hf] at hk
          refine mx_WP.ret (v := some (mx_i s.2)) rfl ?_
          exact hk
        · rw [if_neg c106] at hf
          refine mx_WP.bne (x := s.1) (y := x3) (q := 50) (p3 := 47) rfl (fun _ => ?_) (fun hh => absurd c106 hh)
          refine mx_WP.go 2 (pc' := 6) (L' := [some (mx_r (some (1, 11, 0))), some (mx_l x1), none, some (mx_i x3), some (mx_i (s.1 + 1)), some (mx_i (s.2 + 1))]) (st' := []) (σ' := (γ, hM I J, κ)) rfl ?_
          rw [← Option.some.inj hf] at hk
          exact hk
      · rw [if_neg c105] at hf
        refine mx_WP.bne (x := (lg_cmp u104 x1)) (y := (0 : Int32)) (q := 50) (p3 := 38) rfl (fun _ => ?_) (fun hh => absurd c105 hh)
        refine mx_WP.go 2 (pc' := 6) (L' := [some (mx_r (some (1, 11, 0))), some (mx_l x1), none, some (mx_i x3), some (mx_i s.1), some (mx_i (s.2 + 1))]) (st' := []) (σ' := (γ, hM I J, κ)) rfl ?_
        rw [← Option.some.inj hf] at hk
        exact hk
theorem L156_6 {d : Nat} {x1 : Int64} {x3 : Int32} {γ : mx_Rg} {I : Nat → Nat → Nat → Int32} {J : Nat → Nat → Nat → Int64} {κ : (Nat × (Nat → Int32)) × (Nat × Nat)} {Q : Option mx_V → mx_Hp → Prop} {n : Nat} {s : Int32 × Int32} {o : (Int32 × Int32) ⊕ (Int32)} (hf : mx_lp (b156_6 x1 x3 I J) n s = some o) (hk : (Sum.elim (fun x : Int32 × Int32 => mx_WP (d + 1) 156 56 [some (mx_r (some (1, 11, 0))), some (mx_l x1), none, some (mx_i x3), some (mx_i x.1), some (mx_i x.2)] [] (γ, hM I J, κ) Q) (fun x : Int32 => Q (some (mx_i x)) (γ, hM I J, κ))) o) : mx_WP (d + 1) 156 6 [some (mx_r (some (1, 11, 0))), some (mx_l x1), none, some (mx_i x3), some (mx_i s.1), some (mx_i s.2)] [] (γ, hM I J, κ) Q := mx_lp_ok (P := fun s : Int32 × Int32 => mx_WP (d + 1) 156 6 [some (mx_r (some (1, 11, 0))), some (mx_l x1), none, some (mx_i x3), some (mx_i s.1), some (mx_i s.2)] [] (γ, hM I J, κ) Q) (E := (Sum.elim (fun x : Int32 × Int32 => mx_WP (d + 1) 156 56 [some (mx_r (some (1, 11, 0))), some (mx_l x1), none, some (mx_i x3), some (mx_i x.1), some (mx_i x.2)] [] (γ, hM I J, κ) Q) (fun x : Int32 => Q (some (mx_i x)) (γ, hM I J, κ)))) (fun s o hf hk => B156_6 hf hk) n s o hf hk
def f156 (x1 : Int64) (x2 : Int32) (I : Nat → Nat → Nat → Int32) (J : Nat → Nat → Nat → Int64) : Option (Int32) :=
  (mx_lp (b156_6 x1 x2 I J) mx_fu ((0 : Int32), (0 : Int32))).bind fun u108 => Sum.elim (fun w110 =>
  some (-1 : Int32)) (fun y111 => some y111) u108
theorem T156 {d : Nat} {x1 : Int64} {x2 : Int32} {γ : mx_Rg} {I : Nat → Nat → Nat → Int32} {J : Nat → Nat → Nat → Int64} {κ : (Nat × (Nat → Int32)) × (Nat × Nat)} {Q : Option mx_V → mx_Hp → Prop} {o : Int32} (hf : f156 x1 x2 I J = some o) (hk : Q (some (mx_i o)) (γ, hM I J, κ)) : mx_WP (d + 1) 156 0 (mx_ent 156 [mx_r (some (1, 11, 0)), mx_l x1, mx_i x2]) [] (γ, hM I J, κ) Q := by
  unfold f156 at hf
  refine mx_WP.go 4 (pc' := 6) (L' := [some (mx_r (some (1, 11, 0))), some (mx_l x1), none, some (mx_i x2), some (mx_i (0 : Int32)), some (mx_i (0 : Int32))]) (st' := []) (σ' := (γ, hM I J, κ)) rfl ?_
  obtain ⟨u108, e109, hf⟩ := Option.bind_eq_some_iff.mp hf
  cases u108 with
  | inr y111 =>
    rw [Sum.elim_inr] at hf
    rw [← Option.some.inj hf] at hk
    exact (L156_6 (d := d) e109 hk)
  | inl w110 =>
    rw [Sum.elim_inl] at hf
    refine (L156_6 (d := d) e109 ?_)
    show mx_WP (d + 1) 156 56 [some (mx_r (some (1, 11, 0))), some (mx_l x1), none, some (mx_i x2), some (mx_i w110.1), some (mx_i w110.2)] [] (γ, hM I J, κ) Q
    refine mx_WP.go 1 (pc' := 57) (L' := [some (mx_r (some (1, 11, 0))), some (mx_l x1), none, some (mx_i x2), some (mx_i w110.1), some (mx_i w110.2)]) (st' := [mx_i (-1 : Int32)]) (σ' := (γ, hM I J, κ)) rfl ?_
    rw [← Option.some.inj hf] at hk
    refine mx_WP.ret (v := some (mx_i (-1 : Int32))) rfl ?_
    exact hk
def b158_6 (x1 : Int32) (I : Nat → Nat → Nat → Int32) (s : Int32 × Int32) : Option ((Int32 × Int32) ⊕ (Int32 × Int32)) :=
  (f140 s.2 I).bind fun u101 =>
  if u101 = true then (if (s.2 / (16 : Int32)) = (x1 / (16 : Int32)) then (if s.2 < 0 ∨ 128 ≤ s.2.toNatClampNeg then none else if (I 105 0 s.2.toNatClampNeg) = x1 then (some (Sum.inl (s.1 + 1, s.2 + 1))) else some (Sum.inl (s.1, s.2 + 1))) else some (Sum.inr (s.1, s.2))) else some (Sum.inr (s.1, s.2))
theorem B158_6 {d : Nat} {x1 : Int32} {γ : mx_Rg} {I : Nat → Nat → Nat → Int32} {J : Nat → Nat → Nat → Int64} {κ : (Nat × (Nat → Int32)) × (Nat × Nat)} {Q : Option mx_V → mx_Hp → Prop} {s : Int32 × Int32} {o : (Int32 × Int32) ⊕ (Int32 × Int32)} (hf : b158_6 x1 I s = some o) (hk : Sum.elim (fun s : Int32 × Int32 => mx_WP (d + 2) 158 6 [some (mx_r (some (1, 11, 0))), some (mx_i x1), some (mx_i s.1), some (mx_i s.2)] [] (γ, hM I J, κ) Q) (fun x : Int32 × Int32 => mx_WP (d + 2) 158 44 [some (mx_r (some (1, 11, 0))), some (mx_i x1), some (mx_i x.1), some (mx_i x.2)] [] (γ, hM I J, κ) Q) o) : mx_WP (d + 2) 158 6 [some (mx_r (some (1, 11, 0))), some (mx_i x1), some (mx_i s.1), some (mx_i s.2)] [] (γ, hM I J, κ) Q := by
  unfold b158_6 at hf
  refine mx_WP.go 2 (pc' := 8) (L' := [some (mx_r (some (1, 11, 0))), some (mx_i x1), some (mx_i s.1), some (mx_i s.2)]) (st' := [mx_i s.2, mx_r (some (1, 11, 0))]) (σ' := (γ, hM I J, κ)) rfl ?_
  obtain ⟨u101, e106, hf⟩ := Option.bind_eq_some_iff.mp hf
  refine mx_WP.call (d := d + 1) (y := 140) (as := [mx_r (some (1, 11, 0)), mx_i s.2]) (pc' := 11) (r := []) rfl rfl (T140 (d := d + 0)  e106 ?_)
  show mx_WP (d + 2) 158 11 [some (mx_r (some (1, 11, 0))), some (mx_i x1), some (mx_i s.1), some (mx_i s.2)] [mx_i (b2i u101)] (γ, hM I J, κ) Q
  by_cases c102 : u101 = true
  · rw [if_pos c102] at hf
    refine mx_WP.zeq (b := u101) (q := 44) (p3 := 14) rfl (fun hh => absurd hh (by simp [c102])) (fun _ => ?_)
    refine mx_WP.go 6 (pc' := 22) (L' := [some (mx_r (some (1, 11, 0))), some (mx_i x1), some (mx_i s.1), some (mx_i s.2)]) (st' := [mx_i (x1 / (16 : Int32)), mx_i (s.2 / (16 : Int32))]) (σ' := (γ, hM I J, κ)) rfl ?_
    by_cases c103 : (s.2 / (16 : Int32)) = (x1 / (16 : Int32))
    · rw [if_pos c103] at hf
      refine mx_WP.bne (x := (s.2 / (16 : Int32))) (y := (x1 / (16 : Int32))) (q := 44) (p3 := 25) rfl (fun hh => absurd c103 hh) (fun _ => ?_)
      refine mx_WP.go 3 (pc' := 30) (L' := [some (mx_r (some (1, 11, 0))), some (mx_i x1), some (mx_i s.1), some (mx_i s.2)]) (st' := [mx_i s.2, mx_r (some (1, 105, 0))]) (σ' := (γ, hM I J, κ)) rfl ?_
      by_cases c104 : s.2 < 0 ∨ 128 ≤ s.2.toNatClampNeg
      · rw [if_pos c104] at hf
        cases hf
      rw [if_neg c104] at hf
      refine mx_WP.ialdx c104 ?_
      show mx_WP (d + 2) 158 31 [some (mx_r (some (1, 11, 0))), some (mx_i x1), some (mx_i s.1), some (mx_i s.2)] [mx_i (I 105 0 s.2.toNatClampNeg)] (γ, hM I J, κ) Q
      refine mx_WP.go 1 (pc' := 32) (L' := [some (mx_r (some (1, 11, 0))), some (mx_i x1), some (mx_i s.1), some (mx_i s.2)]) (st' := [mx_i x1, mx_i (I 105 0 s.2.toNatClampNeg)]) (σ' := (γ, hM I J, κ)) rfl ?_
      by_cases c105 : (I 105 0 s.2.toNatClampNeg) = x1
      · rw [if_pos c105] at hf
        refine mx_WP.bne (x := (I 105 0 s.2.toNatClampNeg)) (y := x1) (q := 38) (p3 := 35) rfl (fun hh => absurd c105 hh) (fun _ => ?_)
        refine mx_WP.go 3 (pc' := 6) (L' := [some (mx_r (some (1, 11, 0))), some (mx_i x1), some (mx_i (s.1 + 1)), some (mx_i (s.2 + 1))]) (st' := []) (σ' := (γ, hM I J, κ)) rfl ?_
        rw [← Option.some.inj hf] at hk
        exact hk
      · rw [if_neg c105] at hf
        refine mx_WP.bne (x := (I 105 0 s.2.toNatClampNeg)) (y := x1) (q := 38) (p3 := 35) rfl (fun _ => ?_) (fun hh => absurd c105 hh)
        refine mx_WP.go 2 (pc' := 6) (L' := [some (mx_r (some (1, 11, 0))), some (mx_i x1), some (mx_i s.1), some (mx_i (s.2 + 1))]) (st' := []) (σ' := (γ, hM I J, κ)) rfl ?_
        rw [← Option.some.inj hf] at hk
        exact hk
    · rw [if_neg c103] at hf
      refine mx_WP.bne (x := (s.2 / (16 : Int32))) (y := (x1 / (16 : Int32))) (q := 44) (p3 := 25) rfl (fun _ => ?_) (fun hh => absurd c103 hh)
      rw [← Option.some.inj hf] at hk
      exact hk
  · rw [if_neg c102] at hf
    refine mx_WP.zeq (b := u101) (q := 44) (p3 := 14) rfl (fun _ => ?_) (fun hh => absurd hh (by simp [c102]))
    rw [← Option.some.inj hf] at hk
    exact hk
theorem L158_6 {d : Nat} {x1 : Int32} {γ : mx_Rg} {I : Nat → Nat → Nat → Int32} {J : Nat → Nat → Nat → Int64} {κ : (Nat × (Nat → Int32)) × (Nat × Nat)} {Q : Option mx_V → mx_Hp → Prop} {n : Nat} {s : Int32 × Int32} {o : Int32 × Int32} (hf : mx_lp (b158_6 x1 I) n s = some o) (hk : (fun x : Int32 × Int32 => mx_WP (d + 2) 158 44 [some (mx_r (some (1, 11, 0))), some (mx_i x1), some (mx_i x.1), some (mx_i x.2)] [] (γ, hM I J, κ) Q) o) : mx_WP (d + 2) 158 6 [some (mx_r (some (1, 11, 0))), some (mx_i x1), some (mx_i s.1), some (mx_i s.2)] [] (γ, hM I J, κ) Q := mx_lp_ok (P := fun s : Int32 × Int32 => mx_WP (d + 2) 158 6 [some (mx_r (some (1, 11, 0))), some (mx_i x1), some (mx_i s.1), some (mx_i s.2)] [] (γ, hM I J, κ) Q) (E := (fun x : Int32 × Int32 => mx_WP (d + 2) 158 44 [some (mx_r (some (1, 11, 0))), some (mx_i x1), some (mx_i x.1), some (mx_i x.2)] [] (γ, hM I J, κ) Q)) (fun s o hf hk => B158_6 hf hk) n s o hf hk
def f158 (x1 : Int32) (I : Nat → Nat → Nat → Int32) : Option (Int32) :=
  (mx_lp (b158_6 x1 I) mx_fu ((0 : Int32), x1 + (1 : Int32))).bind fun u107 =>
  some u107.1
theorem T158 {d : Nat} {x1 : Int32} {γ : mx_Rg} {I : Nat → Nat → Nat → Int32} {J : Nat → Nat → Nat → Int64} {κ : (Nat × (Nat → Int32)) × (Nat × Nat)} {Q : Option mx_V → mx_Hp → Prop} {o : Int32} (hf : f158 x1 I = some o) (hk : Q (some (mx_i o)) (γ, hM I J, κ)) : mx_WP (d + 2) 158 0 (mx_ent 158 [mx_r (some (1, 11, 0)), mx_i x1]) [] (γ, hM I J, κ) Q := by
  unfold f158 at hf
  refine mx_WP.go 6 (pc' := 6) (L' := [some (mx_r (some (1, 11, 0))), some (mx_i x1), some (mx_i (0 : Int32)), some (mx_i (x1 + (1 : Int32)))]) (st' := []) (σ' := (γ, hM I J, κ)) rfl ?_
  obtain ⟨u107, e108, hf⟩ := Option.bind_eq_some_iff.mp hf
  refine L158_6 (d := d) e108 ?_
  show mx_WP (d + 2) 158 44 [some (mx_r (some (1, 11, 0))), some (mx_i x1), some (mx_i u107.1), some (mx_i u107.2)] [] (γ, hM I J, κ) Q
  refine mx_WP.go 1 (pc' := 45) (L' := [some (mx_r (some (1, 11, 0))), some (mx_i x1), some (mx_i u107.1), some (mx_i u107.2)]) (st' := [mx_i u107.1]) (σ' := (γ, hM I J, κ)) rfl ?_
  rw [← Option.some.inj hf] at hk
  refine mx_WP.ret (v := some (mx_i u107.1)) rfl ?_
  exact hk
def b151_2  (I : Nat → Nat → Nat → Int32) (s : Int32) : Option ((Int32) ⊕ (Int32)) :=
  if s < 0 ∨ 128 ≤ s.toNatClampNeg then none else if (I 105 0 s.toNatClampNeg) < (0 : Int32) then (some (Sum.inr s)) else if s < 0 ∨ 128 ≤ s.toNatClampNeg then none else some (Sum.inl (I 105 0 s.toNatClampNeg))
theorem B151_2 {d : Nat}  {γ : mx_Rg} {I : Nat → Nat → Nat → Int32} {J : Nat → Nat → Nat → Int64} {κ : (Nat × (Nat → Int32)) × (Nat × Nat)} {Q : Option mx_V → mx_Hp → Prop} {s : Int32} {o : (Int32) ⊕ (Int32)} (hf : b151_2 I s = some o) (hk : Sum.elim (fun s : Int32 => ∀ (z1 : Option mx_V), mx_WP (d + 0) 151 2 [some (mx_r (some (1, 11, 0))), z1, some (mx_i s)] [] (γ, hM I J, κ) Q) (fun x : Int32 => ∀ (z1 : Option mx_V), mx_WP (d + 0) 151 21 [some (mx_r (some (1, 11, 0))), z1, some (mx_i x)] [] (γ, hM I J, κ) Q) o) : ∀ (z1 : Option mx_V), mx_WP (d + 0) 151 2 [some (mx_r (some (1, 11, 0))), z1, some (mx_i s)] [] (γ, hM I J, κ) Q := by
  intro z1
  unfold b151_2 at hf
  refine mx_WP.go 3 (pc' := 7) (L' := [some (mx_r (some (1, 11, 0))), z1, some (mx_i s)]) (st' := [mx_i s, mx_r (some (1, 105, 0))]) (σ' := (γ, hM I J, κ)) rfl ?_
  by_cases c101 : s < 0 ∨ 128 ≤ s.toNatClampNeg
  · rw [if_pos c101] at hf
    cases hf
  rw [if_neg c101] at hf
  refine mx_WP.ialdx c101 ?_
  show mx_WP (d + 0) 151 8 [some (mx_r (some (1, 11, 0))), z1, some (mx_i s)] [mx_i (I 105 0 s.toNatClampNeg)] (γ, hM I J, κ) Q
  by_cases c102 : (I 105 0 s.toNatClampNeg) < (0 : Int32)
  · rw [if_pos c102] at hf
    refine mx_WP.blt (x := (I 105 0 s.toNatClampNeg)) (y := (0 : Int32)) (q := 21) (p3 := 11) rfl (fun _ => ?_) (fun hh => absurd c102 hh)
    rw [← Option.some.inj hf] at hk
    exact hk (z1)
  · rw [if_neg c102] at hf
    refine mx_WP.blt (x := (I 105 0 s.toNatClampNeg)) (y := (0 : Int32)) (q := 21) (p3 := 11) rfl (fun hh => absurd hh c102) (fun _ => ?_)
    refine mx_WP.go 3 (pc' := 16) (L' := [some (mx_r (some (1, 11, 0))), z1, some (mx_i s)]) (st' := [mx_i s, mx_r (some (1, 105, 0))]) (σ' := (γ, hM I J, κ)) rfl ?_
    by_cases c103 : s < 0 ∨ 128 ≤ s.toNatClampNeg
    · rw [if_pos c103] at hf
      cases hf
    rw [if_neg c103] at hf
    refine mx_WP.ialdx c103 ?_
    show mx_WP (d + 0) 151 17 [some (mx_r (some (1, 11, 0))), z1, some (mx_i s)] [mx_i (I 105 0 s.toNatClampNeg)] (γ, hM I J, κ) Q
    refine mx_WP.go 2 (pc' := 2) (L' := [some (mx_r (some (1, 11, 0))), z1, some (mx_i (I 105 0 s.toNatClampNeg))]) (st' := []) (σ' := (γ, hM I J, κ)) rfl ?_
    rw [← Option.some.inj hf] at hk
    exact hk (z1)
theorem L151_2 {d : Nat}  {γ : mx_Rg} {I : Nat → Nat → Nat → Int32} {J : Nat → Nat → Nat → Int64} {κ : (Nat × (Nat → Int32)) × (Nat × Nat)} {Q : Option mx_V → mx_Hp → Prop} {n : Nat} {s : Int32} {o : Int32} (hf : mx_lp (b151_2 I) n s = some o) (hk : (fun x : Int32 => ∀ (z1 : Option mx_V), mx_WP (d + 0) 151 21 [some (mx_r (some (1, 11, 0))), z1, some (mx_i x)] [] (γ, hM I J, κ) Q) o) : ∀ (z1 : Option mx_V), mx_WP (d + 0) 151 2 [some (mx_r (some (1, 11, 0))), z1, some (mx_i s)] [] (γ, hM I J, κ) Q := mx_lp_ok (P := fun s : Int32 => ∀ (z1 : Option mx_V), mx_WP (d + 0) 151 2 [some (mx_r (some (1, 11, 0))), z1, some (mx_i s)] [] (γ, hM I J, κ) Q) (E := (fun x : Int32 => ∀ (z1 : Option mx_V), mx_WP (d + 0) 151 21 [some (mx_r (some (1, 11, 0))), z1, some (mx_i x)] [] (γ, hM I J, κ) Q)) (fun s o hf hk => B151_2 hf hk) n s o hf hk
def f151 (x1 : Int32) (I : Nat → Nat → Nat → Int32) : Option (Int32) :=
  (mx_lp (b151_2 I) mx_fu x1).bind fun u104 =>
  some u104
theorem T151 {d : Nat} {x1 : Int32} {γ : mx_Rg} {I : Nat → Nat → Nat → Int32} {J : Nat → Nat → Nat → Int64} {κ : (Nat × (Nat → Int32)) × (Nat × Nat)} {Q : Option mx_V → mx_Hp → Prop} {o : Int32} (hf : f151 x1 I = some o) (hk : Q (some (mx_i o)) (γ, hM I J, κ)) : mx_WP (d + 0) 151 0 (mx_ent 151 [mx_r (some (1, 11, 0)), mx_i x1]) [] (γ, hM I J, κ) Q := by
  unfold f151 at hf
  refine mx_WP.go 2 (pc' := 2) (L' := [some (mx_r (some (1, 11, 0))), some (mx_i x1), some (mx_i x1)]) (st' := []) (σ' := (γ, hM I J, κ)) rfl ?_
  obtain ⟨u104, e105, hf⟩ := Option.bind_eq_some_iff.mp hf
  refine (L151_2 (d := d) e105 ?_) (some (mx_i x1))
  intro z1
  show mx_WP (d + 0) 151 21 [some (mx_r (some (1, 11, 0))), z1, some (mx_i u104)] [] (γ, hM I J, κ) Q
  refine mx_WP.go 1 (pc' := 22) (L' := [some (mx_r (some (1, 11, 0))), z1, some (mx_i u104)]) (st' := [mx_i u104]) (σ' := (γ, hM I J, κ)) rfl ?_
  rw [← Option.some.inj hf] at hk
  refine mx_WP.ret (v := some (mx_i u104)) rfl ?_
  exact hk
def f157 (x1 : Int32) (x2 : Int32) (I : Nat → Nat → Nat → Int32) : Option (Int32) :=
  (f140 x1 I).bind fun u1 =>
  if u1 = true then (if x2 = (0 : Int32) then ((f158 x1 I).bind fun u4 =>
  some u4) else if x2 = (1 : Int32) then (if x1 < 0 ∨ 128 ≤ x1.toNatClampNeg then none else some (I 107 0 x1.toNatClampNeg)) else if x2 = (2 : Int32) then (if x1 < 0 ∨ 128 ≤ x1.toNatClampNeg then none else some (I 105 0 x1.toNatClampNeg)) else if x2 = (3 : Int32) then (if x1 < 0 ∨ 128 ≤ x1.toNatClampNeg then none else some (I 106 0 x1.toNatClampNeg)) else if x2 = (4 : Int32) then ((f151 x1 I).bind fun u13 =>
  if u13 < 0 ∨ 128 ≤ u13.toNatClampNeg then none else if (I 108 0 u13.toNatClampNeg) = (0 : Int32) then (some (0 : Int32)) else some (1 : Int32)) else some (-1 : Int32)) else some (-1 : Int32)
theorem T157 {d : Nat} {x1 : Int32} {x2 : Int32} {γ : mx_Rg} {I : Nat → Nat → Nat → Int32} {J : Nat → Nat → Nat → Int64} {κ : (Nat × (Nat → Int32)) × (Nat × Nat)} {Q : Option mx_V → mx_Hp → Prop} {o : Int32} (hf : f157 x1 x2 I = some o) (hk : Q (some (mx_i o)) (γ, hM I J, κ)) : mx_WP (d + 3) 157 0 (mx_ent 157 [mx_r (some (1, 11, 0)), mx_i x1, mx_i x2]) [] (γ, hM I J, κ) Q := by
  unfold f157 at hf
  refine mx_WP.go 2 (pc' := 2) (L' := [some (mx_r (some (1, 11, 0))), some (mx_i x1), some (mx_i x2)]) (st' := [mx_i x1, mx_r (some (1, 11, 0))]) (σ' := (γ, hM I J, κ)) rfl ?_
  obtain ⟨u1, e17, hf⟩ := Option.bind_eq_some_iff.mp hf
  refine mx_WP.call (d := d + 2) (y := 140) (as := [mx_r (some (1, 11, 0)), mx_i x1]) (pc' := 5) (r := []) rfl rfl (T140 (d := d + 1)  e17 ?_)
  show mx_WP (d + 3) 157 5 [some (mx_r (some (1, 11, 0))), some (mx_i x1), some (mx_i x2)] [mx_i (b2i u1)] (γ, hM I J, κ) Q
  by_cases c2 : u1 = true
  · rw [if_pos c2] at hf
    refine mx_WP.zne (b := u1) (q := 10) (p3 := 8) rfl (fun _ => ?_) (fun hh => absurd hh (by simp [c2]))
    refine mx_WP.go 1 (pc' := 11) (L' := [some (mx_r (some (1, 11, 0))), some (mx_i x1), some (mx_i x2)]) (st' := [mx_i x2]) (σ' := (γ, hM I J, κ)) rfl ?_
    by_cases c3 : x2 = (0 : Int32)
    · rw [if_pos c3] at hf
      refine mx_WP.sw (c := (0 : Int32)) (q := 44) c3 (by rfl) ?_
      refine mx_WP.go 2 (pc' := 46) (L' := [some (mx_r (some (1, 11, 0))), some (mx_i x1), some (mx_i x2)]) (st' := [mx_i x1, mx_r (some (1, 11, 0))]) (σ' := (γ, hM I J, κ)) rfl ?_
      obtain ⟨u4, e5, hf⟩ := Option.bind_eq_some_iff.mp hf
      refine mx_WP.call (d := d + 2) (y := 158) (as := [mx_r (some (1, 11, 0)), mx_i x1]) (pc' := 49) (r := []) rfl rfl (T158 (d := d + 0)  e5 ?_)
      show mx_WP (d + 3) 157 49 [some (mx_r (some (1, 11, 0))), some (mx_i x1), some (mx_i x2)] [mx_i u4] (γ, hM I J, κ) Q
      rw [← Option.some.inj hf] at hk
      refine mx_WP.ret (v := some (mx_i u4)) rfl ?_
      exact hk
    rw [if_neg c3] at hf
    by_cases c6 : x2 = (1 : Int32)
    · rw [if_pos c6] at hf
      refine mx_WP.sw (c := (1 : Int32)) (q := 50) c6 (by rfl) ?_
      refine mx_WP.go 3 (pc' := 55) (L' := [some (mx_r (some (1, 11, 0))), some (mx_i x1), some (mx_i x2)]) (st' := [mx_i x1, mx_r (some (1, 107, 0))]) (σ' := (γ, hM I J, κ)) rfl ?_
      by_cases c7 : x1 < 0 ∨ 128 ≤ x1.toNatClampNeg
      · rw [if_pos c7] at hf
        cases hf
      rw [if_neg c7] at hf
      refine mx_WP.ialdx c7 ?_
      show mx_WP (d + 3) 157 56 [some (mx_r (some (1, 11, 0))), some (mx_i x1), some (mx_i x2)] [mx_i (I 107 0 x1.toNatClampNeg)] (γ, hM I J, κ) Q
      rw [← Option.some.inj hf] at hk
      refine mx_WP.ret (v := some (mx_i (I 107 0 x1.toNatClampNeg))) rfl ?_
      exact hk
    rw [if_neg c6] at hf
    by_cases c8 : x2 = (2 : Int32)
    · rw [if_pos c8] at hf
      refine mx_WP.sw (c := (2 : Int32)) (q := 57) c8 (by rfl) ?_
      refine mx_WP.go 3 (pc' := 62) (L' := [some (mx_r (some (1, 11, 0))), some (mx_i x1), some (mx_i x2)]) (st' := [mx_i x1, mx_r (some (1, 105, 0))]) (σ' := (γ, hM I J, κ)) rfl ?_
      by_cases c9 : x1 < 0 ∨ 128 ≤ x1.toNatClampNeg
      · rw [if_pos c9] at hf
        cases hf
      rw [if_neg c9] at hf
      refine mx_WP.ialdx c9 ?_
      show mx_WP (d + 3) 157 63 [some (mx_r (some (1, 11, 0))), some (mx_i x1), some (mx_i x2)] [mx_i (I 105 0 x1.toNatClampNeg)] (γ, hM I J, κ) Q
      rw [← Option.some.inj hf] at hk
      refine mx_WP.ret (v := some (mx_i (I 105 0 x1.toNatClampNeg))) rfl ?_
      exact hk
    rw [if_neg c8] at hf
    by_cases c10 : x2 = (3 : Int32)
    · rw [if_pos c10] at hf
      refine mx_WP.sw (c := (3 : Int32)) (q := 64) c10 (by rfl) ?_
      refine mx_WP.go 3 (pc' := 69) (L' := [some (mx_r (some (1, 11, 0))), some (mx_i x1), some (mx_i x2)]) (st' := [mx_i x1, mx_r (some (1, 106, 0))]) (σ' := (γ, hM I J, κ)) rfl ?_
      by_cases c11 : x1 < 0 ∨ 128 ≤ x1.toNatClampNeg
      · rw [if_pos c11] at hf
        cases hf
      rw [if_neg c11] at hf
      refine mx_WP.ialdx c11 ?_
      show mx_WP (d + 3) 157 70 [some (mx_r (some (1, 11, 0))), some (mx_i x1), some (mx_i x2)] [mx_i (I 106 0 x1.toNatClampNeg)] (γ, hM I J, κ) Q
      rw [← Option.some.inj hf] at hk
      refine mx_WP.ret (v := some (mx_i (I 106 0 x1.toNatClampNeg))) rfl ?_
      exact hk
    rw [if_neg c10] at hf
    by_cases c12 : x2 = (4 : Int32)
    · rw [if_pos c12] at hf
      refine mx_WP.sw (c := (4 : Int32)) (q := 71) c12 (by rfl) ?_
      refine mx_WP.go 4 (pc' := 77) (L' := [some (mx_r (some (1, 11, 0))), some (mx_i x1), some (mx_i x2)]) (st' := [mx_i x1, mx_r (some (1, 11, 0)), mx_r (some (1, 108, 0))]) (σ' := (γ, hM I J, κ)) rfl ?_
      obtain ⟨u13, e16, hf⟩ := Option.bind_eq_some_iff.mp hf
      refine mx_WP.call (d := d + 2) (y := 151) (as := [mx_r (some (1, 11, 0)), mx_i x1]) (pc' := 80) (r := [mx_r (some (1, 108, 0))]) rfl rfl (T151 (d := d + 2)  e16 ?_)
      show mx_WP (d + 3) 157 80 [some (mx_r (some (1, 11, 0))), some (mx_i x1), some (mx_i x2)] [mx_i u13, mx_r (some (1, 108, 0))] (γ, hM I J, κ) Q
      by_cases c14 : u13 < 0 ∨ 128 ≤ u13.toNatClampNeg
      · rw [if_pos c14] at hf
        cases hf
      rw [if_neg c14] at hf
      refine mx_WP.baldx c14 ?_
      show mx_WP (d + 3) 157 81 [some (mx_r (some (1, 11, 0))), some (mx_i x1), some (mx_i x2)] [mx_i (I 108 0 u13.toNatClampNeg)] (γ, hM I J, κ) Q
      by_cases c15 : (I 108 0 u13.toNatClampNeg) = (0 : Int32)
      · rw [if_pos c15] at hf
        refine mx_WP.beq (x := (I 108 0 u13.toNatClampNeg)) (y := (0 : Int32)) (q := 88) (p3 := 84) rfl (fun _ => ?_) (fun hh => absurd c15 hh)
        refine mx_WP.go 1 (pc' := 89) (L' := [some (mx_r (some (1, 11, 0))), some (mx_i x1), some (mx_i x2)]) (st' := [mx_i (0 : Int32)]) (σ' := (γ, hM I J, κ)) rfl ?_
        rw [← Option.some.inj hf] at hk
        refine mx_WP.ret (v := some (mx_i (0 : Int32))) rfl ?_
        exact hk
      · rw [if_neg c15] at hf
        refine mx_WP.beq (x := (I 108 0 u13.toNatClampNeg)) (y := (0 : Int32)) (q := 88) (p3 := 84) rfl (fun hh => absurd hh c15) (fun _ => ?_)
        refine mx_WP.go 2 (pc' := 89) (L' := [some (mx_r (some (1, 11, 0))), some (mx_i x1), some (mx_i x2)]) (st' := [mx_i (1 : Int32)]) (σ' := (γ, hM I J, κ)) rfl ?_
        rw [← Option.some.inj hf] at hk
        refine mx_WP.ret (v := some (mx_i (1 : Int32))) rfl ?_
        exact hk
    rw [if_neg c12] at hf
    refine mx_WP.swt (q := 90) (mx_tso5 c3 c6 c8 c10 c12) (by rfl) (by rfl) ?_
    refine mx_WP.go 1 (pc' := 91) (L' := [some (mx_r (some (1, 11, 0))), some (mx_i x1), some (mx_i x2)]) (st' := [mx_i (-1 : Int32)]) (σ' := (γ, hM I J, κ)) rfl ?_
    rw [← Option.some.inj hf] at hk
    refine mx_WP.ret (v := some (mx_i (-1 : Int32))) rfl ?_
    exact hk
  · rw [if_neg c2] at hf
    refine mx_WP.zne (b := u1) (q := 10) (p3 := 8) rfl (fun hh => absurd hh (by simp [c2])) (fun _ => ?_)
    refine mx_WP.go 1 (pc' := 9) (L' := [some (mx_r (some (1, 11, 0))), some (mx_i x1), some (mx_i x2)]) (st' := [mx_i (-1 : Int32)]) (σ' := (γ, hM I J, κ)) rfl ?_
    rw [← Option.some.inj hf] at hk
    refine mx_WP.ret (v := some (mx_i (-1 : Int32))) rfl ?_
    exact hk
def f159 (x1 : Int32) (I : Nat → Nat → Nat → Int32) (J : Nat → Nat → Nat → Int64) : Option (Int64) :=
  (f140 x1 I).bind fun u1 =>
  if u1 = true then (if x1 < 0 ∨ 128 ≤ x1.toNatClampNeg then none else some (J 102 0 x1.toNatClampNeg)) else some (0 : Int64)
theorem T159 {d : Nat} {x1 : Int32} {γ : mx_Rg} {I : Nat → Nat → Nat → Int32} {J : Nat → Nat → Nat → Int64} {κ : (Nat × (Nat → Int32)) × (Nat × Nat)} {Q : Option mx_V → mx_Hp → Prop} {o : Int64} (hf : f159 x1 I J = some o) (hk : Q (some (mx_l o)) (γ, hM I J, κ)) : mx_WP (d + 2) 159 0 (mx_ent 159 [mx_r (some (1, 11, 0)), mx_i x1]) [] (γ, hM I J, κ) Q := by
  unfold f159 at hf
  refine mx_WP.go 2 (pc' := 2) (L' := [some (mx_r (some (1, 11, 0))), some (mx_i x1)]) (st' := [mx_i x1, mx_r (some (1, 11, 0))]) (σ' := (γ, hM I J, κ)) rfl ?_
  obtain ⟨u1, e4, hf⟩ := Option.bind_eq_some_iff.mp hf
  refine mx_WP.call (d := d + 1) (y := 140) (as := [mx_r (some (1, 11, 0)), mx_i x1]) (pc' := 5) (r := []) rfl rfl (T140 (d := d + 0)  e4 ?_)
  show mx_WP (d + 2) 159 5 [some (mx_r (some (1, 11, 0))), some (mx_i x1)] [mx_i (b2i u1)] (γ, hM I J, κ) Q
  by_cases c2 : u1 = true
  · rw [if_pos c2] at hf
    refine mx_WP.zeq (b := u1) (q := 17) (p3 := 8) rfl (fun hh => absurd hh (by simp [c2])) (fun _ => ?_)
    refine mx_WP.go 3 (pc' := 13) (L' := [some (mx_r (some (1, 11, 0))), some (mx_i x1)]) (st' := [mx_i x1, mx_r (some (1, 102, 0))]) (σ' := (γ, hM I J, κ)) rfl ?_
    by_cases c3 : x1 < 0 ∨ 128 ≤ x1.toNatClampNeg
    · rw [if_pos c3] at hf
      cases hf
    rw [if_neg c3] at hf
    refine mx_WP.laldx c3 ?_
    show mx_WP (d + 2) 159 14 [some (mx_r (some (1, 11, 0))), some (mx_i x1)] [mx_l (J 102 0 x1.toNatClampNeg)] (γ, hM I J, κ) Q
    refine mx_WP.go 1 (pc' := 18) (L' := [some (mx_r (some (1, 11, 0))), some (mx_i x1)]) (st' := [mx_l (J 102 0 x1.toNatClampNeg)]) (σ' := (γ, hM I J, κ)) rfl ?_
    rw [← Option.some.inj hf] at hk
    refine mx_WP.ret (v := some (mx_l (J 102 0 x1.toNatClampNeg))) rfl ?_
    exact hk
  · rw [if_neg c2] at hf
    refine mx_WP.zeq (b := u1) (q := 17) (p3 := 8) rfl (fun _ => ?_) (fun hh => absurd hh (by simp [c2]))
    refine mx_WP.go 1 (pc' := 18) (L' := [some (mx_r (some (1, 11, 0))), some (mx_i x1)]) (st' := [mx_l (0 : Int64)]) (σ' := (γ, hM I J, κ)) rfl ?_
    rw [← Option.some.inj hf] at hk
    refine mx_WP.ret (v := some (mx_l (0 : Int64))) rfl ?_
    exact hk
def b160_7 (x1 : Int32) (x2 : Int32) (I : Nat → Nat → Nat → Int32) (s : Int32 × Int32) : Option ((Int32 × Int32) ⊕ ((Int32 × Int32) ⊕ (Int32))) :=
  (f140 x1 I).bind fun u101 =>
  if u101 = true then ((f140 s.2 I).bind fun u103 =>
  if u103 = true then (if (s.2 / (16 : Int32)) = (x1 / (16 : Int32)) then (if s.2 < 0 ∨ 128 ≤ s.2.toNatClampNeg then none else if (I 105 0 s.2.toNatClampNeg) = x1 then (if s.1 = x2 then (some (Sum.inr (Sum.inr s.2))) else some (Sum.inl (s.1 + 1, s.2 + 1))) else some (Sum.inl (s.1, s.2 + 1))) else some (Sum.inr (Sum.inl (s.1, s.2)))) else some (Sum.inr (Sum.inl (s.1, s.2)))) else some (Sum.inr (Sum.inl (s.1, s.2)))
theorem B160_7 {d : Nat} {x1 : Int32} {x2 : Int32} {γ : mx_Rg} {I : Nat → Nat → Nat → Int32} {J : Nat → Nat → Nat → Int64} {κ : (Nat × (Nat → Int32)) × (Nat × Nat)} {Q : Option mx_V → mx_Hp → Prop} {s : Int32 × Int32} {o : (Int32 × Int32) ⊕ ((Int32 × Int32) ⊕ (Int32))} (hf : b160_7 x1 x2 I s = some o) (hk : Sum.elim (fun s : Int32 × Int32 => mx_WP (d + 2) 160 7 [some (mx_r (some (1, 11, 0))), some (mx_i x1), some (mx_i x2), some (mx_i s.1), some (mx_i s.2)] [] (γ, hM I J, κ) Q) (Sum.elim (fun x : Int32 × Int32 => mx_WP (d + 2) 160 64 [some (mx_r (some (1, 11, 0))), some (mx_i x1), some (mx_i x2), some (mx_i x.1), some (mx_i x.2)] [] (γ, hM I J, κ) Q) (fun x : Int32 => Q (some (mx_i x)) (γ, hM I J, κ))) o) : mx_WP (d + 2) 160 7 [some (mx_r (some (1, 11, 0))), some (mx_i x1), some (mx_i x2), some (mx_i s.1), some (mx_i s.2)] [] (γ, hM I J, κ) Q := by
  unfold b160_7 at hf
  refine mx_WP.go 2 (pc' := 9) (L' := [some (mx_r (some (1, 11, 0))), some (mx_i x1), some (mx_i x2), some (mx_i s.1), some (mx_i s.2)]) (st' := [mx_i x1, mx_r (some (1, 11, 0))]) (σ' := (γ, hM I J, κ)) rfl ?_
  obtain ⟨u101, e110, hf⟩ := Option.bind_eq_some_iff.mp hf
  refine mx_WP.call (d := d + 1) (y := 140) (as := [mx_r (some (1, 11, 0)), mx_i x1]) (pc' := 12) (r := []) rfl rfl (T140 (d := d + 0)  e110 ?_)
  show mx_WP (d + 2) 160 12 [some (mx_r (some (1, 11, 0))), some (mx_i x1), some (mx_i x2), some (mx_i s.1), some (mx_i s.2)] [mx_i (b2i u101)] (γ, hM I J, κ) Q
  by_cases c102 : u101 = true
  · rw [if_pos c102] at hf
    refine mx_WP.zeq (b := u101) (q := 64) (p3 := 15) rfl (fun hh => absurd hh (by simp [c102])) (fun _ => ?_)
    refine mx_WP.go 2 (pc' := 18) (L' := [some (mx_r (some (1, 11, 0))), some (mx_i x1), some (mx_i x2), some (mx_i s.1), some (mx_i s.2)]) (st' := [mx_i s.2, mx_r (some (1, 11, 0))]) (σ' := (γ, hM I J, κ)) rfl ?_
    obtain ⟨u103, e109, hf⟩ := Option.bind_eq_some_iff.mp hf
    refine mx_WP.call (d := d + 1) (y := 140) (as := [mx_r (some (1, 11, 0)), mx_i s.2]) (pc' := 21) (r := []) rfl rfl (T140 (d := d + 0)  e109 ?_)
    show mx_WP (d + 2) 160 21 [some (mx_r (some (1, 11, 0))), some (mx_i x1), some (mx_i x2), some (mx_i s.1), some (mx_i s.2)] [mx_i (b2i u103)] (γ, hM I J, κ) Q
    by_cases c104 : u103 = true
    · rw [if_pos c104] at hf
      refine mx_WP.zeq (b := u103) (q := 64) (p3 := 24) rfl (fun hh => absurd hh (by simp [c104])) (fun _ => ?_)
      refine mx_WP.go 6 (pc' := 33) (L' := [some (mx_r (some (1, 11, 0))), some (mx_i x1), some (mx_i x2), some (mx_i s.1), some (mx_i s.2)]) (st' := [mx_i (x1 / (16 : Int32)), mx_i (s.2 / (16 : Int32))]) (σ' := (γ, hM I J, κ)) rfl ?_
      by_cases c105 : (s.2 / (16 : Int32)) = (x1 / (16 : Int32))
      · rw [if_pos c105] at hf
        refine mx_WP.bne (x := (s.2 / (16 : Int32))) (y := (x1 / (16 : Int32))) (q := 64) (p3 := 36) rfl (fun hh => absurd c105 hh) (fun _ => ?_)
        refine mx_WP.go 3 (pc' := 42) (L' := [some (mx_r (some (1, 11, 0))), some (mx_i x1), some (mx_i x2), some (mx_i s.1), some (mx_i s.2)]) (st' := [mx_i s.2, mx_r (some (1, 105, 0))]) (σ' := (γ, hM I J, κ)) rfl ?_
        by_cases c106 : s.2 < 0 ∨ 128 ≤ s.2.toNatClampNeg
        · rw [if_pos c106] at hf
          cases hf
        rw [if_neg c106] at hf
        refine mx_WP.ialdx c106 ?_
        show mx_WP (d + 2) 160 43 [some (mx_r (some (1, 11, 0))), some (mx_i x1), some (mx_i x2), some (mx_i s.1), some (mx_i s.2)] [mx_i (I 105 0 s.2.toNatClampNeg)] (γ, hM I J, κ) Q
        refine mx_WP.go 1 (pc' := 44) (L' := [some (mx_r (some (1, 11, 0))), some (mx_i x1), some (mx_i x2), some (mx_i s.1), some (mx_i s.2)]) (st' := [mx_i x1, mx_i (I 105 0 s.2.toNatClampNeg)]) (σ' := (γ, hM I J, κ)) rfl ?_
        by_cases c107 : (I 105 0 s.2.toNatClampNeg) = x1
        · rw [if_pos c107] at hf
          refine mx_WP.bne (x := (I 105 0 s.2.toNatClampNeg)) (y := x1) (q := 58) (p3 := 47) rfl (fun hh => absurd c107 hh) (fun _ => ?_)
          refine mx_WP.go 3 (pc' := 52) (L' := [some (mx_r (some (1, 11, 0))), some (mx_i x1), some (mx_i x2), some (mx_i (s.1 + 1)), some (mx_i s.2)]) (st' := [mx_i x2, mx_i s.1]) (σ' := (γ, hM I J, κ)) rfl ?_
          by_cases c108 : s.1 = x2
          · rw [if_pos c108] at hf
            refine mx_WP.bne (x := s.1) (y := x2) (q := 58) (p3 := 55) rfl (fun hh => absurd c108 hh) (fun _ => ?_)
            refine mx_WP.go 1 (pc' := 57) (L' := [some (mx_r (some (1, 11, 0))), some (mx_i x1), some (mx_i x2), some (mx_i (s.1 + 1)), some (mx_i s.2)]) (st' := [mx_i s.2]) (σ' := (γ, hM I J, κ)) rfl ?_
            rw [← Option.some.inj hf] at hk
            refine mx_WP.ret (v := some (mx_i s.2)) rfl ?_
            exact hk
          · rw [if_neg c108] at hf
            refine mx_WP.bne (x := s.1) (y := x2) (q := 58) (p3 := 55) rfl (fun _ => ?_) (fun hh => absurd c108 hh)
            refine mx_WP.go 2 (pc' := 7) (L' := [some (mx_r (some (1, 11, 0))), some (mx_i x1), some (mx_i x2), some (mx_i (s.1 + 1)), some (mx_i (s.2 + 1))]) (st' := []) (σ' := (γ, hM I J, κ)) rfl ?_
            rw [← Option.some.inj hf] at hk
            exact hk
        · rw [if_neg c107] at hf
          refine mx_WP.bne (x := (I 105 0 s.2.toNatClampNeg)) (y := x1) (q := 58) (p3 := 47) rfl (fun _ => ?_) (fun hh => absurd c107 hh)
          refine mx_WP.go 2 (pc' := 7) (L' := [some (mx_r (some (1, 11, 0))), some (mx_i x1), some (mx_i x2), some (mx_i s.1), some (mx_i (s.2 + 1))]) (st' := []) (σ' := (γ, hM I J, κ)) rfl ?_
          rw [← Option.some.inj hf] at hk
          exact hk
      · rw [if_neg c105] at hf
        refine mx_WP.bne (x := (s.2 / (16 : Int32))) (y := (x1 / (16 : Int32))) (q := 64) (p3 := 36) rfl (fun _ => ?_) (fun hh => absurd c105 hh)
        rw [← Option.some.inj hf] at hk
        exact hk
    · rw [if_neg c104] at hf
      refine mx_WP.zeq (b := u103) (q := 64) (p3 := 24) rfl (fun _ => ?_) (fun hh => absurd hh (by simp [c104]))
      rw [← Option.some.inj hf] at hk
      exact hk
  · rw [if_neg c102] at hf
    refine mx_WP.zeq (b := u101) (q := 64) (p3 := 15) rfl (fun _ => ?_) (fun hh => absurd hh (by simp [c102]))
    rw [← Option.some.inj hf] at hk
    exact hk
theorem L160_7 {d : Nat} {x1 : Int32} {x2 : Int32} {γ : mx_Rg} {I : Nat → Nat → Nat → Int32} {J : Nat → Nat → Nat → Int64} {κ : (Nat × (Nat → Int32)) × (Nat × Nat)} {Q : Option mx_V → mx_Hp → Prop} {n : Nat} {s : Int32 × Int32} {o : (Int32 × Int32) ⊕ (Int32)} (hf : mx_lp (b160_7 x1 x2 I) n s = some o) (hk : (Sum.elim (fun x : Int32 × Int32 => mx_WP (d + 2) 160 64 [some (mx_r (some (1, 11, 0))), some (mx_i x1), some (mx_i x2), some (mx_i x.1), some (mx_i x.2)] [] (γ, hM I J, κ) Q) (fun x : Int32 => Q (some (mx_i x)) (γ, hM I J, κ))) o) : mx_WP (d + 2) 160 7 [some (mx_r (some (1, 11, 0))), some (mx_i x1), some (mx_i x2), some (mx_i s.1), some (mx_i s.2)] [] (γ, hM I J, κ) Q := mx_lp_ok (P := fun s : Int32 × Int32 => mx_WP (d + 2) 160 7 [some (mx_r (some (1, 11, 0))), some (mx_i x1), some (mx_i x2), some (mx_i s.1), some (mx_i s.2)] [] (γ, hM I J, κ) Q) (E := (Sum.elim (fun x : Int32 × Int32 => mx_WP (d + 2) 160 64 [some (mx_r (some (1, 11, 0))), some (mx_i x1), some (mx_i x2), some (mx_i x.1), some (mx_i x.2)] [] (γ, hM I J, κ) Q) (fun x : Int32 => Q (some (mx_i x)) (γ, hM I J, κ)))) (fun s o hf hk => B160_7 hf hk) n s o hf hk
def f160 (x1 : Int32) (x2 : Int32) (I : Nat → Nat → Nat → Int32) : Option (Int32) :=
  (mx_lp (b160_7 x1 x2 I) mx_fu ((0 : Int32), x1 + (1 : Int32))).bind fun u111 => Sum.elim (fun w113 =>
  some (-1 : Int32)) (fun y114 => some y114) u111
theorem T160 {d : Nat} {x1 : Int32} {x2 : Int32} {γ : mx_Rg} {I : Nat → Nat → Nat → Int32} {J : Nat → Nat → Nat → Int64} {κ : (Nat × (Nat → Int32)) × (Nat × Nat)} {Q : Option mx_V → mx_Hp → Prop} {o : Int32} (hf : f160 x1 x2 I = some o) (hk : Q (some (mx_i o)) (γ, hM I J, κ)) : mx_WP (d + 2) 160 0 (mx_ent 160 [mx_r (some (1, 11, 0)), mx_i x1, mx_i x2]) [] (γ, hM I J, κ) Q := by
  unfold f160 at hf
  refine mx_WP.go 6 (pc' := 7) (L' := [some (mx_r (some (1, 11, 0))), some (mx_i x1), some (mx_i x2), some (mx_i (0 : Int32)), some (mx_i (x1 + (1 : Int32)))]) (st' := []) (σ' := (γ, hM I J, κ)) rfl ?_
  obtain ⟨u111, e112, hf⟩ := Option.bind_eq_some_iff.mp hf
  cases u111 with
  | inr y114 =>
    rw [Sum.elim_inr] at hf
    rw [← Option.some.inj hf] at hk
    exact (L160_7 (d := d) e112 hk)
  | inl w113 =>
    rw [Sum.elim_inl] at hf
    refine (L160_7 (d := d) e112 ?_)
    show mx_WP (d + 2) 160 64 [some (mx_r (some (1, 11, 0))), some (mx_i x1), some (mx_i x2), some (mx_i w113.1), some (mx_i w113.2)] [] (γ, hM I J, κ) Q
    refine mx_WP.go 1 (pc' := 65) (L' := [some (mx_r (some (1, 11, 0))), some (mx_i x1), some (mx_i x2), some (mx_i w113.1), some (mx_i w113.2)]) (st' := [mx_i (-1 : Int32)]) (σ' := (γ, hM I J, κ)) rfl ?_
    rw [← Option.some.inj hf] at hk
    refine mx_WP.ret (v := some (mx_i (-1 : Int32))) rfl ?_
    exact hk
def f161 (x1 : Int32) (x2 : Int64) (I : Nat → Nat → Nat → Int32) (J : Nat → Nat → Nat → Int64) : Option (Int64) :=
  (f140 x1 I).bind fun u1 =>
  if u1 = true then ((f141 x1 x2 I J).bind fun u3 =>
  some u3) else some (-1 : Int64)
theorem T161 {d : Nat} {x1 : Int32} {x2 : Int64} {γ : mx_Rg} {I : Nat → Nat → Nat → Int32} {J : Nat → Nat → Nat → Int64} {κ : (Nat × (Nat → Int32)) × (Nat × Nat)} {Q : Option mx_V → mx_Hp → Prop} {o : Int64} (hf : f161 x1 x2 I J = some o) (hk : Q (some (mx_l o)) (γ, hM I J, κ)) : mx_WP (d + 2) 161 0 (mx_ent 161 [mx_r (some (1, 11, 0)), mx_i x1, mx_l x2]) [] (γ, hM I J, κ) Q := by
  unfold f161 at hf
  refine mx_WP.go 2 (pc' := 2) (L' := [some (mx_r (some (1, 11, 0))), some (mx_i x1), some (mx_l x2), none]) (st' := [mx_i x1, mx_r (some (1, 11, 0))]) (σ' := (γ, hM I J, κ)) rfl ?_
  obtain ⟨u1, e5, hf⟩ := Option.bind_eq_some_iff.mp hf
  refine mx_WP.call (d := d + 1) (y := 140) (as := [mx_r (some (1, 11, 0)), mx_i x1]) (pc' := 5) (r := []) rfl rfl (T140 (d := d + 0)  e5 ?_)
  show mx_WP (d + 2) 161 5 [some (mx_r (some (1, 11, 0))), some (mx_i x1), some (mx_l x2), none] [mx_i (b2i u1)] (γ, hM I J, κ) Q
  by_cases c2 : u1 = true
  · rw [if_pos c2] at hf
    refine mx_WP.zeq (b := u1) (q := 17) (p3 := 8) rfl (fun hh => absurd hh (by simp [c2])) (fun _ => ?_)
    refine mx_WP.go 3 (pc' := 11) (L' := [some (mx_r (some (1, 11, 0))), some (mx_i x1), some (mx_l x2), none]) (st' := [mx_l x2, mx_i x1, mx_r (some (1, 11, 0))]) (σ' := (γ, hM I J, κ)) rfl ?_
    obtain ⟨u3, e4, hf⟩ := Option.bind_eq_some_iff.mp hf
    refine mx_WP.call (d := d + 1) (y := 141) (as := [mx_r (some (1, 11, 0)), mx_i x1, mx_l x2]) (pc' := 14) (r := []) rfl rfl (T141 (d := d + 1)  e4 ?_)
    show mx_WP (d + 2) 161 14 [some (mx_r (some (1, 11, 0))), some (mx_i x1), some (mx_l x2), none] [mx_l u3] (γ, hM I J, κ) Q
    refine mx_WP.go 1 (pc' := 20) (L' := [some (mx_r (some (1, 11, 0))), some (mx_i x1), some (mx_l x2), none]) (st' := [mx_l u3]) (σ' := (γ, hM I J, κ)) rfl ?_
    rw [← Option.some.inj hf] at hk
    refine mx_WP.ret (v := some (mx_l u3)) rfl ?_
    exact hk
  · rw [if_neg c2] at hf
    refine mx_WP.zeq (b := u1) (q := 17) (p3 := 8) rfl (fun _ => ?_) (fun hh => absurd hh (by simp [c2]))
    refine mx_WP.go 1 (pc' := 20) (L' := [some (mx_r (some (1, 11, 0))), some (mx_i x1), some (mx_l x2), none]) (st' := [mx_l (-1 : Int64)]) (σ' := (γ, hM I J, κ)) rfl ?_
    rw [← Option.some.inj hf] at hk
    refine mx_WP.ret (v := some (mx_l (-1 : Int64))) rfl ?_
    exact hk
def f162 (x1 : Int32) (x2 : Int32) (I : Nat → Nat → Nat → Int32) : Option (Int32) :=
  (f120 x1 (0 : Int32) ((I 11 0 39) - (1 : Int32))).bind fun u1 =>
  if u1 = true then (if x2 = (0 : Int32) then (if x1 < 0 ∨ 24 ≤ x1.toNatClampNeg then none else some (I 110 0 x1.toNatClampNeg)) else if x2 = (1 : Int32) then (if x1 < 0 ∨ 24 ≤ x1.toNatClampNeg then none else some (I 111 0 x1.toNatClampNeg)) else if x2 = (2 : Int32) then (if x1 < 0 ∨ 24 ≤ x1.toNatClampNeg then none else if (I 115 0 x1.toNatClampNeg) = (0 : Int32) then (some (1 : Int32)) else some (0 : Int32)) else some (-1 : Int32)) else some (-1 : Int32)
theorem T162 {d : Nat} {x1 : Int32} {x2 : Int32} {γ : mx_Rg} {I : Nat → Nat → Nat → Int32} {J : Nat → Nat → Nat → Int64} {κ : (Nat × (Nat → Int32)) × (Nat × Nat)} {Q : Option mx_V → mx_Hp → Prop} {o : Int32} (hf : f162 x1 x2 I = some o) (hk : Q (some (mx_i o)) (γ, hM I J, κ)) : mx_WP (d + 1) 162 0 (mx_ent 162 [mx_r (some (1, 11, 0)), mx_i x1, mx_i x2]) [] (γ, hM I J, κ) Q := by
  unfold f162 at hf
  refine mx_WP.go 6 (pc' := 8) (L' := [some (mx_r (some (1, 11, 0))), some (mx_i x1), some (mx_i x2)]) (st' := [mx_i ((I 11 0 39) - (1 : Int32)), mx_i (0 : Int32), mx_i x1]) (σ' := (γ, hM I J, κ)) rfl ?_
  obtain ⟨u1, e10, hf⟩ := Option.bind_eq_some_iff.mp hf
  refine mx_WP.call (d := d + 0) (y := 120) (as := [mx_i x1, mx_i (0 : Int32), mx_i ((I 11 0 39) - (1 : Int32))]) (pc' := 11) (r := []) rfl rfl (T120 (d := d + 0)  e10 ?_)
  show mx_WP (d + 1) 162 11 [some (mx_r (some (1, 11, 0))), some (mx_i x1), some (mx_i x2)] [mx_i (b2i u1)] (γ, hM I J, κ) Q
  by_cases c2 : u1 = true
  · rw [if_pos c2] at hf
    refine mx_WP.zne (b := u1) (q := 16) (p3 := 14) rfl (fun _ => ?_) (fun hh => absurd hh (by simp [c2]))
    refine mx_WP.go 1 (pc' := 17) (L' := [some (mx_r (some (1, 11, 0))), some (mx_i x1), some (mx_i x2)]) (st' := [mx_i x2]) (σ' := (γ, hM I J, κ)) rfl ?_
    by_cases c3 : x2 = (0 : Int32)
    · rw [if_pos c3] at hf
      refine mx_WP.bne (x := x2) (y := (0 : Int32)) (q := 29) (p3 := 20) rfl (fun hh => absurd c3 hh) (fun _ => ?_)
      refine mx_WP.go 3 (pc' := 25) (L' := [some (mx_r (some (1, 11, 0))), some (mx_i x1), some (mx_i x2)]) (st' := [mx_i x1, mx_r (some (1, 110, 0))]) (σ' := (γ, hM I J, κ)) rfl ?_
      by_cases c4 : x1 < 0 ∨ 24 ≤ x1.toNatClampNeg
      · rw [if_pos c4] at hf
        cases hf
      rw [if_neg c4] at hf
      refine mx_WP.ialdx c4 ?_
      show mx_WP (d + 1) 162 26 [some (mx_r (some (1, 11, 0))), some (mx_i x1), some (mx_i x2)] [mx_i (I 110 0 x1.toNatClampNeg)] (γ, hM I J, κ) Q
      refine mx_WP.go 1 (pc' := 66) (L' := [some (mx_r (some (1, 11, 0))), some (mx_i x1), some (mx_i x2)]) (st' := [mx_i (I 110 0 x1.toNatClampNeg)]) (σ' := (γ, hM I J, κ)) rfl ?_
      rw [← Option.some.inj hf] at hk
      refine mx_WP.ret (v := some (mx_i (I 110 0 x1.toNatClampNeg))) rfl ?_
      exact hk
    · rw [if_neg c3] at hf
      refine mx_WP.bne (x := x2) (y := (0 : Int32)) (q := 29) (p3 := 20) rfl (fun _ => ?_) (fun hh => absurd c3 hh)
      refine mx_WP.go 2 (pc' := 31) (L' := [some (mx_r (some (1, 11, 0))), some (mx_i x1), some (mx_i x2)]) (st' := [mx_i (1 : Int32), mx_i x2]) (σ' := (γ, hM I J, κ)) rfl ?_
      by_cases c5 : x2 = (1 : Int32)
      · rw [if_pos c5] at hf
        refine mx_WP.bne (x := x2) (y := (1 : Int32)) (q := 43) (p3 := 34) rfl (fun hh => absurd c5 hh) (fun _ => ?_)
        refine mx_WP.go 3 (pc' := 39) (L' := [some (mx_r (some (1, 11, 0))), some (mx_i x1), some (mx_i x2)]) (st' := [mx_i x1, mx_r (some (1, 111, 0))]) (σ' := (γ, hM I J, κ)) rfl ?_
        by_cases c6 : x1 < 0 ∨ 24 ≤ x1.toNatClampNeg
        · rw [if_pos c6] at hf
          cases hf
        rw [if_neg c6] at hf
        refine mx_WP.ialdx c6 ?_
        show mx_WP (d + 1) 162 40 [some (mx_r (some (1, 11, 0))), some (mx_i x1), some (mx_i x2)] [mx_i (I 111 0 x1.toNatClampNeg)] (γ, hM I J, κ) Q
        refine mx_WP.go 1 (pc' := 66) (L' := [some (mx_r (some (1, 11, 0))), some (mx_i x1), some (mx_i x2)]) (st' := [mx_i (I 111 0 x1.toNatClampNeg)]) (σ' := (γ, hM I J, κ)) rfl ?_
        rw [← Option.some.inj hf] at hk
        refine mx_WP.ret (v := some (mx_i (I 111 0 x1.toNatClampNeg))) rfl ?_
        exact hk
      · rw [if_neg c5] at hf
        refine mx_WP.bne (x := x2) (y := (1 : Int32)) (q := 43) (p3 := 34) rfl (fun _ => ?_) (fun hh => absurd c5 hh)
        refine mx_WP.go 2 (pc' := 45) (L' := [some (mx_r (some (1, 11, 0))), some (mx_i x1), some (mx_i x2)]) (st' := [mx_i (2 : Int32), mx_i x2]) (σ' := (γ, hM I J, κ)) rfl ?_
        by_cases c7 : x2 = (2 : Int32)
        · rw [if_pos c7] at hf
          refine mx_WP.bne (x := x2) (y := (2 : Int32)) (q := 65) (p3 := 48) rfl (fun hh => absurd c7 hh) (fun _ => ?_)
          refine mx_WP.go 3 (pc' := 53) (L' := [some (mx_r (some (1, 11, 0))), some (mx_i x1), some (mx_i x2)]) (st' := [mx_i x1, mx_r (some (1, 115, 0))]) (σ' := (γ, hM I J, κ)) rfl ?_
          by_cases c8 : x1 < 0 ∨ 24 ≤ x1.toNatClampNeg
          · rw [if_pos c8] at hf
            cases hf
          rw [if_neg c8] at hf
          refine mx_WP.baldx c8 ?_
          show mx_WP (d + 1) 162 54 [some (mx_r (some (1, 11, 0))), some (mx_i x1), some (mx_i x2)] [mx_i (I 115 0 x1.toNatClampNeg)] (γ, hM I J, κ) Q
          by_cases c9 : (I 115 0 x1.toNatClampNeg) = (0 : Int32)
          · rw [if_pos c9] at hf
            refine mx_WP.beq (x := (I 115 0 x1.toNatClampNeg)) (y := (0 : Int32)) (q := 61) (p3 := 57) rfl (fun _ => ?_) (fun hh => absurd c9 hh)
            refine mx_WP.go 2 (pc' := 66) (L' := [some (mx_r (some (1, 11, 0))), some (mx_i x1), some (mx_i x2)]) (st' := [mx_i (1 : Int32)]) (σ' := (γ, hM I J, κ)) rfl ?_
            rw [← Option.some.inj hf] at hk
            refine mx_WP.ret (v := some (mx_i (1 : Int32))) rfl ?_
            exact hk
          · rw [if_neg c9] at hf
            refine mx_WP.beq (x := (I 115 0 x1.toNatClampNeg)) (y := (0 : Int32)) (q := 61) (p3 := 57) rfl (fun hh => absurd hh c9) (fun _ => ?_)
            refine mx_WP.go 2 (pc' := 66) (L' := [some (mx_r (some (1, 11, 0))), some (mx_i x1), some (mx_i x2)]) (st' := [mx_i (0 : Int32)]) (σ' := (γ, hM I J, κ)) rfl ?_
            rw [← Option.some.inj hf] at hk
            refine mx_WP.ret (v := some (mx_i (0 : Int32))) rfl ?_
            exact hk
        · rw [if_neg c7] at hf
          refine mx_WP.bne (x := x2) (y := (2 : Int32)) (q := 65) (p3 := 48) rfl (fun _ => ?_) (fun hh => absurd c7 hh)
          refine mx_WP.go 1 (pc' := 66) (L' := [some (mx_r (some (1, 11, 0))), some (mx_i x1), some (mx_i x2)]) (st' := [mx_i (-1 : Int32)]) (σ' := (γ, hM I J, κ)) rfl ?_
          rw [← Option.some.inj hf] at hk
          refine mx_WP.ret (v := some (mx_i (-1 : Int32))) rfl ?_
          exact hk
  · rw [if_neg c2] at hf
    refine mx_WP.zne (b := u1) (q := 16) (p3 := 14) rfl (fun hh => absurd hh (by simp [c2])) (fun _ => ?_)
    refine mx_WP.go 1 (pc' := 15) (L' := [some (mx_r (some (1, 11, 0))), some (mx_i x1), some (mx_i x2)]) (st' := [mx_i (-1 : Int32)]) (σ' := (γ, hM I J, κ)) rfl ?_
    rw [← Option.some.inj hf] at hk
    refine mx_WP.ret (v := some (mx_i (-1 : Int32))) rfl ?_
    exact hk
def f163 (x1 : Int32) (I : Nat → Nat → Nat → Int32) : Option (Int32) :=
  (f120 x1 (0 : Int32) (31 : Int32)).bind fun u1 =>
  if u1 = true then (if (I 11 0 40) ≤ x1 then (some (-1 : Int32)) else if x1 < 0 ∨ 32 ≤ x1.toNatClampNeg then none else some (I 113 0 x1.toNatClampNeg)) else some (-1 : Int32)
theorem T163 {d : Nat} {x1 : Int32} {γ : mx_Rg} {I : Nat → Nat → Nat → Int32} {J : Nat → Nat → Nat → Int64} {κ : (Nat × (Nat → Int32)) × (Nat × Nat)} {Q : Option mx_V → mx_Hp → Prop} {o : Int32} (hf : f163 x1 I = some o) (hk : Q (some (mx_i o)) (γ, hM I J, κ)) : mx_WP (d + 1) 163 0 (mx_ent 163 [mx_r (some (1, 11, 0)), mx_i x1]) [] (γ, hM I J, κ) Q := by
  unfold f163 at hf
  refine mx_WP.go 3 (pc' := 4) (L' := [some (mx_r (some (1, 11, 0))), some (mx_i x1)]) (st' := [mx_i (31 : Int32), mx_i (0 : Int32), mx_i x1]) (σ' := (γ, hM I J, κ)) rfl ?_
  obtain ⟨u1, e5, hf⟩ := Option.bind_eq_some_iff.mp hf
  refine mx_WP.call (d := d + 0) (y := 120) (as := [mx_i x1, mx_i (0 : Int32), mx_i (31 : Int32)]) (pc' := 7) (r := []) rfl rfl (T120 (d := d + 0)  e5 ?_)
  show mx_WP (d + 1) 163 7 [some (mx_r (some (1, 11, 0))), some (mx_i x1)] [mx_i (b2i u1)] (γ, hM I J, κ) Q
  by_cases c2 : u1 = true
  · rw [if_pos c2] at hf
    refine mx_WP.zeq (b := u1) (q := 27) (p3 := 10) rfl (fun hh => absurd hh (by simp [c2])) (fun _ => ?_)
    refine mx_WP.go 3 (pc' := 15) (L' := [some (mx_r (some (1, 11, 0))), some (mx_i x1)]) (st' := [mx_i (I 11 0 40), mx_i x1]) (σ' := (γ, hM I J, κ)) rfl ?_
    by_cases c3 : (I 11 0 40) ≤ x1
    · rw [if_pos c3] at hf
      refine mx_WP.bge (x := x1) (y := (I 11 0 40)) (q := 27) (p3 := 18) rfl (fun _ => ?_) (fun hh => absurd c3 hh)
      refine mx_WP.go 1 (pc' := 28) (L' := [some (mx_r (some (1, 11, 0))), some (mx_i x1)]) (st' := [mx_i (-1 : Int32)]) (σ' := (γ, hM I J, κ)) rfl ?_
      rw [← Option.some.inj hf] at hk
      refine mx_WP.ret (v := some (mx_i (-1 : Int32))) rfl ?_
      exact hk
    · rw [if_neg c3] at hf
      refine mx_WP.bge (x := x1) (y := (I 11 0 40)) (q := 27) (p3 := 18) rfl (fun hh => absurd hh c3) (fun _ => ?_)
      refine mx_WP.go 3 (pc' := 23) (L' := [some (mx_r (some (1, 11, 0))), some (mx_i x1)]) (st' := [mx_i x1, mx_r (some (1, 113, 0))]) (σ' := (γ, hM I J, κ)) rfl ?_
      by_cases c4 : x1 < 0 ∨ 32 ≤ x1.toNatClampNeg
      · rw [if_pos c4] at hf
        cases hf
      rw [if_neg c4] at hf
      refine mx_WP.ialdx c4 ?_
      show mx_WP (d + 1) 163 24 [some (mx_r (some (1, 11, 0))), some (mx_i x1)] [mx_i (I 113 0 x1.toNatClampNeg)] (γ, hM I J, κ) Q
      refine mx_WP.go 1 (pc' := 28) (L' := [some (mx_r (some (1, 11, 0))), some (mx_i x1)]) (st' := [mx_i (I 113 0 x1.toNatClampNeg)]) (σ' := (γ, hM I J, κ)) rfl ?_
      rw [← Option.some.inj hf] at hk
      refine mx_WP.ret (v := some (mx_i (I 113 0 x1.toNatClampNeg))) rfl ?_
      exact hk
  · rw [if_neg c2] at hf
    refine mx_WP.zeq (b := u1) (q := 27) (p3 := 10) rfl (fun _ => ?_) (fun hh => absurd hh (by simp [c2]))
    refine mx_WP.go 1 (pc' := 28) (L' := [some (mx_r (some (1, 11, 0))), some (mx_i x1)]) (st' := [mx_i (-1 : Int32)]) (σ' := (γ, hM I J, κ)) rfl ?_
    rw [← Option.some.inj hf] at hk
    refine mx_WP.ret (v := some (mx_i (-1 : Int32))) rfl ?_
    exact hk
def f164 (x1 : Int32) (I : Nat → Nat → Nat → Int32) : Option (Int32) :=
  (f120 x1 (0 : Int32) (15 : Int32)).bind fun u1 =>
  if u1 = true then (if (I 11 0 41) ≤ x1 then (some (-1 : Int32)) else if x1 < 0 ∨ 16 ≤ x1.toNatClampNeg then none else some (I 114 0 x1.toNatClampNeg)) else some (-1 : Int32)
theorem T164 {d : Nat} {x1 : Int32} {γ : mx_Rg} {I : Nat → Nat → Nat → Int32} {J : Nat → Nat → Nat → Int64} {κ : (Nat × (Nat → Int32)) × (Nat × Nat)} {Q : Option mx_V → mx_Hp → Prop} {o : Int32} (hf : f164 x1 I = some o) (hk : Q (some (mx_i o)) (γ, hM I J, κ)) : mx_WP (d + 1) 164 0 (mx_ent 164 [mx_r (some (1, 11, 0)), mx_i x1]) [] (γ, hM I J, κ) Q := by
  unfold f164 at hf
  refine mx_WP.go 3 (pc' := 4) (L' := [some (mx_r (some (1, 11, 0))), some (mx_i x1)]) (st' := [mx_i (15 : Int32), mx_i (0 : Int32), mx_i x1]) (σ' := (γ, hM I J, κ)) rfl ?_
  obtain ⟨u1, e5, hf⟩ := Option.bind_eq_some_iff.mp hf
  refine mx_WP.call (d := d + 0) (y := 120) (as := [mx_i x1, mx_i (0 : Int32), mx_i (15 : Int32)]) (pc' := 7) (r := []) rfl rfl (T120 (d := d + 0)  e5 ?_)
  show mx_WP (d + 1) 164 7 [some (mx_r (some (1, 11, 0))), some (mx_i x1)] [mx_i (b2i u1)] (γ, hM I J, κ) Q
  by_cases c2 : u1 = true
  · rw [if_pos c2] at hf
    refine mx_WP.zeq (b := u1) (q := 27) (p3 := 10) rfl (fun hh => absurd hh (by simp [c2])) (fun _ => ?_)
    refine mx_WP.go 3 (pc' := 15) (L' := [some (mx_r (some (1, 11, 0))), some (mx_i x1)]) (st' := [mx_i (I 11 0 41), mx_i x1]) (σ' := (γ, hM I J, κ)) rfl ?_
    by_cases c3 : (I 11 0 41) ≤ x1
    · rw [if_pos c3] at hf
      refine mx_WP.bge (x := x1) (y := (I 11 0 41)) (q := 27) (p3 := 18) rfl (fun _ => ?_) (fun hh => absurd c3 hh)
      refine mx_WP.go 1 (pc' := 28) (L' := [some (mx_r (some (1, 11, 0))), some (mx_i x1)]) (st' := [mx_i (-1 : Int32)]) (σ' := (γ, hM I J, κ)) rfl ?_
      rw [← Option.some.inj hf] at hk
      refine mx_WP.ret (v := some (mx_i (-1 : Int32))) rfl ?_
      exact hk
    · rw [if_neg c3] at hf
      refine mx_WP.bge (x := x1) (y := (I 11 0 41)) (q := 27) (p3 := 18) rfl (fun hh => absurd hh c3) (fun _ => ?_)
      refine mx_WP.go 3 (pc' := 23) (L' := [some (mx_r (some (1, 11, 0))), some (mx_i x1)]) (st' := [mx_i x1, mx_r (some (1, 114, 0))]) (σ' := (γ, hM I J, κ)) rfl ?_
      by_cases c4 : x1 < 0 ∨ 16 ≤ x1.toNatClampNeg
      · rw [if_pos c4] at hf
        cases hf
      rw [if_neg c4] at hf
      refine mx_WP.ialdx c4 ?_
      show mx_WP (d + 1) 164 24 [some (mx_r (some (1, 11, 0))), some (mx_i x1)] [mx_i (I 114 0 x1.toNatClampNeg)] (γ, hM I J, κ) Q
      refine mx_WP.go 1 (pc' := 28) (L' := [some (mx_r (some (1, 11, 0))), some (mx_i x1)]) (st' := [mx_i (I 114 0 x1.toNatClampNeg)]) (σ' := (γ, hM I J, κ)) rfl ?_
      rw [← Option.some.inj hf] at hk
      refine mx_WP.ret (v := some (mx_i (I 114 0 x1.toNatClampNeg))) rfl ?_
      exact hk
  · rw [if_neg c2] at hf
    refine mx_WP.zeq (b := u1) (q := 27) (p3 := 10) rfl (fun _ => ?_) (fun hh => absurd hh (by simp [c2]))
    refine mx_WP.go 1 (pc' := 28) (L' := [some (mx_r (some (1, 11, 0))), some (mx_i x1)]) (st' := [mx_i (-1 : Int32)]) (σ' := (γ, hM I J, κ)) rfl ?_
    rw [← Option.some.inj hf] at hk
    refine mx_WP.ret (v := some (mx_i (-1 : Int32))) rfl ?_
    exact hk
def b165_58  (I : Nat → Nat → Nat → Int32) (J : Nat → Nat → Nat → Int64) (s : Int32 × Int32) : Option ((Int32 × Int32) ⊕ (Int32 × Int32)) :=
  if (8 : Int32) ≤ s.2 then (some (Sum.inr (s.1, s.2))) else if s.2 < 0 ∨ 8 ≤ s.2.toNatClampNeg then none else if (I 92 0 s.2.toNatClampNeg) = (0 : Int32) then (some (Sum.inl (s.1, s.2 + 1))) else some (Sum.inl (s.1 + 1, s.2 + 1))
theorem B165_58 {d : Nat}  {γ : mx_Rg} {I : Nat → Nat → Nat → Int32} {J : Nat → Nat → Nat → Int64} {κ : (Nat × (Nat → Int32)) × (Nat × Nat)} {Q : Option mx_V → mx_Hp → Prop} {s : Int32 × Int32} {o : (Int32 × Int32) ⊕ (Int32 × Int32)} (hf : b165_58 I J s = some o) (hk : Sum.elim (fun s : Int32 × Int32 => ∀ (z1 : Option mx_V), mx_WP (d + 4) 165 58 [some (mx_r (some (1, 11, 0))), z1, some (mx_i s.1), some (mx_i s.2)] [] (γ, hM I J, κ) Q) (fun x : Int32 × Int32 => ∀ (z1 : Option mx_V), mx_WP (d + 4) 165 82 [some (mx_r (some (1, 11, 0))), z1, some (mx_i x.1), some (mx_i x.2)] [] (γ, hM I J, κ) Q) o) : ∀ (z1 : Option mx_V), mx_WP (d + 4) 165 58 [some (mx_r (some (1, 11, 0))), z1, some (mx_i s.1), some (mx_i s.2)] [] (γ, hM I J, κ) Q := by
  intro z1
  unfold b165_58 at hf
  refine mx_WP.go 2 (pc' := 61) (L' := [some (mx_r (some (1, 11, 0))), z1, some (mx_i s.1), some (mx_i s.2)]) (st' := [mx_i (8 : Int32), mx_i s.2]) (σ' := (γ, hM I J, κ)) rfl ?_
  by_cases c102 : (8 : Int32) ≤ s.2
  · rw [if_pos c102] at hf
    refine mx_WP.bge (x := s.2) (y := (8 : Int32)) (q := 82) (p3 := 64) rfl (fun _ => ?_) (fun hh => absurd c102 hh)
    rw [← Option.some.inj hf] at hk
    exact hk (z1)
  · rw [if_neg c102] at hf
    refine mx_WP.bge (x := s.2) (y := (8 : Int32)) (q := 82) (p3 := 64) rfl (fun hh => absurd hh c102) (fun _ => ?_)
    refine mx_WP.go 3 (pc' := 69) (L' := [some (mx_r (some (1, 11, 0))), z1, some (mx_i s.1), some (mx_i s.2)]) (st' := [mx_i s.2, mx_r (some (1, 92, 0))]) (σ' := (γ, hM I J, κ)) rfl ?_
    by_cases c103 : s.2 < 0 ∨ 8 ≤ s.2.toNatClampNeg
    · rw [if_pos c103] at hf
      cases hf
    rw [if_neg c103] at hf
    refine mx_WP.baldx c103 ?_
    show mx_WP (d + 4) 165 70 [some (mx_r (some (1, 11, 0))), z1, some (mx_i s.1), some (mx_i s.2)] [mx_i (I 92 0 s.2.toNatClampNeg)] (γ, hM I J, κ) Q
    by_cases c104 : (I 92 0 s.2.toNatClampNeg) = (0 : Int32)
    · rw [if_pos c104] at hf
      refine mx_WP.beq (x := (I 92 0 s.2.toNatClampNeg)) (y := (0 : Int32)) (q := 76) (p3 := 73) rfl (fun _ => ?_) (fun hh => absurd c104 hh)
      refine mx_WP.go 2 (pc' := 58) (L' := [some (mx_r (some (1, 11, 0))), z1, some (mx_i s.1), some (mx_i (s.2 + 1))]) (st' := []) (σ' := (γ, hM I J, κ)) rfl ?_
      rw [← Option.some.inj hf] at hk
      exact hk (z1)
    · rw [if_neg c104] at hf
      refine mx_WP.beq (x := (I 92 0 s.2.toNatClampNeg)) (y := (0 : Int32)) (q := 76) (p3 := 73) rfl (fun hh => absurd hh c104) (fun _ => ?_)
      refine mx_WP.go 3 (pc' := 58) (L' := [some (mx_r (some (1, 11, 0))), z1, some (mx_i (s.1 + 1)), some (mx_i (s.2 + 1))]) (st' := []) (σ' := (γ, hM I J, κ)) rfl ?_
      rw [← Option.some.inj hf] at hk
      exact hk (z1)
theorem L165_58 {d : Nat}  {γ : mx_Rg} {I : Nat → Nat → Nat → Int32} {J : Nat → Nat → Nat → Int64} {κ : (Nat × (Nat → Int32)) × (Nat × Nat)} {Q : Option mx_V → mx_Hp → Prop} {n : Nat} {s : Int32 × Int32} {o : Int32 × Int32} (hf : mx_lp (b165_58 I J) n s = some o) (hk : (fun x : Int32 × Int32 => ∀ (z1 : Option mx_V), mx_WP (d + 4) 165 82 [some (mx_r (some (1, 11, 0))), z1, some (mx_i x.1), some (mx_i x.2)] [] (γ, hM I J, κ) Q) o) : ∀ (z1 : Option mx_V), mx_WP (d + 4) 165 58 [some (mx_r (some (1, 11, 0))), z1, some (mx_i s.1), some (mx_i s.2)] [] (γ, hM I J, κ) Q := mx_lp_ok (P := fun s : Int32 × Int32 => ∀ (z1 : Option mx_V), mx_WP (d + 4) 165 58 [some (mx_r (some (1, 11, 0))), z1, some (mx_i s.1), some (mx_i s.2)] [] (γ, hM I J, κ) Q) (E := (fun x : Int32 × Int32 => ∀ (z1 : Option mx_V), mx_WP (d + 4) 165 82 [some (mx_r (some (1, 11, 0))), z1, some (mx_i x.1), some (mx_i x.2)] [] (γ, hM I J, κ) Q)) (fun s o hf hk => B165_58 hf hk) n s o hf hk
def b165_86  (I : Nat → Nat → Nat → Int32) (J : Nat → Nat → Nat → Int64) (s : Int32 × Int32) : Option ((Int32 × Int32) ⊕ (Int32 × Int32)) :=
  if (8 : Int32) ≤ s.2 then (some (Sum.inr (s.1, s.2))) else if s.2 < 0 ∨ 8 ≤ s.2.toNatClampNeg then none else if (I 92 0 s.2.toNatClampNeg) = (0 : Int32) then (some (Sum.inl (s.1, s.2 + 1))) else if s.2 < 0 ∨ 8 ≤ s.2.toNatClampNeg then none else if (I 93 0 s.2.toNatClampNeg) = (0 : Int32) then (some (Sum.inl (s.1, s.2 + 1))) else some (Sum.inl (s.1 + 1, s.2 + 1))
theorem B165_86 {d : Nat}  {γ : mx_Rg} {I : Nat → Nat → Nat → Int32} {J : Nat → Nat → Nat → Int64} {κ : (Nat × (Nat → Int32)) × (Nat × Nat)} {Q : Option mx_V → mx_Hp → Prop} {s : Int32 × Int32} {o : (Int32 × Int32) ⊕ (Int32 × Int32)} (hf : b165_86 I J s = some o) (hk : Sum.elim (fun s : Int32 × Int32 => ∀ (z1 : Option mx_V), mx_WP (d + 4) 165 86 [some (mx_r (some (1, 11, 0))), z1, some (mx_i s.1), some (mx_i s.2)] [] (γ, hM I J, κ) Q) (fun x : Int32 × Int32 => ∀ (z1 : Option mx_V), mx_WP (d + 4) 165 119 [some (mx_r (some (1, 11, 0))), z1, some (mx_i x.1), some (mx_i x.2)] [] (γ, hM I J, κ) Q) o) : ∀ (z1 : Option mx_V), mx_WP (d + 4) 165 86 [some (mx_r (some (1, 11, 0))), z1, some (mx_i s.1), some (mx_i s.2)] [] (γ, hM I J, κ) Q := by
  intro z1
  unfold b165_86 at hf
  refine mx_WP.go 2 (pc' := 89) (L' := [some (mx_r (some (1, 11, 0))), z1, some (mx_i s.1), some (mx_i s.2)]) (st' := [mx_i (8 : Int32), mx_i s.2]) (σ' := (γ, hM I J, κ)) rfl ?_
  by_cases c208 : (8 : Int32) ≤ s.2
  · rw [if_pos c208] at hf
    refine mx_WP.bge (x := s.2) (y := (8 : Int32)) (q := 119) (p3 := 92) rfl (fun _ => ?_) (fun hh => absurd c208 hh)
    rw [← Option.some.inj hf] at hk
    exact hk (z1)
  · rw [if_neg c208] at hf
    refine mx_WP.bge (x := s.2) (y := (8 : Int32)) (q := 119) (p3 := 92) rfl (fun hh => absurd hh c208) (fun _ => ?_)
    refine mx_WP.go 3 (pc' := 97) (L' := [some (mx_r (some (1, 11, 0))), z1, some (mx_i s.1), some (mx_i s.2)]) (st' := [mx_i s.2, mx_r (some (1, 92, 0))]) (σ' := (γ, hM I J, κ)) rfl ?_
    by_cases c209 : s.2 < 0 ∨ 8 ≤ s.2.toNatClampNeg
    · rw [if_pos c209] at hf
      cases hf
    rw [if_neg c209] at hf
    refine mx_WP.baldx c209 ?_
    show mx_WP (d + 4) 165 98 [some (mx_r (some (1, 11, 0))), z1, some (mx_i s.1), some (mx_i s.2)] [mx_i (I 92 0 s.2.toNatClampNeg)] (γ, hM I J, κ) Q
    by_cases c210 : (I 92 0 s.2.toNatClampNeg) = (0 : Int32)
    · rw [if_pos c210] at hf
      refine mx_WP.beq (x := (I 92 0 s.2.toNatClampNeg)) (y := (0 : Int32)) (q := 113) (p3 := 101) rfl (fun _ => ?_) (fun hh => absurd c210 hh)
      refine mx_WP.go 2 (pc' := 86) (L' := [some (mx_r (some (1, 11, 0))), z1, some (mx_i s.1), some (mx_i (s.2 + 1))]) (st' := []) (σ' := (γ, hM I J, κ)) rfl ?_
      rw [← Option.some.inj hf] at hk
      exact hk (z1)
    · rw [if_neg c210] at hf
      refine mx_WP.beq (x := (I 92 0 s.2.toNatClampNeg)) (y := (0 : Int32)) (q := 113) (p3 := 101) rfl (fun hh => absurd hh c210) (fun _ => ?_)
      refine mx_WP.go 3 (pc' := 106) (L' := [some (mx_r (some (1, 11, 0))), z1, some (mx_i s.1), some (mx_i s.2)]) (st' := [mx_i s.2, mx_r (some (1, 93, 0))]) (σ' := (γ, hM I J, κ)) rfl ?_
      by_cases c211 : s.2 < 0 ∨ 8 ≤ s.2.toNatClampNeg
      · rw [if_pos c211] at hf
        cases hf
      rw [if_neg c211] at hf
      refine mx_WP.baldx c211 ?_
      show mx_WP (d + 4) 165 107 [some (mx_r (some (1, 11, 0))), z1, some (mx_i s.1), some (mx_i s.2)] [mx_i (I 93 0 s.2.toNatClampNeg)] (γ, hM I J, κ) Q
      by_cases c212 : (I 93 0 s.2.toNatClampNeg) = (0 : Int32)
      · rw [if_pos c212] at hf
        refine mx_WP.beq (x := (I 93 0 s.2.toNatClampNeg)) (y := (0 : Int32)) (q := 113) (p3 := 110) rfl (fun _ => ?_) (fun hh => absurd c212 hh)
        refine mx_WP.go 2 (pc' := 86) (L' := [some (mx_r (some (1, 11, 0))), z1, some (mx_i s.1), some (mx_i (s.2 + 1))]) (st' := []) (σ' := (γ, hM I J, κ)) rfl ?_
        rw [← Option.some.inj hf] at hk
        exact hk (z1)
      · rw [if_neg c212] at hf
        refine mx_WP.beq (x := (I 93 0 s.2.toNatClampNeg)) (y := (0 : Int32)) (q := 113) (p3 := 110) rfl (fun hh => absurd hh c212) (fun _ => ?_)
        refine mx_WP.go 3 (pc' := 86) (L' := [some (mx_r (some (1, 11, 0))), z1, some (mx_i (s.1 + 1)), some (mx_i (s.2 + 1))]) (st' := []) (σ' := (γ, hM I J, κ)) rfl ?_
        rw [← Option.some.inj hf] at hk
        exact hk (z1)
theorem L165_86 {d : Nat}  {γ : mx_Rg} {I : Nat → Nat → Nat → Int32} {J : Nat → Nat → Nat → Int64} {κ : (Nat × (Nat → Int32)) × (Nat × Nat)} {Q : Option mx_V → mx_Hp → Prop} {n : Nat} {s : Int32 × Int32} {o : Int32 × Int32} (hf : mx_lp (b165_86 I J) n s = some o) (hk : (fun x : Int32 × Int32 => ∀ (z1 : Option mx_V), mx_WP (d + 4) 165 119 [some (mx_r (some (1, 11, 0))), z1, some (mx_i x.1), some (mx_i x.2)] [] (γ, hM I J, κ) Q) o) : ∀ (z1 : Option mx_V), mx_WP (d + 4) 165 86 [some (mx_r (some (1, 11, 0))), z1, some (mx_i s.1), some (mx_i s.2)] [] (γ, hM I J, κ) Q := mx_lp_ok (P := fun s : Int32 × Int32 => ∀ (z1 : Option mx_V), mx_WP (d + 4) 165 86 [some (mx_r (some (1, 11, 0))), z1, some (mx_i s.1), some (mx_i s.2)] [] (γ, hM I J, κ) Q) (E := (fun x : Int32 × Int32 => ∀ (z1 : Option mx_V), mx_WP (d + 4) 165 119 [some (mx_r (some (1, 11, 0))), z1, some (mx_i x.1), some (mx_i x.2)] [] (γ, hM I J, κ) Q)) (fun s o hf hk => B165_86 hf hk) n s o hf hk
def b165_123  (I : Nat → Nat → Nat → Int32) (J : Nat → Nat → Nat → Int64) (s : Int32 × Int32) : Option ((Int32 × Int32) ⊕ (Int32 × Int32)) :=
  if (8 : Int32) ≤ s.2 then (some (Sum.inr (s.1, s.2))) else if s.2 < 0 ∨ 8 ≤ s.2.toNatClampNeg then none else if (I 92 0 s.2.toNatClampNeg) = (0 : Int32) then (some (Sum.inl (s.1, s.2 + 1))) else if s.2 < 0 ∨ 8 ≤ s.2.toNatClampNeg then none else if (I 94 0 s.2.toNatClampNeg) = (0 : Int32) then (some (Sum.inl (s.1, s.2 + 1))) else some (Sum.inl (s.1 + 1, s.2 + 1))
theorem B165_123 {d : Nat}  {γ : mx_Rg} {I : Nat → Nat → Nat → Int32} {J : Nat → Nat → Nat → Int64} {κ : (Nat × (Nat → Int32)) × (Nat × Nat)} {Q : Option mx_V → mx_Hp → Prop} {s : Int32 × Int32} {o : (Int32 × Int32) ⊕ (Int32 × Int32)} (hf : b165_123 I J s = some o) (hk : Sum.elim (fun s : Int32 × Int32 => ∀ (z1 : Option mx_V), mx_WP (d + 4) 165 123 [some (mx_r (some (1, 11, 0))), z1, some (mx_i s.1), some (mx_i s.2)] [] (γ, hM I J, κ) Q) (fun x : Int32 × Int32 => ∀ (z1 : Option mx_V), mx_WP (d + 4) 165 156 [some (mx_r (some (1, 11, 0))), z1, some (mx_i x.1), some (mx_i x.2)] [] (γ, hM I J, κ) Q) o) : ∀ (z1 : Option mx_V), mx_WP (d + 4) 165 123 [some (mx_r (some (1, 11, 0))), z1, some (mx_i s.1), some (mx_i s.2)] [] (γ, hM I J, κ) Q := by
  intro z1
  unfold b165_123 at hf
  refine mx_WP.go 2 (pc' := 126) (L' := [some (mx_r (some (1, 11, 0))), z1, some (mx_i s.1), some (mx_i s.2)]) (st' := [mx_i (8 : Int32), mx_i s.2]) (σ' := (γ, hM I J, κ)) rfl ?_
  by_cases c316 : (8 : Int32) ≤ s.2
  · rw [if_pos c316] at hf
    refine mx_WP.bge (x := s.2) (y := (8 : Int32)) (q := 156) (p3 := 129) rfl (fun _ => ?_) (fun hh => absurd c316 hh)
    rw [← Option.some.inj hf] at hk
    exact hk (z1)
  · rw [if_neg c316] at hf
    refine mx_WP.bge (x := s.2) (y := (8 : Int32)) (q := 156) (p3 := 129) rfl (fun hh => absurd hh c316) (fun _ => ?_)
    refine mx_WP.go 3 (pc' := 134) (L' := [some (mx_r (some (1, 11, 0))), z1, some (mx_i s.1), some (mx_i s.2)]) (st' := [mx_i s.2, mx_r (some (1, 92, 0))]) (σ' := (γ, hM I J, κ)) rfl ?_
    by_cases c317 : s.2 < 0 ∨ 8 ≤ s.2.toNatClampNeg
    · rw [if_pos c317] at hf
      cases hf
    rw [if_neg c317] at hf
    refine mx_WP.baldx c317 ?_
    show mx_WP (d + 4) 165 135 [some (mx_r (some (1, 11, 0))), z1, some (mx_i s.1), some (mx_i s.2)] [mx_i (I 92 0 s.2.toNatClampNeg)] (γ, hM I J, κ) Q
    by_cases c318 : (I 92 0 s.2.toNatClampNeg) = (0 : Int32)
    · rw [if_pos c318] at hf
      refine mx_WP.beq (x := (I 92 0 s.2.toNatClampNeg)) (y := (0 : Int32)) (q := 150) (p3 := 138) rfl (fun _ => ?_) (fun hh => absurd c318 hh)
      refine mx_WP.go 2 (pc' := 123) (L' := [some (mx_r (some (1, 11, 0))), z1, some (mx_i s.1), some (mx_i (s.2 + 1))]) (st' := []) (σ' := (γ, hM I J, κ)) rfl ?_
      rw [← Option.some.inj hf] at hk
      exact hk (z1)
    · rw [if_neg c318] at hf
      refine mx_WP.beq (x := (I 92 0 s.2.toNatClampNeg)) (y := (0 : Int32)) (q := 150) (p3 := 138) rfl (fun hh => absurd hh c318) (fun _ => ?_)
      refine mx_WP.go 3 (pc' := 143) (L' := [some (mx_r (some (1, 11, 0))), z1, some (mx_i s.1), some (mx_i s.2)]) (st' := [mx_i s.2, mx_r (some (1, 94, 0))]) (σ' := (γ, hM I J, κ)) rfl ?_
      by_cases c319 : s.2 < 0 ∨ 8 ≤ s.2.toNatClampNeg
      · rw [if_pos c319] at hf
        cases hf
      rw [if_neg c319] at hf
      refine mx_WP.baldx c319 ?_
      show mx_WP (d + 4) 165 144 [some (mx_r (some (1, 11, 0))), z1, some (mx_i s.1), some (mx_i s.2)] [mx_i (I 94 0 s.2.toNatClampNeg)] (γ, hM I J, κ) Q
      by_cases c320 : (I 94 0 s.2.toNatClampNeg) = (0 : Int32)
      · rw [if_pos c320] at hf
        refine mx_WP.beq (x := (I 94 0 s.2.toNatClampNeg)) (y := (0 : Int32)) (q := 150) (p3 := 147) rfl (fun _ => ?_) (fun hh => absurd c320 hh)
        refine mx_WP.go 2 (pc' := 123) (L' := [some (mx_r (some (1, 11, 0))), z1, some (mx_i s.1), some (mx_i (s.2 + 1))]) (st' := []) (σ' := (γ, hM I J, κ)) rfl ?_
        rw [← Option.some.inj hf] at hk
        exact hk (z1)
      · rw [if_neg c320] at hf
        refine mx_WP.beq (x := (I 94 0 s.2.toNatClampNeg)) (y := (0 : Int32)) (q := 150) (p3 := 147) rfl (fun hh => absurd hh c320) (fun _ => ?_)
        refine mx_WP.go 3 (pc' := 123) (L' := [some (mx_r (some (1, 11, 0))), z1, some (mx_i (s.1 + 1)), some (mx_i (s.2 + 1))]) (st' := []) (σ' := (γ, hM I J, κ)) rfl ?_
        rw [← Option.some.inj hf] at hk
        exact hk (z1)
theorem L165_123 {d : Nat}  {γ : mx_Rg} {I : Nat → Nat → Nat → Int32} {J : Nat → Nat → Nat → Int64} {κ : (Nat × (Nat → Int32)) × (Nat × Nat)} {Q : Option mx_V → mx_Hp → Prop} {n : Nat} {s : Int32 × Int32} {o : Int32 × Int32} (hf : mx_lp (b165_123 I J) n s = some o) (hk : (fun x : Int32 × Int32 => ∀ (z1 : Option mx_V), mx_WP (d + 4) 165 156 [some (mx_r (some (1, 11, 0))), z1, some (mx_i x.1), some (mx_i x.2)] [] (γ, hM I J, κ) Q) o) : ∀ (z1 : Option mx_V), mx_WP (d + 4) 165 123 [some (mx_r (some (1, 11, 0))), z1, some (mx_i s.1), some (mx_i s.2)] [] (γ, hM I J, κ) Q := mx_lp_ok (P := fun s : Int32 × Int32 => ∀ (z1 : Option mx_V), mx_WP (d + 4) 165 123 [some (mx_r (some (1, 11, 0))), z1, some (mx_i s.1), some (mx_i s.2)] [] (γ, hM I J, κ) Q) (E := (fun x : Int32 × Int32 => ∀ (z1 : Option mx_V), mx_WP (d + 4) 165 156 [some (mx_r (some (1, 11, 0))), z1, some (mx_i x.1), some (mx_i x.2)] [] (γ, hM I J, κ) Q)) (fun s o hf hk => B165_123 hf hk) n s o hf hk
def b165_160  (I : Nat → Nat → Nat → Int32) (J : Nat → Nat → Nat → Int64) (s : Int32 × Int32) : Option ((Int32 × Int32) ⊕ (Int32 × Int32)) :=
  if (128 : Int32) ≤ s.2 then (some (Sum.inr (s.1, s.2))) else if s.2 < 0 ∨ 128 ≤ s.2.toNatClampNeg then none else if (I 108 0 s.2.toNatClampNeg) = (0 : Int32) then (some (Sum.inl (s.1, s.2 + 1))) else some (Sum.inl (s.1 + 1, s.2 + 1))
theorem B165_160 {d : Nat}  {γ : mx_Rg} {I : Nat → Nat → Nat → Int32} {J : Nat → Nat → Nat → Int64} {κ : (Nat × (Nat → Int32)) × (Nat × Nat)} {Q : Option mx_V → mx_Hp → Prop} {s : Int32 × Int32} {o : (Int32 × Int32) ⊕ (Int32 × Int32)} (hf : b165_160 I J s = some o) (hk : Sum.elim (fun s : Int32 × Int32 => ∀ (z1 : Option mx_V), mx_WP (d + 4) 165 160 [some (mx_r (some (1, 11, 0))), z1, some (mx_i s.1), some (mx_i s.2)] [] (γ, hM I J, κ) Q) (fun x : Int32 × Int32 => ∀ (z1 : Option mx_V), mx_WP (d + 4) 165 185 [some (mx_r (some (1, 11, 0))), z1, some (mx_i x.1), some (mx_i x.2)] [] (γ, hM I J, κ) Q) o) : ∀ (z1 : Option mx_V), mx_WP (d + 4) 165 160 [some (mx_r (some (1, 11, 0))), z1, some (mx_i s.1), some (mx_i s.2)] [] (γ, hM I J, κ) Q := by
  intro z1
  unfold b165_160 at hf
  refine mx_WP.go 2 (pc' := 164) (L' := [some (mx_r (some (1, 11, 0))), z1, some (mx_i s.1), some (mx_i s.2)]) (st' := [mx_i (128 : Int32), mx_i s.2]) (σ' := (γ, hM I J, κ)) rfl ?_
  by_cases c424 : (128 : Int32) ≤ s.2
  · rw [if_pos c424] at hf
    refine mx_WP.bge (x := s.2) (y := (128 : Int32)) (q := 185) (p3 := 167) rfl (fun _ => ?_) (fun hh => absurd c424 hh)
    rw [← Option.some.inj hf] at hk
    exact hk (z1)
  · rw [if_neg c424] at hf
    refine mx_WP.bge (x := s.2) (y := (128 : Int32)) (q := 185) (p3 := 167) rfl (fun hh => absurd hh c424) (fun _ => ?_)
    refine mx_WP.go 3 (pc' := 172) (L' := [some (mx_r (some (1, 11, 0))), z1, some (mx_i s.1), some (mx_i s.2)]) (st' := [mx_i s.2, mx_r (some (1, 108, 0))]) (σ' := (γ, hM I J, κ)) rfl ?_
    by_cases c425 : s.2 < 0 ∨ 128 ≤ s.2.toNatClampNeg
    · rw [if_pos c425] at hf
      cases hf
    rw [if_neg c425] at hf
    refine mx_WP.baldx c425 ?_
    show mx_WP (d + 4) 165 173 [some (mx_r (some (1, 11, 0))), z1, some (mx_i s.1), some (mx_i s.2)] [mx_i (I 108 0 s.2.toNatClampNeg)] (γ, hM I J, κ) Q
    by_cases c426 : (I 108 0 s.2.toNatClampNeg) = (0 : Int32)
    · rw [if_pos c426] at hf
      refine mx_WP.beq (x := (I 108 0 s.2.toNatClampNeg)) (y := (0 : Int32)) (q := 179) (p3 := 176) rfl (fun _ => ?_) (fun hh => absurd c426 hh)
      refine mx_WP.go 2 (pc' := 160) (L' := [some (mx_r (some (1, 11, 0))), z1, some (mx_i s.1), some (mx_i (s.2 + 1))]) (st' := []) (σ' := (γ, hM I J, κ)) rfl ?_
      rw [← Option.some.inj hf] at hk
      exact hk (z1)
    · rw [if_neg c426] at hf
      refine mx_WP.beq (x := (I 108 0 s.2.toNatClampNeg)) (y := (0 : Int32)) (q := 179) (p3 := 176) rfl (fun hh => absurd hh c426) (fun _ => ?_)
      refine mx_WP.go 3 (pc' := 160) (L' := [some (mx_r (some (1, 11, 0))), z1, some (mx_i (s.1 + 1)), some (mx_i (s.2 + 1))]) (st' := []) (σ' := (γ, hM I J, κ)) rfl ?_
      rw [← Option.some.inj hf] at hk
      exact hk (z1)
theorem L165_160 {d : Nat}  {γ : mx_Rg} {I : Nat → Nat → Nat → Int32} {J : Nat → Nat → Nat → Int64} {κ : (Nat × (Nat → Int32)) × (Nat × Nat)} {Q : Option mx_V → mx_Hp → Prop} {n : Nat} {s : Int32 × Int32} {o : Int32 × Int32} (hf : mx_lp (b165_160 I J) n s = some o) (hk : (fun x : Int32 × Int32 => ∀ (z1 : Option mx_V), mx_WP (d + 4) 165 185 [some (mx_r (some (1, 11, 0))), z1, some (mx_i x.1), some (mx_i x.2)] [] (γ, hM I J, κ) Q) o) : ∀ (z1 : Option mx_V), mx_WP (d + 4) 165 160 [some (mx_r (some (1, 11, 0))), z1, some (mx_i s.1), some (mx_i s.2)] [] (γ, hM I J, κ) Q := mx_lp_ok (P := fun s : Int32 × Int32 => ∀ (z1 : Option mx_V), mx_WP (d + 4) 165 160 [some (mx_r (some (1, 11, 0))), z1, some (mx_i s.1), some (mx_i s.2)] [] (γ, hM I J, κ) Q) (E := (fun x : Int32 × Int32 => ∀ (z1 : Option mx_V), mx_WP (d + 4) 165 185 [some (mx_r (some (1, 11, 0))), z1, some (mx_i x.1), some (mx_i x.2)] [] (γ, hM I J, κ) Q)) (fun s o hf hk => B165_160 hf hk) n s o hf hk
def b165_189  (I : Nat → Nat → Nat → Int32) (J : Nat → Nat → Nat → Int64) (s : Int32 × Int32) : Option ((Int32 × Int32) ⊕ (Int32 × Int32)) :=
  if (128 : Int32) ≤ s.2 then (some (Sum.inr (s.1, s.2))) else (f139 s.2 (500068609904 : Int64) I J).bind fun u531 =>
  if u531 = true then ((f141 s.2 (25705 : Int64) I J).bind fun u533 =>
  (f142 u533 I J).bind fun u534 =>
  if u534 = s.2 then (some (Sum.inl (s.1 + 1, s.2 + 1))) else some (Sum.inl (s.1, s.2 + 1))) else some (Sum.inl (s.1, s.2 + 1))
theorem B165_189 {d : Nat}  {γ : mx_Rg} {I : Nat → Nat → Nat → Int32} {J : Nat → Nat → Nat → Int64} {κ : (Nat × (Nat → Int32)) × (Nat × Nat)} {Q : Option mx_V → mx_Hp → Prop} {s : Int32 × Int32} {o : (Int32 × Int32) ⊕ (Int32 × Int32)} (hf : b165_189 I J s = some o) (hk : Sum.elim (fun s : Int32 × Int32 => ∀ (z1 : Option mx_V), mx_WP (d + 4) 165 189 [some (mx_r (some (1, 11, 0))), z1, some (mx_i s.1), some (mx_i s.2)] [] (γ, hM I J, κ) Q) (fun x : Int32 × Int32 => ∀ (z1 : Option mx_V), mx_WP (d + 4) 165 232 [some (mx_r (some (1, 11, 0))), z1, some (mx_i x.1), some (mx_i x.2)] [] (γ, hM I J, κ) Q) o) : ∀ (z1 : Option mx_V), mx_WP (d + 4) 165 189 [some (mx_r (some (1, 11, 0))), z1, some (mx_i s.1), some (mx_i s.2)] [] (γ, hM I J, κ) Q := by
  intro z1
  unfold b165_189 at hf
  refine mx_WP.go 2 (pc' := 193) (L' := [some (mx_r (some (1, 11, 0))), z1, some (mx_i s.1), some (mx_i s.2)]) (st' := [mx_i (128 : Int32), mx_i s.2]) (σ' := (γ, hM I J, κ)) rfl ?_
  by_cases c530 : (128 : Int32) ≤ s.2
  · rw [if_pos c530] at hf
    refine mx_WP.bge (x := s.2) (y := (128 : Int32)) (q := 232) (p3 := 196) rfl (fun _ => ?_) (fun hh => absurd c530 hh)
    rw [← Option.some.inj hf] at hk
    exact hk (z1)
  · rw [if_neg c530] at hf
    refine mx_WP.bge (x := s.2) (y := (128 : Int32)) (q := 232) (p3 := 196) rfl (fun hh => absurd hh c530) (fun _ => ?_)
    refine mx_WP.go 3 (pc' := 201) (L' := [some (mx_r (some (1, 11, 0))), z1, some (mx_i s.1), some (mx_i s.2)]) (st' := [mx_l (500068609904 : Int64), mx_i s.2, mx_r (some (1, 11, 0))]) (σ' := (γ, hM I J, κ)) rfl ?_
    obtain ⟨u531, e538, hf⟩ := Option.bind_eq_some_iff.mp hf
    refine mx_WP.call (d := d + 3) (y := 139) (as := [mx_r (some (1, 11, 0)), mx_i s.2, mx_l (500068609904 : Int64)]) (pc' := 204) (r := []) rfl rfl (T139 (d := d + 1)  e538 ?_)
    show mx_WP (d + 4) 165 204 [some (mx_r (some (1, 11, 0))), z1, some (mx_i s.1), some (mx_i s.2)] [mx_i (b2i u531)] (γ, hM I J, κ) Q
    by_cases c532 : u531 = true
    · rw [if_pos c532] at hf
      refine mx_WP.zeq (b := u531) (q := 226) (p3 := 207) rfl (fun hh => absurd hh (by simp [c532])) (fun _ => ?_)
      refine mx_WP.go 4 (pc' := 213) (L' := [some (mx_r (some (1, 11, 0))), z1, some (mx_i s.1), some (mx_i s.2)]) (st' := [mx_l (25705 : Int64), mx_i s.2, mx_r (some (1, 11, 0)), mx_r (some (1, 11, 0))]) (σ' := (γ, hM I J, κ)) rfl ?_
      obtain ⟨u533, e537, hf⟩ := Option.bind_eq_some_iff.mp hf
      refine mx_WP.call (d := d + 3) (y := 141) (as := [mx_r (some (1, 11, 0)), mx_i s.2, mx_l (25705 : Int64)]) (pc' := 216) (r := [mx_r (some (1, 11, 0))]) rfl rfl (T141 (d := d + 3)  e537 ?_)
      show mx_WP (d + 4) 165 216 [some (mx_r (some (1, 11, 0))), z1, some (mx_i s.1), some (mx_i s.2)] [mx_l u533, mx_r (some (1, 11, 0))] (γ, hM I J, κ) Q
      obtain ⟨u534, e536, hf⟩ := Option.bind_eq_some_iff.mp hf
      refine mx_WP.call (d := d + 3) (y := 142) (as := [mx_r (some (1, 11, 0)), mx_l u533]) (pc' := 219) (r := []) rfl rfl (T142 (d := d + 0)  e536 ?_)
      show mx_WP (d + 4) 165 219 [some (mx_r (some (1, 11, 0))), z1, some (mx_i s.1), some (mx_i s.2)] [mx_i u534] (γ, hM I J, κ) Q
      refine mx_WP.go 1 (pc' := 220) (L' := [some (mx_r (some (1, 11, 0))), z1, some (mx_i s.1), some (mx_i s.2)]) (st' := [mx_i s.2, mx_i u534]) (σ' := (γ, hM I J, κ)) rfl ?_
      by_cases c535 : u534 = s.2
      · rw [if_pos c535] at hf
        refine mx_WP.bne (x := u534) (y := s.2) (q := 226) (p3 := 223) rfl (fun hh => absurd c535 hh) (fun _ => ?_)
        refine mx_WP.go 3 (pc' := 189) (L' := [some (mx_r (some (1, 11, 0))), z1, some (mx_i (s.1 + 1)), some (mx_i (s.2 + 1))]) (st' := []) (σ' := (γ, hM I J, κ)) rfl ?_
        rw [← Option.some.inj hf] at hk
        exact hk (z1)
      · rw [if_neg c535] at hf
        refine mx_WP.bne (x := u534) (y := s.2) (q := 226) (p3 := 223) rfl (fun _ => ?_) (fun hh => absurd c535 hh)
        refine mx_WP.go 2 (pc' := 189) (L' := [some (mx_r (some (1, 11, 0))), z1, some (mx_i s.1), some (mx_i (s.2 + 1))]) (st' := []) (σ' := (γ, hM I J, κ)) rfl ?_
        rw [← Option.some.inj hf] at hk
        exact hk (z1)
    · rw [if_neg c532] at hf
      refine mx_WP.zeq (b := u531) (q := 226) (p3 := 207) rfl (fun _ => ?_) (fun hh => absurd hh (by simp [c532]))
      refine mx_WP.go 2 (pc' := 189) (L' := [some (mx_r (some (1, 11, 0))), z1, some (mx_i s.1), some (mx_i (s.2 + 1))]) (st' := []) (σ' := (γ, hM I J, κ)) rfl ?_
      rw [← Option.some.inj hf] at hk
      exact hk (z1)
theorem L165_189 {d : Nat}  {γ : mx_Rg} {I : Nat → Nat → Nat → Int32} {J : Nat → Nat → Nat → Int64} {κ : (Nat × (Nat → Int32)) × (Nat × Nat)} {Q : Option mx_V → mx_Hp → Prop} {n : Nat} {s : Int32 × Int32} {o : Int32 × Int32} (hf : mx_lp (b165_189 I J) n s = some o) (hk : (fun x : Int32 × Int32 => ∀ (z1 : Option mx_V), mx_WP (d + 4) 165 232 [some (mx_r (some (1, 11, 0))), z1, some (mx_i x.1), some (mx_i x.2)] [] (γ, hM I J, κ) Q) o) : ∀ (z1 : Option mx_V), mx_WP (d + 4) 165 189 [some (mx_r (some (1, 11, 0))), z1, some (mx_i s.1), some (mx_i s.2)] [] (γ, hM I J, κ) Q := mx_lp_ok (P := fun s : Int32 × Int32 => ∀ (z1 : Option mx_V), mx_WP (d + 4) 165 189 [some (mx_r (some (1, 11, 0))), z1, some (mx_i s.1), some (mx_i s.2)] [] (γ, hM I J, κ) Q) (E := (fun x : Int32 × Int32 => ∀ (z1 : Option mx_V), mx_WP (d + 4) 165 232 [some (mx_r (some (1, 11, 0))), z1, some (mx_i x.1), some (mx_i x.2)] [] (γ, hM I J, κ) Q)) (fun s o hf hk => B165_189 hf hk) n s o hf hk
def b165_241  (I : Nat → Nat → Nat → Int32) (J : Nat → Nat → Nat → Int64) (s : Int32 × Int32) : Option ((Int32 × Int32) ⊕ (Int32 × Int32)) :=
  if (I 11 0 39) ≤ s.2 then (some (Sum.inr (s.1, s.2))) else if s.2 < 0 ∨ 24 ≤ s.2.toNatClampNeg then none else if (I 115 0 s.2.toNatClampNeg) = (0 : Int32) then (some (Sum.inl (s.1 + 1, s.2 + 1))) else some (Sum.inl (s.1, s.2 + 1))
theorem B165_241 {d : Nat}  {γ : mx_Rg} {I : Nat → Nat → Nat → Int32} {J : Nat → Nat → Nat → Int64} {κ : (Nat × (Nat → Int32)) × (Nat × Nat)} {Q : Option mx_V → mx_Hp → Prop} {s : Int32 × Int32} {o : (Int32 × Int32) ⊕ (Int32 × Int32)} (hf : b165_241 I J s = some o) (hk : Sum.elim (fun s : Int32 × Int32 => ∀ (z1 : Option mx_V), mx_WP (d + 4) 165 241 [some (mx_r (some (1, 11, 0))), z1, some (mx_i s.1), some (mx_i s.2)] [] (γ, hM I J, κ) Q) (fun x : Int32 × Int32 => ∀ (z1 : Option mx_V), mx_WP (d + 4) 165 267 [some (mx_r (some (1, 11, 0))), z1, some (mx_i x.1), some (mx_i x.2)] [] (γ, hM I J, κ) Q) o) : ∀ (z1 : Option mx_V), mx_WP (d + 4) 165 241 [some (mx_r (some (1, 11, 0))), z1, some (mx_i s.1), some (mx_i s.2)] [] (γ, hM I J, κ) Q := by
  intro z1
  unfold b165_241 at hf
  refine mx_WP.go 3 (pc' := 246) (L' := [some (mx_r (some (1, 11, 0))), z1, some (mx_i s.1), some (mx_i s.2)]) (st' := [mx_i (I 11 0 39), mx_i s.2]) (σ' := (γ, hM I J, κ)) rfl ?_
  by_cases c643 : (I 11 0 39) ≤ s.2
  · rw [if_pos c643] at hf
    refine mx_WP.bge (x := s.2) (y := (I 11 0 39)) (q := 267) (p3 := 249) rfl (fun _ => ?_) (fun hh => absurd c643 hh)
    rw [← Option.some.inj hf] at hk
    exact hk (z1)
  · rw [if_neg c643] at hf
    refine mx_WP.bge (x := s.2) (y := (I 11 0 39)) (q := 267) (p3 := 249) rfl (fun hh => absurd hh c643) (fun _ => ?_)
    refine mx_WP.go 3 (pc' := 254) (L' := [some (mx_r (some (1, 11, 0))), z1, some (mx_i s.1), some (mx_i s.2)]) (st' := [mx_i s.2, mx_r (some (1, 115, 0))]) (σ' := (γ, hM I J, κ)) rfl ?_
    by_cases c644 : s.2 < 0 ∨ 24 ≤ s.2.toNatClampNeg
    · rw [if_pos c644] at hf
      cases hf
    rw [if_neg c644] at hf
    refine mx_WP.baldx c644 ?_
    show mx_WP (d + 4) 165 255 [some (mx_r (some (1, 11, 0))), z1, some (mx_i s.1), some (mx_i s.2)] [mx_i (I 115 0 s.2.toNatClampNeg)] (γ, hM I J, κ) Q
    by_cases c645 : (I 115 0 s.2.toNatClampNeg) = (0 : Int32)
    · rw [if_pos c645] at hf
      refine mx_WP.bne (x := (I 115 0 s.2.toNatClampNeg)) (y := (0 : Int32)) (q := 261) (p3 := 258) rfl (fun hh => absurd c645 hh) (fun _ => ?_)
      refine mx_WP.go 3 (pc' := 241) (L' := [some (mx_r (some (1, 11, 0))), z1, some (mx_i (s.1 + 1)), some (mx_i (s.2 + 1))]) (st' := []) (σ' := (γ, hM I J, κ)) rfl ?_
      rw [← Option.some.inj hf] at hk
      exact hk (z1)
    · rw [if_neg c645] at hf
      refine mx_WP.bne (x := (I 115 0 s.2.toNatClampNeg)) (y := (0 : Int32)) (q := 261) (p3 := 258) rfl (fun _ => ?_) (fun hh => absurd c645 hh)
      refine mx_WP.go 2 (pc' := 241) (L' := [some (mx_r (some (1, 11, 0))), z1, some (mx_i s.1), some (mx_i (s.2 + 1))]) (st' := []) (σ' := (γ, hM I J, κ)) rfl ?_
      rw [← Option.some.inj hf] at hk
      exact hk (z1)
theorem L165_241 {d : Nat}  {γ : mx_Rg} {I : Nat → Nat → Nat → Int32} {J : Nat → Nat → Nat → Int64} {κ : (Nat × (Nat → Int32)) × (Nat × Nat)} {Q : Option mx_V → mx_Hp → Prop} {n : Nat} {s : Int32 × Int32} {o : Int32 × Int32} (hf : mx_lp (b165_241 I J) n s = some o) (hk : (fun x : Int32 × Int32 => ∀ (z1 : Option mx_V), mx_WP (d + 4) 165 267 [some (mx_r (some (1, 11, 0))), z1, some (mx_i x.1), some (mx_i x.2)] [] (γ, hM I J, κ) Q) o) : ∀ (z1 : Option mx_V), mx_WP (d + 4) 165 241 [some (mx_r (some (1, 11, 0))), z1, some (mx_i s.1), some (mx_i s.2)] [] (γ, hM I J, κ) Q := mx_lp_ok (P := fun s : Int32 × Int32 => ∀ (z1 : Option mx_V), mx_WP (d + 4) 165 241 [some (mx_r (some (1, 11, 0))), z1, some (mx_i s.1), some (mx_i s.2)] [] (γ, hM I J, κ) Q) (E := (fun x : Int32 × Int32 => ∀ (z1 : Option mx_V), mx_WP (d + 4) 165 267 [some (mx_r (some (1, 11, 0))), z1, some (mx_i x.1), some (mx_i x.2)] [] (γ, hM I J, κ) Q)) (fun s o hf hk => B165_241 hf hk) n s o hf hk
def f165 (x1 : Int32) (I : Nat → Nat → Nat → Int32) (J : Nat → Nat → Nat → Int64) : Option (Int32) :=
  if x1 = (0 : Int32) then ((mx_lp (b165_58 I J) mx_fu ((0 : Int32), (0 : Int32))).bind fun u105 =>
  some u105.1) else if x1 = (1 : Int32) then ((mx_lp (b165_86 I J) mx_fu ((0 : Int32), (0 : Int32))).bind fun u213 =>
  some u213.1) else if x1 = (2 : Int32) then ((mx_lp (b165_123 I J) mx_fu ((0 : Int32), (0 : Int32))).bind fun u321 =>
  some u321.1) else if x1 = (3 : Int32) then ((mx_lp (b165_160 I J) mx_fu ((0 : Int32), (0 : Int32))).bind fun u427 =>
  some u427.1) else if x1 = (4 : Int32) then ((mx_lp (b165_189 I J) mx_fu ((0 : Int32), (0 : Int32))).bind fun u539 =>
  some u539.1) else if x1 = (5 : Int32) then (some (I 11 0 39)) else if x1 = (6 : Int32) then ((mx_lp (b165_241 I J) mx_fu ((0 : Int32), (0 : Int32))).bind fun u646 =>
  some u646.1) else if x1 = (7 : Int32) then (some (I 11 0 40)) else if x1 = (8 : Int32) then (some (I 11 0 41)) else if x1 = (9 : Int32) then (some (I 11 0 10)) else some (-1 : Int32)
theorem T165 {d : Nat} {x1 : Int32} {γ : mx_Rg} {I : Nat → Nat → Nat → Int32} {J : Nat → Nat → Nat → Int64} {κ : (Nat × (Nat → Int32)) × (Nat × Nat)} {Q : Option mx_V → mx_Hp → Prop} {o : Int32} (hf : f165 x1 I J = some o) (hk : Q (some (mx_i o)) (γ, hM I J, κ)) : mx_WP (d + 4) 165 0 (mx_ent 165 [mx_r (some (1, 11, 0)), mx_i x1]) [] (γ, hM I J, κ) Q := by
  unfold f165 at hf
  refine mx_WP.go 3 (pc' := 3) (L' := [some (mx_r (some (1, 11, 0))), some (mx_i x1), some (mx_i (0 : Int32)), none]) (st' := [mx_i x1]) (σ' := (γ, hM I J, κ)) rfl ?_
  by_cases c1 : x1 = (0 : Int32)
  · rw [if_pos c1] at hf
    refine mx_WP.sw (c := (0 : Int32)) (q := 56) c1 (by rfl) ?_
    refine mx_WP.go 2 (pc' := 58) (L' := [some (mx_r (some (1, 11, 0))), some (mx_i x1), some (mx_i (0 : Int32)), some (mx_i (0 : Int32))]) (st' := []) (σ' := (γ, hM I J, κ)) rfl ?_
    obtain ⟨u105, e106, hf⟩ := Option.bind_eq_some_iff.mp hf
    refine (L165_58 (d := d) e106 ?_) (some (mx_i x1))
    intro z1
    show mx_WP (d + 4) 165 82 [some (mx_r (some (1, 11, 0))), z1, some (mx_i u105.1), some (mx_i u105.2)] [] (γ, hM I J, κ) Q
    refine mx_WP.go 1 (pc' := 83) (L' := [some (mx_r (some (1, 11, 0))), z1, some (mx_i u105.1), some (mx_i u105.2)]) (st' := [mx_i u105.1]) (σ' := (γ, hM I J, κ)) rfl ?_
    rw [← Option.some.inj hf] at hk
    refine mx_WP.ret (v := some (mx_i u105.1)) rfl ?_
    exact hk
  rw [if_neg c1] at hf
  by_cases c107 : x1 = (1 : Int32)
  · rw [if_pos c107] at hf
    refine mx_WP.sw (c := (1 : Int32)) (q := 84) c107 (by rfl) ?_
    refine mx_WP.go 2 (pc' := 86) (L' := [some (mx_r (some (1, 11, 0))), some (mx_i x1), some (mx_i (0 : Int32)), some (mx_i (0 : Int32))]) (st' := []) (σ' := (γ, hM I J, κ)) rfl ?_
    obtain ⟨u213, e214, hf⟩ := Option.bind_eq_some_iff.mp hf
    refine (L165_86 (d := d) e214 ?_) (some (mx_i x1))
    intro z1
    show mx_WP (d + 4) 165 119 [some (mx_r (some (1, 11, 0))), z1, some (mx_i u213.1), some (mx_i u213.2)] [] (γ, hM I J, κ) Q
    refine mx_WP.go 1 (pc' := 120) (L' := [some (mx_r (some (1, 11, 0))), z1, some (mx_i u213.1), some (mx_i u213.2)]) (st' := [mx_i u213.1]) (σ' := (γ, hM I J, κ)) rfl ?_
    rw [← Option.some.inj hf] at hk
    refine mx_WP.ret (v := some (mx_i u213.1)) rfl ?_
    exact hk
  rw [if_neg c107] at hf
  by_cases c215 : x1 = (2 : Int32)
  · rw [if_pos c215] at hf
    refine mx_WP.sw (c := (2 : Int32)) (q := 121) c215 (by rfl) ?_
    refine mx_WP.go 2 (pc' := 123) (L' := [some (mx_r (some (1, 11, 0))), some (mx_i x1), some (mx_i (0 : Int32)), some (mx_i (0 : Int32))]) (st' := []) (σ' := (γ, hM I J, κ)) rfl ?_
    obtain ⟨u321, e322, hf⟩ := Option.bind_eq_some_iff.mp hf
    refine (L165_123 (d := d) e322 ?_) (some (mx_i x1))
    intro z1
    show mx_WP (d + 4) 165 156 [some (mx_r (some (1, 11, 0))), z1, some (mx_i u321.1), some (mx_i u321.2)] [] (γ, hM I J, κ) Q
    refine mx_WP.go 1 (pc' := 157) (L' := [some (mx_r (some (1, 11, 0))), z1, some (mx_i u321.1), some (mx_i u321.2)]) (st' := [mx_i u321.1]) (σ' := (γ, hM I J, κ)) rfl ?_
    rw [← Option.some.inj hf] at hk
    refine mx_WP.ret (v := some (mx_i u321.1)) rfl ?_
    exact hk
  rw [if_neg c215] at hf
  by_cases c323 : x1 = (3 : Int32)
  · rw [if_pos c323] at hf
    refine mx_WP.sw (c := (3 : Int32)) (q := 158) c323 (by rfl) ?_
    refine mx_WP.go 2 (pc' := 160) (L' := [some (mx_r (some (1, 11, 0))), some (mx_i x1), some (mx_i (0 : Int32)), some (mx_i (0 : Int32))]) (st' := []) (σ' := (γ, hM I J, κ)) rfl ?_
    obtain ⟨u427, e428, hf⟩ := Option.bind_eq_some_iff.mp hf
    refine (L165_160 (d := d) e428 ?_) (some (mx_i x1))
    intro z1
    show mx_WP (d + 4) 165 185 [some (mx_r (some (1, 11, 0))), z1, some (mx_i u427.1), some (mx_i u427.2)] [] (γ, hM I J, κ) Q
    refine mx_WP.go 1 (pc' := 186) (L' := [some (mx_r (some (1, 11, 0))), z1, some (mx_i u427.1), some (mx_i u427.2)]) (st' := [mx_i u427.1]) (σ' := (γ, hM I J, κ)) rfl ?_
    rw [← Option.some.inj hf] at hk
    refine mx_WP.ret (v := some (mx_i u427.1)) rfl ?_
    exact hk
  rw [if_neg c323] at hf
  by_cases c429 : x1 = (4 : Int32)
  · rw [if_pos c429] at hf
    refine mx_WP.sw (c := (4 : Int32)) (q := 187) c429 (by rfl) ?_
    refine mx_WP.go 2 (pc' := 189) (L' := [some (mx_r (some (1, 11, 0))), some (mx_i x1), some (mx_i (0 : Int32)), some (mx_i (0 : Int32))]) (st' := []) (σ' := (γ, hM I J, κ)) rfl ?_
    obtain ⟨u539, e540, hf⟩ := Option.bind_eq_some_iff.mp hf
    refine (L165_189 (d := d) e540 ?_) (some (mx_i x1))
    intro z1
    show mx_WP (d + 4) 165 232 [some (mx_r (some (1, 11, 0))), z1, some (mx_i u539.1), some (mx_i u539.2)] [] (γ, hM I J, κ) Q
    refine mx_WP.go 1 (pc' := 233) (L' := [some (mx_r (some (1, 11, 0))), z1, some (mx_i u539.1), some (mx_i u539.2)]) (st' := [mx_i u539.1]) (σ' := (γ, hM I J, κ)) rfl ?_
    rw [← Option.some.inj hf] at hk
    refine mx_WP.ret (v := some (mx_i u539.1)) rfl ?_
    exact hk
  rw [if_neg c429] at hf
  by_cases c541 : x1 = (5 : Int32)
  · rw [if_pos c541] at hf
    refine mx_WP.sw (c := (5 : Int32)) (q := 234) c541 (by rfl) ?_
    refine mx_WP.go 2 (pc' := 238) (L' := [some (mx_r (some (1, 11, 0))), some (mx_i x1), some (mx_i (0 : Int32)), none]) (st' := [mx_i (I 11 0 39)]) (σ' := (γ, hM I J, κ)) rfl ?_
    rw [← Option.some.inj hf] at hk
    refine mx_WP.ret (v := some (mx_i (I 11 0 39))) rfl ?_
    exact hk
  rw [if_neg c541] at hf
  by_cases c542 : x1 = (6 : Int32)
  · rw [if_pos c542] at hf
    refine mx_WP.sw (c := (6 : Int32)) (q := 239) c542 (by rfl) ?_
    refine mx_WP.go 2 (pc' := 241) (L' := [some (mx_r (some (1, 11, 0))), some (mx_i x1), some (mx_i (0 : Int32)), some (mx_i (0 : Int32))]) (st' := []) (σ' := (γ, hM I J, κ)) rfl ?_
    obtain ⟨u646, e647, hf⟩ := Option.bind_eq_some_iff.mp hf
    refine (L165_241 (d := d) e647 ?_) (some (mx_i x1))
    intro z1
    show mx_WP (d + 4) 165 267 [some (mx_r (some (1, 11, 0))), z1, some (mx_i u646.1), some (mx_i u646.2)] [] (γ, hM I J, κ) Q
    refine mx_WP.go 1 (pc' := 268) (L' := [some (mx_r (some (1, 11, 0))), z1, some (mx_i u646.1), some (mx_i u646.2)]) (st' := [mx_i u646.1]) (σ' := (γ, hM I J, κ)) rfl ?_
    rw [← Option.some.inj hf] at hk
    refine mx_WP.ret (v := some (mx_i u646.1)) rfl ?_
    exact hk
  rw [if_neg c542] at hf
  by_cases c648 : x1 = (7 : Int32)
  · rw [if_pos c648] at hf
    refine mx_WP.sw (c := (7 : Int32)) (q := 269) c648 (by rfl) ?_
    refine mx_WP.go 2 (pc' := 273) (L' := [some (mx_r (some (1, 11, 0))), some (mx_i x1), some (mx_i (0 : Int32)), none]) (st' := [mx_i (I 11 0 40)]) (σ' := (γ, hM I J, κ)) rfl ?_
    rw [← Option.some.inj hf] at hk
    refine mx_WP.ret (v := some (mx_i (I 11 0 40))) rfl ?_
    exact hk
  rw [if_neg c648] at hf
  by_cases c649 : x1 = (8 : Int32)
  · rw [if_pos c649] at hf
    refine mx_WP.sw (c := (8 : Int32)) (q := 274) c649 (by rfl) ?_
    refine mx_WP.go 2 (pc' := 278) (L' := [some (mx_r (some (1, 11, 0))), some (mx_i x1), some (mx_i (0 : Int32)), none]) (st' := [mx_i (I 11 0 41)]) (σ' := (γ, hM I J, κ)) rfl ?_
    rw [← Option.some.inj hf] at hk
    refine mx_WP.ret (v := some (mx_i (I 11 0 41))) rfl ?_
    exact hk
  rw [if_neg c649] at hf
  by_cases c650 : x1 = (9 : Int32)
  · rw [if_pos c650] at hf
    refine mx_WP.sw (c := (9 : Int32)) (q := 279) c650 (by rfl) ?_
    refine mx_WP.go 2 (pc' := 283) (L' := [some (mx_r (some (1, 11, 0))), some (mx_i x1), some (mx_i (0 : Int32)), none]) (st' := [mx_i (I 11 0 10)]) (σ' := (γ, hM I J, κ)) rfl ?_
    rw [← Option.some.inj hf] at hk
    refine mx_WP.ret (v := some (mx_i (I 11 0 10))) rfl ?_
    exact hk
  rw [if_neg c650] at hf
  refine mx_WP.swt (q := 284) (mx_tso10 c1 c107 c215 c323 c429 c541 c542 c648 c649 c650) (by rfl) (by rfl) ?_
  refine mx_WP.go 1 (pc' := 285) (L' := [some (mx_r (some (1, 11, 0))), some (mx_i x1), some (mx_i (0 : Int32)), none]) (st' := [mx_i (-1 : Int32)]) (σ' := (γ, hM I J, κ)) rfl ?_
  rw [← Option.some.inj hf] at hk
  refine mx_WP.ret (v := some (mx_i (-1 : Int32))) rfl ?_
  exact hk
def b126_117 (x1 : Int32) (I : Nat → Nat → Nat → Int32) (J : Nat → Nat → Nat → Int64) (s : Int32 × (Nat → Nat → Nat → Int32)) : Option ((Int32 × (Nat → Nat → Nat → Int32)) ⊕ (Int32 × (Nat → Nat → Nat → Int32))) :=
  if (3 : Int32) ≤ s.1 then (some (Sum.inr (s.1, s.2))) else if ((24 : Int32) + s.1) < 0 ∨ 27 ≤ ((24 : Int32) + s.1).toNatClampNeg then none else if (((3 : Int32) * x1) + s.1) < 0 ∨ 27 ≤ (((3 : Int32) * x1) + s.1).toNatClampNeg then none else if ((24 : Int32) + s.1) < 0 ∨ 27 ≤ ((24 : Int32) + s.1).toNatClampNeg then none else if (((3 : Int32) * x1) + s.1) < 0 ∨ 27 ≤ (((3 : Int32) * x1) + s.1).toNatClampNeg then none else if ((24 : Int32) + s.1) < 0 ∨ 27 ≤ ((24 : Int32) + s.1).toNatClampNeg then none else if (((3 : Int32) * x1) + s.1) < 0 ∨ 27 ≤ (((3 : Int32) * x1) + s.1).toNatClampNeg then none else some (Sum.inl (s.1 + 1, (mx_u3 (mx_u3 (mx_u3 s.2 84 0 ((((3 : Int32) * x1) + s.1).toNatClampNeg) (s.2 84 0 (((24 : Int32) + s.1).toNatClampNeg))) 85 0 ((((3 : Int32) * x1) + s.1).toNatClampNeg) (s.2 85 0 (((24 : Int32) + s.1).toNatClampNeg))) 86 0 ((((3 : Int32) * x1) + s.1).toNatClampNeg) (s.2 86 0 (((24 : Int32) + s.1).toNatClampNeg)))))
theorem B126_117 {d : Nat} {x1 : Int32} {γ : mx_Rg} {I : Nat → Nat → Nat → Int32} {J : Nat → Nat → Nat → Int64} {κ : (Nat × (Nat → Int32)) × (Nat × Nat)} {Q : Option mx_V → mx_Hp → Prop} {s : Int32 × (Nat → Nat → Nat → Int32)} {o : (Int32 × (Nat → Nat → Nat → Int32)) ⊕ (Int32 × (Nat → Nat → Nat → Int32))} (hf : b126_117 x1 I J s = some o) (hk : Sum.elim (fun s : Int32 × (Nat → Nat → Nat → Int32) => ∀ (z2 : Option mx_V), mx_WP (d + 6) 126 117 [some (mx_r (some (1, 11, 0))), some (mx_i x1), z2, some (mx_i s.1)] [] (γ, hM s.2 J, κ) Q) (fun x : Int32 × (Nat → Nat → Nat → Int32) => ∀ (z2 : Option mx_V), mx_WP (d + 6) 126 185 [some (mx_r (some (1, 11, 0))), some (mx_i x1), z2, some (mx_i x.1)] [] (γ, hM x.2 J, κ) Q) o) : ∀ (z2 : Option mx_V), mx_WP (d + 6) 126 117 [some (mx_r (some (1, 11, 0))), some (mx_i x1), z2, some (mx_i s.1)] [] (γ, hM s.2 J, κ) Q := by
  intro z2
  unfold b126_117 at hf
  refine mx_WP.go 2 (pc' := 119) (L' := [some (mx_r (some (1, 11, 0))), some (mx_i x1), z2, some (mx_i s.1)]) (st' := [mx_i (3 : Int32), mx_i s.1]) (σ' := (γ, hM s.2 J, κ)) rfl ?_
  by_cases c119 : (3 : Int32) ≤ s.1
  · rw [if_pos c119] at hf
    refine mx_WP.bge (x := s.1) (y := (3 : Int32)) (q := 185) (p3 := 122) rfl (fun _ => ?_) (fun hh => absurd c119 hh)
    rw [← Option.some.inj hf] at hk
    exact hk (z2)
  · rw [if_neg c119] at hf
    refine mx_WP.bge (x := s.1) (y := (3 : Int32)) (q := 185) (p3 := 122) rfl (fun hh => absurd hh c119) (fun _ => ?_)
    refine mx_WP.go 12 (pc' := 139) (L' := [some (mx_r (some (1, 11, 0))), some (mx_i x1), z2, some (mx_i s.1)]) (st' := [mx_i ((24 : Int32) + s.1), mx_r (some (1, 84, 0)), mx_i (((3 : Int32) * x1) + s.1), mx_r (some (1, 84, 0))]) (σ' := (γ, hM s.2 J, κ)) rfl ?_
    by_cases c120 : ((24 : Int32) + s.1) < 0 ∨ 27 ≤ ((24 : Int32) + s.1).toNatClampNeg
    · rw [if_pos c120] at hf
      cases hf
    rw [if_neg c120] at hf
    refine mx_WP.ialdx c120 ?_
    show mx_WP (d + 6) 126 140 [some (mx_r (some (1, 11, 0))), some (mx_i x1), z2, some (mx_i s.1)] [mx_i (s.2 84 0 (((24 : Int32) + s.1).toNatClampNeg)), mx_i (((3 : Int32) * x1) + s.1), mx_r (some (1, 84, 0))] (γ, hM s.2 J, κ) Q
    by_cases c121 : (((3 : Int32) * x1) + s.1) < 0 ∨ 27 ≤ (((3 : Int32) * x1) + s.1).toNatClampNeg
    · rw [if_pos c121] at hf
      cases hf
    rw [if_neg c121] at hf
    refine mx_WP.iastx c121 ?_
    show mx_WP (d + 6) 126 141 [some (mx_r (some (1, 11, 0))), some (mx_i x1), z2, some (mx_i s.1)] [] (γ, hM (mx_u3 s.2 84 0 ((((3 : Int32) * x1) + s.1).toNatClampNeg) (s.2 84 0 (((24 : Int32) + s.1).toNatClampNeg))) J, κ) Q
    refine mx_WP.go 12 (pc' := 158) (L' := [some (mx_r (some (1, 11, 0))), some (mx_i x1), z2, some (mx_i s.1)]) (st' := [mx_i ((24 : Int32) + s.1), mx_r (some (1, 85, 0)), mx_i (((3 : Int32) * x1) + s.1), mx_r (some (1, 85, 0))]) (σ' := (γ, hM (mx_u3 s.2 84 0 ((((3 : Int32) * x1) + s.1).toNatClampNeg) (s.2 84 0 (((24 : Int32) + s.1).toNatClampNeg))) J, κ)) rfl ?_
    by_cases c122 : ((24 : Int32) + s.1) < 0 ∨ 27 ≤ ((24 : Int32) + s.1).toNatClampNeg
    · rw [if_pos c122] at hf
      cases hf
    rw [if_neg c122] at hf
    refine mx_WP.ialdx c122 ?_
    show mx_WP (d + 6) 126 159 [some (mx_r (some (1, 11, 0))), some (mx_i x1), z2, some (mx_i s.1)] [mx_i (s.2 85 0 (((24 : Int32) + s.1).toNatClampNeg)), mx_i (((3 : Int32) * x1) + s.1), mx_r (some (1, 85, 0))] (γ, hM (mx_u3 s.2 84 0 ((((3 : Int32) * x1) + s.1).toNatClampNeg) (s.2 84 0 (((24 : Int32) + s.1).toNatClampNeg))) J, κ) Q
    by_cases c123 : (((3 : Int32) * x1) + s.1) < 0 ∨ 27 ≤ (((3 : Int32) * x1) + s.1).toNatClampNeg
    · rw [if_pos c123] at hf
      cases hf
    rw [if_neg c123] at hf
    refine mx_WP.iastx c123 ?_
    show mx_WP (d + 6) 126 160 [some (mx_r (some (1, 11, 0))), some (mx_i x1), z2, some (mx_i s.1)] [] (γ, hM (mx_u3 (mx_u3 s.2 84 0 ((((3 : Int32) * x1) + s.1).toNatClampNeg) (s.2 84 0 (((24 : Int32) + s.1).toNatClampNeg))) 85 0 ((((3 : Int32) * x1) + s.1).toNatClampNeg) (s.2 85 0 (((24 : Int32) + s.1).toNatClampNeg))) J, κ) Q
    refine mx_WP.go 12 (pc' := 177) (L' := [some (mx_r (some (1, 11, 0))), some (mx_i x1), z2, some (mx_i s.1)]) (st' := [mx_i ((24 : Int32) + s.1), mx_r (some (1, 86, 0)), mx_i (((3 : Int32) * x1) + s.1), mx_r (some (1, 86, 0))]) (σ' := (γ, hM (mx_u3 (mx_u3 s.2 84 0 ((((3 : Int32) * x1) + s.1).toNatClampNeg) (s.2 84 0 (((24 : Int32) + s.1).toNatClampNeg))) 85 0 ((((3 : Int32) * x1) + s.1).toNatClampNeg) (s.2 85 0 (((24 : Int32) + s.1).toNatClampNeg))) J, κ)) rfl ?_
    by_cases c124 : ((24 : Int32) + s.1) < 0 ∨ 27 ≤ ((24 : Int32) + s.1).toNatClampNeg
    · rw [if_pos c124] at hf
      cases hf
    rw [if_neg c124] at hf
    refine mx_WP.ialdx c124 ?_
    show mx_WP (d + 6) 126 178 [some (mx_r (some (1, 11, 0))), some (mx_i x1), z2, some (mx_i s.1)] [mx_i (s.2 86 0 (((24 : Int32) + s.1).toNatClampNeg)), mx_i (((3 : Int32) * x1) + s.1), mx_r (some (1, 86, 0))] (γ, hM (mx_u3 (mx_u3 s.2 84 0 ((((3 : Int32) * x1) + s.1).toNatClampNeg) (s.2 84 0 (((24 : Int32) + s.1).toNatClampNeg))) 85 0 ((((3 : Int32) * x1) + s.1).toNatClampNeg) (s.2 85 0 (((24 : Int32) + s.1).toNatClampNeg))) J, κ) Q
    by_cases c125 : (((3 : Int32) * x1) + s.1) < 0 ∨ 27 ≤ (((3 : Int32) * x1) + s.1).toNatClampNeg
    · rw [if_pos c125] at hf
      cases hf
    rw [if_neg c125] at hf
    refine mx_WP.iastx c125 ?_
    show mx_WP (d + 6) 126 179 [some (mx_r (some (1, 11, 0))), some (mx_i x1), z2, some (mx_i s.1)] [] (γ, hM (mx_u3 (mx_u3 (mx_u3 s.2 84 0 ((((3 : Int32) * x1) + s.1).toNatClampNeg) (s.2 84 0 (((24 : Int32) + s.1).toNatClampNeg))) 85 0 ((((3 : Int32) * x1) + s.1).toNatClampNeg) (s.2 85 0 (((24 : Int32) + s.1).toNatClampNeg))) 86 0 ((((3 : Int32) * x1) + s.1).toNatClampNeg) (s.2 86 0 (((24 : Int32) + s.1).toNatClampNeg))) J, κ) Q
    refine mx_WP.go 2 (pc' := 117) (L' := [some (mx_r (some (1, 11, 0))), some (mx_i x1), z2, some (mx_i (s.1 + 1))]) (st' := []) (σ' := (γ, hM (mx_u3 (mx_u3 (mx_u3 s.2 84 0 ((((3 : Int32) * x1) + s.1).toNatClampNeg) (s.2 84 0 (((24 : Int32) + s.1).toNatClampNeg))) 85 0 ((((3 : Int32) * x1) + s.1).toNatClampNeg) (s.2 85 0 (((24 : Int32) + s.1).toNatClampNeg))) 86 0 ((((3 : Int32) * x1) + s.1).toNatClampNeg) (s.2 86 0 (((24 : Int32) + s.1).toNatClampNeg))) J, κ)) rfl ?_
    rw [← Option.some.inj hf] at hk
    exact hk (z2)
theorem L126_117 {d : Nat} {x1 : Int32} {γ : mx_Rg} {I : Nat → Nat → Nat → Int32} {J : Nat → Nat → Nat → Int64} {κ : (Nat × (Nat → Int32)) × (Nat × Nat)} {Q : Option mx_V → mx_Hp → Prop} {n : Nat} {s : Int32 × (Nat → Nat → Nat → Int32)} {o : Int32 × (Nat → Nat → Nat → Int32)} (hf : mx_lp (b126_117 x1 I J) n s = some o) (hk : (fun x : Int32 × (Nat → Nat → Nat → Int32) => ∀ (z2 : Option mx_V), mx_WP (d + 6) 126 185 [some (mx_r (some (1, 11, 0))), some (mx_i x1), z2, some (mx_i x.1)] [] (γ, hM x.2 J, κ) Q) o) : ∀ (z2 : Option mx_V), mx_WP (d + 6) 126 117 [some (mx_r (some (1, 11, 0))), some (mx_i x1), z2, some (mx_i s.1)] [] (γ, hM s.2 J, κ) Q := mx_lp_ok (P := fun s : Int32 × (Nat → Nat → Nat → Int32) => ∀ (z2 : Option mx_V), mx_WP (d + 6) 126 117 [some (mx_r (some (1, 11, 0))), some (mx_i x1), z2, some (mx_i s.1)] [] (γ, hM s.2 J, κ) Q) (E := (fun x : Int32 × (Nat → Nat → Nat → Int32) => ∀ (z2 : Option mx_V), mx_WP (d + 6) 126 185 [some (mx_r (some (1, 11, 0))), some (mx_i x1), z2, some (mx_i x.1)] [] (γ, hM x.2 J, κ) Q)) (fun s o hf hk => B126_117 hf hk) n s o hf hk
def b126_187 (x1 : Int32) (I : Nat → Nat → Nat → Int32) (J : Nat → Nat → Nat → Int64) (s : Int32 × (Nat → Nat → Nat → Int32) × (Nat → Nat → Nat → Int64)) : Option ((Int32 × (Nat → Nat → Nat → Int32) × (Nat → Nat → Nat → Int64)) ⊕ (Int32 × (Nat → Nat → Nat → Int32) × (Nat → Nat → Nat → Int64))) :=
  if (4 : Int32) ≤ s.1 then (some (Sum.inr (s.1, s.2.1, s.2.2))) else if ((32 : Int32) + s.1) < 0 ∨ 36 ≤ ((32 : Int32) + s.1).toNatClampNeg then none else if (((4 : Int32) * x1) + s.1) < 0 ∨ 36 ≤ (((4 : Int32) * x1) + s.1).toNatClampNeg then none else if ((32 : Int32) + s.1) < 0 ∨ 36 ≤ ((32 : Int32) + s.1).toNatClampNeg then none else if (((4 : Int32) * x1) + s.1) < 0 ∨ 36 ≤ (((4 : Int32) * x1) + s.1).toNatClampNeg then none else some (Sum.inl (s.1 + 1, (mx_u3 s.2.1 88 0 ((((4 : Int32) * x1) + s.1).toNatClampNeg) (s.2.1 88 0 (((32 : Int32) + s.1).toNatClampNeg))), (mx_u3 s.2.2 90 0 ((((4 : Int32) * x1) + s.1).toNatClampNeg) (s.2.2 90 0 (((32 : Int32) + s.1).toNatClampNeg)))))
theorem B126_187 {d : Nat} {x1 : Int32} {γ : mx_Rg} {I : Nat → Nat → Nat → Int32} {J : Nat → Nat → Nat → Int64} {κ : (Nat × (Nat → Int32)) × (Nat × Nat)} {Q : Option mx_V → mx_Hp → Prop} {s : Int32 × (Nat → Nat → Nat → Int32) × (Nat → Nat → Nat → Int64)} {o : (Int32 × (Nat → Nat → Nat → Int32) × (Nat → Nat → Nat → Int64)) ⊕ (Int32 × (Nat → Nat → Nat → Int32) × (Nat → Nat → Nat → Int64))} (hf : b126_187 x1 I J s = some o) (hk : Sum.elim (fun s : Int32 × (Nat → Nat → Nat → Int32) × (Nat → Nat → Nat → Int64) => ∀ (z2 : Option mx_V), mx_WP (d + 6) 126 187 [some (mx_r (some (1, 11, 0))), some (mx_i x1), z2, some (mx_i s.1)] [] (γ, hM s.2.1 s.2.2, κ) Q) (fun x : Int32 × (Nat → Nat → Nat → Int32) × (Nat → Nat → Nat → Int64) => ∀ (z2 : Option mx_V), mx_WP (d + 6) 126 236 [some (mx_r (some (1, 11, 0))), some (mx_i x1), z2, some (mx_i x.1)] [] (γ, hM x.2.1 x.2.2, κ) Q) o) : ∀ (z2 : Option mx_V), mx_WP (d + 6) 126 187 [some (mx_r (some (1, 11, 0))), some (mx_i x1), z2, some (mx_i s.1)] [] (γ, hM s.2.1 s.2.2, κ) Q := by
  intro z2
  unfold b126_187 at hf
  refine mx_WP.go 2 (pc' := 189) (L' := [some (mx_r (some (1, 11, 0))), some (mx_i x1), z2, some (mx_i s.1)]) (st' := [mx_i (4 : Int32), mx_i s.1]) (σ' := (γ, hM s.2.1 s.2.2, κ)) rfl ?_
  by_cases c228 : (4 : Int32) ≤ s.1
  · rw [if_pos c228] at hf
    refine mx_WP.bge (x := s.1) (y := (4 : Int32)) (q := 236) (p3 := 192) rfl (fun _ => ?_) (fun hh => absurd c228 hh)
    rw [← Option.some.inj hf] at hk
    exact hk (z2)
  · rw [if_neg c228] at hf
    refine mx_WP.bge (x := s.1) (y := (4 : Int32)) (q := 236) (p3 := 192) rfl (fun hh => absurd hh c228) (fun _ => ?_)
    refine mx_WP.go 12 (pc' := 209) (L' := [some (mx_r (some (1, 11, 0))), some (mx_i x1), z2, some (mx_i s.1)]) (st' := [mx_i ((32 : Int32) + s.1), mx_r (some (1, 90, 0)), mx_i (((4 : Int32) * x1) + s.1), mx_r (some (1, 90, 0))]) (σ' := (γ, hM s.2.1 s.2.2, κ)) rfl ?_
    by_cases c229 : ((32 : Int32) + s.1) < 0 ∨ 36 ≤ ((32 : Int32) + s.1).toNatClampNeg
    · rw [if_pos c229] at hf
      cases hf
    rw [if_neg c229] at hf
    refine mx_WP.laldx c229 ?_
    show mx_WP (d + 6) 126 210 [some (mx_r (some (1, 11, 0))), some (mx_i x1), z2, some (mx_i s.1)] [mx_l (s.2.2 90 0 (((32 : Int32) + s.1).toNatClampNeg)), mx_i (((4 : Int32) * x1) + s.1), mx_r (some (1, 90, 0))] (γ, hM s.2.1 s.2.2, κ) Q
    by_cases c230 : (((4 : Int32) * x1) + s.1) < 0 ∨ 36 ≤ (((4 : Int32) * x1) + s.1).toNatClampNeg
    · rw [if_pos c230] at hf
      cases hf
    rw [if_neg c230] at hf
    refine mx_WP.lastx c230 ?_
    show mx_WP (d + 6) 126 211 [some (mx_r (some (1, 11, 0))), some (mx_i x1), z2, some (mx_i s.1)] [] (γ, hM s.2.1 (mx_u3 s.2.2 90 0 ((((4 : Int32) * x1) + s.1).toNatClampNeg) (s.2.2 90 0 (((32 : Int32) + s.1).toNatClampNeg))), κ) Q
    refine mx_WP.go 12 (pc' := 228) (L' := [some (mx_r (some (1, 11, 0))), some (mx_i x1), z2, some (mx_i s.1)]) (st' := [mx_i ((32 : Int32) + s.1), mx_r (some (1, 88, 0)), mx_i (((4 : Int32) * x1) + s.1), mx_r (some (1, 88, 0))]) (σ' := (γ, hM s.2.1 (mx_u3 s.2.2 90 0 ((((4 : Int32) * x1) + s.1).toNatClampNeg) (s.2.2 90 0 (((32 : Int32) + s.1).toNatClampNeg))), κ)) rfl ?_
    by_cases c231 : ((32 : Int32) + s.1) < 0 ∨ 36 ≤ ((32 : Int32) + s.1).toNatClampNeg
    · rw [if_pos c231] at hf
      cases hf
    rw [if_neg c231] at hf
    refine mx_WP.ialdx c231 ?_
    show mx_WP (d + 6) 126 229 [some (mx_r (some (1, 11, 0))), some (mx_i x1), z2, some (mx_i s.1)] [mx_i (s.2.1 88 0 (((32 : Int32) + s.1).toNatClampNeg)), mx_i (((4 : Int32) * x1) + s.1), mx_r (some (1, 88, 0))] (γ, hM s.2.1 (mx_u3 s.2.2 90 0 ((((4 : Int32) * x1) + s.1).toNatClampNeg) (s.2.2 90 0 (((32 : Int32) + s.1).toNatClampNeg))), κ) Q
    by_cases c232 : (((4 : Int32) * x1) + s.1) < 0 ∨ 36 ≤ (((4 : Int32) * x1) + s.1).toNatClampNeg
    · rw [if_pos c232] at hf
      cases hf
    rw [if_neg c232] at hf
    refine mx_WP.iastx c232 ?_
    show mx_WP (d + 6) 126 230 [some (mx_r (some (1, 11, 0))), some (mx_i x1), z2, some (mx_i s.1)] [] (γ, hM (mx_u3 s.2.1 88 0 ((((4 : Int32) * x1) + s.1).toNatClampNeg) (s.2.1 88 0 (((32 : Int32) + s.1).toNatClampNeg))) (mx_u3 s.2.2 90 0 ((((4 : Int32) * x1) + s.1).toNatClampNeg) (s.2.2 90 0 (((32 : Int32) + s.1).toNatClampNeg))), κ) Q
    refine mx_WP.go 2 (pc' := 187) (L' := [some (mx_r (some (1, 11, 0))), some (mx_i x1), z2, some (mx_i (s.1 + 1))]) (st' := []) (σ' := (γ, hM (mx_u3 s.2.1 88 0 ((((4 : Int32) * x1) + s.1).toNatClampNeg) (s.2.1 88 0 (((32 : Int32) + s.1).toNatClampNeg))) (mx_u3 s.2.2 90 0 ((((4 : Int32) * x1) + s.1).toNatClampNeg) (s.2.2 90 0 (((32 : Int32) + s.1).toNatClampNeg))), κ)) rfl ?_
    rw [← Option.some.inj hf] at hk
    exact hk (z2)
theorem L126_187 {d : Nat} {x1 : Int32} {γ : mx_Rg} {I : Nat → Nat → Nat → Int32} {J : Nat → Nat → Nat → Int64} {κ : (Nat × (Nat → Int32)) × (Nat × Nat)} {Q : Option mx_V → mx_Hp → Prop} {n : Nat} {s : Int32 × (Nat → Nat → Nat → Int32) × (Nat → Nat → Nat → Int64)} {o : Int32 × (Nat → Nat → Nat → Int32) × (Nat → Nat → Nat → Int64)} (hf : mx_lp (b126_187 x1 I J) n s = some o) (hk : (fun x : Int32 × (Nat → Nat → Nat → Int32) × (Nat → Nat → Nat → Int64) => ∀ (z2 : Option mx_V), mx_WP (d + 6) 126 236 [some (mx_r (some (1, 11, 0))), some (mx_i x1), z2, some (mx_i x.1)] [] (γ, hM x.2.1 x.2.2, κ) Q) o) : ∀ (z2 : Option mx_V), mx_WP (d + 6) 126 187 [some (mx_r (some (1, 11, 0))), some (mx_i x1), z2, some (mx_i s.1)] [] (γ, hM s.2.1 s.2.2, κ) Q := mx_lp_ok (P := fun s : Int32 × (Nat → Nat → Nat → Int32) × (Nat → Nat → Nat → Int64) => ∀ (z2 : Option mx_V), mx_WP (d + 6) 126 187 [some (mx_r (some (1, 11, 0))), some (mx_i x1), z2, some (mx_i s.1)] [] (γ, hM s.2.1 s.2.2, κ) Q) (E := (fun x : Int32 × (Nat → Nat → Nat → Int32) × (Nat → Nat → Nat → Int64) => ∀ (z2 : Option mx_V), mx_WP (d + 6) 126 236 [some (mx_r (some (1, 11, 0))), some (mx_i x1), z2, some (mx_i x.1)] [] (γ, hM x.2.1 x.2.2, κ) Q)) (fun s o hf hk => B126_187 hf hk) n s o hf hk
def j129_22 (v1 : Int32) (v2 : Int32) (t0 : Int32) (I : Nat → Nat → Nat → Int32) (J : Nat → Nat → Nat → Int64) : Option (Bool × (Nat → Nat → Nat → Int32) × (Nat → Nat → Nat → Int64)) :=
  if v1 < 0 ∨ 8 ≤ v1.toNatClampNeg then none else if (I 100 0 v1.toNatClampNeg) = (16 : Int32) then (some (false, I, J)) else if t0 ≤ (4 : Int32) then (if v1 < 0 ∨ 8 ≤ v1.toNatClampNeg then none else if v1 < 0 ∨ 8 ≤ v1.toNatClampNeg then none else if ((mx_u3 (mx_u3 I 100 0 v1.toNatClampNeg ((I 100 0 v1.toNatClampNeg) + (1 : Int32))) 11 0 13 (((16 : Int32) * v1) + (I 100 0 v1.toNatClampNeg))) 11 0 13) < 0 ∨ 128 ≤ ((mx_u3 (mx_u3 I 100 0 v1.toNatClampNeg ((I 100 0 v1.toNatClampNeg) + (1 : Int32))) 11 0 13 (((16 : Int32) * v1) + (I 100 0 v1.toNatClampNeg))) 11 0 13).toNatClampNeg then none else if ((mx_u3 (mx_u3 I 100 0 v1.toNatClampNeg ((I 100 0 v1.toNatClampNeg) + (1 : Int32))) 11 0 13 (((16 : Int32) * v1) + (I 100 0 v1.toNatClampNeg))) 11 0 13) < 0 ∨ 128 ≤ ((mx_u3 (mx_u3 I 100 0 v1.toNatClampNeg ((I 100 0 v1.toNatClampNeg) + (1 : Int32))) 11 0 13 (((16 : Int32) * v1) + (I 100 0 v1.toNatClampNeg))) 11 0 13).toNatClampNeg then none else if ((mx_u3 (mx_u3 I 100 0 v1.toNatClampNeg ((I 100 0 v1.toNatClampNeg) + (1 : Int32))) 11 0 13 (((16 : Int32) * v1) + (I 100 0 v1.toNatClampNeg))) 11 0 13) < 0 ∨ 128 ≤ ((mx_u3 (mx_u3 I 100 0 v1.toNatClampNeg ((I 100 0 v1.toNatClampNeg) + (1 : Int32))) 11 0 13 (((16 : Int32) * v1) + (I 100 0 v1.toNatClampNeg))) 11 0 13).toNatClampNeg then none else if ((mx_u3 (mx_u3 I 100 0 v1.toNatClampNeg ((I 100 0 v1.toNatClampNeg) + (1 : Int32))) 11 0 13 (((16 : Int32) * v1) + (I 100 0 v1.toNatClampNeg))) 11 0 13) < 0 ∨ 128 ≤ ((mx_u3 (mx_u3 I 100 0 v1.toNatClampNeg ((I 100 0 v1.toNatClampNeg) + (1 : Int32))) 11 0 13 (((16 : Int32) * v1) + (I 100 0 v1.toNatClampNeg))) 11 0 13).toNatClampNeg then none else some (true, (mx_u3 (mx_u3 (mx_u3 (mx_u3 (mx_u3 (mx_u3 (mx_u3 I 100 0 v1.toNatClampNeg ((I 100 0 v1.toNatClampNeg) + (1 : Int32))) 11 0 13 (((16 : Int32) * v1) + (I 100 0 v1.toNatClampNeg))) 105 0 (((mx_u3 (mx_u3 I 100 0 v1.toNatClampNeg ((I 100 0 v1.toNatClampNeg) + (1 : Int32))) 11 0 13 (((16 : Int32) * v1) + (I 100 0 v1.toNatClampNeg))) 11 0 13).toNatClampNeg) ((mx_u3 (mx_u3 I 100 0 v1.toNatClampNeg ((I 100 0 v1.toNatClampNeg) + (1 : Int32))) 11 0 13 (((16 : Int32) * v1) + (I 100 0 v1.toNatClampNeg))) 11 0 12)) 106 0 (((mx_u3 (mx_u3 I 100 0 v1.toNatClampNeg ((I 100 0 v1.toNatClampNeg) + (1 : Int32))) 11 0 13 (((16 : Int32) * v1) + (I 100 0 v1.toNatClampNeg))) 11 0 13).toNatClampNeg) t0) 107 0 (((mx_u3 (mx_u3 I 100 0 v1.toNatClampNeg ((I 100 0 v1.toNatClampNeg) + (1 : Int32))) 11 0 13 (((16 : Int32) * v1) + (I 100 0 v1.toNatClampNeg))) 11 0 13).toNatClampNeg) (0 : Int32)) 11 0 14 (1 : Int32)) 11 0 11 (2 : Int32)), (mx_u3 J 102 0 (((mx_u3 (mx_u3 I 100 0 v1.toNatClampNeg ((I 100 0 v1.toNatClampNeg) + (1 : Int32))) 11 0 13 (((16 : Int32) * v1) + (I 100 0 v1.toNatClampNeg))) 11 0 13).toNatClampNeg) v2.toInt64))) else some (false, I, J)
theorem J129_22 {d : Nat} {v1 : Int32} {v2 : Int32} {t0 : Int32} {z3 : Option mx_V} {γ : mx_Rg} {I : Nat → Nat → Nat → Int32} {J : Nat → Nat → Nat → Int64} {κ : (Nat × (Nat → Int32)) × (Nat × Nat)} {Q : Option mx_V → mx_Hp → Prop} {o : Bool × (Nat → Nat → Nat → Int32) × (Nat → Nat → Nat → Int64)} (hf : j129_22 v1 v2 t0 I J = some o) (hk : Q (some (mx_i (b2i o.1))) (γ, hM o.2.1 o.2.2, κ)) : mx_WP (d + 0) 129 22 [some (mx_r (some (1, 11, 0))), some (mx_i v1), some (mx_i v2), z3] [mx_i t0] (γ, hM I J, κ) Q := by
  unfold j129_22 at hf
  refine mx_WP.go 4 (pc' := 28) (L' := [some (mx_r (some (1, 11, 0))), some (mx_i v1), some (mx_i v2), some (mx_i t0)]) (st' := [mx_i v1, mx_r (some (1, 100, 0))]) (σ' := (γ, hM I J, κ)) rfl ?_
  by_cases c1003 : v1 < 0 ∨ 8 ≤ v1.toNatClampNeg
  · rw [if_pos c1003] at hf
    cases hf
  rw [if_neg c1003] at hf
  refine mx_WP.ialdx c1003 ?_
  show mx_WP (d + 0) 129 29 [some (mx_r (some (1, 11, 0))), some (mx_i v1), some (mx_i v2), some (mx_i t0)] [mx_i (I 100 0 v1.toNatClampNeg)] (γ, hM I J, κ) Q
  refine mx_WP.go 1 (pc' := 31) (L' := [some (mx_r (some (1, 11, 0))), some (mx_i v1), some (mx_i v2), some (mx_i t0)]) (st' := [mx_i (16 : Int32), mx_i (I 100 0 v1.toNatClampNeg)]) (σ' := (γ, hM I J, κ)) rfl ?_
  by_cases c1004 : (I 100 0 v1.toNatClampNeg) = (16 : Int32)
  · rw [if_pos c1004] at hf
    refine mx_WP.beq (x := (I 100 0 v1.toNatClampNeg)) (y := (16 : Int32)) (q := 39) (p3 := 34) rfl (fun _ => ?_) (fun hh => absurd c1004 hh)
    refine mx_WP.go 1 (pc' := 40) (L' := [some (mx_r (some (1, 11, 0))), some (mx_i v1), some (mx_i v2), some (mx_i t0)]) (st' := [mx_i (0 : Int32)]) (σ' := (γ, hM I J, κ)) rfl ?_
    rw [← Option.some.inj hf] at hk
    refine mx_WP.ret (v := some (mx_i (0 : Int32))) rfl ?_
    exact hk
  · rw [if_neg c1004] at hf
    refine mx_WP.beq (x := (I 100 0 v1.toNatClampNeg)) (y := (16 : Int32)) (q := 39) (p3 := 34) rfl (fun hh => absurd hh c1004) (fun _ => ?_)
    refine mx_WP.go 2 (pc' := 36) (L' := [some (mx_r (some (1, 11, 0))), some (mx_i v1), some (mx_i v2), some (mx_i t0)]) (st' := [mx_i (4 : Int32), mx_i t0]) (σ' := (γ, hM I J, κ)) rfl ?_
    by_cases c1005 : t0 ≤ (4 : Int32)
    · rw [if_pos c1005] at hf
      refine mx_WP.ble (x := t0) (y := (4 : Int32)) (q := 41) (p3 := 39) rfl (fun _ => ?_) (fun hh => absurd c1005 hh)
      refine mx_WP.go 8 (pc' := 52) (L' := [some (mx_r (some (1, 11, 0))), some (mx_i v1), some (mx_i v2), some (mx_i t0)]) (st' := [mx_i v1, mx_r (some (1, 100, 0)), mx_i v1, mx_r (some (1, 100, 0)), mx_i ((16 : Int32) * v1), mx_r (some (1, 11, 0))]) (σ' := (γ, hM I J, κ)) rfl ?_
      by_cases c1006 : v1 < 0 ∨ 8 ≤ v1.toNatClampNeg
      · rw [if_pos c1006] at hf
        cases hf
      rw [if_neg c1006] at hf
      refine mx_WP.ialdx c1006 ?_
      show mx_WP (d + 0) 129 53 [some (mx_r (some (1, 11, 0))), some (mx_i v1), some (mx_i v2), some (mx_i t0)] [mx_i (I 100 0 v1.toNatClampNeg), mx_i v1, mx_r (some (1, 100, 0)), mx_i ((16 : Int32) * v1), mx_r (some (1, 11, 0))] (γ, hM I J, κ) Q
      refine mx_WP.go 3 (pc' := 56) (L' := [some (mx_r (some (1, 11, 0))), some (mx_i v1), some (mx_i v2), some (mx_i t0)]) (st' := [mx_i ((I 100 0 v1.toNatClampNeg) + (1 : Int32)), mx_i v1, mx_r (some (1, 100, 0)), mx_i (I 100 0 v1.toNatClampNeg), mx_i ((16 : Int32) * v1), mx_r (some (1, 11, 0))]) (σ' := (γ, hM I J, κ)) rfl ?_
      by_cases c1007 : v1 < 0 ∨ 8 ≤ v1.toNatClampNeg
      · rw [if_pos c1007] at hf
        cases hf
      rw [if_neg c1007] at hf
      refine mx_WP.iastx c1007 ?_
      show mx_WP (d + 0) 129 57 [some (mx_r (some (1, 11, 0))), some (mx_i v1), some (mx_i v2), some (mx_i t0)] [mx_i (I 100 0 v1.toNatClampNeg), mx_i ((16 : Int32) * v1), mx_r (some (1, 11, 0))] (γ, hM (mx_u3 I 100 0 v1.toNatClampNeg ((I 100 0 v1.toNatClampNeg) + (1 : Int32))) J, κ) Q
      refine mx_WP.go 8 (pc' := 71) (L' := [some (mx_r (some (1, 11, 0))), some (mx_i v1), some (mx_i v2), some (mx_i t0)]) (st' := [mx_l v2.toInt64, mx_i ((mx_u3 (mx_u3 I 100 0 v1.toNatClampNeg ((I 100 0 v1.toNatClampNeg) + (1 : Int32))) 11 0 13 (((16 : Int32) * v1) + (I 100 0 v1.toNatClampNeg))) 11 0 13), mx_r (some (1, 102, 0))]) (σ' := (γ, hM (mx_u3 (mx_u3 I 100 0 v1.toNatClampNeg ((I 100 0 v1.toNatClampNeg) + (1 : Int32))) 11 0 13 (((16 : Int32) * v1) + (I 100 0 v1.toNatClampNeg))) J, κ)) rfl ?_
      by_cases c1008 : ((mx_u3 (mx_u3 I 100 0 v1.toNatClampNeg ((I 100 0 v1.toNatClampNeg) + (1 : Int32))) 11 0 13 (((16 : Int32) * v1) + (I 100 0 v1.toNatClampNeg))) 11 0 13) < 0 ∨ 128 ≤ ((mx_u3 (mx_u3 I 100 0 v1.toNatClampNeg ((I 100 0 v1.toNatClampNeg) + (1 : Int32))) 11 0 13 (((16 : Int32) * v1) + (I 100 0 v1.toNatClampNeg))) 11 0 13).toNatClampNeg
      · rw [if_pos c1008] at hf
        cases hf
      rw [if_neg c1008] at hf
      refine mx_WP.lastx c1008 ?_
      show mx_WP (d + 0) 129 72 [some (mx_r (some (1, 11, 0))), some (mx_i v1), some (mx_i v2), some (mx_i t0)] [] (γ, hM (mx_u3 (mx_u3 I 100 0 v1.toNatClampNeg ((I 100 0 v1.toNatClampNeg) + (1 : Int32))) 11 0 13 (((16 : Int32) * v1) + (I 100 0 v1.toNatClampNeg))) (mx_u3 J 102 0 (((mx_u3 (mx_u3 I 100 0 v1.toNatClampNeg ((I 100 0 v1.toNatClampNeg) + (1 : Int32))) 11 0 13 (((16 : Int32) * v1) + (I 100 0 v1.toNatClampNeg))) 11 0 13).toNatClampNeg) v2.toInt64), κ) Q
      refine mx_WP.go 6 (pc' := 84) (L' := [some (mx_r (some (1, 11, 0))), some (mx_i v1), some (mx_i v2), some (mx_i t0)]) (st' := [mx_i ((mx_u3 (mx_u3 I 100 0 v1.toNatClampNeg ((I 100 0 v1.toNatClampNeg) + (1 : Int32))) 11 0 13 (((16 : Int32) * v1) + (I 100 0 v1.toNatClampNeg))) 11 0 12), mx_i ((mx_u3 (mx_u3 I 100 0 v1.toNatClampNeg ((I 100 0 v1.toNatClampNeg) + (1 : Int32))) 11 0 13 (((16 : Int32) * v1) + (I 100 0 v1.toNatClampNeg))) 11 0 13), mx_r (some (1, 105, 0))]) (σ' := (γ, hM (mx_u3 (mx_u3 I 100 0 v1.toNatClampNeg ((I 100 0 v1.toNatClampNeg) + (1 : Int32))) 11 0 13 (((16 : Int32) * v1) + (I 100 0 v1.toNatClampNeg))) (mx_u3 J 102 0 (((mx_u3 (mx_u3 I 100 0 v1.toNatClampNeg ((I 100 0 v1.toNatClampNeg) + (1 : Int32))) 11 0 13 (((16 : Int32) * v1) + (I 100 0 v1.toNatClampNeg))) 11 0 13).toNatClampNeg) v2.toInt64), κ)) rfl ?_
      by_cases c1009 : ((mx_u3 (mx_u3 I 100 0 v1.toNatClampNeg ((I 100 0 v1.toNatClampNeg) + (1 : Int32))) 11 0 13 (((16 : Int32) * v1) + (I 100 0 v1.toNatClampNeg))) 11 0 13) < 0 ∨ 128 ≤ ((mx_u3 (mx_u3 I 100 0 v1.toNatClampNeg ((I 100 0 v1.toNatClampNeg) + (1 : Int32))) 11 0 13 (((16 : Int32) * v1) + (I 100 0 v1.toNatClampNeg))) 11 0 13).toNatClampNeg
      · rw [if_pos c1009] at hf
        cases hf
      rw [if_neg c1009] at hf
      refine mx_WP.iastx c1009 ?_
      show mx_WP (d + 0) 129 85 [some (mx_r (some (1, 11, 0))), some (mx_i v1), some (mx_i v2), some (mx_i t0)] [] (γ, hM (mx_u3 (mx_u3 (mx_u3 I 100 0 v1.toNatClampNeg ((I 100 0 v1.toNatClampNeg) + (1 : Int32))) 11 0 13 (((16 : Int32) * v1) + (I 100 0 v1.toNatClampNeg))) 105 0 (((mx_u3 (mx_u3 I 100 0 v1.toNatClampNeg ((I 100 0 v1.toNatClampNeg) + (1 : Int32))) 11 0 13 (((16 : Int32) * v1) + (I 100 0 v1.toNatClampNeg))) 11 0 13).toNatClampNeg) ((mx_u3 (mx_u3 I 100 0 v1.toNatClampNeg ((I 100 0 v1.toNatClampNeg) + (1 : Int32))) 11 0 13 (((16 : Int32) * v1) + (I 100 0 v1.toNatClampNeg))) 11 0 12)) (mx_u3 J 102 0 (((mx_u3 (mx_u3 I 100 0 v1.toNatClampNeg ((I 100 0 v1.toNatClampNeg) + (1 : Int32))) 11 0 13 (((16 : Int32) * v1) + (I 100 0 v1.toNatClampNeg))) 11 0 13).toNatClampNeg) v2.toInt64), κ) Q
      refine mx_WP.go 5 (pc' := 94) (L' := [some (mx_r (some (1, 11, 0))), some (mx_i v1), some (mx_i v2), some (mx_i t0)]) (st' := [mx_i t0, mx_i ((mx_u3 (mx_u3 I 100 0 v1.toNatClampNeg ((I 100 0 v1.toNatClampNeg) + (1 : Int32))) 11 0 13 (((16 : Int32) * v1) + (I 100 0 v1.toNatClampNeg))) 11 0 13), mx_r (some (1, 106, 0))]) (σ' := (γ, hM (mx_u3 (mx_u3 (mx_u3 I 100 0 v1.toNatClampNeg ((I 100 0 v1.toNatClampNeg) + (1 : Int32))) 11 0 13 (((16 : Int32) * v1) + (I 100 0 v1.toNatClampNeg))) 105 0 (((mx_u3 (mx_u3 I 100 0 v1.toNatClampNeg ((I 100 0 v1.toNatClampNeg) + (1 : Int32))) 11 0 13 (((16 : Int32) * v1) + (I 100 0 v1.toNatClampNeg))) 11 0 13).toNatClampNeg) ((mx_u3 (mx_u3 I 100 0 v1.toNatClampNeg ((I 100 0 v1.toNatClampNeg) + (1 : Int32))) 11 0 13 (((16 : Int32) * v1) + (I 100 0 v1.toNatClampNeg))) 11 0 12)) (mx_u3 J 102 0 (((mx_u3 (mx_u3 I 100 0 v1.toNatClampNeg ((I 100 0 v1.toNatClampNeg) + (1 : Int32))) 11 0 13 (((16 : Int32) * v1) + (I 100 0 v1.toNatClampNeg))) 11 0 13).toNatClampNeg) v2.toInt64), κ)) rfl ?_
      by_cases c1010 : ((mx_u3 (mx_u3 I 100 0 v1.toNatClampNeg ((I 100 0 v1.toNatClampNeg) + (1 : Int32))) 11 0 13 (((16 : Int32) * v1) + (I 100 0 v1.toNatClampNeg))) 11 0 13) < 0 ∨ 128 ≤ ((mx_u3 (mx_u3 I 100 0 v1.toNatClampNeg ((I 100 0 v1.toNatClampNeg) + (1 : Int32))) 11 0 13 (((16 : Int32) * v1) + (I 100 0 v1.toNatClampNeg))) 11 0 13).toNatClampNeg
      · rw [if_pos c1010] at hf
        cases hf
      rw [if_neg c1010] at hf
      refine mx_WP.iastx c1010 ?_
      show mx_WP (d + 0) 129 95 [some (mx_r (some (1, 11, 0))), some (mx_i v1), some (mx_i v2), some (mx_i t0)] [] (γ, hM (mx_u3 (mx_u3 (mx_u3 (mx_u3 I 100 0 v1.toNatClampNeg ((I 100 0 v1.toNatClampNeg) + (1 : Int32))) 11 0 13 (((16 : Int32) * v1) + (I 100 0 v1.toNatClampNeg))) 105 0 (((mx_u3 (mx_u3 I 100 0 v1.toNatClampNeg ((I 100 0 v1.toNatClampNeg) + (1 : Int32))) 11 0 13 (((16 : Int32) * v1) + (I 100 0 v1.toNatClampNeg))) 11 0 13).toNatClampNeg) ((mx_u3 (mx_u3 I 100 0 v1.toNatClampNeg ((I 100 0 v1.toNatClampNeg) + (1 : Int32))) 11 0 13 (((16 : Int32) * v1) + (I 100 0 v1.toNatClampNeg))) 11 0 12)) 106 0 (((mx_u3 (mx_u3 I 100 0 v1.toNatClampNeg ((I 100 0 v1.toNatClampNeg) + (1 : Int32))) 11 0 13 (((16 : Int32) * v1) + (I 100 0 v1.toNatClampNeg))) 11 0 13).toNatClampNeg) t0) (mx_u3 J 102 0 (((mx_u3 (mx_u3 I 100 0 v1.toNatClampNeg ((I 100 0 v1.toNatClampNeg) + (1 : Int32))) 11 0 13 (((16 : Int32) * v1) + (I 100 0 v1.toNatClampNeg))) 11 0 13).toNatClampNeg) v2.toInt64), κ) Q
      refine mx_WP.go 5 (pc' := 104) (L' := [some (mx_r (some (1, 11, 0))), some (mx_i v1), some (mx_i v2), some (mx_i t0)]) (st' := [mx_i (0 : Int32), mx_i ((mx_u3 (mx_u3 I 100 0 v1.toNatClampNeg ((I 100 0 v1.toNatClampNeg) + (1 : Int32))) 11 0 13 (((16 : Int32) * v1) + (I 100 0 v1.toNatClampNeg))) 11 0 13), mx_r (some (1, 107, 0))]) (σ' := (γ, hM (mx_u3 (mx_u3 (mx_u3 (mx_u3 I 100 0 v1.toNatClampNeg ((I 100 0 v1.toNatClampNeg) + (1 : Int32))) 11 0 13 (((16 : Int32) * v1) + (I 100 0 v1.toNatClampNeg))) 105 0 (((mx_u3 (mx_u3 I 100 0 v1.toNatClampNeg ((I 100 0 v1.toNatClampNeg) + (1 : Int32))) 11 0 13 (((16 : Int32) * v1) + (I 100 0 v1.toNatClampNeg))) 11 0 13).toNatClampNeg) ((mx_u3 (mx_u3 I 100 0 v1.toNatClampNeg ((I 100 0 v1.toNatClampNeg) + (1 : Int32))) 11 0 13 (((16 : Int32) * v1) + (I 100 0 v1.toNatClampNeg))) 11 0 12)) 106 0 (((mx_u3 (mx_u3 I 100 0 v1.toNatClampNeg ((I 100 0 v1.toNatClampNeg) + (1 : Int32))) 11 0 13 (((16 : Int32) * v1) + (I 100 0 v1.toNatClampNeg))) 11 0 13).toNatClampNeg) t0) (mx_u3 J 102 0 (((mx_u3 (mx_u3 I 100 0 v1.toNatClampNeg ((I 100 0 v1.toNatClampNeg) + (1 : Int32))) 11 0 13 (((16 : Int32) * v1) + (I 100 0 v1.toNatClampNeg))) 11 0 13).toNatClampNeg) v2.toInt64), κ)) rfl ?_
      by_cases c1011 : ((mx_u3 (mx_u3 I 100 0 v1.toNatClampNeg ((I 100 0 v1.toNatClampNeg) + (1 : Int32))) 11 0 13 (((16 : Int32) * v1) + (I 100 0 v1.toNatClampNeg))) 11 0 13) < 0 ∨ 128 ≤ ((mx_u3 (mx_u3 I 100 0 v1.toNatClampNeg ((I 100 0 v1.toNatClampNeg) + (1 : Int32))) 11 0 13 (((16 : Int32) * v1) + (I 100 0 v1.toNatClampNeg))) 11 0 13).toNatClampNeg
      · rw [if_pos c1011] at hf
        cases hf
      rw [if_neg c1011] at hf
      refine mx_WP.iastx c1011 ?_
      show mx_WP (d + 0) 129 105 [some (mx_r (some (1, 11, 0))), some (mx_i v1), some (mx_i v2), some (mx_i t0)] [] (γ, hM (mx_u3 (mx_u3 (mx_u3 (mx_u3 (mx_u3 I 100 0 v1.toNatClampNeg ((I 100 0 v1.toNatClampNeg) + (1 : Int32))) 11 0 13 (((16 : Int32) * v1) + (I 100 0 v1.toNatClampNeg))) 105 0 (((mx_u3 (mx_u3 I 100 0 v1.toNatClampNeg ((I 100 0 v1.toNatClampNeg) + (1 : Int32))) 11 0 13 (((16 : Int32) * v1) + (I 100 0 v1.toNatClampNeg))) 11 0 13).toNatClampNeg) ((mx_u3 (mx_u3 I 100 0 v1.toNatClampNeg ((I 100 0 v1.toNatClampNeg) + (1 : Int32))) 11 0 13 (((16 : Int32) * v1) + (I 100 0 v1.toNatClampNeg))) 11 0 12)) 106 0 (((mx_u3 (mx_u3 I 100 0 v1.toNatClampNeg ((I 100 0 v1.toNatClampNeg) + (1 : Int32))) 11 0 13 (((16 : Int32) * v1) + (I 100 0 v1.toNatClampNeg))) 11 0 13).toNatClampNeg) t0) 107 0 (((mx_u3 (mx_u3 I 100 0 v1.toNatClampNeg ((I 100 0 v1.toNatClampNeg) + (1 : Int32))) 11 0 13 (((16 : Int32) * v1) + (I 100 0 v1.toNatClampNeg))) 11 0 13).toNatClampNeg) (0 : Int32)) (mx_u3 J 102 0 (((mx_u3 (mx_u3 I 100 0 v1.toNatClampNeg ((I 100 0 v1.toNatClampNeg) + (1 : Int32))) 11 0 13 (((16 : Int32) * v1) + (I 100 0 v1.toNatClampNeg))) 11 0 13).toNatClampNeg) v2.toInt64), κ) Q
      refine mx_WP.go 7 (pc' := 116) (L' := [some (mx_r (some (1, 11, 0))), some (mx_i v1), some (mx_i v2), some (mx_i t0)]) (st' := [mx_i (1 : Int32)]) (σ' := (γ, hM (mx_u3 (mx_u3 (mx_u3 (mx_u3 (mx_u3 (mx_u3 (mx_u3 I 100 0 v1.toNatClampNeg ((I 100 0 v1.toNatClampNeg) + (1 : Int32))) 11 0 13 (((16 : Int32) * v1) + (I 100 0 v1.toNatClampNeg))) 105 0 (((mx_u3 (mx_u3 I 100 0 v1.toNatClampNeg ((I 100 0 v1.toNatClampNeg) + (1 : Int32))) 11 0 13 (((16 : Int32) * v1) + (I 100 0 v1.toNatClampNeg))) 11 0 13).toNatClampNeg) ((mx_u3 (mx_u3 I 100 0 v1.toNatClampNeg ((I 100 0 v1.toNatClampNeg) + (1 : Int32))) 11 0 13 (((16 : Int32) * v1) + (I 100 0 v1.toNatClampNeg))) 11 0 12)) 106 0 (((mx_u3 (mx_u3 I 100 0 v1.toNatClampNeg ((I 100 0 v1.toNatClampNeg) + (1 : Int32))) 11 0 13 (((16 : Int32) * v1) + (I 100 0 v1.toNatClampNeg))) 11 0 13).toNatClampNeg) t0) 107 0 (((mx_u3 (mx_u3 I 100 0 v1.toNatClampNeg ((I 100 0 v1.toNatClampNeg) + (1 : Int32))) 11 0 13 (((16 : Int32) * v1) + (I 100 0 v1.toNatClampNeg))) 11 0 13).toNatClampNeg) (0 : Int32)) 11 0 14 (1 : Int32)) 11 0 11 (2 : Int32)) (mx_u3 J 102 0 (((mx_u3 (mx_u3 I 100 0 v1.toNatClampNeg ((I 100 0 v1.toNatClampNeg) + (1 : Int32))) 11 0 13 (((16 : Int32) * v1) + (I 100 0 v1.toNatClampNeg))) 11 0 13).toNatClampNeg) v2.toInt64), κ)) rfl ?_
      rw [← Option.some.inj hf] at hk
      refine mx_WP.ret (v := some (mx_i (1 : Int32))) rfl ?_
      exact hk
    · rw [if_neg c1005] at hf
      refine mx_WP.ble (x := t0) (y := (4 : Int32)) (q := 41) (p3 := 39) rfl (fun hh => absurd hh c1005) (fun _ => ?_)
      refine mx_WP.go 1 (pc' := 40) (L' := [some (mx_r (some (1, 11, 0))), some (mx_i v1), some (mx_i v2), some (mx_i t0)]) (st' := [mx_i (0 : Int32)]) (σ' := (γ, hM I J, κ)) rfl ?_
      rw [← Option.some.inj hf] at hk
      refine mx_WP.ret (v := some (mx_i (0 : Int32))) rfl ?_
      exact hk
def f129 (x1 : Int32) (x2 : Int32) (I : Nat → Nat → Nat → Int32) (J : Nat → Nat → Nat → Int64) : Option (Bool × (Nat → Nat → Nat → Int32) × (Nat → Nat → Nat → Int64)) :=
  if (0 : Int32) ≤ (I 11 0 12) then (if (I 11 0 12) < 0 ∨ 128 ≤ (I 11 0 12).toNatClampNeg then none else j129_22 x1 x2 ((I 106 0 ((I 11 0 12).toNatClampNeg)) + (1 : Int32)) I J) else j129_22 x1 x2 (1 : Int32) I J
theorem T129 {d : Nat} {x1 : Int32} {x2 : Int32} {γ : mx_Rg} {I : Nat → Nat → Nat → Int32} {J : Nat → Nat → Nat → Int64} {κ : (Nat × (Nat → Int32)) × (Nat × Nat)} {Q : Option mx_V → mx_Hp → Prop} {o : Bool × (Nat → Nat → Nat → Int32) × (Nat → Nat → Nat → Int64)} (hf : f129 x1 x2 I J = some o) (hk : Q (some (mx_i (b2i o.1))) (γ, hM o.2.1 o.2.2, κ)) : mx_WP (d + 0) 129 0 (mx_ent 129 [mx_r (some (1, 11, 0)), mx_i x1, mx_i x2]) [] (γ, hM I J, κ) Q := by
  unfold f129 at hf
  refine mx_WP.go 2 (pc' := 4) (L' := [some (mx_r (some (1, 11, 0))), some (mx_i x1), some (mx_i x2), none]) (st' := [mx_i (I 11 0 12)]) (σ' := (γ, hM I J, κ)) rfl ?_
  by_cases c1 : (0 : Int32) ≤ (I 11 0 12)
  · rw [if_pos c1] at hf
    refine mx_WP.bge (x := (I 11 0 12)) (y := (0 : Int32)) (q := 11) (p3 := 7) rfl (fun _ => ?_) (fun hh => absurd c1 hh)
    refine mx_WP.go 4 (pc' := 19) (L' := [some (mx_r (some (1, 11, 0))), some (mx_i x1), some (mx_i x2), none]) (st' := [mx_i (I 11 0 12), mx_r (some (1, 106, 0))]) (σ' := (γ, hM I J, κ)) rfl ?_
    by_cases c2 : (I 11 0 12) < 0 ∨ 128 ≤ (I 11 0 12).toNatClampNeg
    · rw [if_pos c2] at hf
      cases hf
    rw [if_neg c2] at hf
    refine mx_WP.ialdx c2 ?_
    show mx_WP (d + 0) 129 20 [some (mx_r (some (1, 11, 0))), some (mx_i x1), some (mx_i x2), none] [mx_i (I 106 0 ((I 11 0 12).toNatClampNeg))] (γ, hM I J, κ) Q
    refine mx_WP.go 2 (pc' := 22) (L' := [some (mx_r (some (1, 11, 0))), some (mx_i x1), some (mx_i x2), none]) (st' := [mx_i ((I 106 0 ((I 11 0 12).toNatClampNeg)) + (1 : Int32))]) (σ' := (γ, hM I J, κ)) rfl ?_
    exact J129_22 (d := d) hf hk
  · rw [if_neg c1] at hf
    refine mx_WP.bge (x := (I 11 0 12)) (y := (0 : Int32)) (q := 11) (p3 := 7) rfl (fun hh => absurd hh c1) (fun _ => ?_)
    refine mx_WP.go 2 (pc' := 22) (L' := [some (mx_r (some (1, 11, 0))), some (mx_i x1), some (mx_i x2), none]) (st' := [mx_i (1 : Int32)]) (σ' := (γ, hM I J, κ)) rfl ?_
    exact J129_22 (d := d) hf hk
def j130_38 (v1 : Int32) (v2 : Int32) (I : Nat → Nat → Nat → Int32) : Option (Bool × (Nat → Nat → Nat → Int32)) :=
  if v2 = (0 : Int32) then (if v1 = (47 : Int32) then (some (true, I)) else if v1 = (62 : Int32) then (some (true, I)) else some (false, I)) else some (true, I)
theorem J130_38 {d : Nat} {v1 : Int32} {v2 : Int32} {z0 : Option mx_V} {γ : mx_Rg} {I : Nat → Nat → Nat → Int32} {J : Nat → Nat → Nat → Int64} {κ : (Nat × (Nat → Int32)) × (Nat × Nat)} {Q : Option mx_V → mx_Hp → Prop} {o : Bool × (Nat → Nat → Nat → Int32)} (hf : j130_38 v1 v2 I = some o) (hk : Q (some (mx_i (b2i o.1))) (γ, hM o.2 J, κ)) : mx_WP (d + 0) 130 38 [z0, some (mx_i v1), some (mx_i v2)] [] (γ, hM I J, κ) Q := by
  unfold j130_38 at hf
  refine mx_WP.go 1 (pc' := 39) (L' := [z0, some (mx_i v1), some (mx_i v2)]) (st' := [mx_i v2]) (σ' := (γ, hM I J, κ)) rfl ?_
  by_cases c2004 : v2 = (0 : Int32)
  · rw [if_pos c2004] at hf
    refine mx_WP.bne (x := v2) (y := (0 : Int32)) (q := 54) (p3 := 42) rfl (fun hh => absurd c2004 hh) (fun _ => ?_)
    refine mx_WP.go 2 (pc' := 45) (L' := [z0, some (mx_i v1), some (mx_i v2)]) (st' := [mx_i (47 : Int32), mx_i v1]) (σ' := (γ, hM I J, κ)) rfl ?_
    by_cases c2005 : v1 = (47 : Int32)
    · rw [if_pos c2005] at hf
      refine mx_WP.beq (x := v1) (y := (47 : Int32)) (q := 54) (p3 := 48) rfl (fun _ => ?_) (fun hh => absurd c2005 hh)
      refine mx_WP.go 2 (pc' := 59) (L' := [z0, some (mx_i v1), some (mx_i v2)]) (st' := [mx_i (1 : Int32)]) (σ' := (γ, hM I J, κ)) rfl ?_
      rw [← Option.some.inj hf] at hk
      refine mx_WP.ret (v := some (mx_i (1 : Int32))) rfl ?_
      exact hk
    · rw [if_neg c2005] at hf
      refine mx_WP.beq (x := v1) (y := (47 : Int32)) (q := 54) (p3 := 48) rfl (fun hh => absurd hh c2005) (fun _ => ?_)
      refine mx_WP.go 2 (pc' := 51) (L' := [z0, some (mx_i v1), some (mx_i v2)]) (st' := [mx_i (62 : Int32), mx_i v1]) (σ' := (γ, hM I J, κ)) rfl ?_
      by_cases c2006 : v1 = (62 : Int32)
      · rw [if_pos c2006] at hf
        refine mx_WP.bne (x := v1) (y := (62 : Int32)) (q := 58) (p3 := 54) rfl (fun hh => absurd c2006 hh) (fun _ => ?_)
        refine mx_WP.go 2 (pc' := 59) (L' := [z0, some (mx_i v1), some (mx_i v2)]) (st' := [mx_i (1 : Int32)]) (σ' := (γ, hM I J, κ)) rfl ?_
        rw [← Option.some.inj hf] at hk
        refine mx_WP.ret (v := some (mx_i (1 : Int32))) rfl ?_
        exact hk
      · rw [if_neg c2006] at hf
        refine mx_WP.bne (x := v1) (y := (62 : Int32)) (q := 58) (p3 := 54) rfl (fun _ => ?_) (fun hh => absurd c2006 hh)
        refine mx_WP.go 1 (pc' := 59) (L' := [z0, some (mx_i v1), some (mx_i v2)]) (st' := [mx_i (0 : Int32)]) (σ' := (γ, hM I J, κ)) rfl ?_
        rw [← Option.some.inj hf] at hk
        refine mx_WP.ret (v := some (mx_i (0 : Int32))) rfl ?_
        exact hk
  · rw [if_neg c2004] at hf
    refine mx_WP.bne (x := v2) (y := (0 : Int32)) (q := 54) (p3 := 42) rfl (fun _ => ?_) (fun hh => absurd c2004 hh)
    refine mx_WP.go 2 (pc' := 59) (L' := [z0, some (mx_i v1), some (mx_i v2)]) (st' := [mx_i (1 : Int32)]) (σ' := (γ, hM I J, κ)) rfl ?_
    rw [← Option.some.inj hf] at hk
    refine mx_WP.ret (v := some (mx_i (1 : Int32))) rfl ?_
    exact hk
def j130_21 (v1 : Int32) (v2 : Int32) (t0 : Int32) (I : Nat → Nat → Nat → Int32) : Option (Bool × (Nat → Nat → Nat → Int32)) :=
  if v1 = (62 : Int32) then (j130_38 v1 v2 (mx_u3 (mx_u3 I 11 0 11 t0) 11 0 12 ((mx_u3 I 11 0 11 t0) 11 0 13))) else j130_38 v1 v2 (mx_u3 I 11 0 11 t0)
theorem J130_21 {d : Nat} {v1 : Int32} {v2 : Int32} {t0 : Int32}  {γ : mx_Rg} {I : Nat → Nat → Nat → Int32} {J : Nat → Nat → Nat → Int64} {κ : (Nat × (Nat → Int32)) × (Nat × Nat)} {Q : Option mx_V → mx_Hp → Prop} {o : Bool × (Nat → Nat → Nat → Int32)} (hf : j130_21 v1 v2 t0 I = some o) (hk : Q (some (mx_i (b2i o.1))) (γ, hM o.2 J, κ)) : mx_WP (d + 0) 130 21 [some (mx_r (some (1, 11, 0))), some (mx_i v1), some (mx_i v2)] [mx_i t0, mx_r (some (1, 11, 0))] (γ, hM I J, κ) Q := by
  unfold j130_21 at hf
  refine mx_WP.go 3 (pc' := 27) (L' := [some (mx_r (some (1, 11, 0))), some (mx_i v1), some (mx_i v2)]) (st' := [mx_i (62 : Int32), mx_i v1]) (σ' := (γ, hM (mx_u3 I 11 0 11 t0) J, κ)) rfl ?_
  by_cases c1003 : v1 = (62 : Int32)
  · rw [if_pos c1003] at hf
    refine mx_WP.bne (x := v1) (y := (62 : Int32)) (q := 38) (p3 := 30) rfl (fun hh => absurd c1003 hh) (fun _ => ?_)
    refine mx_WP.go 4 (pc' := 38) (L' := [some (mx_r (some (1, 11, 0))), some (mx_i v1), some (mx_i v2)]) (st' := []) (σ' := (γ, hM (mx_u3 (mx_u3 I 11 0 11 t0) 11 0 12 ((mx_u3 I 11 0 11 t0) 11 0 13)) J, κ)) rfl ?_
    exact J130_38 (d := d) hf hk
  · rw [if_neg c1003] at hf
    refine mx_WP.bne (x := v1) (y := (62 : Int32)) (q := 38) (p3 := 30) rfl (fun _ => ?_) (fun hh => absurd c1003 hh)
    exact J130_38 (d := d) hf hk
def f130 (x1 : Int32) (x2 : Int32) (I : Nat → Nat → Nat → Int32) : Option (Bool × (Nat → Nat → Nat → Int32)) :=
  if x2 = (0 : Int32) then (if x1 = (47 : Int32) then (j130_21 x1 x2 (8 : Int32) I) else j130_21 x1 x2 (0 : Int32) I) else j130_21 x1 x2 (3 : Int32) I
theorem T130 {d : Nat} {x1 : Int32} {x2 : Int32} {γ : mx_Rg} {I : Nat → Nat → Nat → Int32} {J : Nat → Nat → Nat → Int64} {κ : (Nat × (Nat → Int32)) × (Nat × Nat)} {Q : Option mx_V → mx_Hp → Prop} {o : Bool × (Nat → Nat → Nat → Int32)} (hf : f130 x1 x2 I = some o) (hk : Q (some (mx_i (b2i o.1))) (γ, hM o.2 J, κ)) : mx_WP (d + 0) 130 0 (mx_ent 130 [mx_r (some (1, 11, 0)), mx_i x1, mx_i x2]) [] (γ, hM I J, κ) Q := by
  unfold f130 at hf
  refine mx_WP.go 2 (pc' := 2) (L' := [some (mx_r (some (1, 11, 0))), some (mx_i x1), some (mx_i x2)]) (st' := [mx_i x2, mx_r (some (1, 11, 0))]) (σ' := (γ, hM I J, κ)) rfl ?_
  by_cases c1 : x2 = (0 : Int32)
  · rw [if_pos c1] at hf
    refine mx_WP.beq (x := x2) (y := (0 : Int32)) (q := 9) (p3 := 5) rfl (fun _ => ?_) (fun hh => absurd c1 hh)
    refine mx_WP.go 2 (pc' := 12) (L' := [some (mx_r (some (1, 11, 0))), some (mx_i x1), some (mx_i x2)]) (st' := [mx_i (47 : Int32), mx_i x1, mx_r (some (1, 11, 0))]) (σ' := (γ, hM I J, κ)) rfl ?_
    by_cases c2 : x1 = (47 : Int32)
    · rw [if_pos c2] at hf
      refine mx_WP.bne (x := x1) (y := (47 : Int32)) (q := 20) (p3 := 15) rfl (fun hh => absurd c2 hh) (fun _ => ?_)
      refine mx_WP.go 2 (pc' := 21) (L' := [some (mx_r (some (1, 11, 0))), some (mx_i x1), some (mx_i x2)]) (st' := [mx_i (8 : Int32), mx_r (some (1, 11, 0))]) (σ' := (γ, hM I J, κ)) rfl ?_
      exact J130_21 (d := d) hf hk
    · rw [if_neg c2] at hf
      refine mx_WP.bne (x := x1) (y := (47 : Int32)) (q := 20) (p3 := 15) rfl (fun _ => ?_) (fun hh => absurd c2 hh)
      refine mx_WP.go 1 (pc' := 21) (L' := [some (mx_r (some (1, 11, 0))), some (mx_i x1), some (mx_i x2)]) (st' := [mx_i (0 : Int32), mx_r (some (1, 11, 0))]) (σ' := (γ, hM I J, κ)) rfl ?_
      exact J130_21 (d := d) hf hk
  · rw [if_neg c1] at hf
    refine mx_WP.beq (x := x2) (y := (0 : Int32)) (q := 9) (p3 := 5) rfl (fun hh => absurd hh c1) (fun _ => ?_)
    refine mx_WP.go 2 (pc' := 21) (L' := [some (mx_r (some (1, 11, 0))), some (mx_i x1), some (mx_i x2)]) (st' := [mx_i (3 : Int32), mx_r (some (1, 11, 0))]) (σ' := (γ, hM I J, κ)) rfl ?_
    exact J130_21 (d := d) hf hk
def b133_3 (x1 : Int32) (x2 : Int64) (I : Nat → Nat → Nat → Int32) (J : Nat → Nat → Nat → Int64) (s : Int32) : Option ((Int32) ⊕ ((Int32) ⊕ (Bool))) :=
  if x1 < 0 ∨ 128 ≤ x1.toNatClampNeg then none else if (I 107 0 x1.toNatClampNeg) ≤ s then (some (Sum.inr (Sum.inl s))) else if (((4 : Int32) * x1) + s) < 0 ∨ 512 ≤ (((4 : Int32) * x1) + s).toNatClampNeg then none else if (lg_cmp (J 103 0 ((((4 : Int32) * x1) + s).toNatClampNeg)) x2) = (0 : Int32) then (some (Sum.inr (Sum.inr true))) else some (Sum.inl (s + 1))
theorem B133_3 {d : Nat} {x1 : Int32} {x2 : Int64} {γ : mx_Rg} {I : Nat → Nat → Nat → Int32} {J : Nat → Nat → Nat → Int64} {κ : (Nat × (Nat → Int32)) × (Nat × Nat)} {Q : Option mx_V → mx_Hp → Prop} {s : Int32} {o : (Int32) ⊕ ((Int32) ⊕ (Bool))} (hf : b133_3 x1 x2 I J s = some o) (hk : Sum.elim (fun s : Int32 => mx_WP (d + 0) 133 3 [some (mx_r (some (1, 11, 0))), some (mx_i x1), some (mx_l x2), none, some (mx_i s)] [] (γ, hM I J, κ) Q) (Sum.elim (fun x : Int32 => mx_WP (d + 0) 133 38 [some (mx_r (some (1, 11, 0))), some (mx_i x1), some (mx_l x2), none, some (mx_i x)] [] (γ, hM I J, κ) Q) (fun x : Bool => Q (some (mx_i (b2i x))) (γ, hM I J, κ))) o) : mx_WP (d + 0) 133 3 [some (mx_r (some (1, 11, 0))), some (mx_i x1), some (mx_l x2), none, some (mx_i s)] [] (γ, hM I J, κ) Q := by
  unfold b133_3 at hf
  refine mx_WP.go 4 (pc' := 10) (L' := [some (mx_r (some (1, 11, 0))), some (mx_i x1), some (mx_l x2), none, some (mx_i s)]) (st' := [mx_i x1, mx_r (some (1, 107, 0)), mx_i s]) (σ' := (γ, hM I J, κ)) rfl ?_
  by_cases c101 : x1 < 0 ∨ 128 ≤ x1.toNatClampNeg
  · rw [if_pos c101] at hf
    cases hf
  rw [if_neg c101] at hf
  refine mx_WP.ialdx c101 ?_
  show mx_WP (d + 0) 133 11 [some (mx_r (some (1, 11, 0))), some (mx_i x1), some (mx_l x2), none, some (mx_i s)] [mx_i (I 107 0 x1.toNatClampNeg), mx_i s] (γ, hM I J, κ) Q
  by_cases c102 : (I 107 0 x1.toNatClampNeg) ≤ s
  · rw [if_pos c102] at hf
    refine mx_WP.bge (x := s) (y := (I 107 0 x1.toNatClampNeg)) (q := 38) (p3 := 14) rfl (fun _ => ?_) (fun hh => absurd c102 hh)
    rw [← Option.some.inj hf] at hk
    exact hk
  · rw [if_neg c102] at hf
    refine mx_WP.bge (x := s) (y := (I 107 0 x1.toNatClampNeg)) (q := 38) (p3 := 14) rfl (fun hh => absurd hh c102) (fun _ => ?_)
    refine mx_WP.go 7 (pc' := 24) (L' := [some (mx_r (some (1, 11, 0))), some (mx_i x1), some (mx_l x2), none, some (mx_i s)]) (st' := [mx_i (((4 : Int32) * x1) + s), mx_r (some (1, 103, 0))]) (σ' := (γ, hM I J, κ)) rfl ?_
    by_cases c103 : (((4 : Int32) * x1) + s) < 0 ∨ 512 ≤ (((4 : Int32) * x1) + s).toNatClampNeg
    · rw [if_pos c103] at hf
      cases hf
    rw [if_neg c103] at hf
    refine mx_WP.laldx c103 ?_
    show mx_WP (d + 0) 133 25 [some (mx_r (some (1, 11, 0))), some (mx_i x1), some (mx_l x2), none, some (mx_i s)] [mx_l (J 103 0 ((((4 : Int32) * x1) + s).toNatClampNeg))] (γ, hM I J, κ) Q
    refine mx_WP.go 2 (pc' := 27) (L' := [some (mx_r (some (1, 11, 0))), some (mx_i x1), some (mx_l x2), none, some (mx_i s)]) (st' := [mx_i (lg_cmp (J 103 0 ((((4 : Int32) * x1) + s).toNatClampNeg)) x2)]) (σ' := (γ, hM I J, κ)) rfl ?_
    by_cases c104 : (lg_cmp (J 103 0 ((((4 : Int32) * x1) + s).toNatClampNeg)) x2) = (0 : Int32)
    · rw [if_pos c104] at hf
      refine mx_WP.bne (x := (lg_cmp (J 103 0 ((((4 : Int32) * x1) + s).toNatClampNeg)) x2)) (y := (0 : Int32)) (q := 32) (p3 := 30) rfl (fun hh => absurd c104 hh) (fun _ => ?_)
      refine mx_WP.go 1 (pc' := 31) (L' := [some (mx_r (some (1, 11, 0))), some (mx_i x1), some (mx_l x2), none, some (mx_i s)]) (st' := [mx_i (1 : Int32)]) (σ' := (γ, hM I J, κ)) rfl ?_
      rw [← Option.some.inj hf] at hk
      refine mx_WP.ret (v := some (mx_i (1 : Int32))) rfl ?_
      exact hk
    · rw [if_neg c104] at hf
      refine mx_WP.bne (x := (lg_cmp (J 103 0 ((((4 : Int32) * x1) + s).toNatClampNeg)) x2)) (y := (0 : Int32)) (q := 32) (p3 := 30) rfl (fun _ => ?_) (fun hh => absurd c104 hh)
      refine mx_WP.go 2 (pc' := 3) (L' := [some (mx_r (some (1, 11, 0))), some (mx_i x1), some (mx_l x2), none, some (mx_i (s + 1))]) (st' := []) (σ' := (γ, hM I J, κ)) rfl ?_
      rw [← Option.some.inj hf] at hk
      exact hk
theorem L133_3 {d : Nat} {x1 : Int32} {x2 : Int64} {γ : mx_Rg} {I : Nat → Nat → Nat → Int32} {J : Nat → Nat → Nat → Int64} {κ : (Nat × (Nat → Int32)) × (Nat × Nat)} {Q : Option mx_V → mx_Hp → Prop} {n : Nat} {s : Int32} {o : (Int32) ⊕ (Bool)} (hf : mx_lp (b133_3 x1 x2 I J) n s = some o) (hk : (Sum.elim (fun x : Int32 => mx_WP (d + 0) 133 38 [some (mx_r (some (1, 11, 0))), some (mx_i x1), some (mx_l x2), none, some (mx_i x)] [] (γ, hM I J, κ) Q) (fun x : Bool => Q (some (mx_i (b2i x))) (γ, hM I J, κ))) o) : mx_WP (d + 0) 133 3 [some (mx_r (some (1, 11, 0))), some (mx_i x1), some (mx_l x2), none, some (mx_i s)] [] (γ, hM I J, κ) Q := mx_lp_ok (P := fun s : Int32 => mx_WP (d + 0) 133 3 [some (mx_r (some (1, 11, 0))), some (mx_i x1), some (mx_l x2), none, some (mx_i s)] [] (γ, hM I J, κ) Q) (E := (Sum.elim (fun x : Int32 => mx_WP (d + 0) 133 38 [some (mx_r (some (1, 11, 0))), some (mx_i x1), some (mx_l x2), none, some (mx_i x)] [] (γ, hM I J, κ) Q) (fun x : Bool => Q (some (mx_i (b2i x))) (γ, hM I J, κ)))) (fun s o hf hk => B133_3 hf hk) n s o hf hk
def f133 (x1 : Int32) (x2 : Int64) (I : Nat → Nat → Nat → Int32) (J : Nat → Nat → Nat → Int64) : Option (Bool) :=
  (mx_lp (b133_3 x1 x2 I J) mx_fu (0 : Int32)).bind fun u105 => Sum.elim (fun w107 =>
  some false) (fun y108 => some y108) u105
theorem T133 {d : Nat} {x1 : Int32} {x2 : Int64} {γ : mx_Rg} {I : Nat → Nat → Nat → Int32} {J : Nat → Nat → Nat → Int64} {κ : (Nat × (Nat → Int32)) × (Nat × Nat)} {Q : Option mx_V → mx_Hp → Prop} {o : Bool} (hf : f133 x1 x2 I J = some o) (hk : Q (some (mx_i (b2i o))) (γ, hM I J, κ)) : mx_WP (d + 0) 133 0 (mx_ent 133 [mx_r (some (1, 11, 0)), mx_i x1, mx_l x2]) [] (γ, hM I J, κ) Q := by
  unfold f133 at hf
  refine mx_WP.go 2 (pc' := 3) (L' := [some (mx_r (some (1, 11, 0))), some (mx_i x1), some (mx_l x2), none, some (mx_i (0 : Int32))]) (st' := []) (σ' := (γ, hM I J, κ)) rfl ?_
  obtain ⟨u105, e106, hf⟩ := Option.bind_eq_some_iff.mp hf
  cases u105 with
  | inr y108 =>
    rw [Sum.elim_inr] at hf
    rw [← Option.some.inj hf] at hk
    exact (L133_3 (d := d) e106 hk)
  | inl w107 =>
    rw [Sum.elim_inl] at hf
    refine (L133_3 (d := d) e106 ?_)
    show mx_WP (d + 0) 133 38 [some (mx_r (some (1, 11, 0))), some (mx_i x1), some (mx_l x2), none, some (mx_i w107)] [] (γ, hM I J, κ) Q
    refine mx_WP.go 1 (pc' := 39) (L' := [some (mx_r (some (1, 11, 0))), some (mx_i x1), some (mx_l x2), none, some (mx_i w107)]) (st' := [mx_i (0 : Int32)]) (σ' := (γ, hM I J, κ)) rfl ?_
    rw [← Option.some.inj hf] at hk
    refine mx_WP.ret (v := some (mx_i (0 : Int32))) rfl ?_
    exact hk
def j132_151 (v2 : Int32) (v4 : Int32) (I : Nat → Nat → Nat → Int32) (J : Nat → Nat → Nat → Int64) : Option (Bool × (Nat → Nat → Nat → Int32) × (Nat → Nat → Nat → Int64)) :=
  if (I 11 0 13) < 0 ∨ 128 ≤ (I 11 0 13).toNatClampNeg then none else if (I 11 0 13) < 0 ∨ 128 ≤ (I 11 0 13).toNatClampNeg then none else if v2 = (0 : Int32) then (if v4 = 0 then some (false, (mx_u3 (mx_u3 I 107 0 ((I 11 0 13).toNatClampNeg) ((I 107 0 ((I 11 0 13).toNatClampNeg)) + (1 : Int32))) 11 0 11 (5 : Int32)), J) else if v4 = 1 then some (true, (mx_u3 (mx_u3 I 107 0 ((I 11 0 13).toNatClampNeg) ((I 107 0 ((I 11 0 13).toNatClampNeg)) + (1 : Int32))) 11 0 11 (5 : Int32)), J) else none) else if v4 = 0 then some (false, (mx_u3 I 107 0 ((I 11 0 13).toNatClampNeg) ((I 107 0 ((I 11 0 13).toNatClampNeg)) + (1 : Int32))), J) else if v4 = 1 then some (true, (mx_u3 I 107 0 ((I 11 0 13).toNatClampNeg) ((I 107 0 ((I 11 0 13).toNatClampNeg)) + (1 : Int32))), J) else none
theorem J132_151 {d : Nat} {v2 : Int32} {v4 : Int32} {z1 : Option mx_V} {z3 : Option mx_V} {γ : mx_Rg} {I : Nat → Nat → Nat → Int32} {J : Nat → Nat → Nat → Int64} {κ : (Nat × (Nat → Int32)) × (Nat × Nat)} {Q : Option mx_V → mx_Hp → Prop} {o : Bool × (Nat → Nat → Nat → Int32) × (Nat → Nat → Nat → Int64)} (hf : j132_151 v2 v4 I J = some o) (hk : Q (some (mx_i (b2i o.1))) (γ, hM o.2.1 o.2.2, κ)) : mx_WP (d + 1) 132 151 [some (mx_r (some (1, 11, 0))), z1, some (mx_i v2), z3, some (mx_i v4)] [] (γ, hM I J, κ) Q := by
  unfold j132_151 at hf
  refine mx_WP.go 5 (pc' := 160) (L' := [some (mx_r (some (1, 11, 0))), z1, some (mx_i v2), z3, some (mx_i v4)]) (st' := [mx_i (I 11 0 13), mx_r (some (1, 107, 0)), mx_i (I 11 0 13), mx_r (some (1, 107, 0))]) (σ' := (γ, hM I J, κ)) rfl ?_
  by_cases c3010 : (I 11 0 13) < 0 ∨ 128 ≤ (I 11 0 13).toNatClampNeg
  · rw [if_pos c3010] at hf
    cases hf
  rw [if_neg c3010] at hf
  refine mx_WP.ialdx c3010 ?_
  show mx_WP (d + 1) 132 161 [some (mx_r (some (1, 11, 0))), z1, some (mx_i v2), z3, some (mx_i v4)] [mx_i (I 107 0 ((I 11 0 13).toNatClampNeg)), mx_i (I 11 0 13), mx_r (some (1, 107, 0))] (γ, hM I J, κ) Q
  refine mx_WP.go 2 (pc' := 163) (L' := [some (mx_r (some (1, 11, 0))), z1, some (mx_i v2), z3, some (mx_i v4)]) (st' := [mx_i ((I 107 0 ((I 11 0 13).toNatClampNeg)) + (1 : Int32)), mx_i (I 11 0 13), mx_r (some (1, 107, 0))]) (σ' := (γ, hM I J, κ)) rfl ?_
  by_cases c3011 : (I 11 0 13) < 0 ∨ 128 ≤ (I 11 0 13).toNatClampNeg
  · rw [if_pos c3011] at hf
    cases hf
  rw [if_neg c3011] at hf
  refine mx_WP.iastx c3011 ?_
  show mx_WP (d + 1) 132 164 [some (mx_r (some (1, 11, 0))), z1, some (mx_i v2), z3, some (mx_i v4)] [] (γ, hM (mx_u3 I 107 0 ((I 11 0 13).toNatClampNeg) ((I 107 0 ((I 11 0 13).toNatClampNeg)) + (1 : Int32))) J, κ) Q
  refine mx_WP.go 1 (pc' := 165) (L' := [some (mx_r (some (1, 11, 0))), z1, some (mx_i v2), z3, some (mx_i v4)]) (st' := [mx_i v2]) (σ' := (γ, hM (mx_u3 I 107 0 ((I 11 0 13).toNatClampNeg) ((I 107 0 ((I 11 0 13).toNatClampNeg)) + (1 : Int32))) J, κ)) rfl ?_
  by_cases c3012 : v2 = (0 : Int32)
  · rw [if_pos c3012] at hf
    refine mx_WP.bne (x := v2) (y := (0 : Int32)) (q := 173) (p3 := 168) rfl (fun hh => absurd c3012 hh) (fun _ => ?_)
    refine mx_WP.go 4 (pc' := 175) (L' := [some (mx_r (some (1, 11, 0))), z1, some (mx_i v2), z3, some (mx_i v4)]) (st' := [mx_i v4]) (σ' := (γ, hM (mx_u3 (mx_u3 I 107 0 ((I 11 0 13).toNatClampNeg) ((I 107 0 ((I 11 0 13).toNatClampNeg)) + (1 : Int32))) 11 0 11 (5 : Int32)) J, κ)) rfl ?_
    by_cases c3013 : v4 = 0
    · rw [if_pos c3013] at hf
      rw [← Option.some.inj hf] at hk
      refine mx_WP.retz (Or.inl c3013) (by rfl) (by rfl) ?_
      rw [c3013]
      exact hk
    rw [if_neg c3013] at hf
    by_cases c3014 : v4 = 1
    · rw [if_pos c3014] at hf
      rw [← Option.some.inj hf] at hk
      refine mx_WP.retz (Or.inr c3014) (by rfl) (by rfl) ?_
      rw [c3014]
      exact hk
    rw [if_neg c3014] at hf
    cases hf
  · rw [if_neg c3012] at hf
    refine mx_WP.bne (x := v2) (y := (0 : Int32)) (q := 173) (p3 := 168) rfl (fun _ => ?_) (fun hh => absurd c3012 hh)
    refine mx_WP.go 1 (pc' := 175) (L' := [some (mx_r (some (1, 11, 0))), z1, some (mx_i v2), z3, some (mx_i v4)]) (st' := [mx_i v4]) (σ' := (γ, hM (mx_u3 I 107 0 ((I 11 0 13).toNatClampNeg) ((I 107 0 ((I 11 0 13).toNatClampNeg)) + (1 : Int32))) J, κ)) rfl ?_
    by_cases c3015 : v4 = 0
    · rw [if_pos c3015] at hf
      rw [← Option.some.inj hf] at hk
      refine mx_WP.retz (Or.inl c3015) (by rfl) (by rfl) ?_
      rw [c3015]
      exact hk
    rw [if_neg c3015] at hf
    by_cases c3016 : v4 = 1
    · rw [if_pos c3016] at hf
      rw [← Option.some.inj hf] at hk
      refine mx_WP.retz (Or.inr c3016) (by rfl) (by rfl) ?_
      rw [c3016]
      exact hk
    rw [if_neg c3016] at hf
    cases hf
def j132_149 (v2 : Int32) (t0 : Int32) (I : Nat → Nat → Nat → Int32) (J : Nat → Nat → Nat → Int64) : Option (Bool × (Nat → Nat → Nat → Int32) × (Nat → Nat → Nat → Int64)) :=
  j132_151 v2 t0 I J
theorem J132_149 {d : Nat} {v2 : Int32} {t0 : Int32} {z1 : Option mx_V} {z3 : Option mx_V} {z4 : Option mx_V} {γ : mx_Rg} {I : Nat → Nat → Nat → Int32} {J : Nat → Nat → Nat → Int64} {κ : (Nat × (Nat → Int32)) × (Nat × Nat)} {Q : Option mx_V → mx_Hp → Prop} {o : Bool × (Nat → Nat → Nat → Int32) × (Nat → Nat → Nat → Int64)} (hf : j132_149 v2 t0 I J = some o) (hk : Q (some (mx_i (b2i o.1))) (γ, hM o.2.1 o.2.2, κ)) : mx_WP (d + 1) 132 149 [some (mx_r (some (1, 11, 0))), z1, some (mx_i v2), z3, z4] [mx_i t0] (γ, hM I J, κ) Q := by
  unfold j132_149 at hf
  refine mx_WP.go 1 (pc' := 151) (L' := [some (mx_r (some (1, 11, 0))), z1, some (mx_i v2), z3, some (mx_i t0)]) (st' := []) (σ' := (γ, hM I J, κ)) rfl ?_
  exact J132_151 (d := d) hf hk
def j132_144 (v2 : Int32) (I : Nat → Nat → Nat → Int32) (J : Nat → Nat → Nat → Int64) : Option (Bool × (Nat → Nat → Nat → Int32) × (Nat → Nat → Nat → Int64)) :=
  j132_149 v2 (1 : Int32) I J
theorem J132_144 {d : Nat} {v2 : Int32} {z1 : Option mx_V} {z3 : Option mx_V} {z4 : Option mx_V} {γ : mx_Rg} {I : Nat → Nat → Nat → Int32} {J : Nat → Nat → Nat → Int64} {κ : (Nat × (Nat → Int32)) × (Nat × Nat)} {Q : Option mx_V → mx_Hp → Prop} {o : Bool × (Nat → Nat → Nat → Int32) × (Nat → Nat → Nat → Int64)} (hf : j132_144 v2 I J = some o) (hk : Q (some (mx_i (b2i o.1))) (γ, hM o.2.1 o.2.2, κ)) : mx_WP (d + 1) 132 144 [some (mx_r (some (1, 11, 0))), z1, some (mx_i v2), z3, z4] [] (γ, hM I J, κ) Q := by
  unfold j132_144 at hf
  refine mx_WP.go 2 (pc' := 149) (L' := [some (mx_r (some (1, 11, 0))), z1, some (mx_i v2), z3, z4]) (st' := [mx_i (1 : Int32)]) (σ' := (γ, hM I J, κ)) rfl ?_
  exact J132_149 (d := d) hf hk
def j132_81 (v1 : Int32) (v2 : Int32) (v3 : Int32) (t0 : Int32) (I : Nat → Nat → Nat → Int32) (J : Nat → Nat → Nat → Int64) : Option (Bool × (Nat → Nat → Nat → Int32) × (Nat → Nat → Nat → Int64)) :=
  if v2 = (0 : Int32) then (j132_151 v2 t0 I J) else if t0 = (0 : Int32) then (j132_151 v2 t0 I J) else if v3 < 0 ∨ 512 ≤ v3.toNatClampNeg then none else if v3 < 0 ∨ 512 ≤ v3.toNatClampNeg then none else if ((mx_u3 I 11 0 14 ((I 11 0 14) + (1 : Int32))) 11 0 14) < (8 : Int32) then (j132_144 v2 (mx_u3 I 11 0 14 ((I 11 0 14) + (1 : Int32))) (mx_u3 J 103 0 v3.toNatClampNeg ((J 103 0 v3.toNatClampNeg) ||| (v1.toInt64 <<< (((8 : Int32) * (I 11 0 14)).toInt64 &&& 63))))) else if v3 < 0 ∨ 512 ≤ v3.toNatClampNeg then none else (f133 ((mx_u3 I 11 0 14 ((I 11 0 14) + (1 : Int32))) 11 0 13) ((mx_u3 J 103 0 v3.toNatClampNeg ((J 103 0 v3.toNatClampNeg) ||| (v1.toInt64 <<< (((8 : Int32) * (I 11 0 14)).toInt64 &&& 63)))) 103 0 v3.toNatClampNeg) (mx_u3 I 11 0 14 ((I 11 0 14) + (1 : Int32))) (mx_u3 J 103 0 v3.toNatClampNeg ((J 103 0 v3.toNatClampNeg) ||| (v1.toInt64 <<< (((8 : Int32) * (I 11 0 14)).toInt64 &&& 63))))).bind fun u5022 =>
  if u5022 = true then (j132_149 v2 (0 : Int32) (mx_u3 I 11 0 14 ((I 11 0 14) + (1 : Int32))) (mx_u3 J 103 0 v3.toNatClampNeg ((J 103 0 v3.toNatClampNeg) ||| (v1.toInt64 <<< (((8 : Int32) * (I 11 0 14)).toInt64 &&& 63))))) else j132_144 v2 (mx_u3 I 11 0 14 ((I 11 0 14) + (1 : Int32))) (mx_u3 J 103 0 v3.toNatClampNeg ((J 103 0 v3.toNatClampNeg) ||| (v1.toInt64 <<< (((8 : Int32) * (I 11 0 14)).toInt64 &&& 63))))
theorem J132_81 {d : Nat} {v1 : Int32} {v2 : Int32} {v3 : Int32} {t0 : Int32} {z4 : Option mx_V} {γ : mx_Rg} {I : Nat → Nat → Nat → Int32} {J : Nat → Nat → Nat → Int64} {κ : (Nat × (Nat → Int32)) × (Nat × Nat)} {Q : Option mx_V → mx_Hp → Prop} {o : Bool × (Nat → Nat → Nat → Int32) × (Nat → Nat → Nat → Int64)} (hf : j132_81 v1 v2 v3 t0 I J = some o) (hk : Q (some (mx_i (b2i o.1))) (γ, hM o.2.1 o.2.2, κ)) : mx_WP (d + 1) 132 81 [some (mx_r (some (1, 11, 0))), some (mx_i v1), some (mx_i v2), some (mx_i v3), z4] [mx_i t0] (γ, hM I J, κ) Q := by
  unfold j132_81 at hf
  refine mx_WP.go 2 (pc' := 84) (L' := [some (mx_r (some (1, 11, 0))), some (mx_i v1), some (mx_i v2), some (mx_i v3), some (mx_i t0)]) (st' := [mx_i v2]) (σ' := (γ, hM I J, κ)) rfl ?_
  by_cases c2009 : v2 = (0 : Int32)
  · rw [if_pos c2009] at hf
    refine mx_WP.beq (x := v2) (y := (0 : Int32)) (q := 151) (p3 := 87) rfl (fun _ => ?_) (fun hh => absurd c2009 hh)
    exact J132_151 (d := d) hf hk
  · rw [if_neg c2009] at hf
    refine mx_WP.beq (x := v2) (y := (0 : Int32)) (q := 151) (p3 := 87) rfl (fun hh => absurd hh c2009) (fun _ => ?_)
    refine mx_WP.go 1 (pc' := 89) (L' := [some (mx_r (some (1, 11, 0))), some (mx_i v1), some (mx_i v2), some (mx_i v3), some (mx_i t0)]) (st' := [mx_i t0]) (σ' := (γ, hM I J, κ)) rfl ?_
    by_cases c3017 : t0 = (0 : Int32)
    · rw [if_pos c3017] at hf
      refine mx_WP.beq (x := t0) (y := (0 : Int32)) (q := 151) (p3 := 92) rfl (fun _ => ?_) (fun hh => absurd c3017 hh)
      exact J132_151 (d := d) hf hk
    · rw [if_neg c3017] at hf
      refine mx_WP.beq (x := t0) (y := (0 : Int32)) (q := 151) (p3 := 92) rfl (fun hh => absurd hh c3017) (fun _ => ?_)
      refine mx_WP.go 4 (pc' := 98) (L' := [some (mx_r (some (1, 11, 0))), some (mx_i v1), some (mx_i v2), some (mx_i v3), some (mx_i t0)]) (st' := [mx_i v3, mx_r (some (1, 103, 0)), mx_i v3, mx_r (some (1, 103, 0))]) (σ' := (γ, hM I J, κ)) rfl ?_
      by_cases c3018 : v3 < 0 ∨ 512 ≤ v3.toNatClampNeg
      · rw [if_pos c3018] at hf
        cases hf
      rw [if_neg c3018] at hf
      refine mx_WP.laldx c3018 ?_
      show mx_WP (d + 1) 132 99 [some (mx_r (some (1, 11, 0))), some (mx_i v1), some (mx_i v2), some (mx_i v3), some (mx_i t0)] [mx_l (J 103 0 v3.toNatClampNeg), mx_i v3, mx_r (some (1, 103, 0))] (γ, hM I J, κ) Q
      refine mx_WP.go 13 (pc' := 117) (L' := [some (mx_r (some (1, 11, 0))), some (mx_i v1), some (mx_i v2), some (mx_i v3), some (mx_i t0)]) (st' := [mx_l ((J 103 0 v3.toNatClampNeg) ||| (v1.toInt64 <<< (((8 : Int32) * (I 11 0 14)).toInt64 &&& 63))), mx_i v3, mx_r (some (1, 103, 0))]) (σ' := (γ, hM (mx_u3 I 11 0 14 ((I 11 0 14) + (1 : Int32))) J, κ)) rfl ?_
      by_cases c3019 : v3 < 0 ∨ 512 ≤ v3.toNatClampNeg
      · rw [if_pos c3019] at hf
        cases hf
      rw [if_neg c3019] at hf
      refine mx_WP.lastx c3019 ?_
      show mx_WP (d + 1) 132 118 [some (mx_r (some (1, 11, 0))), some (mx_i v1), some (mx_i v2), some (mx_i v3), some (mx_i t0)] [] (γ, hM (mx_u3 I 11 0 14 ((I 11 0 14) + (1 : Int32))) (mx_u3 J 103 0 v3.toNatClampNeg ((J 103 0 v3.toNatClampNeg) ||| (v1.toInt64 <<< (((8 : Int32) * (I 11 0 14)).toInt64 &&& 63)))), κ) Q
      refine mx_WP.go 3 (pc' := 124) (L' := [some (mx_r (some (1, 11, 0))), some (mx_i v1), some (mx_i v2), some (mx_i v3), some (mx_i t0)]) (st' := [mx_i (8 : Int32), mx_i ((mx_u3 I 11 0 14 ((I 11 0 14) + (1 : Int32))) 11 0 14)]) (σ' := (γ, hM (mx_u3 I 11 0 14 ((I 11 0 14) + (1 : Int32))) (mx_u3 J 103 0 v3.toNatClampNeg ((J 103 0 v3.toNatClampNeg) ||| (v1.toInt64 <<< (((8 : Int32) * (I 11 0 14)).toInt64 &&& 63)))), κ)) rfl ?_
      by_cases c3020 : ((mx_u3 I 11 0 14 ((I 11 0 14) + (1 : Int32))) 11 0 14) < (8 : Int32)
      · rw [if_pos c3020] at hf
        refine mx_WP.blt (x := ((mx_u3 I 11 0 14 ((I 11 0 14) + (1 : Int32))) 11 0 14)) (y := (8 : Int32)) (q := 144) (p3 := 127) rfl (fun _ => ?_) (fun hh => absurd c3020 hh)
        exact J132_144 (d := d) hf hk
      · rw [if_neg c3020] at hf
        refine mx_WP.blt (x := ((mx_u3 I 11 0 14 ((I 11 0 14) + (1 : Int32))) 11 0 14)) (y := (8 : Int32)) (q := 144) (p3 := 127) rfl (fun hh => absurd hh c3020) (fun _ => ?_)
        refine mx_WP.go 6 (pc' := 137) (L' := [some (mx_r (some (1, 11, 0))), some (mx_i v1), some (mx_i v2), some (mx_i v3), some (mx_i t0)]) (st' := [mx_i v3, mx_r (some (1, 103, 0)), mx_i ((mx_u3 I 11 0 14 ((I 11 0 14) + (1 : Int32))) 11 0 13), mx_r (some (1, 11, 0))]) (σ' := (γ, hM (mx_u3 I 11 0 14 ((I 11 0 14) + (1 : Int32))) (mx_u3 J 103 0 v3.toNatClampNeg ((J 103 0 v3.toNatClampNeg) ||| (v1.toInt64 <<< (((8 : Int32) * (I 11 0 14)).toInt64 &&& 63)))), κ)) rfl ?_
        by_cases c5021 : v3 < 0 ∨ 512 ≤ v3.toNatClampNeg
        · rw [if_pos c5021] at hf
          cases hf
        rw [if_neg c5021] at hf
        refine mx_WP.laldx c5021 ?_
        show mx_WP (d + 1) 132 138 [some (mx_r (some (1, 11, 0))), some (mx_i v1), some (mx_i v2), some (mx_i v3), some (mx_i t0)] [mx_l ((mx_u3 J 103 0 v3.toNatClampNeg ((J 103 0 v3.toNatClampNeg) ||| (v1.toInt64 <<< (((8 : Int32) * (I 11 0 14)).toInt64 &&& 63)))) 103 0 v3.toNatClampNeg), mx_i ((mx_u3 I 11 0 14 ((I 11 0 14) + (1 : Int32))) 11 0 13), mx_r (some (1, 11, 0))] (γ, hM (mx_u3 I 11 0 14 ((I 11 0 14) + (1 : Int32))) (mx_u3 J 103 0 v3.toNatClampNeg ((J 103 0 v3.toNatClampNeg) ||| (v1.toInt64 <<< (((8 : Int32) * (I 11 0 14)).toInt64 &&& 63)))), κ) Q
        obtain ⟨u5022, e5024, hf⟩ := Option.bind_eq_some_iff.mp hf
        refine mx_WP.call (d := d + 0) (y := 133) (as := [mx_r (some (1, 11, 0)), mx_i ((mx_u3 I 11 0 14 ((I 11 0 14) + (1 : Int32))) 11 0 13), mx_l ((mx_u3 J 103 0 v3.toNatClampNeg ((J 103 0 v3.toNatClampNeg) ||| (v1.toInt64 <<< (((8 : Int32) * (I 11 0 14)).toInt64 &&& 63)))) 103 0 v3.toNatClampNeg)]) (pc' := 141) (r := []) rfl rfl (T133 (d := d + 0)  e5024 ?_)
        show mx_WP (d + 1) 132 141 [some (mx_r (some (1, 11, 0))), some (mx_i v1), some (mx_i v2), some (mx_i v3), some (mx_i t0)] [mx_i (b2i u5022)] (γ, hM (mx_u3 I 11 0 14 ((I 11 0 14) + (1 : Int32))) (mx_u3 J 103 0 v3.toNatClampNeg ((J 103 0 v3.toNatClampNeg) ||| (v1.toInt64 <<< (((8 : Int32) * (I 11 0 14)).toInt64 &&& 63)))), κ) Q
        by_cases c5023 : u5022 = true
        · rw [if_pos c5023] at hf
          refine mx_WP.zne (b := u5022) (q := 148) (p3 := 144) rfl (fun _ => ?_) (fun hh => absurd hh (by simp [c5023]))
          refine mx_WP.go 1 (pc' := 149) (L' := [some (mx_r (some (1, 11, 0))), some (mx_i v1), some (mx_i v2), some (mx_i v3), some (mx_i t0)]) (st' := [mx_i (0 : Int32)]) (σ' := (γ, hM (mx_u3 I 11 0 14 ((I 11 0 14) + (1 : Int32))) (mx_u3 J 103 0 v3.toNatClampNeg ((J 103 0 v3.toNatClampNeg) ||| (v1.toInt64 <<< (((8 : Int32) * (I 11 0 14)).toInt64 &&& 63)))), κ)) rfl ?_
          exact J132_149 (d := d) hf hk
        · rw [if_neg c5023] at hf
          refine mx_WP.zne (b := u5022) (q := 148) (p3 := 144) rfl (fun hh => absurd hh (by simp [c5023])) (fun _ => ?_)
          exact J132_144 (d := d) hf hk
def j132_80 (v1 : Int32) (v2 : Int32) (v3 : Int32) (I : Nat → Nat → Nat → Int32) (J : Nat → Nat → Nat → Int64) : Option (Bool × (Nat → Nat → Nat → Int32) × (Nat → Nat → Nat → Int64)) :=
  j132_81 v1 v2 v3 (0 : Int32) I J
theorem J132_80 {d : Nat} {v1 : Int32} {v2 : Int32} {v3 : Int32} {z4 : Option mx_V} {γ : mx_Rg} {I : Nat → Nat → Nat → Int32} {J : Nat → Nat → Nat → Int64} {κ : (Nat × (Nat → Int32)) × (Nat × Nat)} {Q : Option mx_V → mx_Hp → Prop} {o : Bool × (Nat → Nat → Nat → Int32) × (Nat → Nat → Nat → Int64)} (hf : j132_80 v1 v2 v3 I J = some o) (hk : Q (some (mx_i (b2i o.1))) (γ, hM o.2.1 o.2.2, κ)) : mx_WP (d + 1) 132 80 [some (mx_r (some (1, 11, 0))), some (mx_i v1), some (mx_i v2), some (mx_i v3), z4] [] (γ, hM I J, κ) Q := by
  unfold j132_80 at hf
  refine mx_WP.go 1 (pc' := 81) (L' := [some (mx_r (some (1, 11, 0))), some (mx_i v1), some (mx_i v2), some (mx_i v3), z4]) (st' := [mx_i (0 : Int32)]) (σ' := (γ, hM I J, κ)) rfl ?_
  exact J132_81 (d := d) hf hk
def f132 (x1 : Int32) (x2 : Int32) (I : Nat → Nat → Nat → Int32) (J : Nat → Nat → Nat → Int64) : Option (Bool × (Nat → Nat → Nat → Int32) × (Nat → Nat → Nat → Int64)) :=
  if (I 11 0 13) < 0 ∨ 128 ≤ (I 11 0 13).toNatClampNeg then none else if (I 11 0 13) < 0 ∨ 128 ≤ (I 11 0 13).toNatClampNeg then none else if (I 11 0 13) < 0 ∨ 128 ≤ (I 11 0 13).toNatClampNeg then none else if x2 = (0 : Int32) then (if x1 = (61 : Int32) then (if ((((4 : Int32) * (I 11 0 13)) + (I 107 0 ((I 11 0 13).toNatClampNeg))) - (1 : Int32)) < 0 ∨ 512 ≤ ((((4 : Int32) * (I 11 0 13)) + (I 107 0 ((I 11 0 13).toNatClampNeg))) - (1 : Int32)).toNatClampNeg then none else (f133 (I 11 0 13) (J 103 0 (((((4 : Int32) * (I 11 0 13)) + (I 107 0 ((I 11 0 13).toNatClampNeg))) - (1 : Int32)).toNatClampNeg)) (mx_u3 I 107 0 ((I 11 0 13).toNatClampNeg) ((I 107 0 ((I 11 0 13).toNatClampNeg)) - (1 : Int32))) J).bind fun u7 =>
  if u7 = true then (j132_80 x1 x2 ((((4 : Int32) * (I 11 0 13)) + (I 107 0 ((I 11 0 13).toNatClampNeg))) - (1 : Int32)) (mx_u3 I 107 0 ((I 11 0 13).toNatClampNeg) ((I 107 0 ((I 11 0 13).toNatClampNeg)) - (1 : Int32))) J) else j132_81 x1 x2 ((((4 : Int32) * (I 11 0 13)) + (I 107 0 ((I 11 0 13).toNatClampNeg))) - (1 : Int32)) (1 : Int32) (mx_u3 I 107 0 ((I 11 0 13).toNatClampNeg) ((I 107 0 ((I 11 0 13).toNatClampNeg)) - (1 : Int32))) J) else j132_80 x1 x2 ((((4 : Int32) * (I 11 0 13)) + (I 107 0 ((I 11 0 13).toNatClampNeg))) - (1 : Int32)) (mx_u3 I 107 0 ((I 11 0 13).toNatClampNeg) ((I 107 0 ((I 11 0 13).toNatClampNeg)) - (1 : Int32))) J) else if (8 : Int32) ≤ (I 11 0 14) then (j132_81 x1 x2 ((((4 : Int32) * (I 11 0 13)) + (I 107 0 ((I 11 0 13).toNatClampNeg))) - (1 : Int32)) (0 : Int32) (mx_u3 I 107 0 ((I 11 0 13).toNatClampNeg) ((I 107 0 ((I 11 0 13).toNatClampNeg)) - (1 : Int32))) J) else j132_81 x1 x2 ((((4 : Int32) * (I 11 0 13)) + (I 107 0 ((I 11 0 13).toNatClampNeg))) - (1 : Int32)) (1 : Int32) (mx_u3 I 107 0 ((I 11 0 13).toNatClampNeg) ((I 107 0 ((I 11 0 13).toNatClampNeg)) - (1 : Int32))) J
theorem T132 {d : Nat} {x1 : Int32} {x2 : Int32} {γ : mx_Rg} {I : Nat → Nat → Nat → Int32} {J : Nat → Nat → Nat → Int64} {κ : (Nat × (Nat → Int32)) × (Nat × Nat)} {Q : Option mx_V → mx_Hp → Prop} {o : Bool × (Nat → Nat → Nat → Int32) × (Nat → Nat → Nat → Int64)} (hf : f132 x1 x2 I J = some o) (hk : Q (some (mx_i (b2i o.1))) (γ, hM o.2.1 o.2.2, κ)) : mx_WP (d + 1) 132 0 (mx_ent 132 [mx_r (some (1, 11, 0)), mx_i x1, mx_i x2]) [] (γ, hM I J, κ) Q := by
  unfold f132 at hf
  refine mx_WP.go 8 (pc' := 14) (L' := [some (mx_r (some (1, 11, 0))), some (mx_i x1), some (mx_i x2), none, none]) (st' := [mx_i (I 11 0 13), mx_r (some (1, 107, 0)), mx_i ((4 : Int32) * (I 11 0 13))]) (σ' := (γ, hM I J, κ)) rfl ?_
  by_cases c1 : (I 11 0 13) < 0 ∨ 128 ≤ (I 11 0 13).toNatClampNeg
  · rw [if_pos c1] at hf
    cases hf
  rw [if_neg c1] at hf
  refine mx_WP.ialdx c1 ?_
  show mx_WP (d + 1) 132 15 [some (mx_r (some (1, 11, 0))), some (mx_i x1), some (mx_i x2), none, none] [mx_i (I 107 0 ((I 11 0 13).toNatClampNeg)), mx_i ((4 : Int32) * (I 11 0 13))] (γ, hM I J, κ) Q
  refine mx_WP.go 9 (pc' := 28) (L' := [some (mx_r (some (1, 11, 0))), some (mx_i x1), some (mx_i x2), some (mx_i ((((4 : Int32) * (I 11 0 13)) + (I 107 0 ((I 11 0 13).toNatClampNeg))) - (1 : Int32))), none]) (st' := [mx_i (I 11 0 13), mx_r (some (1, 107, 0)), mx_i (I 11 0 13), mx_r (some (1, 107, 0))]) (σ' := (γ, hM I J, κ)) rfl ?_
  by_cases c2 : (I 11 0 13) < 0 ∨ 128 ≤ (I 11 0 13).toNatClampNeg
  · rw [if_pos c2] at hf
    cases hf
  rw [if_neg c2] at hf
  refine mx_WP.ialdx c2 ?_
  show mx_WP (d + 1) 132 29 [some (mx_r (some (1, 11, 0))), some (mx_i x1), some (mx_i x2), some (mx_i ((((4 : Int32) * (I 11 0 13)) + (I 107 0 ((I 11 0 13).toNatClampNeg))) - (1 : Int32))), none] [mx_i (I 107 0 ((I 11 0 13).toNatClampNeg)), mx_i (I 11 0 13), mx_r (some (1, 107, 0))] (γ, hM I J, κ) Q
  refine mx_WP.go 2 (pc' := 31) (L' := [some (mx_r (some (1, 11, 0))), some (mx_i x1), some (mx_i x2), some (mx_i ((((4 : Int32) * (I 11 0 13)) + (I 107 0 ((I 11 0 13).toNatClampNeg))) - (1 : Int32))), none]) (st' := [mx_i ((I 107 0 ((I 11 0 13).toNatClampNeg)) - (1 : Int32)), mx_i (I 11 0 13), mx_r (some (1, 107, 0))]) (σ' := (γ, hM I J, κ)) rfl ?_
  by_cases c3 : (I 11 0 13) < 0 ∨ 128 ≤ (I 11 0 13).toNatClampNeg
  · rw [if_pos c3] at hf
    cases hf
  rw [if_neg c3] at hf
  refine mx_WP.iastx c3 ?_
  show mx_WP (d + 1) 132 32 [some (mx_r (some (1, 11, 0))), some (mx_i x1), some (mx_i x2), some (mx_i ((((4 : Int32) * (I 11 0 13)) + (I 107 0 ((I 11 0 13).toNatClampNeg))) - (1 : Int32))), none] [] (γ, hM (mx_u3 I 107 0 ((I 11 0 13).toNatClampNeg) ((I 107 0 ((I 11 0 13).toNatClampNeg)) - (1 : Int32))) J, κ) Q
  refine mx_WP.go 1 (pc' := 33) (L' := [some (mx_r (some (1, 11, 0))), some (mx_i x1), some (mx_i x2), some (mx_i ((((4 : Int32) * (I 11 0 13)) + (I 107 0 ((I 11 0 13).toNatClampNeg))) - (1 : Int32))), none]) (st' := [mx_i x2]) (σ' := (γ, hM (mx_u3 I 107 0 ((I 11 0 13).toNatClampNeg) ((I 107 0 ((I 11 0 13).toNatClampNeg)) - (1 : Int32))) J, κ)) rfl ?_
  by_cases c4 : x2 = (0 : Int32)
  · rw [if_pos c4] at hf
    refine mx_WP.beq (x := x2) (y := (0 : Int32)) (q := 53) (p3 := 36) rfl (fun _ => ?_) (fun hh => absurd c4 hh)
    refine mx_WP.go 2 (pc' := 56) (L' := [some (mx_r (some (1, 11, 0))), some (mx_i x1), some (mx_i x2), some (mx_i ((((4 : Int32) * (I 11 0 13)) + (I 107 0 ((I 11 0 13).toNatClampNeg))) - (1 : Int32))), none]) (st' := [mx_i (61 : Int32), mx_i x1]) (σ' := (γ, hM (mx_u3 I 107 0 ((I 11 0 13).toNatClampNeg) ((I 107 0 ((I 11 0 13).toNatClampNeg)) - (1 : Int32))) J, κ)) rfl ?_
    by_cases c5 : x1 = (61 : Int32)
    · rw [if_pos c5] at hf
      refine mx_WP.bne (x := x1) (y := (61 : Int32)) (q := 80) (p3 := 59) rfl (fun hh => absurd c5 hh) (fun _ => ?_)
      refine mx_WP.go 6 (pc' := 69) (L' := [some (mx_r (some (1, 11, 0))), some (mx_i x1), some (mx_i x2), some (mx_i ((((4 : Int32) * (I 11 0 13)) + (I 107 0 ((I 11 0 13).toNatClampNeg))) - (1 : Int32))), none]) (st' := [mx_i ((((4 : Int32) * (I 11 0 13)) + (I 107 0 ((I 11 0 13).toNatClampNeg))) - (1 : Int32)), mx_r (some (1, 103, 0)), mx_i (I 11 0 13), mx_r (some (1, 11, 0))]) (σ' := (γ, hM (mx_u3 I 107 0 ((I 11 0 13).toNatClampNeg) ((I 107 0 ((I 11 0 13).toNatClampNeg)) - (1 : Int32))) J, κ)) rfl ?_
      by_cases c6 : ((((4 : Int32) * (I 11 0 13)) + (I 107 0 ((I 11 0 13).toNatClampNeg))) - (1 : Int32)) < 0 ∨ 512 ≤ ((((4 : Int32) * (I 11 0 13)) + (I 107 0 ((I 11 0 13).toNatClampNeg))) - (1 : Int32)).toNatClampNeg
      · rw [if_pos c6] at hf
        cases hf
      rw [if_neg c6] at hf
      refine mx_WP.laldx c6 ?_
      show mx_WP (d + 1) 132 70 [some (mx_r (some (1, 11, 0))), some (mx_i x1), some (mx_i x2), some (mx_i ((((4 : Int32) * (I 11 0 13)) + (I 107 0 ((I 11 0 13).toNatClampNeg))) - (1 : Int32))), none] [mx_l (J 103 0 (((((4 : Int32) * (I 11 0 13)) + (I 107 0 ((I 11 0 13).toNatClampNeg))) - (1 : Int32)).toNatClampNeg)), mx_i (I 11 0 13), mx_r (some (1, 11, 0))] (γ, hM (mx_u3 I 107 0 ((I 11 0 13).toNatClampNeg) ((I 107 0 ((I 11 0 13).toNatClampNeg)) - (1 : Int32))) J, κ) Q
      obtain ⟨u7, e5025, hf⟩ := Option.bind_eq_some_iff.mp hf
      refine mx_WP.call (d := d + 0) (y := 133) (as := [mx_r (some (1, 11, 0)), mx_i (I 11 0 13), mx_l (J 103 0 (((((4 : Int32) * (I 11 0 13)) + (I 107 0 ((I 11 0 13).toNatClampNeg))) - (1 : Int32)).toNatClampNeg))]) (pc' := 73) (r := []) rfl rfl (T133 (d := d + 0)  e5025 ?_)
      show mx_WP (d + 1) 132 73 [some (mx_r (some (1, 11, 0))), some (mx_i x1), some (mx_i x2), some (mx_i ((((4 : Int32) * (I 11 0 13)) + (I 107 0 ((I 11 0 13).toNatClampNeg))) - (1 : Int32))), none] [mx_i (b2i u7)] (γ, hM (mx_u3 I 107 0 ((I 11 0 13).toNatClampNeg) ((I 107 0 ((I 11 0 13).toNatClampNeg)) - (1 : Int32))) J, κ) Q
      by_cases c8 : u7 = true
      · rw [if_pos c8] at hf
        refine mx_WP.zne (b := u7) (q := 80) (p3 := 76) rfl (fun _ => ?_) (fun hh => absurd hh (by simp [c8]))
        exact J132_80 (d := d) hf hk
      · rw [if_neg c8] at hf
        refine mx_WP.zne (b := u7) (q := 80) (p3 := 76) rfl (fun hh => absurd hh (by simp [c8])) (fun _ => ?_)
        refine mx_WP.go 2 (pc' := 81) (L' := [some (mx_r (some (1, 11, 0))), some (mx_i x1), some (mx_i x2), some (mx_i ((((4 : Int32) * (I 11 0 13)) + (I 107 0 ((I 11 0 13).toNatClampNeg))) - (1 : Int32))), none]) (st' := [mx_i (1 : Int32)]) (σ' := (γ, hM (mx_u3 I 107 0 ((I 11 0 13).toNatClampNeg) ((I 107 0 ((I 11 0 13).toNatClampNeg)) - (1 : Int32))) J, κ)) rfl ?_
        exact J132_81 (d := d) hf hk
    · rw [if_neg c5] at hf
      refine mx_WP.bne (x := x1) (y := (61 : Int32)) (q := 80) (p3 := 59) rfl (fun _ => ?_) (fun hh => absurd c5 hh)
      exact J132_80 (d := d) hf hk
  · rw [if_neg c4] at hf
    refine mx_WP.beq (x := x2) (y := (0 : Int32)) (q := 53) (p3 := 36) rfl (fun hh => absurd hh c4) (fun _ => ?_)
    refine mx_WP.go 3 (pc' := 42) (L' := [some (mx_r (some (1, 11, 0))), some (mx_i x1), some (mx_i x2), some (mx_i ((((4 : Int32) * (I 11 0 13)) + (I 107 0 ((I 11 0 13).toNatClampNeg))) - (1 : Int32))), none]) (st' := [mx_i (8 : Int32), mx_i (I 11 0 14)]) (σ' := (γ, hM (mx_u3 I 107 0 ((I 11 0 13).toNatClampNeg) ((I 107 0 ((I 11 0 13).toNatClampNeg)) - (1 : Int32))) J, κ)) rfl ?_
    by_cases c5026 : (8 : Int32) ≤ (I 11 0 14)
    · rw [if_pos c5026] at hf
      refine mx_WP.bge (x := (I 11 0 14)) (y := (8 : Int32)) (q := 49) (p3 := 45) rfl (fun _ => ?_) (fun hh => absurd c5026 hh)
      refine mx_WP.go 2 (pc' := 81) (L' := [some (mx_r (some (1, 11, 0))), some (mx_i x1), some (mx_i x2), some (mx_i ((((4 : Int32) * (I 11 0 13)) + (I 107 0 ((I 11 0 13).toNatClampNeg))) - (1 : Int32))), none]) (st' := [mx_i (0 : Int32)]) (σ' := (γ, hM (mx_u3 I 107 0 ((I 11 0 13).toNatClampNeg) ((I 107 0 ((I 11 0 13).toNatClampNeg)) - (1 : Int32))) J, κ)) rfl ?_
      exact J132_81 (d := d) hf hk
    · rw [if_neg c5026] at hf
      refine mx_WP.bge (x := (I 11 0 14)) (y := (8 : Int32)) (q := 49) (p3 := 45) rfl (fun hh => absurd hh c5026) (fun _ => ?_)
      refine mx_WP.go 2 (pc' := 81) (L' := [some (mx_r (some (1, 11, 0))), some (mx_i x1), some (mx_i x2), some (mx_i ((((4 : Int32) * (I 11 0 13)) + (I 107 0 ((I 11 0 13).toNatClampNeg))) - (1 : Int32))), none]) (st' := [mx_i (1 : Int32)]) (σ' := (γ, hM (mx_u3 I 107 0 ((I 11 0 13).toNatClampNeg) ((I 107 0 ((I 11 0 13).toNatClampNeg)) - (1 : Int32))) J, κ)) rfl ?_
      exact J132_81 (d := d) hf hk
def f131 (x1 : Int32) (I : Nat → Nat → Nat → Int32) (J : Nat → Nat → Nat → Int64) : Option (Bool × (Nat → Nat → Nat → Int32) × (Nat → Nat → Nat → Int64)) :=
  if (I 11 0 13) < 0 ∨ 128 ≤ (I 11 0 13).toNatClampNeg then none else if (I 107 0 ((I 11 0 13).toNatClampNeg)) = (4 : Int32) then (some (false, I, J)) else if (I 11 0 13) < 0 ∨ 128 ≤ (I 11 0 13).toNatClampNeg then none else if (I 11 0 13) < 0 ∨ 128 ≤ (I 11 0 13).toNatClampNeg then none else if (((4 : Int32) * (I 11 0 13)) + (I 107 0 ((I 11 0 13).toNatClampNeg))) < 0 ∨ 512 ≤ (((4 : Int32) * (I 11 0 13)) + (I 107 0 ((I 11 0 13).toNatClampNeg))).toNatClampNeg then none else if (((4 : Int32) * (I 11 0 13)) + (I 107 0 ((I 11 0 13).toNatClampNeg))) < 0 ∨ 512 ≤ (((4 : Int32) * (I 11 0 13)) + (I 107 0 ((I 11 0 13).toNatClampNeg))).toNatClampNeg then none else (f132 x1 (1 : Int32) (mx_u3 (mx_u3 (mx_u3 I 107 0 ((I 11 0 13).toNatClampNeg) ((I 107 0 ((I 11 0 13).toNatClampNeg)) + (1 : Int32))) 11 0 14 (0 : Int32)) 11 0 11 (4 : Int32)) (mx_u3 (mx_u3 J 103 0 ((((4 : Int32) * (I 11 0 13)) + (I 107 0 ((I 11 0 13).toNatClampNeg))).toNatClampNeg) (0 : Int64)) 104 0 ((((4 : Int32) * (I 11 0 13)) + (I 107 0 ((I 11 0 13).toNatClampNeg))).toNatClampNeg) (0 : Int64))).bind fun u7 =>
  some (u7.1, u7.2.1, u7.2.2)
theorem T131 {d : Nat} {x1 : Int32} {γ : mx_Rg} {I : Nat → Nat → Nat → Int32} {J : Nat → Nat → Nat → Int64} {κ : (Nat × (Nat → Int32)) × (Nat × Nat)} {Q : Option mx_V → mx_Hp → Prop} {o : Bool × (Nat → Nat → Nat → Int32) × (Nat → Nat → Nat → Int64)} (hf : f131 x1 I J = some o) (hk : Q (some (mx_i (b2i o.1))) (γ, hM o.2.1 o.2.2, κ)) : mx_WP (d + 2) 131 0 (mx_ent 131 [mx_r (some (1, 11, 0)), mx_i x1]) [] (γ, hM I J, κ) Q := by
  unfold f131 at hf
  refine mx_WP.go 4 (pc' := 8) (L' := [some (mx_r (some (1, 11, 0))), some (mx_i x1), none]) (st' := [mx_i (I 11 0 13), mx_r (some (1, 107, 0))]) (σ' := (γ, hM I J, κ)) rfl ?_
  by_cases c1 : (I 11 0 13) < 0 ∨ 128 ≤ (I 11 0 13).toNatClampNeg
  · rw [if_pos c1] at hf
    cases hf
  rw [if_neg c1] at hf
  refine mx_WP.ialdx c1 ?_
  show mx_WP (d + 2) 131 9 [some (mx_r (some (1, 11, 0))), some (mx_i x1), none] [mx_i (I 107 0 ((I 11 0 13).toNatClampNeg))] (γ, hM I J, κ) Q
  refine mx_WP.go 1 (pc' := 10) (L' := [some (mx_r (some (1, 11, 0))), some (mx_i x1), none]) (st' := [mx_i (4 : Int32), mx_i (I 107 0 ((I 11 0 13).toNatClampNeg))]) (σ' := (γ, hM I J, κ)) rfl ?_
  by_cases c2 : (I 107 0 ((I 11 0 13).toNatClampNeg)) = (4 : Int32)
  · rw [if_pos c2] at hf
    refine mx_WP.bne (x := (I 107 0 ((I 11 0 13).toNatClampNeg))) (y := (4 : Int32)) (q := 15) (p3 := 13) rfl (fun hh => absurd c2 hh) (fun _ => ?_)
    refine mx_WP.go 1 (pc' := 14) (L' := [some (mx_r (some (1, 11, 0))), some (mx_i x1), none]) (st' := [mx_i (0 : Int32)]) (σ' := (γ, hM I J, κ)) rfl ?_
    rw [← Option.some.inj hf] at hk
    refine mx_WP.ret (v := some (mx_i (0 : Int32))) rfl ?_
    exact hk
  · rw [if_neg c2] at hf
    refine mx_WP.bne (x := (I 107 0 ((I 11 0 13).toNatClampNeg))) (y := (4 : Int32)) (q := 15) (p3 := 13) rfl (fun _ => ?_) (fun hh => absurd c2 hh)
    refine mx_WP.go 9 (pc' := 30) (L' := [some (mx_r (some (1, 11, 0))), some (mx_i x1), none]) (st' := [mx_i (I 11 0 13), mx_r (some (1, 107, 0)), mx_i (I 11 0 13), mx_r (some (1, 107, 0)), mx_i ((4 : Int32) * (I 11 0 13))]) (σ' := (γ, hM I J, κ)) rfl ?_
    by_cases c3 : (I 11 0 13) < 0 ∨ 128 ≤ (I 11 0 13).toNatClampNeg
    · rw [if_pos c3] at hf
      cases hf
    rw [if_neg c3] at hf
    refine mx_WP.ialdx c3 ?_
    show mx_WP (d + 2) 131 31 [some (mx_r (some (1, 11, 0))), some (mx_i x1), none] [mx_i (I 107 0 ((I 11 0 13).toNatClampNeg)), mx_i (I 11 0 13), mx_r (some (1, 107, 0)), mx_i ((4 : Int32) * (I 11 0 13))] (γ, hM I J, κ) Q
    refine mx_WP.go 3 (pc' := 34) (L' := [some (mx_r (some (1, 11, 0))), some (mx_i x1), none]) (st' := [mx_i ((I 107 0 ((I 11 0 13).toNatClampNeg)) + (1 : Int32)), mx_i (I 11 0 13), mx_r (some (1, 107, 0)), mx_i (I 107 0 ((I 11 0 13).toNatClampNeg)), mx_i ((4 : Int32) * (I 11 0 13))]) (σ' := (γ, hM I J, κ)) rfl ?_
    by_cases c4 : (I 11 0 13) < 0 ∨ 128 ≤ (I 11 0 13).toNatClampNeg
    · rw [if_pos c4] at hf
      cases hf
    rw [if_neg c4] at hf
    refine mx_WP.iastx c4 ?_
    show mx_WP (d + 2) 131 35 [some (mx_r (some (1, 11, 0))), some (mx_i x1), none] [mx_i (I 107 0 ((I 11 0 13).toNatClampNeg)), mx_i ((4 : Int32) * (I 11 0 13))] (γ, hM (mx_u3 I 107 0 ((I 11 0 13).toNatClampNeg) ((I 107 0 ((I 11 0 13).toNatClampNeg)) + (1 : Int32))) J, κ) Q
    refine mx_WP.go 6 (pc' := 43) (L' := [some (mx_r (some (1, 11, 0))), some (mx_i x1), some (mx_i (((4 : Int32) * (I 11 0 13)) + (I 107 0 ((I 11 0 13).toNatClampNeg))))]) (st' := [mx_l (0 : Int64), mx_i (((4 : Int32) * (I 11 0 13)) + (I 107 0 ((I 11 0 13).toNatClampNeg))), mx_r (some (1, 103, 0))]) (σ' := (γ, hM (mx_u3 I 107 0 ((I 11 0 13).toNatClampNeg) ((I 107 0 ((I 11 0 13).toNatClampNeg)) + (1 : Int32))) J, κ)) rfl ?_
    by_cases c5 : (((4 : Int32) * (I 11 0 13)) + (I 107 0 ((I 11 0 13).toNatClampNeg))) < 0 ∨ 512 ≤ (((4 : Int32) * (I 11 0 13)) + (I 107 0 ((I 11 0 13).toNatClampNeg))).toNatClampNeg
    · rw [if_pos c5] at hf
      cases hf
    rw [if_neg c5] at hf
    refine mx_WP.lastx c5 ?_
    show mx_WP (d + 2) 131 44 [some (mx_r (some (1, 11, 0))), some (mx_i x1), some (mx_i (((4 : Int32) * (I 11 0 13)) + (I 107 0 ((I 11 0 13).toNatClampNeg))))] [] (γ, hM (mx_u3 I 107 0 ((I 11 0 13).toNatClampNeg) ((I 107 0 ((I 11 0 13).toNatClampNeg)) + (1 : Int32))) (mx_u3 J 103 0 ((((4 : Int32) * (I 11 0 13)) + (I 107 0 ((I 11 0 13).toNatClampNeg))).toNatClampNeg) (0 : Int64)), κ) Q
    refine mx_WP.go 4 (pc' := 50) (L' := [some (mx_r (some (1, 11, 0))), some (mx_i x1), some (mx_i (((4 : Int32) * (I 11 0 13)) + (I 107 0 ((I 11 0 13).toNatClampNeg))))]) (st' := [mx_l (0 : Int64), mx_i (((4 : Int32) * (I 11 0 13)) + (I 107 0 ((I 11 0 13).toNatClampNeg))), mx_r (some (1, 104, 0))]) (σ' := (γ, hM (mx_u3 I 107 0 ((I 11 0 13).toNatClampNeg) ((I 107 0 ((I 11 0 13).toNatClampNeg)) + (1 : Int32))) (mx_u3 J 103 0 ((((4 : Int32) * (I 11 0 13)) + (I 107 0 ((I 11 0 13).toNatClampNeg))).toNatClampNeg) (0 : Int64)), κ)) rfl ?_
    by_cases c6 : (((4 : Int32) * (I 11 0 13)) + (I 107 0 ((I 11 0 13).toNatClampNeg))) < 0 ∨ 512 ≤ (((4 : Int32) * (I 11 0 13)) + (I 107 0 ((I 11 0 13).toNatClampNeg))).toNatClampNeg
    · rw [if_pos c6] at hf
      cases hf
    rw [if_neg c6] at hf
    refine mx_WP.lastx c6 ?_
    show mx_WP (d + 2) 131 51 [some (mx_r (some (1, 11, 0))), some (mx_i x1), some (mx_i (((4 : Int32) * (I 11 0 13)) + (I 107 0 ((I 11 0 13).toNatClampNeg))))] [] (γ, hM (mx_u3 I 107 0 ((I 11 0 13).toNatClampNeg) ((I 107 0 ((I 11 0 13).toNatClampNeg)) + (1 : Int32))) (mx_u3 (mx_u3 J 103 0 ((((4 : Int32) * (I 11 0 13)) + (I 107 0 ((I 11 0 13).toNatClampNeg))).toNatClampNeg) (0 : Int64)) 104 0 ((((4 : Int32) * (I 11 0 13)) + (I 107 0 ((I 11 0 13).toNatClampNeg))).toNatClampNeg) (0 : Int64)), κ) Q
    refine mx_WP.go 9 (pc' := 64) (L' := [some (mx_r (some (1, 11, 0))), some (mx_i x1), some (mx_i (((4 : Int32) * (I 11 0 13)) + (I 107 0 ((I 11 0 13).toNatClampNeg))))]) (st' := [mx_i (1 : Int32), mx_i x1, mx_r (some (1, 11, 0))]) (σ' := (γ, hM (mx_u3 (mx_u3 (mx_u3 I 107 0 ((I 11 0 13).toNatClampNeg) ((I 107 0 ((I 11 0 13).toNatClampNeg)) + (1 : Int32))) 11 0 14 (0 : Int32)) 11 0 11 (4 : Int32)) (mx_u3 (mx_u3 J 103 0 ((((4 : Int32) * (I 11 0 13)) + (I 107 0 ((I 11 0 13).toNatClampNeg))).toNatClampNeg) (0 : Int64)) 104 0 ((((4 : Int32) * (I 11 0 13)) + (I 107 0 ((I 11 0 13).toNatClampNeg))).toNatClampNeg) (0 : Int64)), κ)) rfl ?_
    obtain ⟨u7, e8, hf⟩ := Option.bind_eq_some_iff.mp hf
    refine mx_WP.call (d := d + 1) (y := 132) (as := [mx_r (some (1, 11, 0)), mx_i x1, mx_i (1 : Int32)]) (pc' := 67) (r := []) rfl rfl (T132 (d := d + 0)  e8 ?_)
    show mx_WP (d + 2) 131 67 [some (mx_r (some (1, 11, 0))), some (mx_i x1), some (mx_i (((4 : Int32) * (I 11 0 13)) + (I 107 0 ((I 11 0 13).toNatClampNeg))))] [mx_i (b2i u7.1)] (γ, hM u7.2.1 u7.2.2, κ) Q
    rw [← Option.some.inj hf] at hk
    refine mx_WP.retz (b2i_01 _) (by rfl) (by rfl) ?_
    exact hk
def j128_26 (v1 : Int32) (v2 : Int32) (v3 : Int32) (t0 : Int32) (I : Nat → Nat → Nat → Int32) (J : Nat → Nat → Nat → Int64) : Option (Bool × (Nat → Nat → Nat → Int32) × (Nat → Nat → Nat → Int64)) :=
  if (I 11 0 11) = (0 : Int32) then (if t0 = (0 : Int32) then (if v2 = (60 : Int32) then (if (0 : Int32) ≤ ((mx_u3 I 11 0 11 (1 : Int32)) 11 0 12) then (some (true, (mx_u3 I 11 0 11 (1 : Int32)), J)) else if v1 < 0 ∨ 8 ≤ v1.toNatClampNeg then none else if (16 : Int32) ≤ (I 100 0 v1.toNatClampNeg) then (some (false, (mx_u3 I 11 0 11 (1 : Int32)), J)) else some (true, (mx_u3 I 11 0 11 (1 : Int32)), J)) else some (false, (mx_u3 I 11 0 11 (1 : Int32)), J)) else some (true, I, J)) else if (I 11 0 11) = (1 : Int32) then (if v2 = (47 : Int32) then (if ((mx_u3 (mx_u3 I 11 0 11 (9 : Int32)) 11 0 14 (0 : Int32)) 11 0 12) < (0 : Int32) then (some (false, (mx_u3 (mx_u3 I 11 0 11 (9 : Int32)) 11 0 14 (0 : Int32)), J)) else some (true, (mx_u3 (mx_u3 I 11 0 11 (9 : Int32)) 11 0 14 (0 : Int32)), J)) else if v3 = (0 : Int32) then (some (false, I, J)) else (f129 v1 v2 I J).bind fun u2013 =>
  if u2013.1 = true then (some (true, u2013.2.1, u2013.2.2)) else some (false, u2013.2.1, u2013.2.2)) else if (I 11 0 11) = (2 : Int32) then (if v3 = (0 : Int32) then ((f130 v2 t0 I).bind fun u2018 =>
  some (u2018.1, u2018.2, J)) else if (I 11 0 14) = (8 : Int32) then (some (false, I, J)) else if (I 11 0 13) < 0 ∨ 128 ≤ (I 11 0 13).toNatClampNeg then none else if (I 11 0 13) < 0 ∨ 128 ≤ (I 11 0 13).toNatClampNeg then none else some (true, (mx_u3 I 11 0 14 ((I 11 0 14) + (1 : Int32))), (mx_u3 J 102 0 ((I 11 0 13).toNatClampNeg) ((J 102 0 ((I 11 0 13).toNatClampNeg)) ||| (v2.toInt64 <<< (((8 : Int32) * (I 11 0 14)).toInt64 &&& 63)))))) else if (I 11 0 11) = (3 : Int32) then (if v3 = (0 : Int32) then ((f130 v2 t0 I).bind fun u2025 =>
  some (u2025.1, u2025.2, J)) else (f131 v2 I J).bind fun u2027 =>
  some (u2027.1, u2027.2.1, u2027.2.2)) else if (I 11 0 11) = (4 : Int32) then ((f132 v2 v3 I J).bind fun u2030 =>
  some (u2030.1, u2030.2.1, u2030.2.2)) else if (I 11 0 11) = (5 : Int32) then (if v2 = (34 : Int32) then (some (true, (mx_u3 (mx_u3 I 11 0 11 (6 : Int32)) 11 0 14 (0 : Int32)), J)) else some (false, (mx_u3 (mx_u3 I 11 0 11 (6 : Int32)) 11 0 14 (0 : Int32)), J)) else if (I 11 0 11) = (6 : Int32) then (if v2 = (34 : Int32) then (some (true, (mx_u3 I 11 0 11 (7 : Int32)), J)) else if (I 11 0 14) = (8 : Int32) then (some (false, I, J)) else (f123 v2).bind fun u2037 =>
  if u2037 = true then (if (I 11 0 13) < 0 ∨ 128 ≤ (I 11 0 13).toNatClampNeg then none else if ((((4 : Int32) * (I 11 0 13)) + (I 107 0 ((I 11 0 13).toNatClampNeg))) - (1 : Int32)) < 0 ∨ 512 ≤ ((((4 : Int32) * (I 11 0 13)) + (I 107 0 ((I 11 0 13).toNatClampNeg))) - (1 : Int32)).toNatClampNeg then none else if ((((4 : Int32) * (I 11 0 13)) + (I 107 0 ((I 11 0 13).toNatClampNeg))) - (1 : Int32)) < 0 ∨ 512 ≤ ((((4 : Int32) * (I 11 0 13)) + (I 107 0 ((I 11 0 13).toNatClampNeg))) - (1 : Int32)).toNatClampNeg then none else some (true, (mx_u3 I 11 0 14 ((I 11 0 14) + (1 : Int32))), (mx_u3 J 104 0 (((((4 : Int32) * (I 11 0 13)) + (I 107 0 ((I 11 0 13).toNatClampNeg))) - (1 : Int32)).toNatClampNeg) ((J 104 0 (((((4 : Int32) * (I 11 0 13)) + (I 107 0 ((I 11 0 13).toNatClampNeg))) - (1 : Int32)).toNatClampNeg)) ||| (v2.toInt64 <<< (((8 : Int32) * (I 11 0 14)).toInt64 &&& 63)))))) else some (false, I, J)) else if (I 11 0 11) = (7 : Int32) then ((f130 v2 t0 I).bind fun u2044 =>
  some (u2044.1, u2044.2, J)) else if (I 11 0 11) = (8 : Int32) then (if ((mx_u3 I 11 0 11 (0 : Int32)) 11 0 13) < 0 ∨ 128 ≤ ((mx_u3 I 11 0 11 (0 : Int32)) 11 0 13).toNatClampNeg then none else if v2 = (62 : Int32) then (some (true, (mx_u3 (mx_u3 I 11 0 11 (0 : Int32)) 11 0 12 (I 105 0 (((mx_u3 I 11 0 11 (0 : Int32)) 11 0 13).toNatClampNeg))), J)) else some (false, (mx_u3 (mx_u3 I 11 0 11 (0 : Int32)) 11 0 12 (I 105 0 (((mx_u3 I 11 0 11 (0 : Int32)) 11 0 13).toNatClampNeg))), J)) else if (I 11 0 11) = (9 : Int32) then (if (I 11 0 12) < 0 ∨ 128 ≤ (I 11 0 12).toNatClampNeg then none else (f118 (J 102 0 ((I 11 0 12).toNatClampNeg)) (I 11 0 14)).bind fun u2051 =>
  if v2 = u2051 then (if ((mx_u3 I 11 0 14 ((I 11 0 14) + (1 : Int32))) 11 0 14) = (8 : Int32) then (some (true, (mx_u3 (mx_u3 I 11 0 14 ((I 11 0 14) + (1 : Int32))) 11 0 11 (10 : Int32)), J)) else if ((mx_u3 I 11 0 14 ((I 11 0 14) + (1 : Int32))) 11 0 12) < 0 ∨ 128 ≤ ((mx_u3 I 11 0 14 ((I 11 0 14) + (1 : Int32))) 11 0 12).toNatClampNeg then none else (f118 (J 102 0 (((mx_u3 I 11 0 14 ((I 11 0 14) + (1 : Int32))) 11 0 12).toNatClampNeg)) ((mx_u3 I 11 0 14 ((I 11 0 14) + (1 : Int32))) 11 0 14)).bind fun u2055 =>
  if u2055 = (0 : Int32) then (some (true, (mx_u3 (mx_u3 I 11 0 14 ((I 11 0 14) + (1 : Int32))) 11 0 11 (10 : Int32)), J)) else some (true, (mx_u3 I 11 0 14 ((I 11 0 14) + (1 : Int32))), J)) else some (false, I, J)) else if t0 = (0 : Int32) then (if ((mx_u3 I 11 0 11 (0 : Int32)) 11 0 12) < 0 ∨ 128 ≤ ((mx_u3 I 11 0 11 (0 : Int32)) 11 0 12).toNatClampNeg then none else if v2 = (62 : Int32) then (some (true, (mx_u3 (mx_u3 I 11 0 11 (0 : Int32)) 11 0 12 (I 105 0 (((mx_u3 I 11 0 11 (0 : Int32)) 11 0 12).toNatClampNeg))), J)) else some (false, (mx_u3 (mx_u3 I 11 0 11 (0 : Int32)) 11 0 12 (I 105 0 (((mx_u3 I 11 0 11 (0 : Int32)) 11 0 12).toNatClampNeg))), J)) else some (true, I, J)
theorem J128_26 {d : Nat} {v1 : Int32} {v2 : Int32} {v3 : Int32} {t0 : Int32} {z4 : Option mx_V} {γ : mx_Rg} {I : Nat → Nat → Nat → Int32} {J : Nat → Nat → Nat → Int64} {κ : (Nat × (Nat → Int32)) × (Nat × Nat)} {Q : Option mx_V → mx_Hp → Prop} {o : Bool × (Nat → Nat → Nat → Int32) × (Nat → Nat → Nat → Int64)} (hf : j128_26 v1 v2 v3 t0 I J = some o) (hk : Q (some (mx_i (b2i o.1))) (γ, hM o.2.1 o.2.2, κ)) : mx_WP (d + 3) 128 26 [some (mx_r (some (1, 11, 0))), some (mx_i v1), some (mx_i v2), some (mx_i v3), z4] [mx_i t0] (γ, hM I J, κ) Q := by
  unfold j128_26 at hf
  refine mx_WP.go 3 (pc' := 32) (L' := [some (mx_r (some (1, 11, 0))), some (mx_i v1), some (mx_i v2), some (mx_i v3), some (mx_i t0)]) (st' := [mx_i (I 11 0 11)]) (σ' := (γ, hM I J, κ)) rfl ?_
  by_cases c2003 : (I 11 0 11) = (0 : Int32)
  · rw [if_pos c2003] at hf
    refine mx_WP.sw (c := (0 : Int32)) (q := 88) c2003 (by rfl) ?_
    refine mx_WP.go 1 (pc' := 90) (L' := [some (mx_r (some (1, 11, 0))), some (mx_i v1), some (mx_i v2), some (mx_i v3), some (mx_i t0)]) (st' := [mx_i t0]) (σ' := (γ, hM I J, κ)) rfl ?_
    by_cases c2004 : t0 = (0 : Int32)
    · rw [if_pos c2004] at hf
      refine mx_WP.beq (x := t0) (y := (0 : Int32)) (q := 95) (p3 := 93) rfl (fun _ => ?_) (fun hh => absurd c2004 hh)
      refine mx_WP.go 5 (pc' := 103) (L' := [some (mx_r (some (1, 11, 0))), some (mx_i v1), some (mx_i v2), some (mx_i v3), some (mx_i t0)]) (st' := [mx_i (60 : Int32), mx_i v2]) (σ' := (γ, hM (mx_u3 I 11 0 11 (1 : Int32)) J, κ)) rfl ?_
      by_cases c2005 : v2 = (60 : Int32)
      · rw [if_pos c2005] at hf
        refine mx_WP.bne (x := v2) (y := (60 : Int32)) (q := 128) (p3 := 106) rfl (fun hh => absurd c2005 hh) (fun _ => ?_)
        refine mx_WP.go 2 (pc' := 110) (L' := [some (mx_r (some (1, 11, 0))), some (mx_i v1), some (mx_i v2), some (mx_i v3), some (mx_i t0)]) (st' := [mx_i ((mx_u3 I 11 0 11 (1 : Int32)) 11 0 12)]) (σ' := (γ, hM (mx_u3 I 11 0 11 (1 : Int32)) J, κ)) rfl ?_
        by_cases c2006 : (0 : Int32) ≤ ((mx_u3 I 11 0 11 (1 : Int32)) 11 0 12)
        · rw [if_pos c2006] at hf
          refine mx_WP.bge (x := ((mx_u3 I 11 0 11 (1 : Int32)) 11 0 12)) (y := (0 : Int32)) (q := 124) (p3 := 113) rfl (fun _ => ?_) (fun hh => absurd c2006 hh)
          refine mx_WP.go 2 (pc' := 129) (L' := [some (mx_r (some (1, 11, 0))), some (mx_i v1), some (mx_i v2), some (mx_i v3), some (mx_i t0)]) (st' := [mx_i (1 : Int32)]) (σ' := (γ, hM (mx_u3 I 11 0 11 (1 : Int32)) J, κ)) rfl ?_
          rw [← Option.some.inj hf] at hk
          refine mx_WP.ret (v := some (mx_i (1 : Int32))) rfl ?_
          exact hk
        · rw [if_neg c2006] at hf
          refine mx_WP.bge (x := ((mx_u3 I 11 0 11 (1 : Int32)) 11 0 12)) (y := (0 : Int32)) (q := 124) (p3 := 113) rfl (fun hh => absurd hh c2006) (fun _ => ?_)
          refine mx_WP.go 3 (pc' := 118) (L' := [some (mx_r (some (1, 11, 0))), some (mx_i v1), some (mx_i v2), some (mx_i v3), some (mx_i t0)]) (st' := [mx_i v1, mx_r (some (1, 100, 0))]) (σ' := (γ, hM (mx_u3 I 11 0 11 (1 : Int32)) J, κ)) rfl ?_
          by_cases c2007 : v1 < 0 ∨ 8 ≤ v1.toNatClampNeg
          · rw [if_pos c2007] at hf
            cases hf
          rw [if_neg c2007] at hf
          refine mx_WP.ialdx c2007 ?_
          show mx_WP (d + 3) 128 119 [some (mx_r (some (1, 11, 0))), some (mx_i v1), some (mx_i v2), some (mx_i v3), some (mx_i t0)] [mx_i (I 100 0 v1.toNatClampNeg)] (γ, hM (mx_u3 I 11 0 11 (1 : Int32)) J, κ) Q
          refine mx_WP.go 1 (pc' := 121) (L' := [some (mx_r (some (1, 11, 0))), some (mx_i v1), some (mx_i v2), some (mx_i v3), some (mx_i t0)]) (st' := [mx_i (16 : Int32), mx_i (I 100 0 v1.toNatClampNeg)]) (σ' := (γ, hM (mx_u3 I 11 0 11 (1 : Int32)) J, κ)) rfl ?_
          by_cases c2008 : (16 : Int32) ≤ (I 100 0 v1.toNatClampNeg)
          · rw [if_pos c2008] at hf
            refine mx_WP.bge (x := (I 100 0 v1.toNatClampNeg)) (y := (16 : Int32)) (q := 128) (p3 := 124) rfl (fun _ => ?_) (fun hh => absurd c2008 hh)
            refine mx_WP.go 1 (pc' := 129) (L' := [some (mx_r (some (1, 11, 0))), some (mx_i v1), some (mx_i v2), some (mx_i v3), some (mx_i t0)]) (st' := [mx_i (0 : Int32)]) (σ' := (γ, hM (mx_u3 I 11 0 11 (1 : Int32)) J, κ)) rfl ?_
            rw [← Option.some.inj hf] at hk
            refine mx_WP.ret (v := some (mx_i (0 : Int32))) rfl ?_
            exact hk
          · rw [if_neg c2008] at hf
            refine mx_WP.bge (x := (I 100 0 v1.toNatClampNeg)) (y := (16 : Int32)) (q := 128) (p3 := 124) rfl (fun hh => absurd hh c2008) (fun _ => ?_)
            refine mx_WP.go 2 (pc' := 129) (L' := [some (mx_r (some (1, 11, 0))), some (mx_i v1), some (mx_i v2), some (mx_i v3), some (mx_i t0)]) (st' := [mx_i (1 : Int32)]) (σ' := (γ, hM (mx_u3 I 11 0 11 (1 : Int32)) J, κ)) rfl ?_
            rw [← Option.some.inj hf] at hk
            refine mx_WP.ret (v := some (mx_i (1 : Int32))) rfl ?_
            exact hk
      · rw [if_neg c2005] at hf
        refine mx_WP.bne (x := v2) (y := (60 : Int32)) (q := 128) (p3 := 106) rfl (fun _ => ?_) (fun hh => absurd c2005 hh)
        refine mx_WP.go 1 (pc' := 129) (L' := [some (mx_r (some (1, 11, 0))), some (mx_i v1), some (mx_i v2), some (mx_i v3), some (mx_i t0)]) (st' := [mx_i (0 : Int32)]) (σ' := (γ, hM (mx_u3 I 11 0 11 (1 : Int32)) J, κ)) rfl ?_
        rw [← Option.some.inj hf] at hk
        refine mx_WP.ret (v := some (mx_i (0 : Int32))) rfl ?_
        exact hk
    · rw [if_neg c2004] at hf
      refine mx_WP.beq (x := t0) (y := (0 : Int32)) (q := 95) (p3 := 93) rfl (fun hh => absurd hh c2004) (fun _ => ?_)
      refine mx_WP.go 1 (pc' := 94) (L' := [some (mx_r (some (1, 11, 0))), some (mx_i v1), some (mx_i v2), some (mx_i v3), some (mx_i t0)]) (st' := [mx_i (1 : Int32)]) (σ' := (γ, hM I J, κ)) rfl ?_
      rw [← Option.some.inj hf] at hk
      refine mx_WP.ret (v := some (mx_i (1 : Int32))) rfl ?_
      exact hk
  rw [if_neg c2003] at hf
  by_cases c2009 : (I 11 0 11) = (1 : Int32)
  · rw [if_pos c2009] at hf
    refine mx_WP.sw (c := (1 : Int32)) (q := 130) c2009 (by rfl) ?_
    refine mx_WP.go 2 (pc' := 133) (L' := [some (mx_r (some (1, 11, 0))), some (mx_i v1), some (mx_i v2), some (mx_i v3), some (mx_i t0)]) (st' := [mx_i (47 : Int32), mx_i v2]) (σ' := (γ, hM I J, κ)) rfl ?_
    by_cases c2010 : v2 = (47 : Int32)
    · rw [if_pos c2010] at hf
      refine mx_WP.beq (x := v2) (y := (47 : Int32)) (q := 155) (p3 := 136) rfl (fun _ => ?_) (fun hh => absurd c2010 hh)
      refine mx_WP.go 8 (pc' := 170) (L' := [some (mx_r (some (1, 11, 0))), some (mx_i v1), some (mx_i v2), some (mx_i v3), some (mx_i t0)]) (st' := [mx_i ((mx_u3 (mx_u3 I 11 0 11 (9 : Int32)) 11 0 14 (0 : Int32)) 11 0 12)]) (σ' := (γ, hM (mx_u3 (mx_u3 I 11 0 11 (9 : Int32)) 11 0 14 (0 : Int32)) J, κ)) rfl ?_
      by_cases c2011 : ((mx_u3 (mx_u3 I 11 0 11 (9 : Int32)) 11 0 14 (0 : Int32)) 11 0 12) < (0 : Int32)
      · rw [if_pos c2011] at hf
        refine mx_WP.blt (x := ((mx_u3 (mx_u3 I 11 0 11 (9 : Int32)) 11 0 14 (0 : Int32)) 11 0 12)) (y := (0 : Int32)) (q := 177) (p3 := 173) rfl (fun _ => ?_) (fun hh => absurd c2011 hh)
        refine mx_WP.go 1 (pc' := 178) (L' := [some (mx_r (some (1, 11, 0))), some (mx_i v1), some (mx_i v2), some (mx_i v3), some (mx_i t0)]) (st' := [mx_i (0 : Int32)]) (σ' := (γ, hM (mx_u3 (mx_u3 I 11 0 11 (9 : Int32)) 11 0 14 (0 : Int32)) J, κ)) rfl ?_
        rw [← Option.some.inj hf] at hk
        refine mx_WP.ret (v := some (mx_i (0 : Int32))) rfl ?_
        exact hk
      · rw [if_neg c2011] at hf
        refine mx_WP.blt (x := ((mx_u3 (mx_u3 I 11 0 11 (9 : Int32)) 11 0 14 (0 : Int32)) 11 0 12)) (y := (0 : Int32)) (q := 177) (p3 := 173) rfl (fun hh => absurd hh c2011) (fun _ => ?_)
        refine mx_WP.go 2 (pc' := 178) (L' := [some (mx_r (some (1, 11, 0))), some (mx_i v1), some (mx_i v2), some (mx_i v3), some (mx_i t0)]) (st' := [mx_i (1 : Int32)]) (σ' := (γ, hM (mx_u3 (mx_u3 I 11 0 11 (9 : Int32)) 11 0 14 (0 : Int32)) J, κ)) rfl ?_
        rw [← Option.some.inj hf] at hk
        refine mx_WP.ret (v := some (mx_i (1 : Int32))) rfl ?_
        exact hk
    · rw [if_neg c2010] at hf
      refine mx_WP.beq (x := v2) (y := (47 : Int32)) (q := 155) (p3 := 136) rfl (fun hh => absurd hh c2010) (fun _ => ?_)
      refine mx_WP.go 1 (pc' := 137) (L' := [some (mx_r (some (1, 11, 0))), some (mx_i v1), some (mx_i v2), some (mx_i v3), some (mx_i t0)]) (st' := [mx_i v3]) (σ' := (γ, hM I J, κ)) rfl ?_
      by_cases c2012 : v3 = (0 : Int32)
      · rw [if_pos c2012] at hf
        refine mx_WP.beq (x := v3) (y := (0 : Int32)) (q := 153) (p3 := 140) rfl (fun _ => ?_) (fun hh => absurd c2012 hh)
        refine mx_WP.go 1 (pc' := 154) (L' := [some (mx_r (some (1, 11, 0))), some (mx_i v1), some (mx_i v2), some (mx_i v3), some (mx_i t0)]) (st' := [mx_i (0 : Int32)]) (σ' := (γ, hM I J, κ)) rfl ?_
        rw [← Option.some.inj hf] at hk
        refine mx_WP.ret (v := some (mx_i (0 : Int32))) rfl ?_
        exact hk
      · rw [if_neg c2012] at hf
        refine mx_WP.beq (x := v3) (y := (0 : Int32)) (q := 153) (p3 := 140) rfl (fun hh => absurd hh c2012) (fun _ => ?_)
        refine mx_WP.go 3 (pc' := 143) (L' := [some (mx_r (some (1, 11, 0))), some (mx_i v1), some (mx_i v2), some (mx_i v3), some (mx_i t0)]) (st' := [mx_i v2, mx_i v1, mx_r (some (1, 11, 0))]) (σ' := (γ, hM I J, κ)) rfl ?_
        obtain ⟨u2013, e2015, hf⟩ := Option.bind_eq_some_iff.mp hf
        refine mx_WP.call (d := d + 2) (y := 129) (as := [mx_r (some (1, 11, 0)), mx_i v1, mx_i v2]) (pc' := 146) (r := []) rfl rfl (T129 (d := d + 2)  e2015 ?_)
        show mx_WP (d + 3) 128 146 [some (mx_r (some (1, 11, 0))), some (mx_i v1), some (mx_i v2), some (mx_i v3), some (mx_i t0)] [mx_i (b2i u2013.1)] (γ, hM u2013.2.1 u2013.2.2, κ) Q
        by_cases c2014 : u2013.1 = true
        · rw [if_pos c2014] at hf
          refine mx_WP.zeq (b := u2013.1) (q := 153) (p3 := 149) rfl (fun hh => absurd hh (by simp [c2014])) (fun _ => ?_)
          refine mx_WP.go 2 (pc' := 154) (L' := [some (mx_r (some (1, 11, 0))), some (mx_i v1), some (mx_i v2), some (mx_i v3), some (mx_i t0)]) (st' := [mx_i (1 : Int32)]) (σ' := (γ, hM u2013.2.1 u2013.2.2, κ)) rfl ?_
          rw [← Option.some.inj hf] at hk
          refine mx_WP.ret (v := some (mx_i (1 : Int32))) rfl ?_
          exact hk
        · rw [if_neg c2014] at hf
          refine mx_WP.zeq (b := u2013.1) (q := 153) (p3 := 149) rfl (fun _ => ?_) (fun hh => absurd hh (by simp [c2014]))
          refine mx_WP.go 1 (pc' := 154) (L' := [some (mx_r (some (1, 11, 0))), some (mx_i v1), some (mx_i v2), some (mx_i v3), some (mx_i t0)]) (st' := [mx_i (0 : Int32)]) (σ' := (γ, hM u2013.2.1 u2013.2.2, κ)) rfl ?_
          rw [← Option.some.inj hf] at hk
          refine mx_WP.ret (v := some (mx_i (0 : Int32))) rfl ?_
          exact hk
  rw [if_neg c2009] at hf
  by_cases c2016 : (I 11 0 11) = (2 : Int32)
  · rw [if_pos c2016] at hf
    refine mx_WP.sw (c := (2 : Int32)) (q := 179) c2016 (by rfl) ?_
    refine mx_WP.go 1 (pc' := 180) (L' := [some (mx_r (some (1, 11, 0))), some (mx_i v1), some (mx_i v2), some (mx_i v3), some (mx_i t0)]) (st' := [mx_i v3]) (σ' := (γ, hM I J, κ)) rfl ?_
    by_cases c2017 : v3 = (0 : Int32)
    · rw [if_pos c2017] at hf
      refine mx_WP.bne (x := v3) (y := (0 : Int32)) (q := 191) (p3 := 183) rfl (fun hh => absurd c2017 hh) (fun _ => ?_)
      refine mx_WP.go 3 (pc' := 187) (L' := [some (mx_r (some (1, 11, 0))), some (mx_i v1), some (mx_i v2), some (mx_i v3), some (mx_i t0)]) (st' := [mx_i t0, mx_i v2, mx_r (some (1, 11, 0))]) (σ' := (γ, hM I J, κ)) rfl ?_
      obtain ⟨u2018, e2019, hf⟩ := Option.bind_eq_some_iff.mp hf
      refine mx_WP.call (d := d + 2) (y := 130) (as := [mx_r (some (1, 11, 0)), mx_i v2, mx_i t0]) (pc' := 190) (r := []) rfl rfl (T130 (d := d + 2)  e2019 ?_)
      show mx_WP (d + 3) 128 190 [some (mx_r (some (1, 11, 0))), some (mx_i v1), some (mx_i v2), some (mx_i v3), some (mx_i t0)] [mx_i (b2i u2018.1)] (γ, hM u2018.2 J, κ) Q
      rw [← Option.some.inj hf] at hk
      refine mx_WP.retz (b2i_01 _) (by rfl) (by rfl) ?_
      exact hk
    · rw [if_neg c2017] at hf
      refine mx_WP.bne (x := v3) (y := (0 : Int32)) (q := 191) (p3 := 183) rfl (fun _ => ?_) (fun hh => absurd c2017 hh)
      refine mx_WP.go 3 (pc' := 197) (L' := [some (mx_r (some (1, 11, 0))), some (mx_i v1), some (mx_i v2), some (mx_i v3), some (mx_i t0)]) (st' := [mx_i (8 : Int32), mx_i (I 11 0 14)]) (σ' := (γ, hM I J, κ)) rfl ?_
      by_cases c2020 : (I 11 0 14) = (8 : Int32)
      · rw [if_pos c2020] at hf
        refine mx_WP.bne (x := (I 11 0 14)) (y := (8 : Int32)) (q := 202) (p3 := 200) rfl (fun hh => absurd c2020 hh) (fun _ => ?_)
        refine mx_WP.go 1 (pc' := 201) (L' := [some (mx_r (some (1, 11, 0))), some (mx_i v1), some (mx_i v2), some (mx_i v3), some (mx_i t0)]) (st' := [mx_i (0 : Int32)]) (σ' := (γ, hM I J, κ)) rfl ?_
        rw [← Option.some.inj hf] at hk
        refine mx_WP.ret (v := some (mx_i (0 : Int32))) rfl ?_
        exact hk
      · rw [if_neg c2020] at hf
        refine mx_WP.bne (x := (I 11 0 14)) (y := (8 : Int32)) (q := 202) (p3 := 200) rfl (fun _ => ?_) (fun hh => absurd c2020 hh)
        refine mx_WP.go 5 (pc' := 211) (L' := [some (mx_r (some (1, 11, 0))), some (mx_i v1), some (mx_i v2), some (mx_i v3), some (mx_i t0)]) (st' := [mx_i (I 11 0 13), mx_r (some (1, 102, 0)), mx_i (I 11 0 13), mx_r (some (1, 102, 0))]) (σ' := (γ, hM I J, κ)) rfl ?_
        by_cases c2021 : (I 11 0 13) < 0 ∨ 128 ≤ (I 11 0 13).toNatClampNeg
        · rw [if_pos c2021] at hf
          cases hf
        rw [if_neg c2021] at hf
        refine mx_WP.laldx c2021 ?_
        show mx_WP (d + 3) 128 212 [some (mx_r (some (1, 11, 0))), some (mx_i v1), some (mx_i v2), some (mx_i v3), some (mx_i t0)] [mx_l (J 102 0 ((I 11 0 13).toNatClampNeg)), mx_i (I 11 0 13), mx_r (some (1, 102, 0))] (γ, hM I J, κ) Q
        refine mx_WP.go 13 (pc' := 230) (L' := [some (mx_r (some (1, 11, 0))), some (mx_i v1), some (mx_i v2), some (mx_i v3), some (mx_i t0)]) (st' := [mx_l ((J 102 0 ((I 11 0 13).toNatClampNeg)) ||| (v2.toInt64 <<< (((8 : Int32) * (I 11 0 14)).toInt64 &&& 63))), mx_i (I 11 0 13), mx_r (some (1, 102, 0))]) (σ' := (γ, hM (mx_u3 I 11 0 14 ((I 11 0 14) + (1 : Int32))) J, κ)) rfl ?_
        by_cases c2022 : (I 11 0 13) < 0 ∨ 128 ≤ (I 11 0 13).toNatClampNeg
        · rw [if_pos c2022] at hf
          cases hf
        rw [if_neg c2022] at hf
        refine mx_WP.lastx c2022 ?_
        show mx_WP (d + 3) 128 231 [some (mx_r (some (1, 11, 0))), some (mx_i v1), some (mx_i v2), some (mx_i v3), some (mx_i t0)] [] (γ, hM (mx_u3 I 11 0 14 ((I 11 0 14) + (1 : Int32))) (mx_u3 J 102 0 ((I 11 0 13).toNatClampNeg) ((J 102 0 ((I 11 0 13).toNatClampNeg)) ||| (v2.toInt64 <<< (((8 : Int32) * (I 11 0 14)).toInt64 &&& 63)))), κ) Q
        refine mx_WP.go 1 (pc' := 232) (L' := [some (mx_r (some (1, 11, 0))), some (mx_i v1), some (mx_i v2), some (mx_i v3), some (mx_i t0)]) (st' := [mx_i (1 : Int32)]) (σ' := (γ, hM (mx_u3 I 11 0 14 ((I 11 0 14) + (1 : Int32))) (mx_u3 J 102 0 ((I 11 0 13).toNatClampNeg) ((J 102 0 ((I 11 0 13).toNatClampNeg)) ||| (v2.toInt64 <<< (((8 : Int32) * (I 11 0 14)).toInt64 &&& 63)))), κ)) rfl ?_
        rw [← Option.some.inj hf] at hk
        refine mx_WP.ret (v := some (mx_i (1 : Int32))) rfl ?_
        exact hk
  rw [if_neg c2016] at hf
  by_cases c2023 : (I 11 0 11) = (3 : Int32)
  · rw [if_pos c2023] at hf
    refine mx_WP.sw (c := (3 : Int32)) (q := 233) c2023 (by rfl) ?_
    refine mx_WP.go 1 (pc' := 234) (L' := [some (mx_r (some (1, 11, 0))), some (mx_i v1), some (mx_i v2), some (mx_i v3), some (mx_i t0)]) (st' := [mx_i v3]) (σ' := (γ, hM I J, κ)) rfl ?_
    by_cases c2024 : v3 = (0 : Int32)
    · rw [if_pos c2024] at hf
      refine mx_WP.beq (x := v3) (y := (0 : Int32)) (q := 245) (p3 := 237) rfl (fun _ => ?_) (fun hh => absurd c2024 hh)
      refine mx_WP.go 3 (pc' := 249) (L' := [some (mx_r (some (1, 11, 0))), some (mx_i v1), some (mx_i v2), some (mx_i v3), some (mx_i t0)]) (st' := [mx_i t0, mx_i v2, mx_r (some (1, 11, 0))]) (σ' := (γ, hM I J, κ)) rfl ?_
      obtain ⟨u2025, e2026, hf⟩ := Option.bind_eq_some_iff.mp hf
      refine mx_WP.call (d := d + 2) (y := 130) (as := [mx_r (some (1, 11, 0)), mx_i v2, mx_i t0]) (pc' := 252) (r := []) rfl rfl (T130 (d := d + 2)  e2026 ?_)
      show mx_WP (d + 3) 128 252 [some (mx_r (some (1, 11, 0))), some (mx_i v1), some (mx_i v2), some (mx_i v3), some (mx_i t0)] [mx_i (b2i u2025.1)] (γ, hM u2025.2 J, κ) Q
      rw [← Option.some.inj hf] at hk
      refine mx_WP.retz (b2i_01 _) (by rfl) (by rfl) ?_
      exact hk
    · rw [if_neg c2024] at hf
      refine mx_WP.beq (x := v3) (y := (0 : Int32)) (q := 245) (p3 := 237) rfl (fun hh => absurd hh c2024) (fun _ => ?_)
      refine mx_WP.go 2 (pc' := 239) (L' := [some (mx_r (some (1, 11, 0))), some (mx_i v1), some (mx_i v2), some (mx_i v3), some (mx_i t0)]) (st' := [mx_i v2, mx_r (some (1, 11, 0))]) (σ' := (γ, hM I J, κ)) rfl ?_
      obtain ⟨u2027, e2028, hf⟩ := Option.bind_eq_some_iff.mp hf
      refine mx_WP.call (d := d + 2) (y := 131) (as := [mx_r (some (1, 11, 0)), mx_i v2]) (pc' := 242) (r := []) rfl rfl (T131 (d := d + 0)  e2028 ?_)
      show mx_WP (d + 3) 128 242 [some (mx_r (some (1, 11, 0))), some (mx_i v1), some (mx_i v2), some (mx_i v3), some (mx_i t0)] [mx_i (b2i u2027.1)] (γ, hM u2027.2.1 u2027.2.2, κ) Q
      refine mx_WP.go 1 (pc' := 252) (L' := [some (mx_r (some (1, 11, 0))), some (mx_i v1), some (mx_i v2), some (mx_i v3), some (mx_i t0)]) (st' := [mx_i (b2i u2027.1)]) (σ' := (γ, hM u2027.2.1 u2027.2.2, κ)) rfl ?_
      rw [← Option.some.inj hf] at hk
      refine mx_WP.retz (b2i_01 _) (by rfl) (by rfl) ?_
      exact hk
  rw [if_neg c2023] at hf
  by_cases c2029 : (I 11 0 11) = (4 : Int32)
  · rw [if_pos c2029] at hf
    refine mx_WP.sw (c := (4 : Int32)) (q := 253) c2029 (by rfl) ?_
    refine mx_WP.go 3 (pc' := 256) (L' := [some (mx_r (some (1, 11, 0))), some (mx_i v1), some (mx_i v2), some (mx_i v3), some (mx_i t0)]) (st' := [mx_i v3, mx_i v2, mx_r (some (1, 11, 0))]) (σ' := (γ, hM I J, κ)) rfl ?_
    obtain ⟨u2030, e2031, hf⟩ := Option.bind_eq_some_iff.mp hf
    refine mx_WP.call (d := d + 2) (y := 132) (as := [mx_r (some (1, 11, 0)), mx_i v2, mx_i v3]) (pc' := 259) (r := []) rfl rfl (T132 (d := d + 1)  e2031 ?_)
    show mx_WP (d + 3) 128 259 [some (mx_r (some (1, 11, 0))), some (mx_i v1), some (mx_i v2), some (mx_i v3), some (mx_i t0)] [mx_i (b2i u2030.1)] (γ, hM u2030.2.1 u2030.2.2, κ) Q
    rw [← Option.some.inj hf] at hk
    refine mx_WP.retz (b2i_01 _) (by rfl) (by rfl) ?_
    exact hk
  rw [if_neg c2029] at hf
  by_cases c2032 : (I 11 0 11) = (5 : Int32)
  · rw [if_pos c2032] at hf
    refine mx_WP.sw (c := (5 : Int32)) (q := 260) c2032 (by rfl) ?_
    refine mx_WP.go 8 (pc' := 274) (L' := [some (mx_r (some (1, 11, 0))), some (mx_i v1), some (mx_i v2), some (mx_i v3), some (mx_i t0)]) (st' := [mx_i (34 : Int32), mx_i v2]) (σ' := (γ, hM (mx_u3 (mx_u3 I 11 0 11 (6 : Int32)) 11 0 14 (0 : Int32)) J, κ)) rfl ?_
    by_cases c2033 : v2 = (34 : Int32)
    · rw [if_pos c2033] at hf
      refine mx_WP.bne (x := v2) (y := (34 : Int32)) (q := 281) (p3 := 277) rfl (fun hh => absurd c2033 hh) (fun _ => ?_)
      refine mx_WP.go 2 (pc' := 282) (L' := [some (mx_r (some (1, 11, 0))), some (mx_i v1), some (mx_i v2), some (mx_i v3), some (mx_i t0)]) (st' := [mx_i (1 : Int32)]) (σ' := (γ, hM (mx_u3 (mx_u3 I 11 0 11 (6 : Int32)) 11 0 14 (0 : Int32)) J, κ)) rfl ?_
      rw [← Option.some.inj hf] at hk
      refine mx_WP.ret (v := some (mx_i (1 : Int32))) rfl ?_
      exact hk
    · rw [if_neg c2033] at hf
      refine mx_WP.bne (x := v2) (y := (34 : Int32)) (q := 281) (p3 := 277) rfl (fun _ => ?_) (fun hh => absurd c2033 hh)
      refine mx_WP.go 1 (pc' := 282) (L' := [some (mx_r (some (1, 11, 0))), some (mx_i v1), some (mx_i v2), some (mx_i v3), some (mx_i t0)]) (st' := [mx_i (0 : Int32)]) (σ' := (γ, hM (mx_u3 (mx_u3 I 11 0 11 (6 : Int32)) 11 0 14 (0 : Int32)) J, κ)) rfl ?_
      rw [← Option.some.inj hf] at hk
      refine mx_WP.ret (v := some (mx_i (0 : Int32))) rfl ?_
      exact hk
  rw [if_neg c2032] at hf
  by_cases c2034 : (I 11 0 11) = (6 : Int32)
  · rw [if_pos c2034] at hf
    refine mx_WP.sw (c := (6 : Int32)) (q := 283) c2034 (by rfl) ?_
    refine mx_WP.go 2 (pc' := 286) (L' := [some (mx_r (some (1, 11, 0))), some (mx_i v1), some (mx_i v2), some (mx_i v3), some (mx_i t0)]) (st' := [mx_i (34 : Int32), mx_i v2]) (σ' := (γ, hM I J, κ)) rfl ?_
    by_cases c2035 : v2 = (34 : Int32)
    · rw [if_pos c2035] at hf
      refine mx_WP.bne (x := v2) (y := (34 : Int32)) (q := 297) (p3 := 289) rfl (fun hh => absurd c2035 hh) (fun _ => ?_)
      refine mx_WP.go 4 (pc' := 296) (L' := [some (mx_r (some (1, 11, 0))), some (mx_i v1), some (mx_i v2), some (mx_i v3), some (mx_i t0)]) (st' := [mx_i (1 : Int32)]) (σ' := (γ, hM (mx_u3 I 11 0 11 (7 : Int32)) J, κ)) rfl ?_
      rw [← Option.some.inj hf] at hk
      refine mx_WP.ret (v := some (mx_i (1 : Int32))) rfl ?_
      exact hk
    · rw [if_neg c2035] at hf
      refine mx_WP.bne (x := v2) (y := (34 : Int32)) (q := 297) (p3 := 289) rfl (fun _ => ?_) (fun hh => absurd c2035 hh)
      refine mx_WP.go 3 (pc' := 303) (L' := [some (mx_r (some (1, 11, 0))), some (mx_i v1), some (mx_i v2), some (mx_i v3), some (mx_i t0)]) (st' := [mx_i (8 : Int32), mx_i (I 11 0 14)]) (σ' := (γ, hM I J, κ)) rfl ?_
      by_cases c2036 : (I 11 0 14) = (8 : Int32)
      · rw [if_pos c2036] at hf
        refine mx_WP.beq (x := (I 11 0 14)) (y := (8 : Int32)) (q := 313) (p3 := 306) rfl (fun _ => ?_) (fun hh => absurd c2036 hh)
        refine mx_WP.go 1 (pc' := 314) (L' := [some (mx_r (some (1, 11, 0))), some (mx_i v1), some (mx_i v2), some (mx_i v3), some (mx_i t0)]) (st' := [mx_i (0 : Int32)]) (σ' := (γ, hM I J, κ)) rfl ?_
        rw [← Option.some.inj hf] at hk
        refine mx_WP.ret (v := some (mx_i (0 : Int32))) rfl ?_
        exact hk
      · rw [if_neg c2036] at hf
        refine mx_WP.beq (x := (I 11 0 14)) (y := (8 : Int32)) (q := 313) (p3 := 306) rfl (fun hh => absurd hh c2036) (fun _ => ?_)
        refine mx_WP.go 1 (pc' := 307) (L' := [some (mx_r (some (1, 11, 0))), some (mx_i v1), some (mx_i v2), some (mx_i v3), some (mx_i t0)]) (st' := [mx_i v2]) (σ' := (γ, hM I J, κ)) rfl ?_
        obtain ⟨u2037, e2042, hf⟩ := Option.bind_eq_some_iff.mp hf
        refine mx_WP.call (d := d + 2) (y := 123) (as := [mx_i v2]) (pc' := 310) (r := []) rfl rfl (T123 (d := d + 1)  e2042 ?_)
        show mx_WP (d + 3) 128 310 [some (mx_r (some (1, 11, 0))), some (mx_i v1), some (mx_i v2), some (mx_i v3), some (mx_i t0)] [mx_i (b2i u2037)] (γ, hM I J, κ) Q
        by_cases c2038 : u2037 = true
        · rw [if_pos c2038] at hf
          refine mx_WP.zne (b := u2037) (q := 315) (p3 := 313) rfl (fun _ => ?_) (fun hh => absurd hh (by simp [c2038]))
          refine mx_WP.go 10 (pc' := 333) (L' := [some (mx_r (some (1, 11, 0))), some (mx_i v1), some (mx_i v2), some (mx_i v3), some (mx_i t0)]) (st' := [mx_i (I 11 0 13), mx_r (some (1, 107, 0)), mx_i ((4 : Int32) * (I 11 0 13)), mx_r (some (1, 104, 0))]) (σ' := (γ, hM I J, κ)) rfl ?_
          by_cases c2039 : (I 11 0 13) < 0 ∨ 128 ≤ (I 11 0 13).toNatClampNeg
          · rw [if_pos c2039] at hf
            cases hf
          rw [if_neg c2039] at hf
          refine mx_WP.ialdx c2039 ?_
          show mx_WP (d + 3) 128 334 [some (mx_r (some (1, 11, 0))), some (mx_i v1), some (mx_i v2), some (mx_i v3), some (mx_i t0)] [mx_i (I 107 0 ((I 11 0 13).toNatClampNeg)), mx_i ((4 : Int32) * (I 11 0 13)), mx_r (some (1, 104, 0))] (γ, hM I J, κ) Q
          refine mx_WP.go 4 (pc' := 338) (L' := [some (mx_r (some (1, 11, 0))), some (mx_i v1), some (mx_i v2), some (mx_i v3), some (mx_i t0)]) (st' := [mx_i ((((4 : Int32) * (I 11 0 13)) + (I 107 0 ((I 11 0 13).toNatClampNeg))) - (1 : Int32)), mx_r (some (1, 104, 0)), mx_i ((((4 : Int32) * (I 11 0 13)) + (I 107 0 ((I 11 0 13).toNatClampNeg))) - (1 : Int32)), mx_r (some (1, 104, 0))]) (σ' := (γ, hM I J, κ)) rfl ?_
          by_cases c2040 : ((((4 : Int32) * (I 11 0 13)) + (I 107 0 ((I 11 0 13).toNatClampNeg))) - (1 : Int32)) < 0 ∨ 512 ≤ ((((4 : Int32) * (I 11 0 13)) + (I 107 0 ((I 11 0 13).toNatClampNeg))) - (1 : Int32)).toNatClampNeg
          · rw [if_pos c2040] at hf
            cases hf
          rw [if_neg c2040] at hf
          refine mx_WP.laldx c2040 ?_
          show mx_WP (d + 3) 128 339 [some (mx_r (some (1, 11, 0))), some (mx_i v1), some (mx_i v2), some (mx_i v3), some (mx_i t0)] [mx_l (J 104 0 (((((4 : Int32) * (I 11 0 13)) + (I 107 0 ((I 11 0 13).toNatClampNeg))) - (1 : Int32)).toNatClampNeg)), mx_i ((((4 : Int32) * (I 11 0 13)) + (I 107 0 ((I 11 0 13).toNatClampNeg))) - (1 : Int32)), mx_r (some (1, 104, 0))] (γ, hM I J, κ) Q
          refine mx_WP.go 13 (pc' := 357) (L' := [some (mx_r (some (1, 11, 0))), some (mx_i v1), some (mx_i v2), some (mx_i v3), some (mx_i t0)]) (st' := [mx_l ((J 104 0 (((((4 : Int32) * (I 11 0 13)) + (I 107 0 ((I 11 0 13).toNatClampNeg))) - (1 : Int32)).toNatClampNeg)) ||| (v2.toInt64 <<< (((8 : Int32) * (I 11 0 14)).toInt64 &&& 63))), mx_i ((((4 : Int32) * (I 11 0 13)) + (I 107 0 ((I 11 0 13).toNatClampNeg))) - (1 : Int32)), mx_r (some (1, 104, 0))]) (σ' := (γ, hM (mx_u3 I 11 0 14 ((I 11 0 14) + (1 : Int32))) J, κ)) rfl ?_
          by_cases c2041 : ((((4 : Int32) * (I 11 0 13)) + (I 107 0 ((I 11 0 13).toNatClampNeg))) - (1 : Int32)) < 0 ∨ 512 ≤ ((((4 : Int32) * (I 11 0 13)) + (I 107 0 ((I 11 0 13).toNatClampNeg))) - (1 : Int32)).toNatClampNeg
          · rw [if_pos c2041] at hf
            cases hf
          rw [if_neg c2041] at hf
          refine mx_WP.lastx c2041 ?_
          show mx_WP (d + 3) 128 358 [some (mx_r (some (1, 11, 0))), some (mx_i v1), some (mx_i v2), some (mx_i v3), some (mx_i t0)] [] (γ, hM (mx_u3 I 11 0 14 ((I 11 0 14) + (1 : Int32))) (mx_u3 J 104 0 (((((4 : Int32) * (I 11 0 13)) + (I 107 0 ((I 11 0 13).toNatClampNeg))) - (1 : Int32)).toNatClampNeg) ((J 104 0 (((((4 : Int32) * (I 11 0 13)) + (I 107 0 ((I 11 0 13).toNatClampNeg))) - (1 : Int32)).toNatClampNeg)) ||| (v2.toInt64 <<< (((8 : Int32) * (I 11 0 14)).toInt64 &&& 63)))), κ) Q
          refine mx_WP.go 1 (pc' := 359) (L' := [some (mx_r (some (1, 11, 0))), some (mx_i v1), some (mx_i v2), some (mx_i v3), some (mx_i t0)]) (st' := [mx_i (1 : Int32)]) (σ' := (γ, hM (mx_u3 I 11 0 14 ((I 11 0 14) + (1 : Int32))) (mx_u3 J 104 0 (((((4 : Int32) * (I 11 0 13)) + (I 107 0 ((I 11 0 13).toNatClampNeg))) - (1 : Int32)).toNatClampNeg) ((J 104 0 (((((4 : Int32) * (I 11 0 13)) + (I 107 0 ((I 11 0 13).toNatClampNeg))) - (1 : Int32)).toNatClampNeg)) ||| (v2.toInt64 <<< (((8 : Int32) * (I 11 0 14)).toInt64 &&& 63)))), κ)) rfl ?_
          rw [← Option.some.inj hf] at hk
          refine mx_WP.ret (v := some (mx_i (1 : Int32))) rfl ?_
          exact hk
        · rw [if_neg c2038] at hf
          refine mx_WP.zne (b := u2037) (q := 315) (p3 := 313) rfl (fun hh => absurd hh (by simp [c2038])) (fun _ => ?_)
          refine mx_WP.go 1 (pc' := 314) (L' := [some (mx_r (some (1, 11, 0))), some (mx_i v1), some (mx_i v2), some (mx_i v3), some (mx_i t0)]) (st' := [mx_i (0 : Int32)]) (σ' := (γ, hM I J, κ)) rfl ?_
          rw [← Option.some.inj hf] at hk
          refine mx_WP.ret (v := some (mx_i (0 : Int32))) rfl ?_
          exact hk
  rw [if_neg c2034] at hf
  by_cases c2043 : (I 11 0 11) = (7 : Int32)
  · rw [if_pos c2043] at hf
    refine mx_WP.sw (c := (7 : Int32)) (q := 360) c2043 (by rfl) ?_
    refine mx_WP.go 3 (pc' := 364) (L' := [some (mx_r (some (1, 11, 0))), some (mx_i v1), some (mx_i v2), some (mx_i v3), some (mx_i t0)]) (st' := [mx_i t0, mx_i v2, mx_r (some (1, 11, 0))]) (σ' := (γ, hM I J, κ)) rfl ?_
    obtain ⟨u2044, e2045, hf⟩ := Option.bind_eq_some_iff.mp hf
    refine mx_WP.call (d := d + 2) (y := 130) (as := [mx_r (some (1, 11, 0)), mx_i v2, mx_i t0]) (pc' := 367) (r := []) rfl rfl (T130 (d := d + 2)  e2045 ?_)
    show mx_WP (d + 3) 128 367 [some (mx_r (some (1, 11, 0))), some (mx_i v1), some (mx_i v2), some (mx_i v3), some (mx_i t0)] [mx_i (b2i u2044.1)] (γ, hM u2044.2 J, κ) Q
    rw [← Option.some.inj hf] at hk
    refine mx_WP.retz (b2i_01 _) (by rfl) (by rfl) ?_
    exact hk
  rw [if_neg c2043] at hf
  by_cases c2046 : (I 11 0 11) = (8 : Int32)
  · rw [if_pos c2046] at hf
    refine mx_WP.sw (c := (8 : Int32)) (q := 368) c2046 (by rfl) ?_
    refine mx_WP.go 8 (pc' := 382) (L' := [some (mx_r (some (1, 11, 0))), some (mx_i v1), some (mx_i v2), some (mx_i v3), some (mx_i t0)]) (st' := [mx_i ((mx_u3 I 11 0 11 (0 : Int32)) 11 0 13), mx_r (some (1, 105, 0)), mx_r (some (1, 11, 0))]) (σ' := (γ, hM (mx_u3 I 11 0 11 (0 : Int32)) J, κ)) rfl ?_
    by_cases c2047 : ((mx_u3 I 11 0 11 (0 : Int32)) 11 0 13) < 0 ∨ 128 ≤ ((mx_u3 I 11 0 11 (0 : Int32)) 11 0 13).toNatClampNeg
    · rw [if_pos c2047] at hf
      cases hf
    rw [if_neg c2047] at hf
    refine mx_WP.ialdx c2047 ?_
    show mx_WP (d + 3) 128 383 [some (mx_r (some (1, 11, 0))), some (mx_i v1), some (mx_i v2), some (mx_i v3), some (mx_i t0)] [mx_i (I 105 0 (((mx_u3 I 11 0 11 (0 : Int32)) 11 0 13).toNatClampNeg)), mx_r (some (1, 11, 0))] (γ, hM (mx_u3 I 11 0 11 (0 : Int32)) J, κ) Q
    refine mx_WP.go 3 (pc' := 389) (L' := [some (mx_r (some (1, 11, 0))), some (mx_i v1), some (mx_i v2), some (mx_i v3), some (mx_i t0)]) (st' := [mx_i (62 : Int32), mx_i v2]) (σ' := (γ, hM (mx_u3 (mx_u3 I 11 0 11 (0 : Int32)) 11 0 12 (I 105 0 (((mx_u3 I 11 0 11 (0 : Int32)) 11 0 13).toNatClampNeg))) J, κ)) rfl ?_
    by_cases c2048 : v2 = (62 : Int32)
    · rw [if_pos c2048] at hf
      refine mx_WP.bne (x := v2) (y := (62 : Int32)) (q := 396) (p3 := 392) rfl (fun hh => absurd c2048 hh) (fun _ => ?_)
      refine mx_WP.go 2 (pc' := 397) (L' := [some (mx_r (some (1, 11, 0))), some (mx_i v1), some (mx_i v2), some (mx_i v3), some (mx_i t0)]) (st' := [mx_i (1 : Int32)]) (σ' := (γ, hM (mx_u3 (mx_u3 I 11 0 11 (0 : Int32)) 11 0 12 (I 105 0 (((mx_u3 I 11 0 11 (0 : Int32)) 11 0 13).toNatClampNeg))) J, κ)) rfl ?_
      rw [← Option.some.inj hf] at hk
      refine mx_WP.ret (v := some (mx_i (1 : Int32))) rfl ?_
      exact hk
    · rw [if_neg c2048] at hf
      refine mx_WP.bne (x := v2) (y := (62 : Int32)) (q := 396) (p3 := 392) rfl (fun _ => ?_) (fun hh => absurd c2048 hh)
      refine mx_WP.go 1 (pc' := 397) (L' := [some (mx_r (some (1, 11, 0))), some (mx_i v1), some (mx_i v2), some (mx_i v3), some (mx_i t0)]) (st' := [mx_i (0 : Int32)]) (σ' := (γ, hM (mx_u3 (mx_u3 I 11 0 11 (0 : Int32)) 11 0 12 (I 105 0 (((mx_u3 I 11 0 11 (0 : Int32)) 11 0 13).toNatClampNeg))) J, κ)) rfl ?_
      rw [← Option.some.inj hf] at hk
      refine mx_WP.ret (v := some (mx_i (0 : Int32))) rfl ?_
      exact hk
  rw [if_neg c2046] at hf
  by_cases c2049 : (I 11 0 11) = (9 : Int32)
  · rw [if_pos c2049] at hf
    refine mx_WP.sw (c := (9 : Int32)) (q := 398) c2049 (by rfl) ?_
    refine mx_WP.go 5 (pc' := 407) (L' := [some (mx_r (some (1, 11, 0))), some (mx_i v1), some (mx_i v2), some (mx_i v3), some (mx_i t0)]) (st' := [mx_i (I 11 0 12), mx_r (some (1, 102, 0)), mx_i v2]) (σ' := (γ, hM I J, κ)) rfl ?_
    by_cases c2050 : (I 11 0 12) < 0 ∨ 128 ≤ (I 11 0 12).toNatClampNeg
    · rw [if_pos c2050] at hf
      cases hf
    rw [if_neg c2050] at hf
    refine mx_WP.laldx c2050 ?_
    show mx_WP (d + 3) 128 408 [some (mx_r (some (1, 11, 0))), some (mx_i v1), some (mx_i v2), some (mx_i v3), some (mx_i t0)] [mx_l (J 102 0 ((I 11 0 12).toNatClampNeg)), mx_i v2] (γ, hM I J, κ) Q
    refine mx_WP.go 2 (pc' := 412) (L' := [some (mx_r (some (1, 11, 0))), some (mx_i v1), some (mx_i v2), some (mx_i v3), some (mx_i t0)]) (st' := [mx_i (I 11 0 14), mx_l (J 102 0 ((I 11 0 12).toNatClampNeg)), mx_i v2]) (σ' := (γ, hM I J, κ)) rfl ?_
    obtain ⟨u2051, e2058, hf⟩ := Option.bind_eq_some_iff.mp hf
    refine mx_WP.call (d := d + 2) (y := 118) (as := [mx_l (J 102 0 ((I 11 0 12).toNatClampNeg)), mx_i (I 11 0 14)]) (pc' := 415) (r := [mx_i v2]) rfl rfl (T118 (d := d + 2)  e2058 ?_)
    show mx_WP (d + 3) 128 415 [some (mx_r (some (1, 11, 0))), some (mx_i v1), some (mx_i v2), some (mx_i v3), some (mx_i t0)] [mx_i u2051, mx_i v2] (γ, hM I J, κ) Q
    by_cases c2052 : v2 = u2051
    · rw [if_pos c2052] at hf
      refine mx_WP.beq (x := v2) (y := u2051) (q := 420) (p3 := 418) rfl (fun _ => ?_) (fun hh => absurd c2052 hh)
      refine mx_WP.go 9 (pc' := 436) (L' := [some (mx_r (some (1, 11, 0))), some (mx_i v1), some (mx_i v2), some (mx_i v3), some (mx_i t0)]) (st' := [mx_i (8 : Int32), mx_i ((mx_u3 I 11 0 14 ((I 11 0 14) + (1 : Int32))) 11 0 14)]) (σ' := (γ, hM (mx_u3 I 11 0 14 ((I 11 0 14) + (1 : Int32))) J, κ)) rfl ?_
      by_cases c2053 : ((mx_u3 I 11 0 14 ((I 11 0 14) + (1 : Int32))) 11 0 14) = (8 : Int32)
      · rw [if_pos c2053] at hf
        refine mx_WP.beq (x := ((mx_u3 I 11 0 14 ((I 11 0 14) + (1 : Int32))) 11 0 14)) (y := (8 : Int32)) (q := 458) (p3 := 439) rfl (fun _ => ?_) (fun hh => absurd c2053 hh)
        refine mx_WP.go 4 (pc' := 465) (L' := [some (mx_r (some (1, 11, 0))), some (mx_i v1), some (mx_i v2), some (mx_i v3), some (mx_i t0)]) (st' := [mx_i (1 : Int32)]) (σ' := (γ, hM (mx_u3 (mx_u3 I 11 0 14 ((I 11 0 14) + (1 : Int32))) 11 0 11 (10 : Int32)) J, κ)) rfl ?_
        rw [← Option.some.inj hf] at hk
        refine mx_WP.ret (v := some (mx_i (1 : Int32))) rfl ?_
        exact hk
      · rw [if_neg c2053] at hf
        refine mx_WP.beq (x := ((mx_u3 I 11 0 14 ((I 11 0 14) + (1 : Int32))) 11 0 14)) (y := (8 : Int32)) (q := 458) (p3 := 439) rfl (fun hh => absurd hh c2053) (fun _ => ?_)
        refine mx_WP.go 4 (pc' := 447) (L' := [some (mx_r (some (1, 11, 0))), some (mx_i v1), some (mx_i v2), some (mx_i v3), some (mx_i t0)]) (st' := [mx_i ((mx_u3 I 11 0 14 ((I 11 0 14) + (1 : Int32))) 11 0 12), mx_r (some (1, 102, 0))]) (σ' := (γ, hM (mx_u3 I 11 0 14 ((I 11 0 14) + (1 : Int32))) J, κ)) rfl ?_
        by_cases c2054 : ((mx_u3 I 11 0 14 ((I 11 0 14) + (1 : Int32))) 11 0 12) < 0 ∨ 128 ≤ ((mx_u3 I 11 0 14 ((I 11 0 14) + (1 : Int32))) 11 0 12).toNatClampNeg
        · rw [if_pos c2054] at hf
          cases hf
        rw [if_neg c2054] at hf
        refine mx_WP.laldx c2054 ?_
        show mx_WP (d + 3) 128 448 [some (mx_r (some (1, 11, 0))), some (mx_i v1), some (mx_i v2), some (mx_i v3), some (mx_i t0)] [mx_l (J 102 0 (((mx_u3 I 11 0 14 ((I 11 0 14) + (1 : Int32))) 11 0 12).toNatClampNeg))] (γ, hM (mx_u3 I 11 0 14 ((I 11 0 14) + (1 : Int32))) J, κ) Q
        refine mx_WP.go 2 (pc' := 452) (L' := [some (mx_r (some (1, 11, 0))), some (mx_i v1), some (mx_i v2), some (mx_i v3), some (mx_i t0)]) (st' := [mx_i ((mx_u3 I 11 0 14 ((I 11 0 14) + (1 : Int32))) 11 0 14), mx_l (J 102 0 (((mx_u3 I 11 0 14 ((I 11 0 14) + (1 : Int32))) 11 0 12).toNatClampNeg))]) (σ' := (γ, hM (mx_u3 I 11 0 14 ((I 11 0 14) + (1 : Int32))) J, κ)) rfl ?_
        obtain ⟨u2055, e2057, hf⟩ := Option.bind_eq_some_iff.mp hf
        refine mx_WP.call (d := d + 2) (y := 118) (as := [mx_l (J 102 0 (((mx_u3 I 11 0 14 ((I 11 0 14) + (1 : Int32))) 11 0 12).toNatClampNeg)), mx_i ((mx_u3 I 11 0 14 ((I 11 0 14) + (1 : Int32))) 11 0 14)]) (pc' := 455) (r := []) rfl rfl (T118 (d := d + 2)  e2057 ?_)
        show mx_WP (d + 3) 128 455 [some (mx_r (some (1, 11, 0))), some (mx_i v1), some (mx_i v2), some (mx_i v3), some (mx_i t0)] [mx_i u2055] (γ, hM (mx_u3 I 11 0 14 ((I 11 0 14) + (1 : Int32))) J, κ) Q
        by_cases c2056 : u2055 = (0 : Int32)
        · rw [if_pos c2056] at hf
          refine mx_WP.bne (x := u2055) (y := (0 : Int32)) (q := 464) (p3 := 458) rfl (fun hh => absurd c2056 hh) (fun _ => ?_)
          refine mx_WP.go 4 (pc' := 465) (L' := [some (mx_r (some (1, 11, 0))), some (mx_i v1), some (mx_i v2), some (mx_i v3), some (mx_i t0)]) (st' := [mx_i (1 : Int32)]) (σ' := (γ, hM (mx_u3 (mx_u3 I 11 0 14 ((I 11 0 14) + (1 : Int32))) 11 0 11 (10 : Int32)) J, κ)) rfl ?_
          rw [← Option.some.inj hf] at hk
          refine mx_WP.ret (v := some (mx_i (1 : Int32))) rfl ?_
          exact hk
        · rw [if_neg c2056] at hf
          refine mx_WP.bne (x := u2055) (y := (0 : Int32)) (q := 464) (p3 := 458) rfl (fun _ => ?_) (fun hh => absurd c2056 hh)
          refine mx_WP.go 1 (pc' := 465) (L' := [some (mx_r (some (1, 11, 0))), some (mx_i v1), some (mx_i v2), some (mx_i v3), some (mx_i t0)]) (st' := [mx_i (1 : Int32)]) (σ' := (γ, hM (mx_u3 I 11 0 14 ((I 11 0 14) + (1 : Int32))) J, κ)) rfl ?_
          rw [← Option.some.inj hf] at hk
          refine mx_WP.ret (v := some (mx_i (1 : Int32))) rfl ?_
          exact hk
    · rw [if_neg c2052] at hf
      refine mx_WP.beq (x := v2) (y := u2051) (q := 420) (p3 := 418) rfl (fun hh => absurd hh c2052) (fun _ => ?_)
      refine mx_WP.go 1 (pc' := 419) (L' := [some (mx_r (some (1, 11, 0))), some (mx_i v1), some (mx_i v2), some (mx_i v3), some (mx_i t0)]) (st' := [mx_i (0 : Int32)]) (σ' := (γ, hM I J, κ)) rfl ?_
      rw [← Option.some.inj hf] at hk
      refine mx_WP.ret (v := some (mx_i (0 : Int32))) rfl ?_
      exact hk
  rw [if_neg c2049] at hf
  refine mx_WP.swt (q := 466) (mx_tso10 c2003 c2009 c2016 c2023 c2029 c2032 c2034 c2043 c2046 c2049) (by rfl) (by rfl) ?_
  refine mx_WP.go 1 (pc' := 468) (L' := [some (mx_r (some (1, 11, 0))), some (mx_i v1), some (mx_i v2), some (mx_i v3), some (mx_i t0)]) (st' := [mx_i t0]) (σ' := (γ, hM I J, κ)) rfl ?_
  by_cases c2059 : t0 = (0 : Int32)
  · rw [if_pos c2059] at hf
    refine mx_WP.beq (x := t0) (y := (0 : Int32)) (q := 473) (p3 := 471) rfl (fun _ => ?_) (fun hh => absurd c2059 hh)
    refine mx_WP.go 8 (pc' := 487) (L' := [some (mx_r (some (1, 11, 0))), some (mx_i v1), some (mx_i v2), some (mx_i v3), some (mx_i t0)]) (st' := [mx_i ((mx_u3 I 11 0 11 (0 : Int32)) 11 0 12), mx_r (some (1, 105, 0)), mx_r (some (1, 11, 0))]) (σ' := (γ, hM (mx_u3 I 11 0 11 (0 : Int32)) J, κ)) rfl ?_
    by_cases c2060 : ((mx_u3 I 11 0 11 (0 : Int32)) 11 0 12) < 0 ∨ 128 ≤ ((mx_u3 I 11 0 11 (0 : Int32)) 11 0 12).toNatClampNeg
    · rw [if_pos c2060] at hf
      cases hf
    rw [if_neg c2060] at hf
    refine mx_WP.ialdx c2060 ?_
    show mx_WP (d + 3) 128 488 [some (mx_r (some (1, 11, 0))), some (mx_i v1), some (mx_i v2), some (mx_i v3), some (mx_i t0)] [mx_i (I 105 0 (((mx_u3 I 11 0 11 (0 : Int32)) 11 0 12).toNatClampNeg)), mx_r (some (1, 11, 0))] (γ, hM (mx_u3 I 11 0 11 (0 : Int32)) J, κ) Q
    refine mx_WP.go 3 (pc' := 494) (L' := [some (mx_r (some (1, 11, 0))), some (mx_i v1), some (mx_i v2), some (mx_i v3), some (mx_i t0)]) (st' := [mx_i (62 : Int32), mx_i v2]) (σ' := (γ, hM (mx_u3 (mx_u3 I 11 0 11 (0 : Int32)) 11 0 12 (I 105 0 (((mx_u3 I 11 0 11 (0 : Int32)) 11 0 12).toNatClampNeg))) J, κ)) rfl ?_
    by_cases c2061 : v2 = (62 : Int32)
    · rw [if_pos c2061] at hf
      refine mx_WP.bne (x := v2) (y := (62 : Int32)) (q := 501) (p3 := 497) rfl (fun hh => absurd c2061 hh) (fun _ => ?_)
      refine mx_WP.go 2 (pc' := 502) (L' := [some (mx_r (some (1, 11, 0))), some (mx_i v1), some (mx_i v2), some (mx_i v3), some (mx_i t0)]) (st' := [mx_i (1 : Int32)]) (σ' := (γ, hM (mx_u3 (mx_u3 I 11 0 11 (0 : Int32)) 11 0 12 (I 105 0 (((mx_u3 I 11 0 11 (0 : Int32)) 11 0 12).toNatClampNeg))) J, κ)) rfl ?_
      rw [← Option.some.inj hf] at hk
      refine mx_WP.ret (v := some (mx_i (1 : Int32))) rfl ?_
      exact hk
    · rw [if_neg c2061] at hf
      refine mx_WP.bne (x := v2) (y := (62 : Int32)) (q := 501) (p3 := 497) rfl (fun _ => ?_) (fun hh => absurd c2061 hh)
      refine mx_WP.go 1 (pc' := 502) (L' := [some (mx_r (some (1, 11, 0))), some (mx_i v1), some (mx_i v2), some (mx_i v3), some (mx_i t0)]) (st' := [mx_i (0 : Int32)]) (σ' := (γ, hM (mx_u3 (mx_u3 I 11 0 11 (0 : Int32)) 11 0 12 (I 105 0 (((mx_u3 I 11 0 11 (0 : Int32)) 11 0 12).toNatClampNeg))) J, κ)) rfl ?_
      rw [← Option.some.inj hf] at hk
      refine mx_WP.ret (v := some (mx_i (0 : Int32))) rfl ?_
      exact hk
  · rw [if_neg c2059] at hf
    refine mx_WP.beq (x := t0) (y := (0 : Int32)) (q := 473) (p3 := 471) rfl (fun hh => absurd hh c2059) (fun _ => ?_)
    refine mx_WP.go 1 (pc' := 472) (L' := [some (mx_r (some (1, 11, 0))), some (mx_i v1), some (mx_i v2), some (mx_i v3), some (mx_i t0)]) (st' := [mx_i (1 : Int32)]) (σ' := (γ, hM I J, κ)) rfl ?_
    rw [← Option.some.inj hf] at hk
    refine mx_WP.ret (v := some (mx_i (1 : Int32))) rfl ?_
    exact hk
def j128_21 (v1 : Int32) (v2 : Int32) (v3 : Int32) (I : Nat → Nat → Nat → Int32) (J : Nat → Nat → Nat → Int64) : Option (Bool × (Nat → Nat → Nat → Int32) × (Nat → Nat → Nat → Int64)) :=
  j128_26 v1 v2 v3 (1 : Int32) I J
theorem J128_21 {d : Nat} {v1 : Int32} {v2 : Int32} {v3 : Int32} {z4 : Option mx_V} {γ : mx_Rg} {I : Nat → Nat → Nat → Int32} {J : Nat → Nat → Nat → Int64} {κ : (Nat × (Nat → Int32)) × (Nat × Nat)} {Q : Option mx_V → mx_Hp → Prop} {o : Bool × (Nat → Nat → Nat → Int32) × (Nat → Nat → Nat → Int64)} (hf : j128_21 v1 v2 v3 I J = some o) (hk : Q (some (mx_i (b2i o.1))) (γ, hM o.2.1 o.2.2, κ)) : mx_WP (d + 3) 128 21 [some (mx_r (some (1, 11, 0))), some (mx_i v1), some (mx_i v2), some (mx_i v3), z4] [] (γ, hM I J, κ) Q := by
  unfold j128_21 at hf
  refine mx_WP.go 2 (pc' := 26) (L' := [some (mx_r (some (1, 11, 0))), some (mx_i v1), some (mx_i v2), some (mx_i v3), z4]) (st' := [mx_i (1 : Int32)]) (σ' := (γ, hM I J, κ)) rfl ?_
  exact J128_26 (d := d) hf hk
def f128 (x1 : Int32) (x2 : Int32) (I : Nat → Nat → Nat → Int32) (J : Nat → Nat → Nat → Int64) : Option (Bool × (Nat → Nat → Nat → Int32) × (Nat → Nat → Nat → Int64)) :=
  (f120 x2 (97 : Int32) (122 : Int32)).bind fun u1 =>
  if x2 = (32 : Int32) then (j128_21 x1 x2 (b2i u1) I J) else if x2 = (10 : Int32) then (j128_21 x1 x2 (b2i u1) I J) else j128_26 x1 x2 (b2i u1) (0 : Int32) I J
theorem T128 {d : Nat} {x1 : Int32} {x2 : Int32} {γ : mx_Rg} {I : Nat → Nat → Nat → Int32} {J : Nat → Nat → Nat → Int64} {κ : (Nat × (Nat → Int32)) × (Nat × Nat)} {Q : Option mx_V → mx_Hp → Prop} {o : Bool × (Nat → Nat → Nat → Int32) × (Nat → Nat → Nat → Int64)} (hf : f128 x1 x2 I J = some o) (hk : Q (some (mx_i (b2i o.1))) (γ, hM o.2.1 o.2.2, κ)) : mx_WP (d + 3) 128 0 (mx_ent 128 [mx_r (some (1, 11, 0)), mx_i x1, mx_i x2]) [] (γ, hM I J, κ) Q := by
  unfold f128 at hf
  refine mx_WP.go 3 (pc' := 5) (L' := [some (mx_r (some (1, 11, 0))), some (mx_i x1), some (mx_i x2), none, none]) (st' := [mx_i (122 : Int32), mx_i (97 : Int32), mx_i x2]) (σ' := (γ, hM I J, κ)) rfl ?_
  obtain ⟨u1, e2063, hf⟩ := Option.bind_eq_some_iff.mp hf
  refine mx_WP.call (d := d + 2) (y := 120) (as := [mx_i x2, mx_i (97 : Int32), mx_i (122 : Int32)]) (pc' := 8) (r := []) rfl rfl (T120 (d := d + 2)  e2063 ?_)
  show mx_WP (d + 3) 128 8 [some (mx_r (some (1, 11, 0))), some (mx_i x1), some (mx_i x2), none, none] [mx_i (b2i u1)] (γ, hM I J, κ) Q
  refine mx_WP.go 3 (pc' := 12) (L' := [some (mx_r (some (1, 11, 0))), some (mx_i x1), some (mx_i x2), some (mx_i (b2i u1)), none]) (st' := [mx_i (32 : Int32), mx_i x2]) (σ' := (γ, hM I J, κ)) rfl ?_
  by_cases c2 : x2 = (32 : Int32)
  · rw [if_pos c2] at hf
    refine mx_WP.beq (x := x2) (y := (32 : Int32)) (q := 21) (p3 := 15) rfl (fun _ => ?_) (fun hh => absurd c2 hh)
    exact J128_21 (d := d) hf hk
  · rw [if_neg c2] at hf
    refine mx_WP.beq (x := x2) (y := (32 : Int32)) (q := 21) (p3 := 15) rfl (fun hh => absurd hh c2) (fun _ => ?_)
    refine mx_WP.go 2 (pc' := 18) (L' := [some (mx_r (some (1, 11, 0))), some (mx_i x1), some (mx_i x2), some (mx_i (b2i u1)), none]) (st' := [mx_i (10 : Int32), mx_i x2]) (σ' := (γ, hM I J, κ)) rfl ?_
    by_cases c2062 : x2 = (10 : Int32)
    · rw [if_pos c2062] at hf
      refine mx_WP.bne (x := x2) (y := (10 : Int32)) (q := 25) (p3 := 21) rfl (fun hh => absurd c2062 hh) (fun _ => ?_)
      exact J128_21 (d := d) hf hk
    · rw [if_neg c2062] at hf
      refine mx_WP.bne (x := x2) (y := (10 : Int32)) (q := 25) (p3 := 21) rfl (fun _ => ?_) (fun hh => absurd c2062 hh)
      refine mx_WP.go 1 (pc' := 26) (L' := [some (mx_r (some (1, 11, 0))), some (mx_i x1), some (mx_i x2), some (mx_i (b2i u1)), none]) (st' := [mx_i (0 : Int32)]) (σ' := (γ, hM I J, κ)) rfl ?_
      exact J128_26 (d := d) hf hk
def b127_19 (x1 : Int32) (I : Nat → Nat → Nat → Int32) (J : Nat → Nat → Nat → Int64) (s : Int32 × (Nat → Nat → Nat → Int32) × (Nat → Nat → Nat → Int64)) : Option ((Int32 × (Nat → Nat → Nat → Int32) × (Nat → Nat → Nat → Int64)) ⊕ ((Int32 × (Nat → Nat → Nat → Int32) × (Nat → Nat → Nat → Int64)) ⊕ (Int32 × (Nat → Nat → Nat → Int32) × (Nat → Nat → Nat → Int64)))) :=
  if (s.2.1 11 0 10) ≤ s.1 then (some (Sum.inr (Sum.inl (s.1, s.2.1, s.2.2)))) else if s.1 < 0 ∨ 200 ≤ s.1.toNatClampNeg then none else (f128 x1 (s.2.1 82 0 s.1.toNatClampNeg) s.2.1 s.2.2).bind fun u104 =>
  if u104.1 = true then (some (Sum.inl (s.1 + 1, u104.2.1, u104.2.2))) else some (Sum.inr (Sum.inr (s.1, u104.2.1, u104.2.2)))
theorem B127_19 {d : Nat} {x1 : Int32} {γ : mx_Rg} {I : Nat → Nat → Nat → Int32} {J : Nat → Nat → Nat → Int64} {κ : (Nat × (Nat → Int32)) × (Nat × Nat)} {Q : Option mx_V → mx_Hp → Prop} {s : Int32 × (Nat → Nat → Nat → Int32) × (Nat → Nat → Nat → Int64)} {o : (Int32 × (Nat → Nat → Nat → Int32) × (Nat → Nat → Nat → Int64)) ⊕ ((Int32 × (Nat → Nat → Nat → Int32) × (Nat → Nat → Nat → Int64)) ⊕ (Int32 × (Nat → Nat → Nat → Int32) × (Nat → Nat → Nat → Int64)))} (hf : b127_19 x1 I J s = some o) (hk : Sum.elim (fun s : Int32 × (Nat → Nat → Nat → Int32) × (Nat → Nat → Nat → Int64) => mx_WP (d + 4) 127 19 [some (mx_r (some (1, 11, 0))), some (mx_i x1), some (mx_i s.1)] [] (γ, hM s.2.1 s.2.2, κ) Q) (Sum.elim (fun x : Int32 × (Nat → Nat → Nat → Int32) × (Nat → Nat → Nat → Int64) => mx_WP (d + 4) 127 49 [some (mx_r (some (1, 11, 0))), some (mx_i x1), some (mx_i x.1)] [] (γ, hM x.2.1 x.2.2, κ) Q) (fun x : Int32 × (Nat → Nat → Nat → Int32) × (Nat → Nat → Nat → Int64) => Q (some (mx_i x.1)) (γ, hM x.2.1 x.2.2, κ))) o) : mx_WP (d + 4) 127 19 [some (mx_r (some (1, 11, 0))), some (mx_i x1), some (mx_i s.1)] [] (γ, hM s.2.1 s.2.2, κ) Q := by
  unfold b127_19 at hf
  refine mx_WP.go 3 (pc' := 24) (L' := [some (mx_r (some (1, 11, 0))), some (mx_i x1), some (mx_i s.1)]) (st' := [mx_i (s.2.1 11 0 10), mx_i s.1]) (σ' := (γ, hM s.2.1 s.2.2, κ)) rfl ?_
  by_cases c102 : (s.2.1 11 0 10) ≤ s.1
  · rw [if_pos c102] at hf
    refine mx_WP.bge (x := s.1) (y := (s.2.1 11 0 10)) (q := 49) (p3 := 27) rfl (fun _ => ?_) (fun hh => absurd c102 hh)
    rw [← Option.some.inj hf] at hk
    exact hk
  · rw [if_neg c102] at hf
    refine mx_WP.bge (x := s.1) (y := (s.2.1 11 0 10)) (q := 49) (p3 := 27) rfl (fun hh => absurd hh c102) (fun _ => ?_)
    refine mx_WP.go 5 (pc' := 34) (L' := [some (mx_r (some (1, 11, 0))), some (mx_i x1), some (mx_i s.1)]) (st' := [mx_i s.1, mx_r (some (1, 82, 0)), mx_i x1, mx_r (some (1, 11, 0))]) (σ' := (γ, hM s.2.1 s.2.2, κ)) rfl ?_
    by_cases c103 : s.1 < 0 ∨ 200 ≤ s.1.toNatClampNeg
    · rw [if_pos c103] at hf
      cases hf
    rw [if_neg c103] at hf
    refine mx_WP.ialdx c103 ?_
    show mx_WP (d + 4) 127 35 [some (mx_r (some (1, 11, 0))), some (mx_i x1), some (mx_i s.1)] [mx_i (s.2.1 82 0 s.1.toNatClampNeg), mx_i x1, mx_r (some (1, 11, 0))] (γ, hM s.2.1 s.2.2, κ) Q
    obtain ⟨u104, e106, hf⟩ := Option.bind_eq_some_iff.mp hf
    refine mx_WP.call (d := d + 3) (y := 128) (as := [mx_r (some (1, 11, 0)), mx_i x1, mx_i (s.2.1 82 0 s.1.toNatClampNeg)]) (pc' := 38) (r := []) rfl rfl (T128 (d := d + 0)  e106 ?_)
    show mx_WP (d + 4) 127 38 [some (mx_r (some (1, 11, 0))), some (mx_i x1), some (mx_i s.1)] [mx_i (b2i u104.1)] (γ, hM u104.2.1 u104.2.2, κ) Q
    by_cases c105 : u104.1 = true
    · rw [if_pos c105] at hf
      refine mx_WP.zne (b := u104.1) (q := 43) (p3 := 41) rfl (fun _ => ?_) (fun hh => absurd hh (by simp [c105]))
      refine mx_WP.go 2 (pc' := 19) (L' := [some (mx_r (some (1, 11, 0))), some (mx_i x1), some (mx_i (s.1 + 1))]) (st' := []) (σ' := (γ, hM u104.2.1 u104.2.2, κ)) rfl ?_
      rw [← Option.some.inj hf] at hk
      exact hk
    · rw [if_neg c105] at hf
      refine mx_WP.zne (b := u104.1) (q := 43) (p3 := 41) rfl (fun hh => absurd hh (by simp [c105])) (fun _ => ?_)
      refine mx_WP.go 1 (pc' := 42) (L' := [some (mx_r (some (1, 11, 0))), some (mx_i x1), some (mx_i s.1)]) (st' := [mx_i s.1]) (σ' := (γ, hM u104.2.1 u104.2.2, κ)) rfl ?_
      rw [← Option.some.inj hf] at hk
      refine mx_WP.ret (v := some (mx_i s.1)) rfl ?_
      exact hk
theorem L127_19 {d : Nat} {x1 : Int32} {γ : mx_Rg} {I : Nat → Nat → Nat → Int32} {J : Nat → Nat → Nat → Int64} {κ : (Nat × (Nat → Int32)) × (Nat × Nat)} {Q : Option mx_V → mx_Hp → Prop} {n : Nat} {s : Int32 × (Nat → Nat → Nat → Int32) × (Nat → Nat → Nat → Int64)} {o : (Int32 × (Nat → Nat → Nat → Int32) × (Nat → Nat → Nat → Int64)) ⊕ (Int32 × (Nat → Nat → Nat → Int32) × (Nat → Nat → Nat → Int64))} (hf : mx_lp (b127_19 x1 I J) n s = some o) (hk : (Sum.elim (fun x : Int32 × (Nat → Nat → Nat → Int32) × (Nat → Nat → Nat → Int64) => mx_WP (d + 4) 127 49 [some (mx_r (some (1, 11, 0))), some (mx_i x1), some (mx_i x.1)] [] (γ, hM x.2.1 x.2.2, κ) Q) (fun x : Int32 × (Nat → Nat → Nat → Int32) × (Nat → Nat → Nat → Int64) => Q (some (mx_i x.1)) (γ, hM x.2.1 x.2.2, κ))) o) : mx_WP (d + 4) 127 19 [some (mx_r (some (1, 11, 0))), some (mx_i x1), some (mx_i s.1)] [] (γ, hM s.2.1 s.2.2, κ) Q := mx_lp_ok (P := fun s : Int32 × (Nat → Nat → Nat → Int32) × (Nat → Nat → Nat → Int64) => mx_WP (d + 4) 127 19 [some (mx_r (some (1, 11, 0))), some (mx_i x1), some (mx_i s.1)] [] (γ, hM s.2.1 s.2.2, κ) Q) (E := (Sum.elim (fun x : Int32 × (Nat → Nat → Nat → Int32) × (Nat → Nat → Nat → Int64) => mx_WP (d + 4) 127 49 [some (mx_r (some (1, 11, 0))), some (mx_i x1), some (mx_i x.1)] [] (γ, hM x.2.1 x.2.2, κ) Q) (fun x : Int32 × (Nat → Nat → Nat → Int32) × (Nat → Nat → Nat → Int64) => Q (some (mx_i x.1)) (γ, hM x.2.1 x.2.2, κ)))) (fun s o hf hk => B127_19 hf hk) n s o hf hk
def f127 (x1 : Int32) (I : Nat → Nat → Nat → Int32) (J : Nat → Nat → Nat → Int64) : Option (Int32 × (Nat → Nat → Nat → Int32) × (Nat → Nat → Nat → Int64)) :=
  if x1 < 0 ∨ 8 ≤ x1.toNatClampNeg then none else (mx_lp (b127_19 x1 (mx_u3 (mx_u3 (mx_u3 I 11 0 11 (0 : Int32)) 11 0 12 (-1 : Int32)) 100 0 x1.toNatClampNeg (0 : Int32)) J) mx_fu ((0 : Int32), (mx_u3 (mx_u3 (mx_u3 I 11 0 11 (0 : Int32)) 11 0 12 (-1 : Int32)) 100 0 x1.toNatClampNeg (0 : Int32)), J)).bind fun u107 => Sum.elim (fun w109 =>
  if (w109.2.1 11 0 11) = (0 : Int32) then (if (0 : Int32) ≤ (w109.2.1 11 0 12) then (some (w109.2.1 11 0 10, w109.2.1, w109.2.2)) else some ((-1 : Int32), w109.2.1, w109.2.2)) else some (w109.2.1 11 0 10, w109.2.1, w109.2.2)) (fun y112 => some y112) u107
theorem T127 {d : Nat} {x1 : Int32} {γ : mx_Rg} {I : Nat → Nat → Nat → Int32} {J : Nat → Nat → Nat → Int64} {κ : (Nat × (Nat → Int32)) × (Nat × Nat)} {Q : Option mx_V → mx_Hp → Prop} {o : Int32 × (Nat → Nat → Nat → Int32) × (Nat → Nat → Nat → Int64)} (hf : f127 x1 I J = some o) (hk : Q (some (mx_i o.1)) (γ, hM o.2.1 o.2.2, κ)) : mx_WP (d + 4) 127 0 (mx_ent 127 [mx_r (some (1, 11, 0)), mx_i x1]) [] (γ, hM I J, κ) Q := by
  unfold f127 at hf
  refine mx_WP.go 10 (pc' := 16) (L' := [some (mx_r (some (1, 11, 0))), some (mx_i x1), none]) (st' := [mx_i (0 : Int32), mx_i x1, mx_r (some (1, 100, 0))]) (σ' := (γ, hM (mx_u3 (mx_u3 I 11 0 11 (0 : Int32)) 11 0 12 (-1 : Int32)) J, κ)) rfl ?_
  by_cases c1 : x1 < 0 ∨ 8 ≤ x1.toNatClampNeg
  · rw [if_pos c1] at hf
    cases hf
  rw [if_neg c1] at hf
  refine mx_WP.iastx c1 ?_
  show mx_WP (d + 4) 127 17 [some (mx_r (some (1, 11, 0))), some (mx_i x1), none] [] (γ, hM (mx_u3 (mx_u3 (mx_u3 I 11 0 11 (0 : Int32)) 11 0 12 (-1 : Int32)) 100 0 x1.toNatClampNeg (0 : Int32)) J, κ) Q
  refine mx_WP.go 2 (pc' := 19) (L' := [some (mx_r (some (1, 11, 0))), some (mx_i x1), some (mx_i (0 : Int32))]) (st' := []) (σ' := (γ, hM (mx_u3 (mx_u3 (mx_u3 I 11 0 11 (0 : Int32)) 11 0 12 (-1 : Int32)) 100 0 x1.toNatClampNeg (0 : Int32)) J, κ)) rfl ?_
  obtain ⟨u107, e108, hf⟩ := Option.bind_eq_some_iff.mp hf
  cases u107 with
  | inr y112 =>
    rw [Sum.elim_inr] at hf
    rw [← Option.some.inj hf] at hk
    exact (L127_19 (d := d) e108 hk)
  | inl w109 =>
    rw [Sum.elim_inl] at hf
    refine (L127_19 (d := d) e108 ?_)
    show mx_WP (d + 4) 127 49 [some (mx_r (some (1, 11, 0))), some (mx_i x1), some (mx_i w109.1)] [] (γ, hM w109.2.1 w109.2.2, κ) Q
    refine mx_WP.go 2 (pc' := 53) (L' := [some (mx_r (some (1, 11, 0))), some (mx_i x1), some (mx_i w109.1)]) (st' := [mx_i (w109.2.1 11 0 11)]) (σ' := (γ, hM w109.2.1 w109.2.2, κ)) rfl ?_
    by_cases c110 : (w109.2.1 11 0 11) = (0 : Int32)
    · rw [if_pos c110] at hf
      refine mx_WP.bne (x := (w109.2.1 11 0 11)) (y := (0 : Int32)) (q := 67) (p3 := 56) rfl (fun hh => absurd c110 hh) (fun _ => ?_)
      refine mx_WP.go 2 (pc' := 60) (L' := [some (mx_r (some (1, 11, 0))), some (mx_i x1), some (mx_i w109.1)]) (st' := [mx_i (w109.2.1 11 0 12)]) (σ' := (γ, hM w109.2.1 w109.2.2, κ)) rfl ?_
      by_cases c111 : (0 : Int32) ≤ (w109.2.1 11 0 12)
      · rw [if_pos c111] at hf
        refine mx_WP.bge (x := (w109.2.1 11 0 12)) (y := (0 : Int32)) (q := 67) (p3 := 63) rfl (fun _ => ?_) (fun hh => absurd c111 hh)
        refine mx_WP.go 2 (pc' := 71) (L' := [some (mx_r (some (1, 11, 0))), some (mx_i x1), some (mx_i w109.1)]) (st' := [mx_i (w109.2.1 11 0 10)]) (σ' := (γ, hM w109.2.1 w109.2.2, κ)) rfl ?_
        rw [← Option.some.inj hf] at hk
        refine mx_WP.ret (v := some (mx_i (w109.2.1 11 0 10))) rfl ?_
        exact hk
      · rw [if_neg c111] at hf
        refine mx_WP.bge (x := (w109.2.1 11 0 12)) (y := (0 : Int32)) (q := 67) (p3 := 63) rfl (fun hh => absurd hh c111) (fun _ => ?_)
        refine mx_WP.go 2 (pc' := 71) (L' := [some (mx_r (some (1, 11, 0))), some (mx_i x1), some (mx_i w109.1)]) (st' := [mx_i (-1 : Int32)]) (σ' := (γ, hM w109.2.1 w109.2.2, κ)) rfl ?_
        rw [← Option.some.inj hf] at hk
        refine mx_WP.ret (v := some (mx_i (-1 : Int32))) rfl ?_
        exact hk
    · rw [if_neg c110] at hf
      refine mx_WP.bne (x := (w109.2.1 11 0 11)) (y := (0 : Int32)) (q := 67) (p3 := 56) rfl (fun _ => ?_) (fun hh => absurd c110 hh)
      refine mx_WP.go 2 (pc' := 71) (L' := [some (mx_r (some (1, 11, 0))), some (mx_i x1), some (mx_i w109.1)]) (st' := [mx_i (w109.2.1 11 0 10)]) (σ' := (γ, hM w109.2.1 w109.2.2, κ)) rfl ?_
      rw [← Option.some.inj hf] at hk
      refine mx_WP.ret (v := some (mx_i (w109.2.1 11 0 10))) rfl ?_
      exact hk
def b126_269 (x1 : Int32) (I : Nat → Nat → Nat → Int32) (J : Nat → Nat → Nat → Int64) (s : Int32 × (Nat → Nat → Nat → Int32)) : Option ((Int32 × (Nat → Nat → Nat → Int32)) ⊕ (Int32 × (Nat → Nat → Nat → Int32))) :=
  if x1 < 0 ∨ 8 ≤ x1.toNatClampNeg then none else if (s.2 97 0 x1.toNatClampNeg) ≤ s.1 then (some (Sum.inr (s.1, s.2))) else if s.1 < 0 ∨ 200 ≤ s.1.toNatClampNeg then none else if (s.2 82 0 s.1.toNatClampNeg) = (10 : Int32) then (if x1 < 0 ∨ 8 ≤ x1.toNatClampNeg then none else if x1 < 0 ∨ 8 ≤ x1.toNatClampNeg then none else some (Sum.inl (s.1 + 1, (mx_u3 s.2 98 0 x1.toNatClampNeg ((s.2 98 0 x1.toNatClampNeg) + (1 : Int32)))))) else some (Sum.inl (s.1 + 1, s.2))
theorem B126_269 {d : Nat} {x1 : Int32} {γ : mx_Rg} {I : Nat → Nat → Nat → Int32} {J : Nat → Nat → Nat → Int64} {κ : (Nat × (Nat → Int32)) × (Nat × Nat)} {Q : Option mx_V → mx_Hp → Prop} {s : Int32 × (Nat → Nat → Nat → Int32)} {o : (Int32 × (Nat → Nat → Nat → Int32)) ⊕ (Int32 × (Nat → Nat → Nat → Int32))} (hf : b126_269 x1 I J s = some o) (hk : Sum.elim (fun s : Int32 × (Nat → Nat → Nat → Int32) => ∀ (z2 : Option mx_V), mx_WP (d + 6) 126 269 [some (mx_r (some (1, 11, 0))), some (mx_i x1), z2, some (mx_i s.1)] [] (γ, hM s.2 J, κ) Q) (fun x : Int32 × (Nat → Nat → Nat → Int32) => ∀ (z2 : Option mx_V), mx_WP (d + 6) 126 306 [some (mx_r (some (1, 11, 0))), some (mx_i x1), z2, some (mx_i x.1)] [] (γ, hM x.2 J, κ) Q) o) : ∀ (z2 : Option mx_V), mx_WP (d + 6) 126 269 [some (mx_r (some (1, 11, 0))), some (mx_i x1), z2, some (mx_i s.1)] [] (γ, hM s.2 J, κ) Q := by
  intro z2
  unfold b126_269 at hf
  refine mx_WP.go 4 (pc' := 275) (L' := [some (mx_r (some (1, 11, 0))), some (mx_i x1), z2, some (mx_i s.1)]) (st' := [mx_i x1, mx_r (some (1, 97, 0)), mx_i s.1]) (σ' := (γ, hM s.2 J, κ)) rfl ?_
  by_cases c1340 : x1 < 0 ∨ 8 ≤ x1.toNatClampNeg
  · rw [if_pos c1340] at hf
    cases hf
  rw [if_neg c1340] at hf
  refine mx_WP.ialdx c1340 ?_
  show mx_WP (d + 6) 126 276 [some (mx_r (some (1, 11, 0))), some (mx_i x1), z2, some (mx_i s.1)] [mx_i (s.2 97 0 x1.toNatClampNeg), mx_i s.1] (γ, hM s.2 J, κ) Q
  by_cases c1341 : (s.2 97 0 x1.toNatClampNeg) ≤ s.1
  · rw [if_pos c1341] at hf
    refine mx_WP.bge (x := s.1) (y := (s.2 97 0 x1.toNatClampNeg)) (q := 306) (p3 := 279) rfl (fun _ => ?_) (fun hh => absurd c1341 hh)
    rw [← Option.some.inj hf] at hk
    exact hk (z2)
  · rw [if_neg c1341] at hf
    refine mx_WP.bge (x := s.1) (y := (s.2 97 0 x1.toNatClampNeg)) (q := 306) (p3 := 279) rfl (fun hh => absurd hh c1341) (fun _ => ?_)
    refine mx_WP.go 3 (pc' := 284) (L' := [some (mx_r (some (1, 11, 0))), some (mx_i x1), z2, some (mx_i s.1)]) (st' := [mx_i s.1, mx_r (some (1, 82, 0))]) (σ' := (γ, hM s.2 J, κ)) rfl ?_
    by_cases c1342 : s.1 < 0 ∨ 200 ≤ s.1.toNatClampNeg
    · rw [if_pos c1342] at hf
      cases hf
    rw [if_neg c1342] at hf
    refine mx_WP.ialdx c1342 ?_
    show mx_WP (d + 6) 126 285 [some (mx_r (some (1, 11, 0))), some (mx_i x1), z2, some (mx_i s.1)] [mx_i (s.2 82 0 s.1.toNatClampNeg)] (γ, hM s.2 J, κ) Q
    refine mx_WP.go 1 (pc' := 287) (L' := [some (mx_r (some (1, 11, 0))), some (mx_i x1), z2, some (mx_i s.1)]) (st' := [mx_i (10 : Int32), mx_i (s.2 82 0 s.1.toNatClampNeg)]) (σ' := (γ, hM s.2 J, κ)) rfl ?_
    by_cases c1343 : (s.2 82 0 s.1.toNatClampNeg) = (10 : Int32)
    · rw [if_pos c1343] at hf
      refine mx_WP.bne (x := (s.2 82 0 s.1.toNatClampNeg)) (y := (10 : Int32)) (q := 300) (p3 := 290) rfl (fun hh => absurd c1343 hh) (fun _ => ?_)
      refine mx_WP.go 4 (pc' := 296) (L' := [some (mx_r (some (1, 11, 0))), some (mx_i x1), z2, some (mx_i s.1)]) (st' := [mx_i x1, mx_r (some (1, 98, 0)), mx_i x1, mx_r (some (1, 98, 0))]) (σ' := (γ, hM s.2 J, κ)) rfl ?_
      by_cases c1344 : x1 < 0 ∨ 8 ≤ x1.toNatClampNeg
      · rw [if_pos c1344] at hf
        cases hf
      rw [if_neg c1344] at hf
      refine mx_WP.ialdx c1344 ?_
      show mx_WP (d + 6) 126 297 [some (mx_r (some (1, 11, 0))), some (mx_i x1), z2, some (mx_i s.1)] [mx_i (s.2 98 0 x1.toNatClampNeg), mx_i x1, mx_r (some (1, 98, 0))] (γ, hM s.2 J, κ) Q
      refine mx_WP.go 2 (pc' := 299) (L' := [some (mx_r (some (1, 11, 0))), some (mx_i x1), z2, some (mx_i s.1)]) (st' := [mx_i ((s.2 98 0 x1.toNatClampNeg) + (1 : Int32)), mx_i x1, mx_r (some (1, 98, 0))]) (σ' := (γ, hM s.2 J, κ)) rfl ?_
      by_cases c1345 : x1 < 0 ∨ 8 ≤ x1.toNatClampNeg
      · rw [if_pos c1345] at hf
        cases hf
      rw [if_neg c1345] at hf
      refine mx_WP.iastx c1345 ?_
      show mx_WP (d + 6) 126 300 [some (mx_r (some (1, 11, 0))), some (mx_i x1), z2, some (mx_i s.1)] [] (γ, hM (mx_u3 s.2 98 0 x1.toNatClampNeg ((s.2 98 0 x1.toNatClampNeg) + (1 : Int32))) J, κ) Q
      refine mx_WP.go 2 (pc' := 269) (L' := [some (mx_r (some (1, 11, 0))), some (mx_i x1), z2, some (mx_i (s.1 + 1))]) (st' := []) (σ' := (γ, hM (mx_u3 s.2 98 0 x1.toNatClampNeg ((s.2 98 0 x1.toNatClampNeg) + (1 : Int32))) J, κ)) rfl ?_
      rw [← Option.some.inj hf] at hk
      exact hk (z2)
    · rw [if_neg c1343] at hf
      refine mx_WP.bne (x := (s.2 82 0 s.1.toNatClampNeg)) (y := (10 : Int32)) (q := 300) (p3 := 290) rfl (fun _ => ?_) (fun hh => absurd c1343 hh)
      refine mx_WP.go 2 (pc' := 269) (L' := [some (mx_r (some (1, 11, 0))), some (mx_i x1), z2, some (mx_i (s.1 + 1))]) (st' := []) (σ' := (γ, hM s.2 J, κ)) rfl ?_
      rw [← Option.some.inj hf] at hk
      exact hk (z2)
theorem L126_269 {d : Nat} {x1 : Int32} {γ : mx_Rg} {I : Nat → Nat → Nat → Int32} {J : Nat → Nat → Nat → Int64} {κ : (Nat × (Nat → Int32)) × (Nat × Nat)} {Q : Option mx_V → mx_Hp → Prop} {n : Nat} {s : Int32 × (Nat → Nat → Nat → Int32)} {o : Int32 × (Nat → Nat → Nat → Int32)} (hf : mx_lp (b126_269 x1 I J) n s = some o) (hk : (fun x : Int32 × (Nat → Nat → Nat → Int32) => ∀ (z2 : Option mx_V), mx_WP (d + 6) 126 306 [some (mx_r (some (1, 11, 0))), some (mx_i x1), z2, some (mx_i x.1)] [] (γ, hM x.2 J, κ) Q) o) : ∀ (z2 : Option mx_V), mx_WP (d + 6) 126 269 [some (mx_r (some (1, 11, 0))), some (mx_i x1), z2, some (mx_i s.1)] [] (γ, hM s.2 J, κ) Q := mx_lp_ok (P := fun s : Int32 × (Nat → Nat → Nat → Int32) => ∀ (z2 : Option mx_V), mx_WP (d + 6) 126 269 [some (mx_r (some (1, 11, 0))), some (mx_i x1), z2, some (mx_i s.1)] [] (γ, hM s.2 J, κ) Q) (E := (fun x : Int32 × (Nat → Nat → Nat → Int32) => ∀ (z2 : Option mx_V), mx_WP (d + 6) 126 306 [some (mx_r (some (1, 11, 0))), some (mx_i x1), z2, some (mx_i x.1)] [] (γ, hM x.2 J, κ) Q)) (fun s o hf hk => B126_269 hf hk) n s o hf hk
def b135_2  (I : Nat → Nat → Nat → Int32) (s : Int32 × (Nat → Nat → Nat → Int32)) : Option ((Int32 × (Nat → Nat → Nat → Int32)) ⊕ (Int32 × (Nat → Nat → Nat → Int32))) :=
  if (8 : Int32) ≤ s.1 then (some (Sum.inr (s.1, s.2))) else if s.1 < 0 ∨ 8 ≤ s.1.toNatClampNeg then none else if s.1 < 0 ∨ 8 ≤ s.1.toNatClampNeg then none else some (Sum.inl (s.1 + 1, (mx_u3 s.2 93 0 s.1.toNatClampNeg (vp_nar .boolean (s.2 92 0 s.1.toNatClampNeg)))))
theorem B135_2 {d : Nat}  {γ : mx_Rg} {I : Nat → Nat → Nat → Int32} {J : Nat → Nat → Nat → Int64} {κ : (Nat × (Nat → Int32)) × (Nat × Nat)} {Q : Option mx_V → mx_Hp → Prop} {s : Int32 × (Nat → Nat → Nat → Int32)} {o : (Int32 × (Nat → Nat → Nat → Int32)) ⊕ (Int32 × (Nat → Nat → Nat → Int32))} (hf : b135_2 I s = some o) (hk : Sum.elim (fun s : Int32 × (Nat → Nat → Nat → Int32) => ∀ (z2 : Option mx_V), mx_WP (d + 3) 135 2 [some (mx_r (some (1, 11, 0))), some (mx_i s.1), z2] [] (γ, hM s.2 J, κ) Q) (fun x : Int32 × (Nat → Nat → Nat → Int32) => ∀ (z2 : Option mx_V), mx_WP (d + 3) 135 26 [some (mx_r (some (1, 11, 0))), some (mx_i x.1), z2] [] (γ, hM x.2 J, κ) Q) o) : ∀ (z2 : Option mx_V), mx_WP (d + 3) 135 2 [some (mx_r (some (1, 11, 0))), some (mx_i s.1), z2] [] (γ, hM s.2 J, κ) Q := by
  intro z2
  unfold b135_2 at hf
  refine mx_WP.go 2 (pc' := 5) (L' := [some (mx_r (some (1, 11, 0))), some (mx_i s.1), z2]) (st' := [mx_i (8 : Int32), mx_i s.1]) (σ' := (γ, hM s.2 J, κ)) rfl ?_
  by_cases c101 : (8 : Int32) ≤ s.1
  · rw [if_pos c101] at hf
    refine mx_WP.bge (x := s.1) (y := (8 : Int32)) (q := 26) (p3 := 8) rfl (fun _ => ?_) (fun hh => absurd c101 hh)
    rw [← Option.some.inj hf] at hk
    exact hk (z2)
  · rw [if_neg c101] at hf
    refine mx_WP.bge (x := s.1) (y := (8 : Int32)) (q := 26) (p3 := 8) rfl (fun hh => absurd hh c101) (fun _ => ?_)
    refine mx_WP.go 6 (pc' := 18) (L' := [some (mx_r (some (1, 11, 0))), some (mx_i s.1), z2]) (st' := [mx_i s.1, mx_r (some (1, 92, 0)), mx_i s.1, mx_r (some (1, 93, 0))]) (σ' := (γ, hM s.2 J, κ)) rfl ?_
    by_cases c102 : s.1 < 0 ∨ 8 ≤ s.1.toNatClampNeg
    · rw [if_pos c102] at hf
      cases hf
    rw [if_neg c102] at hf
    refine mx_WP.baldx c102 ?_
    show mx_WP (d + 3) 135 19 [some (mx_r (some (1, 11, 0))), some (mx_i s.1), z2] [mx_i (s.2 92 0 s.1.toNatClampNeg), mx_i s.1, mx_r (some (1, 93, 0))] (γ, hM s.2 J, κ) Q
    by_cases c103 : s.1 < 0 ∨ 8 ≤ s.1.toNatClampNeg
    · rw [if_pos c103] at hf
      cases hf
    rw [if_neg c103] at hf
    refine mx_WP.bastx c103 ?_
    show mx_WP (d + 3) 135 20 [some (mx_r (some (1, 11, 0))), some (mx_i s.1), z2] [] (γ, hM (mx_u3 s.2 93 0 s.1.toNatClampNeg (vp_nar .boolean (s.2 92 0 s.1.toNatClampNeg))) J, κ) Q
    refine mx_WP.go 2 (pc' := 2) (L' := [some (mx_r (some (1, 11, 0))), some (mx_i (s.1 + 1)), z2]) (st' := []) (σ' := (γ, hM (mx_u3 s.2 93 0 s.1.toNatClampNeg (vp_nar .boolean (s.2 92 0 s.1.toNatClampNeg))) J, κ)) rfl ?_
    rw [← Option.some.inj hf] at hk
    exact hk (z2)
theorem L135_2 {d : Nat}  {γ : mx_Rg} {I : Nat → Nat → Nat → Int32} {J : Nat → Nat → Nat → Int64} {κ : (Nat × (Nat → Int32)) × (Nat × Nat)} {Q : Option mx_V → mx_Hp → Prop} {n : Nat} {s : Int32 × (Nat → Nat → Nat → Int32)} {o : Int32 × (Nat → Nat → Nat → Int32)} (hf : mx_lp (b135_2 I) n s = some o) (hk : (fun x : Int32 × (Nat → Nat → Nat → Int32) => ∀ (z2 : Option mx_V), mx_WP (d + 3) 135 26 [some (mx_r (some (1, 11, 0))), some (mx_i x.1), z2] [] (γ, hM x.2 J, κ) Q) o) : ∀ (z2 : Option mx_V), mx_WP (d + 3) 135 2 [some (mx_r (some (1, 11, 0))), some (mx_i s.1), z2] [] (γ, hM s.2 J, κ) Q := mx_lp_ok (P := fun s : Int32 × (Nat → Nat → Nat → Int32) => ∀ (z2 : Option mx_V), mx_WP (d + 3) 135 2 [some (mx_r (some (1, 11, 0))), some (mx_i s.1), z2] [] (γ, hM s.2 J, κ) Q) (E := (fun x : Int32 × (Nat → Nat → Nat → Int32) => ∀ (z2 : Option mx_V), mx_WP (d + 3) 135 26 [some (mx_r (some (1, 11, 0))), some (mx_i x.1), z2] [] (γ, hM x.2 J, κ) Q)) (fun s o hf hk => B135_2 hf hk) n s o hf hk
def b135_36 (x1 : Int32) (I : Nat → Nat → Nat → Int32) (s : Int32 × (Nat → Nat → Nat → Int32)) : Option ((Int32 × (Nat → Nat → Nat → Int32)) ⊕ (Int32 × (Nat → Nat → Nat → Int32))) :=
  if (8 : Int32) ≤ s.1 then (some (Sum.inr (s.1, s.2))) else if s.1 < 0 ∨ 8 ≤ s.1.toNatClampNeg then none else if (s.2 93 0 s.1.toNatClampNeg) = (0 : Int32) then (some (Sum.inl (s.1 + 1, s.2))) else (f136 s.1 s.2).bind fun u310 =>
  if u310 ≤ (0 : Int32) then (some (Sum.inl (s.1 + 1, s.2))) else if s.1 < 0 ∨ 8 ≤ s.1.toNatClampNeg then none else some (Sum.inl (s.1 + 1, (mx_u3 s.2 93 0 s.1.toNatClampNeg (vp_nar .boolean (0 : Int32)))))
theorem B135_36 {d : Nat} {x1 : Int32} {γ : mx_Rg} {I : Nat → Nat → Nat → Int32} {J : Nat → Nat → Nat → Int64} {κ : (Nat × (Nat → Int32)) × (Nat × Nat)} {Q : Option mx_V → mx_Hp → Prop} {s : Int32 × (Nat → Nat → Nat → Int32)} {o : (Int32 × (Nat → Nat → Nat → Int32)) ⊕ (Int32 × (Nat → Nat → Nat → Int32))} (hf : b135_36 x1 I s = some o) (hk : Sum.elim (fun s : Int32 × (Nat → Nat → Nat → Int32) => mx_WP (d + 3) 135 36 [some (mx_r (some (1, 11, 0))), some (mx_i x1), some (mx_i s.1)] [] (γ, hM s.2 J, κ) Q) (fun x : Int32 × (Nat → Nat → Nat → Int32) => mx_WP (d + 3) 135 72 [some (mx_r (some (1, 11, 0))), some (mx_i x1), some (mx_i x.1)] [] (γ, hM x.2 J, κ) Q) o) : mx_WP (d + 3) 135 36 [some (mx_r (some (1, 11, 0))), some (mx_i x1), some (mx_i s.1)] [] (γ, hM s.2 J, κ) Q := by
  unfold b135_36 at hf
  refine mx_WP.go 2 (pc' := 39) (L' := [some (mx_r (some (1, 11, 0))), some (mx_i x1), some (mx_i s.1)]) (st' := [mx_i (8 : Int32), mx_i s.1]) (σ' := (γ, hM s.2 J, κ)) rfl ?_
  by_cases c307 : (8 : Int32) ≤ s.1
  · rw [if_pos c307] at hf
    refine mx_WP.bge (x := s.1) (y := (8 : Int32)) (q := 72) (p3 := 42) rfl (fun _ => ?_) (fun hh => absurd c307 hh)
    rw [← Option.some.inj hf] at hk
    exact hk
  · rw [if_neg c307] at hf
    refine mx_WP.bge (x := s.1) (y := (8 : Int32)) (q := 72) (p3 := 42) rfl (fun hh => absurd hh c307) (fun _ => ?_)
    refine mx_WP.go 3 (pc' := 47) (L' := [some (mx_r (some (1, 11, 0))), some (mx_i x1), some (mx_i s.1)]) (st' := [mx_i s.1, mx_r (some (1, 93, 0))]) (σ' := (γ, hM s.2 J, κ)) rfl ?_
    by_cases c308 : s.1 < 0 ∨ 8 ≤ s.1.toNatClampNeg
    · rw [if_pos c308] at hf
      cases hf
    rw [if_neg c308] at hf
    refine mx_WP.baldx c308 ?_
    show mx_WP (d + 3) 135 48 [some (mx_r (some (1, 11, 0))), some (mx_i x1), some (mx_i s.1)] [mx_i (s.2 93 0 s.1.toNatClampNeg)] (γ, hM s.2 J, κ) Q
    by_cases c309 : (s.2 93 0 s.1.toNatClampNeg) = (0 : Int32)
    · rw [if_pos c309] at hf
      refine mx_WP.beq (x := (s.2 93 0 s.1.toNatClampNeg)) (y := (0 : Int32)) (q := 66) (p3 := 51) rfl (fun _ => ?_) (fun hh => absurd c309 hh)
      refine mx_WP.go 2 (pc' := 36) (L' := [some (mx_r (some (1, 11, 0))), some (mx_i x1), some (mx_i (s.1 + 1))]) (st' := []) (σ' := (γ, hM s.2 J, κ)) rfl ?_
      rw [← Option.some.inj hf] at hk
      exact hk
    · rw [if_neg c309] at hf
      refine mx_WP.beq (x := (s.2 93 0 s.1.toNatClampNeg)) (y := (0 : Int32)) (q := 66) (p3 := 51) rfl (fun hh => absurd hh c309) (fun _ => ?_)
      refine mx_WP.go 2 (pc' := 53) (L' := [some (mx_r (some (1, 11, 0))), some (mx_i x1), some (mx_i s.1)]) (st' := [mx_i s.1, mx_r (some (1, 11, 0))]) (σ' := (γ, hM s.2 J, κ)) rfl ?_
      obtain ⟨u310, e313, hf⟩ := Option.bind_eq_some_iff.mp hf
      refine mx_WP.call (d := d + 2) (y := 136) (as := [mx_r (some (1, 11, 0)), mx_i s.1]) (pc' := 56) (r := []) rfl rfl (T136 (d := d + 0)  e313 ?_)
      show mx_WP (d + 3) 135 56 [some (mx_r (some (1, 11, 0))), some (mx_i x1), some (mx_i s.1)] [mx_i u310] (γ, hM s.2 J, κ) Q
      by_cases c311 : u310 ≤ (0 : Int32)
      · rw [if_pos c311] at hf
        refine mx_WP.ble (x := u310) (y := (0 : Int32)) (q := 66) (p3 := 59) rfl (fun _ => ?_) (fun hh => absurd c311 hh)
        refine mx_WP.go 2 (pc' := 36) (L' := [some (mx_r (some (1, 11, 0))), some (mx_i x1), some (mx_i (s.1 + 1))]) (st' := []) (σ' := (γ, hM s.2 J, κ)) rfl ?_
        rw [← Option.some.inj hf] at hk
        exact hk
      · rw [if_neg c311] at hf
        refine mx_WP.ble (x := u310) (y := (0 : Int32)) (q := 66) (p3 := 59) rfl (fun hh => absurd hh c311) (fun _ => ?_)
        refine mx_WP.go 4 (pc' := 65) (L' := [some (mx_r (some (1, 11, 0))), some (mx_i x1), some (mx_i s.1)]) (st' := [mx_i (0 : Int32), mx_i s.1, mx_r (some (1, 93, 0))]) (σ' := (γ, hM s.2 J, κ)) rfl ?_
        by_cases c312 : s.1 < 0 ∨ 8 ≤ s.1.toNatClampNeg
        · rw [if_pos c312] at hf
          cases hf
        rw [if_neg c312] at hf
        refine mx_WP.bastx c312 ?_
        show mx_WP (d + 3) 135 66 [some (mx_r (some (1, 11, 0))), some (mx_i x1), some (mx_i s.1)] [] (γ, hM (mx_u3 s.2 93 0 s.1.toNatClampNeg (vp_nar .boolean (0 : Int32))) J, κ) Q
        refine mx_WP.go 2 (pc' := 36) (L' := [some (mx_r (some (1, 11, 0))), some (mx_i x1), some (mx_i (s.1 + 1))]) (st' := []) (σ' := (γ, hM (mx_u3 s.2 93 0 s.1.toNatClampNeg (vp_nar .boolean (0 : Int32))) J, κ)) rfl ?_
        rw [← Option.some.inj hf] at hk
        exact hk
theorem L135_36 {d : Nat} {x1 : Int32} {γ : mx_Rg} {I : Nat → Nat → Nat → Int32} {J : Nat → Nat → Nat → Int64} {κ : (Nat × (Nat → Int32)) × (Nat × Nat)} {Q : Option mx_V → mx_Hp → Prop} {n : Nat} {s : Int32 × (Nat → Nat → Nat → Int32)} {o : Int32 × (Nat → Nat → Nat → Int32)} (hf : mx_lp (b135_36 x1 I) n s = some o) (hk : (fun x : Int32 × (Nat → Nat → Nat → Int32) => mx_WP (d + 3) 135 72 [some (mx_r (some (1, 11, 0))), some (mx_i x1), some (mx_i x.1)] [] (γ, hM x.2 J, κ) Q) o) : mx_WP (d + 3) 135 36 [some (mx_r (some (1, 11, 0))), some (mx_i x1), some (mx_i s.1)] [] (γ, hM s.2 J, κ) Q := mx_lp_ok (P := fun s : Int32 × (Nat → Nat → Nat → Int32) => mx_WP (d + 3) 135 36 [some (mx_r (some (1, 11, 0))), some (mx_i x1), some (mx_i s.1)] [] (γ, hM s.2 J, κ) Q) (E := (fun x : Int32 × (Nat → Nat → Nat → Int32) => mx_WP (d + 3) 135 72 [some (mx_r (some (1, 11, 0))), some (mx_i x1), some (mx_i x.1)] [] (γ, hM x.2 J, κ) Q)) (fun s o hf hk => B135_36 hf hk) n s o hf hk
def b135_28  (I : Nat → Nat → Nat → Int32) (s : Int32 × (Nat → Nat → Nat → Int32)) : Option ((Int32 × (Nat → Nat → Nat → Int32)) ⊕ (Int32 × (Nat → Nat → Nat → Int32))) :=
  if (8 : Int32) ≤ s.1 then (some (Sum.inr (s.1, s.2))) else (mx_lp (b135_36 s.1 s.2) mx_fu ((0 : Int32), s.2)).bind fun u314 =>
  some (Sum.inl (s.1 + 1, u314.2))
theorem B135_28 {d : Nat}  {γ : mx_Rg} {I : Nat → Nat → Nat → Int32} {J : Nat → Nat → Nat → Int64} {κ : (Nat × (Nat → Int32)) × (Nat × Nat)} {Q : Option mx_V → mx_Hp → Prop} {s : Int32 × (Nat → Nat → Nat → Int32)} {o : (Int32 × (Nat → Nat → Nat → Int32)) ⊕ (Int32 × (Nat → Nat → Nat → Int32))} (hf : b135_28 I s = some o) (hk : Sum.elim (fun s : Int32 × (Nat → Nat → Nat → Int32) => ∀ (z2 : Option mx_V), mx_WP (d + 3) 135 28 [some (mx_r (some (1, 11, 0))), some (mx_i s.1), z2] [] (γ, hM s.2 J, κ) Q) (fun x : Int32 × (Nat → Nat → Nat → Int32) => ∀ (z2 : Option mx_V), mx_WP (d + 3) 135 78 [some (mx_r (some (1, 11, 0))), some (mx_i x.1), z2] [] (γ, hM x.2 J, κ) Q) o) : ∀ (z2 : Option mx_V), mx_WP (d + 3) 135 28 [some (mx_r (some (1, 11, 0))), some (mx_i s.1), z2] [] (γ, hM s.2 J, κ) Q := by
  intro z2
  unfold b135_28 at hf
  refine mx_WP.go 2 (pc' := 31) (L' := [some (mx_r (some (1, 11, 0))), some (mx_i s.1), z2]) (st' := [mx_i (8 : Int32), mx_i s.1]) (σ' := (γ, hM s.2 J, κ)) rfl ?_
  by_cases c206 : (8 : Int32) ≤ s.1
  · rw [if_pos c206] at hf
    refine mx_WP.bge (x := s.1) (y := (8 : Int32)) (q := 78) (p3 := 34) rfl (fun _ => ?_) (fun hh => absurd c206 hh)
    rw [← Option.some.inj hf] at hk
    exact hk (z2)
  · rw [if_neg c206] at hf
    refine mx_WP.bge (x := s.1) (y := (8 : Int32)) (q := 78) (p3 := 34) rfl (fun hh => absurd hh c206) (fun _ => ?_)
    refine mx_WP.go 2 (pc' := 36) (L' := [some (mx_r (some (1, 11, 0))), some (mx_i s.1), some (mx_i (0 : Int32))]) (st' := []) (σ' := (γ, hM s.2 J, κ)) rfl ?_
    obtain ⟨u314, e315, hf⟩ := Option.bind_eq_some_iff.mp hf
    refine L135_36 (d := d) e315 ?_
    show mx_WP (d + 3) 135 72 [some (mx_r (some (1, 11, 0))), some (mx_i s.1), some (mx_i u314.1)] [] (γ, hM u314.2 J, κ) Q
    refine mx_WP.go 2 (pc' := 28) (L' := [some (mx_r (some (1, 11, 0))), some (mx_i (s.1 + 1)), some (mx_i u314.1)]) (st' := []) (σ' := (γ, hM u314.2 J, κ)) rfl ?_
    rw [← Option.some.inj hf] at hk
    exact hk (some (mx_i u314.1))
theorem L135_28 {d : Nat}  {γ : mx_Rg} {I : Nat → Nat → Nat → Int32} {J : Nat → Nat → Nat → Int64} {κ : (Nat × (Nat → Int32)) × (Nat × Nat)} {Q : Option mx_V → mx_Hp → Prop} {n : Nat} {s : Int32 × (Nat → Nat → Nat → Int32)} {o : Int32 × (Nat → Nat → Nat → Int32)} (hf : mx_lp (b135_28 I) n s = some o) (hk : (fun x : Int32 × (Nat → Nat → Nat → Int32) => ∀ (z2 : Option mx_V), mx_WP (d + 3) 135 78 [some (mx_r (some (1, 11, 0))), some (mx_i x.1), z2] [] (γ, hM x.2 J, κ) Q) o) : ∀ (z2 : Option mx_V), mx_WP (d + 3) 135 28 [some (mx_r (some (1, 11, 0))), some (mx_i s.1), z2] [] (γ, hM s.2 J, κ) Q := mx_lp_ok (P := fun s : Int32 × (Nat → Nat → Nat → Int32) => ∀ (z2 : Option mx_V), mx_WP (d + 3) 135 28 [some (mx_r (some (1, 11, 0))), some (mx_i s.1), z2] [] (γ, hM s.2 J, κ) Q) (E := (fun x : Int32 × (Nat → Nat → Nat → Int32) => ∀ (z2 : Option mx_V), mx_WP (d + 3) 135 78 [some (mx_r (some (1, 11, 0))), some (mx_i x.1), z2] [] (γ, hM x.2 J, κ) Q)) (fun s o hf hk => B135_28 hf hk) n s o hf hk
def f135 (I : Nat → Nat → Nat → Int32) : Option ((Nat → Nat → Nat → Int32)) :=
  (mx_lp (b135_2 I) mx_fu ((0 : Int32), I)).bind fun u104 =>
  (mx_lp (b135_28 u104.2) mx_fu ((0 : Int32), u104.2)).bind fun u316 =>
  some u316.2
theorem T135 {d : Nat} {γ : mx_Rg} {I : Nat → Nat → Nat → Int32} {J : Nat → Nat → Nat → Int64} {κ : (Nat × (Nat → Int32)) × (Nat × Nat)} {Q : Option mx_V → mx_Hp → Prop} {o : (Nat → Nat → Nat → Int32)} (hf : f135 I = some o) (hk : Q (none) (γ, hM o J, κ)) : mx_WP (d + 3) 135 0 (mx_ent 135 [mx_r (some (1, 11, 0))]) [] (γ, hM I J, κ) Q := by
  unfold f135 at hf
  refine mx_WP.go 2 (pc' := 2) (L' := [some (mx_r (some (1, 11, 0))), some (mx_i (0 : Int32)), none]) (st' := []) (σ' := (γ, hM I J, κ)) rfl ?_
  obtain ⟨u104, e105, hf⟩ := Option.bind_eq_some_iff.mp hf
  refine (L135_2 (d := d) e105 ?_) (none)
  intro z2
  show mx_WP (d + 3) 135 26 [some (mx_r (some (1, 11, 0))), some (mx_i u104.1), z2] [] (γ, hM u104.2 J, κ) Q
  refine mx_WP.go 2 (pc' := 28) (L' := [some (mx_r (some (1, 11, 0))), some (mx_i (0 : Int32)), z2]) (st' := []) (σ' := (γ, hM u104.2 J, κ)) rfl ?_
  obtain ⟨u316, e317, hf⟩ := Option.bind_eq_some_iff.mp hf
  refine (L135_28 (d := d) e317 ?_) (z2)
  intro z2
  show mx_WP (d + 3) 135 78 [some (mx_r (some (1, 11, 0))), some (mx_i u316.1), z2] [] (γ, hM u316.2 J, κ) Q
  rw [← Option.some.inj hf] at hk
  refine mx_WP.ret (v := none) rfl ?_
  exact hk
def b134_11 (x1 : Int32) (I : Nat → Nat → Nat → Int32) (J : Nat → Nat → Nat → Int64) (s : Int32 × (Nat → Nat → Nat → Int32)) : Option ((Int32 × (Nat → Nat → Nat → Int32)) ⊕ (Int32 × (Nat → Nat → Nat → Int32))) :=
  if (128 : Int32) ≤ s.1 then (some (Sum.inr (s.1, s.2))) else if s.1 < 0 ∨ 128 ≤ s.1.toNatClampNeg then none else if s.1 < 0 ∨ 128 ≤ s.1.toNatClampNeg then none else if s.1 < 0 ∨ 128 ≤ s.1.toNatClampNeg then none else some (Sum.inl (s.1 + 1, (mx_u3 (mx_u3 s.2 109 0 s.1.toNatClampNeg (vp_nar .boolean (s.2 108 0 s.1.toNatClampNeg))) 108 0 s.1.toNatClampNeg (vp_nar .boolean (0 : Int32)))))
theorem B134_11 {d : Nat} {x1 : Int32} {γ : mx_Rg} {I : Nat → Nat → Nat → Int32} {J : Nat → Nat → Nat → Int64} {κ : (Nat × (Nat → Int32)) × (Nat × Nat)} {Q : Option mx_V → mx_Hp → Prop} {s : Int32 × (Nat → Nat → Nat → Int32)} {o : (Int32 × (Nat → Nat → Nat → Int32)) ⊕ (Int32 × (Nat → Nat → Nat → Int32))} (hf : b134_11 x1 I J s = some o) (hk : Sum.elim (fun s : Int32 × (Nat → Nat → Nat → Int32) => mx_WP (d + 5) 134 11 [some (mx_r (some (1, 11, 0))), some (mx_i x1), some (mx_i s.1)] [] (γ, hM s.2 J, κ) Q) (fun x : Int32 × (Nat → Nat → Nat → Int32) => mx_WP (d + 5) 134 43 [some (mx_r (some (1, 11, 0))), some (mx_i x1), some (mx_i x.1)] [] (γ, hM x.2 J, κ) Q) o) : mx_WP (d + 5) 134 11 [some (mx_r (some (1, 11, 0))), some (mx_i x1), some (mx_i s.1)] [] (γ, hM s.2 J, κ) Q := by
  unfold b134_11 at hf
  refine mx_WP.go 2 (pc' := 15) (L' := [some (mx_r (some (1, 11, 0))), some (mx_i x1), some (mx_i s.1)]) (st' := [mx_i (128 : Int32), mx_i s.1]) (σ' := (γ, hM s.2 J, κ)) rfl ?_
  by_cases c102 : (128 : Int32) ≤ s.1
  · rw [if_pos c102] at hf
    refine mx_WP.bge (x := s.1) (y := (128 : Int32)) (q := 43) (p3 := 18) rfl (fun _ => ?_) (fun hh => absurd c102 hh)
    rw [← Option.some.inj hf] at hk
    exact hk
  · rw [if_neg c102] at hf
    refine mx_WP.bge (x := s.1) (y := (128 : Int32)) (q := 43) (p3 := 18) rfl (fun hh => absurd hh c102) (fun _ => ?_)
    refine mx_WP.go 6 (pc' := 28) (L' := [some (mx_r (some (1, 11, 0))), some (mx_i x1), some (mx_i s.1)]) (st' := [mx_i s.1, mx_r (some (1, 108, 0)), mx_i s.1, mx_r (some (1, 109, 0))]) (σ' := (γ, hM s.2 J, κ)) rfl ?_
    by_cases c103 : s.1 < 0 ∨ 128 ≤ s.1.toNatClampNeg
    · rw [if_pos c103] at hf
      cases hf
    rw [if_neg c103] at hf
    refine mx_WP.baldx c103 ?_
    show mx_WP (d + 5) 134 29 [some (mx_r (some (1, 11, 0))), some (mx_i x1), some (mx_i s.1)] [mx_i (s.2 108 0 s.1.toNatClampNeg), mx_i s.1, mx_r (some (1, 109, 0))] (γ, hM s.2 J, κ) Q
    by_cases c104 : s.1 < 0 ∨ 128 ≤ s.1.toNatClampNeg
    · rw [if_pos c104] at hf
      cases hf
    rw [if_neg c104] at hf
    refine mx_WP.bastx c104 ?_
    show mx_WP (d + 5) 134 30 [some (mx_r (some (1, 11, 0))), some (mx_i x1), some (mx_i s.1)] [] (γ, hM (mx_u3 s.2 109 0 s.1.toNatClampNeg (vp_nar .boolean (s.2 108 0 s.1.toNatClampNeg))) J, κ) Q
    refine mx_WP.go 4 (pc' := 36) (L' := [some (mx_r (some (1, 11, 0))), some (mx_i x1), some (mx_i s.1)]) (st' := [mx_i (0 : Int32), mx_i s.1, mx_r (some (1, 108, 0))]) (σ' := (γ, hM (mx_u3 s.2 109 0 s.1.toNatClampNeg (vp_nar .boolean (s.2 108 0 s.1.toNatClampNeg))) J, κ)) rfl ?_
    by_cases c105 : s.1 < 0 ∨ 128 ≤ s.1.toNatClampNeg
    · rw [if_pos c105] at hf
      cases hf
    rw [if_neg c105] at hf
    refine mx_WP.bastx c105 ?_
    show mx_WP (d + 5) 134 37 [some (mx_r (some (1, 11, 0))), some (mx_i x1), some (mx_i s.1)] [] (γ, hM (mx_u3 (mx_u3 s.2 109 0 s.1.toNatClampNeg (vp_nar .boolean (s.2 108 0 s.1.toNatClampNeg))) 108 0 s.1.toNatClampNeg (vp_nar .boolean (0 : Int32))) J, κ) Q
    refine mx_WP.go 2 (pc' := 11) (L' := [some (mx_r (some (1, 11, 0))), some (mx_i x1), some (mx_i (s.1 + 1))]) (st' := []) (σ' := (γ, hM (mx_u3 (mx_u3 s.2 109 0 s.1.toNatClampNeg (vp_nar .boolean (s.2 108 0 s.1.toNatClampNeg))) 108 0 s.1.toNatClampNeg (vp_nar .boolean (0 : Int32))) J, κ)) rfl ?_
    rw [← Option.some.inj hf] at hk
    exact hk
theorem L134_11 {d : Nat} {x1 : Int32} {γ : mx_Rg} {I : Nat → Nat → Nat → Int32} {J : Nat → Nat → Nat → Int64} {κ : (Nat × (Nat → Int32)) × (Nat × Nat)} {Q : Option mx_V → mx_Hp → Prop} {n : Nat} {s : Int32 × (Nat → Nat → Nat → Int32)} {o : Int32 × (Nat → Nat → Nat → Int32)} (hf : mx_lp (b134_11 x1 I J) n s = some o) (hk : (fun x : Int32 × (Nat → Nat → Nat → Int32) => mx_WP (d + 5) 134 43 [some (mx_r (some (1, 11, 0))), some (mx_i x1), some (mx_i x.1)] [] (γ, hM x.2 J, κ) Q) o) : mx_WP (d + 5) 134 11 [some (mx_r (some (1, 11, 0))), some (mx_i x1), some (mx_i s.1)] [] (γ, hM s.2 J, κ) Q := mx_lp_ok (P := fun s : Int32 × (Nat → Nat → Nat → Int32) => mx_WP (d + 5) 134 11 [some (mx_r (some (1, 11, 0))), some (mx_i x1), some (mx_i s.1)] [] (γ, hM s.2 J, κ) Q) (E := (fun x : Int32 × (Nat → Nat → Nat → Int32) => mx_WP (d + 5) 134 43 [some (mx_r (some (1, 11, 0))), some (mx_i x1), some (mx_i x.1)] [] (γ, hM x.2 J, κ) Q)) (fun s o hf hk => B134_11 hf hk) n s o hf hk
def f143 (x1 : Int32) (x2 : Int32) (I : Nat → Nat → Nat → Int32) (J : Nat → Nat → Nat → Int64) : Option (Bool) :=
  if x1 < 0 ∨ 128 ≤ x1.toNatClampNeg then none else if (I 105 0 x1.toNatClampNeg) = x2 then (if x1 < 0 ∨ 128 ≤ x1.toNatClampNeg then none else if (lg_cmp (J 102 0 x1.toNatClampNeg) (1835365481 : Int64)) = (0 : Int32) then ((f141 x1 (1701667182 : Int64) I J).bind fun u5 =>
  if (lg_cmp u5 (0 : Int64)) ≤ (0 : Int32) then (some false) else some true) else some false) else some false
theorem T143 {d : Nat} {x1 : Int32} {x2 : Int32} {γ : mx_Rg} {I : Nat → Nat → Nat → Int32} {J : Nat → Nat → Nat → Int64} {κ : (Nat × (Nat → Int32)) × (Nat × Nat)} {Q : Option mx_V → mx_Hp → Prop} {o : Bool} (hf : f143 x1 x2 I J = some o) (hk : Q (some (mx_i (b2i o))) (γ, hM I J, κ)) : mx_WP (d + 1) 143 0 (mx_ent 143 [mx_r (some (1, 11, 0)), mx_i x1, mx_i x2]) [] (γ, hM I J, κ) Q := by
  unfold f143 at hf
  refine mx_WP.go 3 (pc' := 5) (L' := [some (mx_r (some (1, 11, 0))), some (mx_i x1), some (mx_i x2)]) (st' := [mx_i x1, mx_r (some (1, 105, 0))]) (σ' := (γ, hM I J, κ)) rfl ?_
  by_cases c1 : x1 < 0 ∨ 128 ≤ x1.toNatClampNeg
  · rw [if_pos c1] at hf
    cases hf
  rw [if_neg c1] at hf
  refine mx_WP.ialdx c1 ?_
  show mx_WP (d + 1) 143 6 [some (mx_r (some (1, 11, 0))), some (mx_i x1), some (mx_i x2)] [mx_i (I 105 0 x1.toNatClampNeg)] (γ, hM I J, κ) Q
  refine mx_WP.go 1 (pc' := 7) (L' := [some (mx_r (some (1, 11, 0))), some (mx_i x1), some (mx_i x2)]) (st' := [mx_i x2, mx_i (I 105 0 x1.toNatClampNeg)]) (σ' := (γ, hM I J, κ)) rfl ?_
  by_cases c2 : (I 105 0 x1.toNatClampNeg) = x2
  · rw [if_pos c2] at hf
    refine mx_WP.bne (x := (I 105 0 x1.toNatClampNeg)) (y := x2) (q := 40) (p3 := 10) rfl (fun hh => absurd c2 hh) (fun _ => ?_)
    refine mx_WP.go 3 (pc' := 15) (L' := [some (mx_r (some (1, 11, 0))), some (mx_i x1), some (mx_i x2)]) (st' := [mx_i x1, mx_r (some (1, 102, 0))]) (σ' := (γ, hM I J, κ)) rfl ?_
    by_cases c3 : x1 < 0 ∨ 128 ≤ x1.toNatClampNeg
    · rw [if_pos c3] at hf
      cases hf
    rw [if_neg c3] at hf
    refine mx_WP.laldx c3 ?_
    show mx_WP (d + 1) 143 16 [some (mx_r (some (1, 11, 0))), some (mx_i x1), some (mx_i x2)] [mx_l (J 102 0 x1.toNatClampNeg)] (γ, hM I J, κ) Q
    refine mx_WP.go 2 (pc' := 20) (L' := [some (mx_r (some (1, 11, 0))), some (mx_i x1), some (mx_i x2)]) (st' := [mx_i (lg_cmp (J 102 0 x1.toNatClampNeg) (1835365481 : Int64))]) (σ' := (γ, hM I J, κ)) rfl ?_
    by_cases c4 : (lg_cmp (J 102 0 x1.toNatClampNeg) (1835365481 : Int64)) = (0 : Int32)
    · rw [if_pos c4] at hf
      refine mx_WP.bne (x := (lg_cmp (J 102 0 x1.toNatClampNeg) (1835365481 : Int64))) (y := (0 : Int32)) (q := 40) (p3 := 23) rfl (fun hh => absurd c4 hh) (fun _ => ?_)
      refine mx_WP.go 3 (pc' := 28) (L' := [some (mx_r (some (1, 11, 0))), some (mx_i x1), some (mx_i x2)]) (st' := [mx_l (1701667182 : Int64), mx_i x1, mx_r (some (1, 11, 0))]) (σ' := (γ, hM I J, κ)) rfl ?_
      obtain ⟨u5, e7, hf⟩ := Option.bind_eq_some_iff.mp hf
      refine mx_WP.call (d := d + 0) (y := 141) (as := [mx_r (some (1, 11, 0)), mx_i x1, mx_l (1701667182 : Int64)]) (pc' := 31) (r := []) rfl rfl (T141 (d := d + 0)  e7 ?_)
      show mx_WP (d + 1) 143 31 [some (mx_r (some (1, 11, 0))), some (mx_i x1), some (mx_i x2)] [mx_l u5] (γ, hM I J, κ) Q
      refine mx_WP.go 2 (pc' := 33) (L' := [some (mx_r (some (1, 11, 0))), some (mx_i x1), some (mx_i x2)]) (st' := [mx_i (lg_cmp u5 (0 : Int64))]) (σ' := (γ, hM I J, κ)) rfl ?_
      by_cases c6 : (lg_cmp u5 (0 : Int64)) ≤ (0 : Int32)
      · rw [if_pos c6] at hf
        refine mx_WP.ble (x := (lg_cmp u5 (0 : Int64))) (y := (0 : Int32)) (q := 40) (p3 := 36) rfl (fun _ => ?_) (fun hh => absurd c6 hh)
        refine mx_WP.go 1 (pc' := 41) (L' := [some (mx_r (some (1, 11, 0))), some (mx_i x1), some (mx_i x2)]) (st' := [mx_i (0 : Int32)]) (σ' := (γ, hM I J, κ)) rfl ?_
        rw [← Option.some.inj hf] at hk
        refine mx_WP.ret (v := some (mx_i (0 : Int32))) rfl ?_
        exact hk
      · rw [if_neg c6] at hf
        refine mx_WP.ble (x := (lg_cmp u5 (0 : Int64))) (y := (0 : Int32)) (q := 40) (p3 := 36) rfl (fun hh => absurd hh c6) (fun _ => ?_)
        refine mx_WP.go 2 (pc' := 41) (L' := [some (mx_r (some (1, 11, 0))), some (mx_i x1), some (mx_i x2)]) (st' := [mx_i (1 : Int32)]) (σ' := (γ, hM I J, κ)) rfl ?_
        rw [← Option.some.inj hf] at hk
        refine mx_WP.ret (v := some (mx_i (1 : Int32))) rfl ?_
        exact hk
    · rw [if_neg c4] at hf
      refine mx_WP.bne (x := (lg_cmp (J 102 0 x1.toNatClampNeg) (1835365481 : Int64))) (y := (0 : Int32)) (q := 40) (p3 := 23) rfl (fun _ => ?_) (fun hh => absurd c4 hh)
      refine mx_WP.go 1 (pc' := 41) (L' := [some (mx_r (some (1, 11, 0))), some (mx_i x1), some (mx_i x2)]) (st' := [mx_i (0 : Int32)]) (σ' := (γ, hM I J, κ)) rfl ?_
      rw [← Option.some.inj hf] at hk
      refine mx_WP.ret (v := some (mx_i (0 : Int32))) rfl ?_
      exact hk
  · rw [if_neg c2] at hf
    refine mx_WP.bne (x := (I 105 0 x1.toNatClampNeg)) (y := x2) (q := 40) (p3 := 10) rfl (fun _ => ?_) (fun hh => absurd c2 hh)
    refine mx_WP.go 1 (pc' := 41) (L' := [some (mx_r (some (1, 11, 0))), some (mx_i x1), some (mx_i x2)]) (st' := [mx_i (0 : Int32)]) (σ' := (γ, hM I J, κ)) rfl ?_
    rw [← Option.some.inj hf] at hk
    refine mx_WP.ret (v := some (mx_i (0 : Int32))) rfl ?_
    exact hk
def b138_41 (x1 : Int32) (x2 : Int32) (I : Nat → Nat → Nat → Int32) (J : Nat → Nat → Nat → Int64) (s : Int32 × Int32) : Option ((Int32 × Int32) ⊕ (Int32 × Int32)) :=
  (f140 s.2 I).bind fun u1106 =>
  if u1106 = true then (if (s.2 / (16 : Int32)) = (x2 / (16 : Int32)) then ((f143 s.2 x2 I J).bind fun u1109 =>
  some (Sum.inl (s.1 ||| (b2i u1109), s.2 + 1))) else some (Sum.inr (s.1, s.2))) else some (Sum.inr (s.1, s.2))
theorem B138_41 {d : Nat} {x1 : Int32} {x2 : Int32} {γ : mx_Rg} {I : Nat → Nat → Nat → Int32} {J : Nat → Nat → Nat → Int64} {κ : (Nat × (Nat → Int32)) × (Nat × Nat)} {Q : Option mx_V → mx_Hp → Prop} {s : Int32 × Int32} {o : (Int32 × Int32) ⊕ (Int32 × Int32)} (hf : b138_41 x1 x2 I J s = some o) (hk : Sum.elim (fun s : Int32 × Int32 => mx_WP (d + 4) 138 41 [some (mx_r (some (1, 11, 0))), some (mx_i x1), some (mx_i x2), some (mx_i s.1), some (mx_i s.2)] [] (γ, hM I J, κ) Q) (fun x : Int32 × Int32 => mx_WP (d + 4) 138 78 [some (mx_r (some (1, 11, 0))), some (mx_i x1), some (mx_i x2), some (mx_i x.1), some (mx_i x.2)] [] (γ, hM I J, κ) Q) o) : mx_WP (d + 4) 138 41 [some (mx_r (some (1, 11, 0))), some (mx_i x1), some (mx_i x2), some (mx_i s.1), some (mx_i s.2)] [] (γ, hM I J, κ) Q := by
  unfold b138_41 at hf
  refine mx_WP.go 2 (pc' := 44) (L' := [some (mx_r (some (1, 11, 0))), some (mx_i x1), some (mx_i x2), some (mx_i s.1), some (mx_i s.2)]) (st' := [mx_i s.2, mx_r (some (1, 11, 0))]) (σ' := (γ, hM I J, κ)) rfl ?_
  obtain ⟨u1106, e1111, hf⟩ := Option.bind_eq_some_iff.mp hf
  refine mx_WP.call (d := d + 3) (y := 140) (as := [mx_r (some (1, 11, 0)), mx_i s.2]) (pc' := 47) (r := []) rfl rfl (T140 (d := d + 2)  e1111 ?_)
  show mx_WP (d + 4) 138 47 [some (mx_r (some (1, 11, 0))), some (mx_i x1), some (mx_i x2), some (mx_i s.1), some (mx_i s.2)] [mx_i (b2i u1106)] (γ, hM I J, κ) Q
  by_cases c1107 : u1106 = true
  · rw [if_pos c1107] at hf
    refine mx_WP.zeq (b := u1106) (q := 78) (p3 := 50) rfl (fun hh => absurd hh (by simp [c1107])) (fun _ => ?_)
    refine mx_WP.go 6 (pc' := 59) (L' := [some (mx_r (some (1, 11, 0))), some (mx_i x1), some (mx_i x2), some (mx_i s.1), some (mx_i s.2)]) (st' := [mx_i (x2 / (16 : Int32)), mx_i (s.2 / (16 : Int32))]) (σ' := (γ, hM I J, κ)) rfl ?_
    by_cases c1108 : (s.2 / (16 : Int32)) = (x2 / (16 : Int32))
    · rw [if_pos c1108] at hf
      refine mx_WP.bne (x := (s.2 / (16 : Int32))) (y := (x2 / (16 : Int32))) (q := 78) (p3 := 62) rfl (fun hh => absurd c1108 hh) (fun _ => ?_)
      refine mx_WP.go 4 (pc' := 67) (L' := [some (mx_r (some (1, 11, 0))), some (mx_i x1), some (mx_i x2), some (mx_i s.1), some (mx_i s.2)]) (st' := [mx_i x2, mx_i s.2, mx_r (some (1, 11, 0)), mx_i s.1]) (σ' := (γ, hM I J, κ)) rfl ?_
      obtain ⟨u1109, e1110, hf⟩ := Option.bind_eq_some_iff.mp hf
      refine mx_WP.call (d := d + 3) (y := 143) (as := [mx_r (some (1, 11, 0)), mx_i s.2, mx_i x2]) (pc' := 70) (r := [mx_i s.1]) rfl rfl (T143 (d := d + 2)  e1110 ?_)
      show mx_WP (d + 4) 138 70 [some (mx_r (some (1, 11, 0))), some (mx_i x1), some (mx_i x2), some (mx_i s.1), some (mx_i s.2)] [mx_i (b2i u1109), mx_i s.1] (γ, hM I J, κ) Q
      refine mx_WP.go 4 (pc' := 41) (L' := [some (mx_r (some (1, 11, 0))), some (mx_i x1), some (mx_i x2), some (mx_i (s.1 ||| (b2i u1109))), some (mx_i (s.2 + 1))]) (st' := []) (σ' := (γ, hM I J, κ)) rfl ?_
      rw [← Option.some.inj hf] at hk
      exact hk
    · rw [if_neg c1108] at hf
      refine mx_WP.bne (x := (s.2 / (16 : Int32))) (y := (x2 / (16 : Int32))) (q := 78) (p3 := 62) rfl (fun _ => ?_) (fun hh => absurd c1108 hh)
      rw [← Option.some.inj hf] at hk
      exact hk
  · rw [if_neg c1107] at hf
    refine mx_WP.zeq (b := u1106) (q := 78) (p3 := 50) rfl (fun _ => ?_) (fun hh => absurd hh (by simp [c1107]))
    rw [← Option.some.inj hf] at hk
    exact hk
theorem L138_41 {d : Nat} {x1 : Int32} {x2 : Int32} {γ : mx_Rg} {I : Nat → Nat → Nat → Int32} {J : Nat → Nat → Nat → Int64} {κ : (Nat × (Nat → Int32)) × (Nat × Nat)} {Q : Option mx_V → mx_Hp → Prop} {n : Nat} {s : Int32 × Int32} {o : Int32 × Int32} (hf : mx_lp (b138_41 x1 x2 I J) n s = some o) (hk : (fun x : Int32 × Int32 => mx_WP (d + 4) 138 78 [some (mx_r (some (1, 11, 0))), some (mx_i x1), some (mx_i x2), some (mx_i x.1), some (mx_i x.2)] [] (γ, hM I J, κ) Q) o) : mx_WP (d + 4) 138 41 [some (mx_r (some (1, 11, 0))), some (mx_i x1), some (mx_i x2), some (mx_i s.1), some (mx_i s.2)] [] (γ, hM I J, κ) Q := mx_lp_ok (P := fun s : Int32 × Int32 => mx_WP (d + 4) 138 41 [some (mx_r (some (1, 11, 0))), some (mx_i x1), some (mx_i x2), some (mx_i s.1), some (mx_i s.2)] [] (γ, hM I J, κ) Q) (E := (fun x : Int32 × Int32 => mx_WP (d + 4) 138 78 [some (mx_r (some (1, 11, 0))), some (mx_i x1), some (mx_i x2), some (mx_i x.1), some (mx_i x.2)] [] (γ, hM I J, κ) Q)) (fun s o hf hk => B138_41 hf hk) n s o hf hk
def b144_4 (x1 : Int32) (x2 : Int32) (I : Nat → Nat → Nat → Int32) (J : Nat → Nat → Nat → Int64) (s : Int32) : Option ((Int32) ⊕ (Int32)) :=
  (f140 s I).bind fun u101 =>
  if u101 = true then (if (s / (16 : Int32)) = (x2 / (16 : Int32)) then ((f143 s x2 I J).bind fun u104 =>
  if u104 = true then ((f141 s (1701667182 : Int64) I J).bind fun u106 =>
  if x1 < 0 ∨ 128 ≤ x1.toNatClampNeg then none else if (lg_cmp u106 (J 102 0 x1.toNatClampNeg)) = (0 : Int32) then (some (Sum.inr s)) else some (Sum.inl (s + 1))) else some (Sum.inl (s + 1))) else some (Sum.inr s)) else some (Sum.inr s)
theorem B144_4 {d : Nat} {x1 : Int32} {x2 : Int32} {γ : mx_Rg} {I : Nat → Nat → Nat → Int32} {J : Nat → Nat → Nat → Int64} {κ : (Nat × (Nat → Int32)) × (Nat × Nat)} {Q : Option mx_V → mx_Hp → Prop} {s : Int32} {o : (Int32) ⊕ (Int32)} (hf : b144_4 x1 x2 I J s = some o) (hk : Sum.elim (fun s : Int32 => ∀ (z4 z5 : Option mx_V), mx_WP (d + 2) 144 4 [some (mx_r (some (1, 11, 0))), some (mx_i x1), some (mx_i x2), some (mx_i s), z4, z5] [] (γ, hM I J, κ) Q) (fun x : Int32 => ∀ (z4 z5 : Option mx_V), mx_WP (d + 2) 144 56 [some (mx_r (some (1, 11, 0))), some (mx_i x1), some (mx_i x2), some (mx_i x), z4, z5] [] (γ, hM I J, κ) Q) o) : ∀ (z4 z5 : Option mx_V), mx_WP (d + 2) 144 4 [some (mx_r (some (1, 11, 0))), some (mx_i x1), some (mx_i x2), some (mx_i s), z4, z5] [] (γ, hM I J, κ) Q := by
  intro z4 z5
  unfold b144_4 at hf
  refine mx_WP.go 2 (pc' := 6) (L' := [some (mx_r (some (1, 11, 0))), some (mx_i x1), some (mx_i x2), some (mx_i s), z4, z5]) (st' := [mx_i s, mx_r (some (1, 11, 0))]) (σ' := (γ, hM I J, κ)) rfl ?_
  obtain ⟨u101, e111, hf⟩ := Option.bind_eq_some_iff.mp hf
  refine mx_WP.call (d := d + 1) (y := 140) (as := [mx_r (some (1, 11, 0)), mx_i s]) (pc' := 9) (r := []) rfl rfl (T140 (d := d + 0)  e111 ?_)
  show mx_WP (d + 2) 144 9 [some (mx_r (some (1, 11, 0))), some (mx_i x1), some (mx_i x2), some (mx_i s), z4, z5] [mx_i (b2i u101)] (γ, hM I J, κ) Q
  by_cases c102 : u101 = true
  · rw [if_pos c102] at hf
    refine mx_WP.zeq (b := u101) (q := 56) (p3 := 12) rfl (fun hh => absurd hh (by simp [c102])) (fun _ => ?_)
    refine mx_WP.go 6 (pc' := 20) (L' := [some (mx_r (some (1, 11, 0))), some (mx_i x1), some (mx_i x2), some (mx_i s), z4, z5]) (st' := [mx_i (x2 / (16 : Int32)), mx_i (s / (16 : Int32))]) (σ' := (γ, hM I J, κ)) rfl ?_
    by_cases c103 : (s / (16 : Int32)) = (x2 / (16 : Int32))
    · rw [if_pos c103] at hf
      refine mx_WP.bne (x := (s / (16 : Int32))) (y := (x2 / (16 : Int32))) (q := 56) (p3 := 23) rfl (fun hh => absurd c103 hh) (fun _ => ?_)
      refine mx_WP.go 3 (pc' := 26) (L' := [some (mx_r (some (1, 11, 0))), some (mx_i x1), some (mx_i x2), some (mx_i s), z4, z5]) (st' := [mx_i x2, mx_i s, mx_r (some (1, 11, 0))]) (σ' := (γ, hM I J, κ)) rfl ?_
      obtain ⟨u104, e110, hf⟩ := Option.bind_eq_some_iff.mp hf
      refine mx_WP.call (d := d + 1) (y := 143) (as := [mx_r (some (1, 11, 0)), mx_i s, mx_i x2]) (pc' := 29) (r := []) rfl rfl (T143 (d := d + 0)  e110 ?_)
      show mx_WP (d + 2) 144 29 [some (mx_r (some (1, 11, 0))), some (mx_i x1), some (mx_i x2), some (mx_i s), z4, z5] [mx_i (b2i u104)] (γ, hM I J, κ) Q
      by_cases c105 : u104 = true
      · rw [if_pos c105] at hf
        refine mx_WP.zeq (b := u104) (q := 50) (p3 := 32) rfl (fun hh => absurd hh (by simp [c105])) (fun _ => ?_)
        refine mx_WP.go 3 (pc' := 37) (L' := [some (mx_r (some (1, 11, 0))), some (mx_i x1), some (mx_i x2), some (mx_i s), z4, z5]) (st' := [mx_l (1701667182 : Int64), mx_i s, mx_r (some (1, 11, 0))]) (σ' := (γ, hM I J, κ)) rfl ?_
        obtain ⟨u106, e109, hf⟩ := Option.bind_eq_some_iff.mp hf
        refine mx_WP.call (d := d + 1) (y := 141) (as := [mx_r (some (1, 11, 0)), mx_i s, mx_l (1701667182 : Int64)]) (pc' := 40) (r := []) rfl rfl (T141 (d := d + 1)  e109 ?_)
        show mx_WP (d + 2) 144 40 [some (mx_r (some (1, 11, 0))), some (mx_i x1), some (mx_i x2), some (mx_i s), z4, z5] [mx_l u106] (γ, hM I J, κ) Q
        refine mx_WP.go 3 (pc' := 45) (L' := [some (mx_r (some (1, 11, 0))), some (mx_i x1), some (mx_i x2), some (mx_i s), z4, z5]) (st' := [mx_i x1, mx_r (some (1, 102, 0)), mx_l u106]) (σ' := (γ, hM I J, κ)) rfl ?_
        by_cases c107 : x1 < 0 ∨ 128 ≤ x1.toNatClampNeg
        · rw [if_pos c107] at hf
          cases hf
        rw [if_neg c107] at hf
        refine mx_WP.laldx c107 ?_
        show mx_WP (d + 2) 144 46 [some (mx_r (some (1, 11, 0))), some (mx_i x1), some (mx_i x2), some (mx_i s), z4, z5] [mx_l (J 102 0 x1.toNatClampNeg), mx_l u106] (γ, hM I J, κ) Q
        refine mx_WP.go 1 (pc' := 47) (L' := [some (mx_r (some (1, 11, 0))), some (mx_i x1), some (mx_i x2), some (mx_i s), z4, z5]) (st' := [mx_i (lg_cmp u106 (J 102 0 x1.toNatClampNeg))]) (σ' := (γ, hM I J, κ)) rfl ?_
        by_cases c108 : (lg_cmp u106 (J 102 0 x1.toNatClampNeg)) = (0 : Int32)
        · rw [if_pos c108] at hf
          refine mx_WP.beq (x := (lg_cmp u106 (J 102 0 x1.toNatClampNeg))) (y := (0 : Int32)) (q := 56) (p3 := 50) rfl (fun _ => ?_) (fun hh => absurd c108 hh)
          rw [← Option.some.inj hf] at hk
          exact hk (z4) (z5)
        · rw [if_neg c108] at hf
          refine mx_WP.beq (x := (lg_cmp u106 (J 102 0 x1.toNatClampNeg))) (y := (0 : Int32)) (q := 56) (p3 := 50) rfl (fun hh => absurd hh c108) (fun _ => ?_)
          refine mx_WP.go 2 (pc' := 4) (L' := [some (mx_r (some (1, 11, 0))), some (mx_i x1), some (mx_i x2), some (mx_i (s + 1)), z4, z5]) (st' := []) (σ' := (γ, hM I J, κ)) rfl ?_
          rw [← Option.some.inj hf] at hk
          exact hk (z4) (z5)
      · rw [if_neg c105] at hf
        refine mx_WP.zeq (b := u104) (q := 50) (p3 := 32) rfl (fun _ => ?_) (fun hh => absurd hh (by simp [c105]))
        refine mx_WP.go 2 (pc' := 4) (L' := [some (mx_r (some (1, 11, 0))), some (mx_i x1), some (mx_i x2), some (mx_i (s + 1)), z4, z5]) (st' := []) (σ' := (γ, hM I J, κ)) rfl ?_
        rw [← Option.some.inj hf] at hk
        exact hk (z4) (z5)
    · rw [if_neg c103] at hf
      refine mx_WP.bne (x := (s / (16 : Int32))) (y := (x2 / (16 : Int32))) (q := 56) (p3 := 23) rfl (fun _ => ?_) (fun hh => absurd c103 hh)
      rw [← Option.some.inj hf] at hk
      exact hk (z4) (z5)
  · rw [if_neg c102] at hf
    refine mx_WP.zeq (b := u101) (q := 56) (p3 := 12) rfl (fun _ => ?_) (fun hh => absurd hh (by simp [c102]))
    rw [← Option.some.inj hf] at hk
    exact hk (z4) (z5)
theorem L144_4 {d : Nat} {x1 : Int32} {x2 : Int32} {γ : mx_Rg} {I : Nat → Nat → Nat → Int32} {J : Nat → Nat → Nat → Int64} {κ : (Nat × (Nat → Int32)) × (Nat × Nat)} {Q : Option mx_V → mx_Hp → Prop} {n : Nat} {s : Int32} {o : Int32} (hf : mx_lp (b144_4 x1 x2 I J) n s = some o) (hk : (fun x : Int32 => ∀ (z4 z5 : Option mx_V), mx_WP (d + 2) 144 56 [some (mx_r (some (1, 11, 0))), some (mx_i x1), some (mx_i x2), some (mx_i x), z4, z5] [] (γ, hM I J, κ) Q) o) : ∀ (z4 z5 : Option mx_V), mx_WP (d + 2) 144 4 [some (mx_r (some (1, 11, 0))), some (mx_i x1), some (mx_i x2), some (mx_i s), z4, z5] [] (γ, hM I J, κ) Q := mx_lp_ok (P := fun s : Int32 => ∀ (z4 z5 : Option mx_V), mx_WP (d + 2) 144 4 [some (mx_r (some (1, 11, 0))), some (mx_i x1), some (mx_i x2), some (mx_i s), z4, z5] [] (γ, hM I J, κ) Q) (E := (fun x : Int32 => ∀ (z4 z5 : Option mx_V), mx_WP (d + 2) 144 56 [some (mx_r (some (1, 11, 0))), some (mx_i x1), some (mx_i x2), some (mx_i x), z4, z5] [] (γ, hM I J, κ) Q)) (fun s o hf hk => B144_4 hf hk) n s o hf hk
def j144_56 (v1 : Int32) (v2 : Int32) (v3 : Int32) (I : Nat → Nat → Nat → Int32) (J : Nat → Nat → Nat → Int64) : Option (Bool) :=
  (f140 v3 I).bind fun u1114 =>
  if u1114 = true then (if (v3 / (16 : Int32)) = (v2 / (16 : Int32)) then ((f141 v3 (1953723757 : Int64) I J).bind fun u1117 =>
  if (lg_cmp u1117 (0 : Int64)) ≤ (0 : Int32) then (some true) else (f141 v1 u1117 I J).bind fun u1119 =>
  if (lg_cmp u1119 (0 : Int64)) < (0 : Int32) then (some false) else some true) else some false) else some false
theorem J144_56 {d : Nat} {v1 : Int32} {v2 : Int32} {v3 : Int32} {z4 : Option mx_V} {z5 : Option mx_V} {γ : mx_Rg} {I : Nat → Nat → Nat → Int32} {J : Nat → Nat → Nat → Int64} {κ : (Nat × (Nat → Int32)) × (Nat × Nat)} {Q : Option mx_V → mx_Hp → Prop} {o : Bool} (hf : j144_56 v1 v2 v3 I J = some o) (hk : Q (some (mx_i (b2i o))) (γ, hM I J, κ)) : mx_WP (d + 2) 144 56 [some (mx_r (some (1, 11, 0))), some (mx_i v1), some (mx_i v2), some (mx_i v3), z4, z5] [] (γ, hM I J, κ) Q := by
  unfold j144_56 at hf
  refine mx_WP.go 2 (pc' := 58) (L' := [some (mx_r (some (1, 11, 0))), some (mx_i v1), some (mx_i v2), some (mx_i v3), z4, z5]) (st' := [mx_i v3, mx_r (some (1, 11, 0))]) (σ' := (γ, hM I J, κ)) rfl ?_
  obtain ⟨u1114, e1123, hf⟩ := Option.bind_eq_some_iff.mp hf
  refine mx_WP.call (d := d + 1) (y := 140) (as := [mx_r (some (1, 11, 0)), mx_i v3]) (pc' := 61) (r := []) rfl rfl (T140 (d := d + 0)  e1123 ?_)
  show mx_WP (d + 2) 144 61 [some (mx_r (some (1, 11, 0))), some (mx_i v1), some (mx_i v2), some (mx_i v3), z4, z5] [mx_i (b2i u1114)] (γ, hM I J, κ) Q
  by_cases c1115 : u1114 = true
  · rw [if_pos c1115] at hf
    refine mx_WP.zeq (b := u1114) (q := 75) (p3 := 64) rfl (fun hh => absurd hh (by simp [c1115])) (fun _ => ?_)
    refine mx_WP.go 6 (pc' := 72) (L' := [some (mx_r (some (1, 11, 0))), some (mx_i v1), some (mx_i v2), some (mx_i v3), z4, z5]) (st' := [mx_i (v2 / (16 : Int32)), mx_i (v3 / (16 : Int32))]) (σ' := (γ, hM I J, κ)) rfl ?_
    by_cases c1116 : (v3 / (16 : Int32)) = (v2 / (16 : Int32))
    · rw [if_pos c1116] at hf
      refine mx_WP.beq (x := (v3 / (16 : Int32))) (y := (v2 / (16 : Int32))) (q := 77) (p3 := 75) rfl (fun _ => ?_) (fun hh => absurd c1116 hh)
      refine mx_WP.go 3 (pc' := 82) (L' := [some (mx_r (some (1, 11, 0))), some (mx_i v1), some (mx_i v2), some (mx_i v3), z4, z5]) (st' := [mx_l (1953723757 : Int64), mx_i v3, mx_r (some (1, 11, 0))]) (σ' := (γ, hM I J, κ)) rfl ?_
      obtain ⟨u1117, e1122, hf⟩ := Option.bind_eq_some_iff.mp hf
      refine mx_WP.call (d := d + 1) (y := 141) (as := [mx_r (some (1, 11, 0)), mx_i v3, mx_l (1953723757 : Int64)]) (pc' := 85) (r := []) rfl rfl (T141 (d := d + 1)  e1122 ?_)
      show mx_WP (d + 2) 144 85 [some (mx_r (some (1, 11, 0))), some (mx_i v1), some (mx_i v2), some (mx_i v3), z4, z5] [mx_l u1117] (γ, hM I J, κ) Q
      refine mx_WP.go 4 (pc' := 91) (L' := [some (mx_r (some (1, 11, 0))), some (mx_i v1), some (mx_i v2), some (mx_i v3), some (mx_l u1117), none]) (st' := [mx_i (lg_cmp u1117 (0 : Int64))]) (σ' := (γ, hM I J, κ)) rfl ?_
      by_cases c1118 : (lg_cmp u1117 (0 : Int64)) ≤ (0 : Int32)
      · rw [if_pos c1118] at hf
        refine mx_WP.ble (x := (lg_cmp u1117 (0 : Int64))) (y := (0 : Int32)) (q := 106) (p3 := 94) rfl (fun _ => ?_) (fun hh => absurd c1118 hh)
        refine mx_WP.go 2 (pc' := 111) (L' := [some (mx_r (some (1, 11, 0))), some (mx_i v1), some (mx_i v2), some (mx_i v3), some (mx_l u1117), none]) (st' := [mx_i (1 : Int32)]) (σ' := (γ, hM I J, κ)) rfl ?_
        rw [← Option.some.inj hf] at hk
        refine mx_WP.ret (v := some (mx_i (1 : Int32))) rfl ?_
        exact hk
      · rw [if_neg c1118] at hf
        refine mx_WP.ble (x := (lg_cmp u1117 (0 : Int64))) (y := (0 : Int32)) (q := 106) (p3 := 94) rfl (fun hh => absurd hh c1118) (fun _ => ?_)
        refine mx_WP.go 3 (pc' := 98) (L' := [some (mx_r (some (1, 11, 0))), some (mx_i v1), some (mx_i v2), some (mx_i v3), some (mx_l u1117), none]) (st' := [mx_l u1117, mx_i v1, mx_r (some (1, 11, 0))]) (σ' := (γ, hM I J, κ)) rfl ?_
        obtain ⟨u1119, e1121, hf⟩ := Option.bind_eq_some_iff.mp hf
        refine mx_WP.call (d := d + 1) (y := 141) (as := [mx_r (some (1, 11, 0)), mx_i v1, mx_l u1117]) (pc' := 101) (r := []) rfl rfl (T141 (d := d + 1)  e1121 ?_)
        show mx_WP (d + 2) 144 101 [some (mx_r (some (1, 11, 0))), some (mx_i v1), some (mx_i v2), some (mx_i v3), some (mx_l u1117), none] [mx_l u1119] (γ, hM I J, κ) Q
        refine mx_WP.go 2 (pc' := 103) (L' := [some (mx_r (some (1, 11, 0))), some (mx_i v1), some (mx_i v2), some (mx_i v3), some (mx_l u1117), none]) (st' := [mx_i (lg_cmp u1119 (0 : Int64))]) (σ' := (γ, hM I J, κ)) rfl ?_
        by_cases c1120 : (lg_cmp u1119 (0 : Int64)) < (0 : Int32)
        · rw [if_pos c1120] at hf
          refine mx_WP.blt (x := (lg_cmp u1119 (0 : Int64))) (y := (0 : Int32)) (q := 110) (p3 := 106) rfl (fun _ => ?_) (fun hh => absurd c1120 hh)
          refine mx_WP.go 1 (pc' := 111) (L' := [some (mx_r (some (1, 11, 0))), some (mx_i v1), some (mx_i v2), some (mx_i v3), some (mx_l u1117), none]) (st' := [mx_i (0 : Int32)]) (σ' := (γ, hM I J, κ)) rfl ?_
          rw [← Option.some.inj hf] at hk
          refine mx_WP.ret (v := some (mx_i (0 : Int32))) rfl ?_
          exact hk
        · rw [if_neg c1120] at hf
          refine mx_WP.blt (x := (lg_cmp u1119 (0 : Int64))) (y := (0 : Int32)) (q := 110) (p3 := 106) rfl (fun hh => absurd hh c1120) (fun _ => ?_)
          refine mx_WP.go 2 (pc' := 111) (L' := [some (mx_r (some (1, 11, 0))), some (mx_i v1), some (mx_i v2), some (mx_i v3), some (mx_l u1117), none]) (st' := [mx_i (1 : Int32)]) (σ' := (γ, hM I J, κ)) rfl ?_
          rw [← Option.some.inj hf] at hk
          refine mx_WP.ret (v := some (mx_i (1 : Int32))) rfl ?_
          exact hk
    · rw [if_neg c1116] at hf
      refine mx_WP.beq (x := (v3 / (16 : Int32))) (y := (v2 / (16 : Int32))) (q := 77) (p3 := 75) rfl (fun hh => absurd hh c1116) (fun _ => ?_)
      refine mx_WP.go 1 (pc' := 76) (L' := [some (mx_r (some (1, 11, 0))), some (mx_i v1), some (mx_i v2), some (mx_i v3), z4, z5]) (st' := [mx_i (0 : Int32)]) (σ' := (γ, hM I J, κ)) rfl ?_
      rw [← Option.some.inj hf] at hk
      refine mx_WP.ret (v := some (mx_i (0 : Int32))) rfl ?_
      exact hk
  · rw [if_neg c1115] at hf
    refine mx_WP.zeq (b := u1114) (q := 75) (p3 := 64) rfl (fun _ => ?_) (fun hh => absurd hh (by simp [c1115]))
    refine mx_WP.go 1 (pc' := 76) (L' := [some (mx_r (some (1, 11, 0))), some (mx_i v1), some (mx_i v2), some (mx_i v3), z4, z5]) (st' := [mx_i (0 : Int32)]) (σ' := (γ, hM I J, κ)) rfl ?_
    rw [← Option.some.inj hf] at hk
    refine mx_WP.ret (v := some (mx_i (0 : Int32))) rfl ?_
    exact hk
def f144 (x1 : Int32) (x2 : Int32) (I : Nat → Nat → Nat → Int32) (J : Nat → Nat → Nat → Int64) : Option (Bool) :=
  (mx_lp (b144_4 x1 x2 I J) mx_fu (x2 + (1 : Int32))).bind fun u112 =>
  j144_56 x1 x2 u112 I J
theorem T144 {d : Nat} {x1 : Int32} {x2 : Int32} {γ : mx_Rg} {I : Nat → Nat → Nat → Int32} {J : Nat → Nat → Nat → Int64} {κ : (Nat × (Nat → Int32)) × (Nat × Nat)} {Q : Option mx_V → mx_Hp → Prop} {o : Bool} (hf : f144 x1 x2 I J = some o) (hk : Q (some (mx_i (b2i o))) (γ, hM I J, κ)) : mx_WP (d + 2) 144 0 (mx_ent 144 [mx_r (some (1, 11, 0)), mx_i x1, mx_i x2]) [] (γ, hM I J, κ) Q := by
  unfold f144 at hf
  refine mx_WP.go 4 (pc' := 4) (L' := [some (mx_r (some (1, 11, 0))), some (mx_i x1), some (mx_i x2), some (mx_i (x2 + (1 : Int32))), none, none]) (st' := []) (σ' := (γ, hM I J, κ)) rfl ?_
  obtain ⟨u112, e113, hf⟩ := Option.bind_eq_some_iff.mp hf
  refine (L144_4 (d := d) e113 ?_) (none) (none)
  intro z4 z5
  show mx_WP (d + 2) 144 56 [some (mx_r (some (1, 11, 0))), some (mx_i x1), some (mx_i x2), some (mx_i u112), z4, z5] [] (γ, hM I J, κ) Q
  exact J144_56 (d := d) hf hk
def b138_83 (x1 : Int32) (x2 : Int32) (x3 : Int32) (I : Nat → Nat → Nat → Int32) (J : Nat → Nat → Nat → Int64) (s : Int32) : Option ((Int32) ⊕ ((Int32) ⊕ (Bool))) :=
  (f140 s I).bind fun u2214 =>
  if u2214 = true then (if (s / (16 : Int32)) = (x1 / (16 : Int32)) then (if x3 = (0 : Int32) then (some (Sum.inr (Sum.inl s))) else if s < 0 ∨ 128 ≤ s.toNatClampNeg then none else if (I 105 0 s.toNatClampNeg) = x1 then ((f144 s x2 I J).bind fun u2220 =>
  if u2220 = true then (some (Sum.inl (s + 1))) else some (Sum.inr (Sum.inr false))) else some (Sum.inl (s + 1))) else some (Sum.inr (Sum.inl s))) else some (Sum.inr (Sum.inl s))
theorem B138_83 {d : Nat} {x1 : Int32} {x2 : Int32} {x3 : Int32} {γ : mx_Rg} {I : Nat → Nat → Nat → Int32} {J : Nat → Nat → Nat → Int64} {κ : (Nat × (Nat → Int32)) × (Nat × Nat)} {Q : Option mx_V → mx_Hp → Prop} {s : Int32} {o : (Int32) ⊕ ((Int32) ⊕ (Bool))} (hf : b138_83 x1 x2 x3 I J s = some o) (hk : Sum.elim (fun s : Int32 => mx_WP (d + 4) 138 83 [some (mx_r (some (1, 11, 0))), some (mx_i x1), some (mx_i x2), some (mx_i x3), some (mx_i s)] [] (γ, hM I J, κ) Q) (Sum.elim (fun x : Int32 => mx_WP (d + 4) 138 137 [some (mx_r (some (1, 11, 0))), some (mx_i x1), some (mx_i x2), some (mx_i x3), some (mx_i x)] [] (γ, hM I J, κ) Q) (fun x : Bool => Q (some (mx_i (b2i x))) (γ, hM I J, κ))) o) : mx_WP (d + 4) 138 83 [some (mx_r (some (1, 11, 0))), some (mx_i x1), some (mx_i x2), some (mx_i x3), some (mx_i s)] [] (γ, hM I J, κ) Q := by
  unfold b138_83 at hf
  refine mx_WP.go 2 (pc' := 86) (L' := [some (mx_r (some (1, 11, 0))), some (mx_i x1), some (mx_i x2), some (mx_i x3), some (mx_i s)]) (st' := [mx_i s, mx_r (some (1, 11, 0))]) (σ' := (γ, hM I J, κ)) rfl ?_
  obtain ⟨u2214, e2223, hf⟩ := Option.bind_eq_some_iff.mp hf
  refine mx_WP.call (d := d + 3) (y := 140) (as := [mx_r (some (1, 11, 0)), mx_i s]) (pc' := 89) (r := []) rfl rfl (T140 (d := d + 2)  e2223 ?_)
  show mx_WP (d + 4) 138 89 [some (mx_r (some (1, 11, 0))), some (mx_i x1), some (mx_i x2), some (mx_i x3), some (mx_i s)] [mx_i (b2i u2214)] (γ, hM I J, κ) Q
  by_cases c2215 : u2214 = true
  · rw [if_pos c2215] at hf
    refine mx_WP.zeq (b := u2214) (q := 137) (p3 := 92) rfl (fun hh => absurd hh (by simp [c2215])) (fun _ => ?_)
    refine mx_WP.go 6 (pc' := 101) (L' := [some (mx_r (some (1, 11, 0))), some (mx_i x1), some (mx_i x2), some (mx_i x3), some (mx_i s)]) (st' := [mx_i (x1 / (16 : Int32)), mx_i (s / (16 : Int32))]) (σ' := (γ, hM I J, κ)) rfl ?_
    by_cases c2216 : (s / (16 : Int32)) = (x1 / (16 : Int32))
    · rw [if_pos c2216] at hf
      refine mx_WP.bne (x := (s / (16 : Int32))) (y := (x1 / (16 : Int32))) (q := 137) (p3 := 104) rfl (fun hh => absurd c2216 hh) (fun _ => ?_)
      refine mx_WP.go 1 (pc' := 105) (L' := [some (mx_r (some (1, 11, 0))), some (mx_i x1), some (mx_i x2), some (mx_i x3), some (mx_i s)]) (st' := [mx_i x3]) (σ' := (γ, hM I J, κ)) rfl ?_
      by_cases c2217 : x3 = (0 : Int32)
      · rw [if_pos c2217] at hf
        refine mx_WP.beq (x := x3) (y := (0 : Int32)) (q := 137) (p3 := 108) rfl (fun _ => ?_) (fun hh => absurd c2217 hh)
        rw [← Option.some.inj hf] at hk
        exact hk
      · rw [if_neg c2217] at hf
        refine mx_WP.beq (x := x3) (y := (0 : Int32)) (q := 137) (p3 := 108) rfl (fun hh => absurd hh c2217) (fun _ => ?_)
        refine mx_WP.go 3 (pc' := 114) (L' := [some (mx_r (some (1, 11, 0))), some (mx_i x1), some (mx_i x2), some (mx_i x3), some (mx_i s)]) (st' := [mx_i s, mx_r (some (1, 105, 0))]) (σ' := (γ, hM I J, κ)) rfl ?_
        by_cases c2218 : s < 0 ∨ 128 ≤ s.toNatClampNeg
        · rw [if_pos c2218] at hf
          cases hf
        rw [if_neg c2218] at hf
        refine mx_WP.ialdx c2218 ?_
        show mx_WP (d + 4) 138 115 [some (mx_r (some (1, 11, 0))), some (mx_i x1), some (mx_i x2), some (mx_i x3), some (mx_i s)] [mx_i (I 105 0 s.toNatClampNeg)] (γ, hM I J, κ) Q
        refine mx_WP.go 1 (pc' := 116) (L' := [some (mx_r (some (1, 11, 0))), some (mx_i x1), some (mx_i x2), some (mx_i x3), some (mx_i s)]) (st' := [mx_i x1, mx_i (I 105 0 s.toNatClampNeg)]) (σ' := (γ, hM I J, κ)) rfl ?_
        by_cases c2219 : (I 105 0 s.toNatClampNeg) = x1
        · rw [if_pos c2219] at hf
          refine mx_WP.bne (x := (I 105 0 s.toNatClampNeg)) (y := x1) (q := 131) (p3 := 119) rfl (fun hh => absurd c2219 hh) (fun _ => ?_)
          refine mx_WP.go 3 (pc' := 123) (L' := [some (mx_r (some (1, 11, 0))), some (mx_i x1), some (mx_i x2), some (mx_i x3), some (mx_i s)]) (st' := [mx_i x2, mx_i s, mx_r (some (1, 11, 0))]) (σ' := (γ, hM I J, κ)) rfl ?_
          obtain ⟨u2220, e2222, hf⟩ := Option.bind_eq_some_iff.mp hf
          refine mx_WP.call (d := d + 3) (y := 144) (as := [mx_r (some (1, 11, 0)), mx_i s, mx_i x2]) (pc' := 126) (r := []) rfl rfl (T144 (d := d + 1)  e2222 ?_)
          show mx_WP (d + 4) 138 126 [some (mx_r (some (1, 11, 0))), some (mx_i x1), some (mx_i x2), some (mx_i x3), some (mx_i s)] [mx_i (b2i u2220)] (γ, hM I J, κ) Q
          by_cases c2221 : u2220 = true
          · rw [if_pos c2221] at hf
            refine mx_WP.zne (b := u2220) (q := 131) (p3 := 129) rfl (fun _ => ?_) (fun hh => absurd hh (by simp [c2221]))
            refine mx_WP.go 2 (pc' := 83) (L' := [some (mx_r (some (1, 11, 0))), some (mx_i x1), some (mx_i x2), some (mx_i x3), some (mx_i (s + 1))]) (st' := []) (σ' := (γ, hM I J, κ)) rfl ?_
            rw [← Option.some.inj hf] at hk
            exact hk
          · rw [if_neg c2221] at hf
            refine mx_WP.zne (b := u2220) (q := 131) (p3 := 129) rfl (fun hh => absurd hh (by simp [c2221])) (fun _ => ?_)
            refine mx_WP.go 1 (pc' := 130) (L' := [some (mx_r (some (1, 11, 0))), some (mx_i x1), some (mx_i x2), some (mx_i x3), some (mx_i s)]) (st' := [mx_i (0 : Int32)]) (σ' := (γ, hM I J, κ)) rfl ?_
            rw [← Option.some.inj hf] at hk
            refine mx_WP.ret (v := some (mx_i (0 : Int32))) rfl ?_
            exact hk
        · rw [if_neg c2219] at hf
          refine mx_WP.bne (x := (I 105 0 s.toNatClampNeg)) (y := x1) (q := 131) (p3 := 119) rfl (fun _ => ?_) (fun hh => absurd c2219 hh)
          refine mx_WP.go 2 (pc' := 83) (L' := [some (mx_r (some (1, 11, 0))), some (mx_i x1), some (mx_i x2), some (mx_i x3), some (mx_i (s + 1))]) (st' := []) (σ' := (γ, hM I J, κ)) rfl ?_
          rw [← Option.some.inj hf] at hk
          exact hk
    · rw [if_neg c2216] at hf
      refine mx_WP.bne (x := (s / (16 : Int32))) (y := (x1 / (16 : Int32))) (q := 137) (p3 := 104) rfl (fun _ => ?_) (fun hh => absurd c2216 hh)
      rw [← Option.some.inj hf] at hk
      exact hk
  · rw [if_neg c2215] at hf
    refine mx_WP.zeq (b := u2214) (q := 137) (p3 := 92) rfl (fun _ => ?_) (fun hh => absurd hh (by simp [c2215]))
    rw [← Option.some.inj hf] at hk
    exact hk
theorem L138_83 {d : Nat} {x1 : Int32} {x2 : Int32} {x3 : Int32} {γ : mx_Rg} {I : Nat → Nat → Nat → Int32} {J : Nat → Nat → Nat → Int64} {κ : (Nat × (Nat → Int32)) × (Nat × Nat)} {Q : Option mx_V → mx_Hp → Prop} {n : Nat} {s : Int32} {o : (Int32) ⊕ (Bool)} (hf : mx_lp (b138_83 x1 x2 x3 I J) n s = some o) (hk : (Sum.elim (fun x : Int32 => mx_WP (d + 4) 138 137 [some (mx_r (some (1, 11, 0))), some (mx_i x1), some (mx_i x2), some (mx_i x3), some (mx_i x)] [] (γ, hM I J, κ) Q) (fun x : Bool => Q (some (mx_i (b2i x))) (γ, hM I J, κ))) o) : mx_WP (d + 4) 138 83 [some (mx_r (some (1, 11, 0))), some (mx_i x1), some (mx_i x2), some (mx_i x3), some (mx_i s)] [] (γ, hM I J, κ) Q := mx_lp_ok (P := fun s : Int32 => mx_WP (d + 4) 138 83 [some (mx_r (some (1, 11, 0))), some (mx_i x1), some (mx_i x2), some (mx_i x3), some (mx_i s)] [] (γ, hM I J, κ) Q) (E := (Sum.elim (fun x : Int32 => mx_WP (d + 4) 138 137 [some (mx_r (some (1, 11, 0))), some (mx_i x1), some (mx_i x2), some (mx_i x3), some (mx_i x)] [] (γ, hM I J, κ) Q) (fun x : Bool => Q (some (mx_i (b2i x))) (γ, hM I J, κ)))) (fun s o hf hk => B138_83 hf hk) n s o hf hk
def j138_78 (v1 : Int32) (v2 : Int32) (v3 : Int32) (I : Nat → Nat → Nat → Int32) (J : Nat → Nat → Nat → Int64) : Option (Bool) :=
  (mx_lp (b138_83 v1 v2 v3 I J) mx_fu (v1 + (1 : Int32))).bind fun u2224 => Sum.elim (fun w2226 =>
  some true) (fun y2227 => some y2227) u2224
theorem J138_78 {d : Nat} {v1 : Int32} {v2 : Int32} {v3 : Int32} {z4 : Option mx_V} {γ : mx_Rg} {I : Nat → Nat → Nat → Int32} {J : Nat → Nat → Nat → Int64} {κ : (Nat × (Nat → Int32)) × (Nat × Nat)} {Q : Option mx_V → mx_Hp → Prop} {o : Bool} (hf : j138_78 v1 v2 v3 I J = some o) (hk : Q (some (mx_i (b2i o))) (γ, hM I J, κ)) : mx_WP (d + 4) 138 78 [some (mx_r (some (1, 11, 0))), some (mx_i v1), some (mx_i v2), some (mx_i v3), z4] [] (γ, hM I J, κ) Q := by
  unfold j138_78 at hf
  refine mx_WP.go 4 (pc' := 83) (L' := [some (mx_r (some (1, 11, 0))), some (mx_i v1), some (mx_i v2), some (mx_i v3), some (mx_i (v1 + (1 : Int32)))]) (st' := []) (σ' := (γ, hM I J, κ)) rfl ?_
  obtain ⟨u2224, e2225, hf⟩ := Option.bind_eq_some_iff.mp hf
  cases u2224 with
  | inr y2227 =>
    rw [Sum.elim_inr] at hf
    rw [← Option.some.inj hf] at hk
    exact (L138_83 (d := d) e2225 hk)
  | inl w2226 =>
    rw [Sum.elim_inl] at hf
    refine (L138_83 (d := d) e2225 ?_)
    show mx_WP (d + 4) 138 137 [some (mx_r (some (1, 11, 0))), some (mx_i v1), some (mx_i v2), some (mx_i v3), some (mx_i w2226)] [] (γ, hM I J, κ) Q
    refine mx_WP.go 1 (pc' := 138) (L' := [some (mx_r (some (1, 11, 0))), some (mx_i v1), some (mx_i v2), some (mx_i v3), some (mx_i w2226)]) (st' := [mx_i (1 : Int32)]) (σ' := (γ, hM I J, κ)) rfl ?_
    rw [← Option.some.inj hf] at hk
    refine mx_WP.ret (v := some (mx_i (1 : Int32))) rfl ?_
    exact hk
def j138_27 (v1 : Int32) (t0 : Int32) (I : Nat → Nat → Nat → Int32) (J : Nat → Nat → Nat → Int64) : Option (Bool) :=
  if (0 : Int32) ≤ t0 then ((mx_lp (b138_41 v1 t0 I J) mx_fu ((0 : Int32), t0 + (1 : Int32))).bind fun u1112 =>
  j138_78 v1 t0 u1112.1 I J) else some false
theorem J138_27 {d : Nat} {v1 : Int32} {t0 : Int32} {z2 : Option mx_V} {z3 : Option mx_V} {z4 : Option mx_V} {γ : mx_Rg} {I : Nat → Nat → Nat → Int32} {J : Nat → Nat → Nat → Int64} {κ : (Nat × (Nat → Int32)) × (Nat × Nat)} {Q : Option mx_V → mx_Hp → Prop} {o : Bool} (hf : j138_27 v1 t0 I J = some o) (hk : Q (some (mx_i (b2i o))) (γ, hM I J, κ)) : mx_WP (d + 4) 138 27 [some (mx_r (some (1, 11, 0))), some (mx_i v1), z2, z3, z4] [mx_i t0] (γ, hM I J, κ) Q := by
  unfold j138_27 at hf
  refine mx_WP.go 2 (pc' := 29) (L' := [some (mx_r (some (1, 11, 0))), some (mx_i v1), some (mx_i t0), z3, z4]) (st' := [mx_i t0]) (σ' := (γ, hM I J, κ)) rfl ?_
  by_cases c1005 : (0 : Int32) ≤ t0
  · rw [if_pos c1005] at hf
    refine mx_WP.bge (x := t0) (y := (0 : Int32)) (q := 34) (p3 := 32) rfl (fun _ => ?_) (fun hh => absurd c1005 hh)
    refine mx_WP.go 6 (pc' := 41) (L' := [some (mx_r (some (1, 11, 0))), some (mx_i v1), some (mx_i t0), some (mx_i (0 : Int32)), some (mx_i (t0 + (1 : Int32)))]) (st' := []) (σ' := (γ, hM I J, κ)) rfl ?_
    obtain ⟨u1112, e1113, hf⟩ := Option.bind_eq_some_iff.mp hf
    refine L138_41 (d := d) e1113 ?_
    show mx_WP (d + 4) 138 78 [some (mx_r (some (1, 11, 0))), some (mx_i v1), some (mx_i t0), some (mx_i u1112.1), some (mx_i u1112.2)] [] (γ, hM I J, κ) Q
    exact J138_78 (d := d) hf hk
  · rw [if_neg c1005] at hf
    refine mx_WP.bge (x := t0) (y := (0 : Int32)) (q := 34) (p3 := 32) rfl (fun hh => absurd hh c1005) (fun _ => ?_)
    refine mx_WP.go 1 (pc' := 33) (L' := [some (mx_r (some (1, 11, 0))), some (mx_i v1), some (mx_i t0), z3, z4]) (st' := [mx_i (0 : Int32)]) (σ' := (γ, hM I J, κ)) rfl ?_
    rw [← Option.some.inj hf] at hk
    refine mx_WP.ret (v := some (mx_i (0 : Int32))) rfl ?_
    exact hk
def f138 (x1 : Int32) (I : Nat → Nat → Nat → Int32) (J : Nat → Nat → Nat → Int64) : Option (Bool) :=
  (f139 x1 (7632997 : Int64) I J).bind fun u1 =>
  if u1 = true then ((f141 x1 (500068609904 : Int64) I J).bind fun u3 =>
  (f142 u3 I J).bind fun u4 =>
  j138_27 x1 u4 I J) else j138_27 x1 (-1 : Int32) I J
theorem T138 {d : Nat} {x1 : Int32} {γ : mx_Rg} {I : Nat → Nat → Nat → Int32} {J : Nat → Nat → Nat → Int64} {κ : (Nat × (Nat → Int32)) × (Nat × Nat)} {Q : Option mx_V → mx_Hp → Prop} {o : Bool} (hf : f138 x1 I J = some o) (hk : Q (some (mx_i (b2i o))) (γ, hM I J, κ)) : mx_WP (d + 4) 138 0 (mx_ent 138 [mx_r (some (1, 11, 0)), mx_i x1]) [] (γ, hM I J, κ) Q := by
  unfold f138 at hf
  refine mx_WP.go 3 (pc' := 5) (L' := [some (mx_r (some (1, 11, 0))), some (mx_i x1), none, none, none]) (st' := [mx_l (7632997 : Int64), mx_i x1, mx_r (some (1, 11, 0))]) (σ' := (γ, hM I J, κ)) rfl ?_
  obtain ⟨u1, e2230, hf⟩ := Option.bind_eq_some_iff.mp hf
  refine mx_WP.call (d := d + 3) (y := 139) (as := [mx_r (some (1, 11, 0)), mx_i x1, mx_l (7632997 : Int64)]) (pc' := 8) (r := []) rfl rfl (T139 (d := d + 1)  e2230 ?_)
  show mx_WP (d + 4) 138 8 [some (mx_r (some (1, 11, 0))), some (mx_i x1), none, none, none] [mx_i (b2i u1)] (γ, hM I J, κ) Q
  by_cases c2 : u1 = true
  · rw [if_pos c2] at hf
    refine mx_WP.zeq (b := u1) (q := 26) (p3 := 11) rfl (fun hh => absurd hh (by simp [c2])) (fun _ => ?_)
    refine mx_WP.go 4 (pc' := 17) (L' := [some (mx_r (some (1, 11, 0))), some (mx_i x1), none, none, none]) (st' := [mx_l (500068609904 : Int64), mx_i x1, mx_r (some (1, 11, 0)), mx_r (some (1, 11, 0))]) (σ' := (γ, hM I J, κ)) rfl ?_
    obtain ⟨u3, e2229, hf⟩ := Option.bind_eq_some_iff.mp hf
    refine mx_WP.call (d := d + 3) (y := 141) (as := [mx_r (some (1, 11, 0)), mx_i x1, mx_l (500068609904 : Int64)]) (pc' := 20) (r := [mx_r (some (1, 11, 0))]) rfl rfl (T141 (d := d + 3)  e2229 ?_)
    show mx_WP (d + 4) 138 20 [some (mx_r (some (1, 11, 0))), some (mx_i x1), none, none, none] [mx_l u3, mx_r (some (1, 11, 0))] (γ, hM I J, κ) Q
    obtain ⟨u4, e2228, hf⟩ := Option.bind_eq_some_iff.mp hf
    refine mx_WP.call (d := d + 3) (y := 142) (as := [mx_r (some (1, 11, 0)), mx_l u3]) (pc' := 23) (r := []) rfl rfl (T142 (d := d + 0)  e2228 ?_)
    show mx_WP (d + 4) 138 23 [some (mx_r (some (1, 11, 0))), some (mx_i x1), none, none, none] [mx_i u4] (γ, hM I J, κ) Q
    refine mx_WP.go 1 (pc' := 27) (L' := [some (mx_r (some (1, 11, 0))), some (mx_i x1), none, none, none]) (st' := [mx_i u4]) (σ' := (γ, hM I J, κ)) rfl ?_
    exact J138_27 (d := d) hf hk
  · rw [if_neg c2] at hf
    refine mx_WP.zeq (b := u1) (q := 26) (p3 := 11) rfl (fun _ => ?_) (fun hh => absurd hh (by simp [c2]))
    refine mx_WP.go 1 (pc' := 27) (L' := [some (mx_r (some (1, 11, 0))), some (mx_i x1), none, none, none]) (st' := [mx_i (-1 : Int32)]) (σ' := (γ, hM I J, κ)) rfl ?_
    exact J138_27 (d := d) hf hk
def b134_45 (x1 : Int32) (I : Nat → Nat → Nat → Int32) (J : Nat → Nat → Nat → Int64) (s : Int32 × (Nat → Nat → Nat → Int32)) : Option ((Int32 × (Nat → Nat → Nat → Int32)) ⊕ (Int32 × (Nat → Nat → Nat → Int32))) :=
  if (128 : Int32) ≤ s.1 then (some (Sum.inr (s.1, s.2))) else (f138 s.1 s.2 J).bind fun u209 =>
  if s.1 < 0 ∨ 128 ≤ s.1.toNatClampNeg then none else some (Sum.inl (s.1 + 1, (mx_u3 s.2 108 0 s.1.toNatClampNeg (vp_nar .boolean (b2i u209)))))
theorem B134_45 {d : Nat} {x1 : Int32} {γ : mx_Rg} {I : Nat → Nat → Nat → Int32} {J : Nat → Nat → Nat → Int64} {κ : (Nat × (Nat → Int32)) × (Nat × Nat)} {Q : Option mx_V → mx_Hp → Prop} {s : Int32 × (Nat → Nat → Nat → Int32)} {o : (Int32 × (Nat → Nat → Nat → Int32)) ⊕ (Int32 × (Nat → Nat → Nat → Int32))} (hf : b134_45 x1 I J s = some o) (hk : Sum.elim (fun s : Int32 × (Nat → Nat → Nat → Int32) => mx_WP (d + 5) 134 45 [some (mx_r (some (1, 11, 0))), some (mx_i x1), some (mx_i s.1)] [] (γ, hM s.2 J, κ) Q) (fun x : Int32 × (Nat → Nat → Nat → Int32) => mx_WP (d + 5) 134 69 [some (mx_r (some (1, 11, 0))), some (mx_i x1), some (mx_i x.1)] [] (γ, hM x.2 J, κ) Q) o) : mx_WP (d + 5) 134 45 [some (mx_r (some (1, 11, 0))), some (mx_i x1), some (mx_i s.1)] [] (γ, hM s.2 J, κ) Q := by
  unfold b134_45 at hf
  refine mx_WP.go 2 (pc' := 49) (L' := [some (mx_r (some (1, 11, 0))), some (mx_i x1), some (mx_i s.1)]) (st' := [mx_i (128 : Int32), mx_i s.1]) (σ' := (γ, hM s.2 J, κ)) rfl ?_
  by_cases c208 : (128 : Int32) ≤ s.1
  · rw [if_pos c208] at hf
    refine mx_WP.bge (x := s.1) (y := (128 : Int32)) (q := 69) (p3 := 52) rfl (fun _ => ?_) (fun hh => absurd c208 hh)
    rw [← Option.some.inj hf] at hk
    exact hk
  · rw [if_neg c208] at hf
    refine mx_WP.bge (x := s.1) (y := (128 : Int32)) (q := 69) (p3 := 52) rfl (fun hh => absurd hh c208) (fun _ => ?_)
    refine mx_WP.go 5 (pc' := 59) (L' := [some (mx_r (some (1, 11, 0))), some (mx_i x1), some (mx_i s.1)]) (st' := [mx_i s.1, mx_r (some (1, 11, 0)), mx_i s.1, mx_r (some (1, 108, 0))]) (σ' := (γ, hM s.2 J, κ)) rfl ?_
    obtain ⟨u209, e211, hf⟩ := Option.bind_eq_some_iff.mp hf
    refine mx_WP.call (d := d + 4) (y := 138) (as := [mx_r (some (1, 11, 0)), mx_i s.1]) (pc' := 62) (r := [mx_i s.1, mx_r (some (1, 108, 0))]) rfl rfl (T138 (d := d + 0)  e211 ?_)
    show mx_WP (d + 5) 134 62 [some (mx_r (some (1, 11, 0))), some (mx_i x1), some (mx_i s.1)] [mx_i (b2i u209), mx_i s.1, mx_r (some (1, 108, 0))] (γ, hM s.2 J, κ) Q
    by_cases c210 : s.1 < 0 ∨ 128 ≤ s.1.toNatClampNeg
    · rw [if_pos c210] at hf
      cases hf
    rw [if_neg c210] at hf
    refine mx_WP.bastx c210 ?_
    show mx_WP (d + 5) 134 63 [some (mx_r (some (1, 11, 0))), some (mx_i x1), some (mx_i s.1)] [] (γ, hM (mx_u3 s.2 108 0 s.1.toNatClampNeg (vp_nar .boolean (b2i u209))) J, κ) Q
    refine mx_WP.go 2 (pc' := 45) (L' := [some (mx_r (some (1, 11, 0))), some (mx_i x1), some (mx_i (s.1 + 1))]) (st' := []) (σ' := (γ, hM (mx_u3 s.2 108 0 s.1.toNatClampNeg (vp_nar .boolean (b2i u209))) J, κ)) rfl ?_
    rw [← Option.some.inj hf] at hk
    exact hk
theorem L134_45 {d : Nat} {x1 : Int32} {γ : mx_Rg} {I : Nat → Nat → Nat → Int32} {J : Nat → Nat → Nat → Int64} {κ : (Nat × (Nat → Int32)) × (Nat × Nat)} {Q : Option mx_V → mx_Hp → Prop} {n : Nat} {s : Int32 × (Nat → Nat → Nat → Int32)} {o : Int32 × (Nat → Nat → Nat → Int32)} (hf : mx_lp (b134_45 x1 I J) n s = some o) (hk : (fun x : Int32 × (Nat → Nat → Nat → Int32) => mx_WP (d + 5) 134 69 [some (mx_r (some (1, 11, 0))), some (mx_i x1), some (mx_i x.1)] [] (γ, hM x.2 J, κ) Q) o) : mx_WP (d + 5) 134 45 [some (mx_r (some (1, 11, 0))), some (mx_i x1), some (mx_i s.1)] [] (γ, hM s.2 J, κ) Q := mx_lp_ok (P := fun s : Int32 × (Nat → Nat → Nat → Int32) => mx_WP (d + 5) 134 45 [some (mx_r (some (1, 11, 0))), some (mx_i x1), some (mx_i s.1)] [] (γ, hM s.2 J, κ) Q) (E := (fun x : Int32 × (Nat → Nat → Nat → Int32) => mx_WP (d + 5) 134 69 [some (mx_r (some (1, 11, 0))), some (mx_i x1), some (mx_i x.1)] [] (γ, hM x.2 J, κ) Q)) (fun s o hf hk => B134_45 hf hk) n s o hf hk
def b145_3 (x1 : Int32) (I : Nat → Nat → Nat → Int32) (s : Int32 × (Nat → Nat → Nat → Int32)) : Option ((Int32 × (Nat → Nat → Nat → Int32)) ⊕ (Int32 × (Nat → Nat → Nat → Int32))) :=
  if s.1 ≤ (0 : Int32) then (some (Sum.inr (s.1, s.2))) else if (s.1 - (1 : Int32)) < 0 ∨ 32 ≤ (s.1 - (1 : Int32)).toNatClampNeg then none else if s.1 < 0 ∨ 32 ≤ s.1.toNatClampNeg then none else some (Sum.inl (s.1 + (-1), (mx_u3 s.2 113 0 s.1.toNatClampNeg (s.2 113 0 ((s.1 - (1 : Int32)).toNatClampNeg)))))
theorem B145_3 {d : Nat} {x1 : Int32} {γ : mx_Rg} {I : Nat → Nat → Nat → Int32} {J : Nat → Nat → Nat → Int64} {κ : (Nat × (Nat → Int32)) × (Nat × Nat)} {Q : Option mx_V → mx_Hp → Prop} {s : Int32 × (Nat → Nat → Nat → Int32)} {o : (Int32 × (Nat → Nat → Nat → Int32)) ⊕ (Int32 × (Nat → Nat → Nat → Int32))} (hf : b145_3 x1 I s = some o) (hk : Sum.elim (fun s : Int32 × (Nat → Nat → Nat → Int32) => mx_WP (d + 0) 145 3 [some (mx_r (some (1, 11, 0))), some (mx_i x1), some (mx_i s.1)] [] (γ, hM s.2 J, κ) Q) (fun x : Int32 × (Nat → Nat → Nat → Int32) => mx_WP (d + 0) 145 27 [some (mx_r (some (1, 11, 0))), some (mx_i x1), some (mx_i x.1)] [] (γ, hM x.2 J, κ) Q) o) : mx_WP (d + 0) 145 3 [some (mx_r (some (1, 11, 0))), some (mx_i x1), some (mx_i s.1)] [] (γ, hM s.2 J, κ) Q := by
  unfold b145_3 at hf
  refine mx_WP.go 1 (pc' := 4) (L' := [some (mx_r (some (1, 11, 0))), some (mx_i x1), some (mx_i s.1)]) (st' := [mx_i s.1]) (σ' := (γ, hM s.2 J, κ)) rfl ?_
  by_cases c101 : s.1 ≤ (0 : Int32)
  · rw [if_pos c101] at hf
    refine mx_WP.ble (x := s.1) (y := (0 : Int32)) (q := 27) (p3 := 7) rfl (fun _ => ?_) (fun hh => absurd c101 hh)
    rw [← Option.some.inj hf] at hk
    exact hk
  · rw [if_neg c101] at hf
    refine mx_WP.ble (x := s.1) (y := (0 : Int32)) (q := 27) (p3 := 7) rfl (fun hh => absurd hh c101) (fun _ => ?_)
    refine mx_WP.go 8 (pc' := 19) (L' := [some (mx_r (some (1, 11, 0))), some (mx_i x1), some (mx_i s.1)]) (st' := [mx_i (s.1 - (1 : Int32)), mx_r (some (1, 113, 0)), mx_i s.1, mx_r (some (1, 113, 0))]) (σ' := (γ, hM s.2 J, κ)) rfl ?_
    by_cases c102 : (s.1 - (1 : Int32)) < 0 ∨ 32 ≤ (s.1 - (1 : Int32)).toNatClampNeg
    · rw [if_pos c102] at hf
      cases hf
    rw [if_neg c102] at hf
    refine mx_WP.ialdx c102 ?_
    show mx_WP (d + 0) 145 20 [some (mx_r (some (1, 11, 0))), some (mx_i x1), some (mx_i s.1)] [mx_i (s.2 113 0 ((s.1 - (1 : Int32)).toNatClampNeg)), mx_i s.1, mx_r (some (1, 113, 0))] (γ, hM s.2 J, κ) Q
    by_cases c103 : s.1 < 0 ∨ 32 ≤ s.1.toNatClampNeg
    · rw [if_pos c103] at hf
      cases hf
    rw [if_neg c103] at hf
    refine mx_WP.iastx c103 ?_
    show mx_WP (d + 0) 145 21 [some (mx_r (some (1, 11, 0))), some (mx_i x1), some (mx_i s.1)] [] (γ, hM (mx_u3 s.2 113 0 s.1.toNatClampNeg (s.2 113 0 ((s.1 - (1 : Int32)).toNatClampNeg))) J, κ) Q
    refine mx_WP.go 2 (pc' := 3) (L' := [some (mx_r (some (1, 11, 0))), some (mx_i x1), some (mx_i (s.1 + (-1)))]) (st' := []) (σ' := (γ, hM (mx_u3 s.2 113 0 s.1.toNatClampNeg (s.2 113 0 ((s.1 - (1 : Int32)).toNatClampNeg))) J, κ)) rfl ?_
    rw [← Option.some.inj hf] at hk
    exact hk
theorem L145_3 {d : Nat} {x1 : Int32} {γ : mx_Rg} {I : Nat → Nat → Nat → Int32} {J : Nat → Nat → Nat → Int64} {κ : (Nat × (Nat → Int32)) × (Nat × Nat)} {Q : Option mx_V → mx_Hp → Prop} {n : Nat} {s : Int32 × (Nat → Nat → Nat → Int32)} {o : Int32 × (Nat → Nat → Nat → Int32)} (hf : mx_lp (b145_3 x1 I) n s = some o) (hk : (fun x : Int32 × (Nat → Nat → Nat → Int32) => mx_WP (d + 0) 145 27 [some (mx_r (some (1, 11, 0))), some (mx_i x1), some (mx_i x.1)] [] (γ, hM x.2 J, κ) Q) o) : mx_WP (d + 0) 145 3 [some (mx_r (some (1, 11, 0))), some (mx_i x1), some (mx_i s.1)] [] (γ, hM s.2 J, κ) Q := mx_lp_ok (P := fun s : Int32 × (Nat → Nat → Nat → Int32) => mx_WP (d + 0) 145 3 [some (mx_r (some (1, 11, 0))), some (mx_i x1), some (mx_i s.1)] [] (γ, hM s.2 J, κ) Q) (E := (fun x : Int32 × (Nat → Nat → Nat → Int32) => mx_WP (d + 0) 145 27 [some (mx_r (some (1, 11, 0))), some (mx_i x1), some (mx_i x.1)] [] (γ, hM x.2 J, κ) Q)) (fun s o hf hk => B145_3 hf hk) n s o hf hk
def b145_54 (x1 : Int32) (I : Nat → Nat → Nat → Int32) (s : Int32 × (Nat → Nat → Nat → Int32)) : Option ((Int32 × (Nat → Nat → Nat → Int32)) ⊕ (Int32 × (Nat → Nat → Nat → Int32))) :=
  if (s.2 11 0 39) ≤ s.1 then (some (Sum.inr (s.1, s.2))) else if s.1 < 0 ∨ 24 ≤ s.1.toNatClampNeg then none else if (s.2 112 0 s.1.toNatClampNeg) = x1 then (if s.1 < 0 ∨ 24 ≤ s.1.toNatClampNeg then none else some (Sum.inl (s.1 + 1, (mx_u3 s.2 115 0 s.1.toNatClampNeg (vp_nar .boolean (1 : Int32)))))) else some (Sum.inl (s.1 + 1, s.2))
theorem B145_54 {d : Nat} {x1 : Int32} {γ : mx_Rg} {I : Nat → Nat → Nat → Int32} {J : Nat → Nat → Nat → Int64} {κ : (Nat × (Nat → Int32)) × (Nat × Nat)} {Q : Option mx_V → mx_Hp → Prop} {s : Int32 × (Nat → Nat → Nat → Int32)} {o : (Int32 × (Nat → Nat → Nat → Int32)) ⊕ (Int32 × (Nat → Nat → Nat → Int32))} (hf : b145_54 x1 I s = some o) (hk : Sum.elim (fun s : Int32 × (Nat → Nat → Nat → Int32) => mx_WP (d + 0) 145 54 [some (mx_r (some (1, 11, 0))), some (mx_i x1), some (mx_i s.1)] [] (γ, hM s.2 J, κ) Q) (fun x : Int32 × (Nat → Nat → Nat → Int32) => mx_WP (d + 0) 145 85 [some (mx_r (some (1, 11, 0))), some (mx_i x1), some (mx_i x.1)] [] (γ, hM x.2 J, κ) Q) o) : mx_WP (d + 0) 145 54 [some (mx_r (some (1, 11, 0))), some (mx_i x1), some (mx_i s.1)] [] (γ, hM s.2 J, κ) Q := by
  unfold b145_54 at hf
  refine mx_WP.go 3 (pc' := 59) (L' := [some (mx_r (some (1, 11, 0))), some (mx_i x1), some (mx_i s.1)]) (st' := [mx_i (s.2 11 0 39), mx_i s.1]) (σ' := (γ, hM s.2 J, κ)) rfl ?_
  by_cases c208 : (s.2 11 0 39) ≤ s.1
  · rw [if_pos c208] at hf
    refine mx_WP.bge (x := s.1) (y := (s.2 11 0 39)) (q := 85) (p3 := 62) rfl (fun _ => ?_) (fun hh => absurd c208 hh)
    rw [← Option.some.inj hf] at hk
    exact hk
  · rw [if_neg c208] at hf
    refine mx_WP.bge (x := s.1) (y := (s.2 11 0 39)) (q := 85) (p3 := 62) rfl (fun hh => absurd hh c208) (fun _ => ?_)
    refine mx_WP.go 3 (pc' := 67) (L' := [some (mx_r (some (1, 11, 0))), some (mx_i x1), some (mx_i s.1)]) (st' := [mx_i s.1, mx_r (some (1, 112, 0))]) (σ' := (γ, hM s.2 J, κ)) rfl ?_
    by_cases c209 : s.1 < 0 ∨ 24 ≤ s.1.toNatClampNeg
    · rw [if_pos c209] at hf
      cases hf
    rw [if_neg c209] at hf
    refine mx_WP.ialdx c209 ?_
    show mx_WP (d + 0) 145 68 [some (mx_r (some (1, 11, 0))), some (mx_i x1), some (mx_i s.1)] [mx_i (s.2 112 0 s.1.toNatClampNeg)] (γ, hM s.2 J, κ) Q
    refine mx_WP.go 1 (pc' := 69) (L' := [some (mx_r (some (1, 11, 0))), some (mx_i x1), some (mx_i s.1)]) (st' := [mx_i x1, mx_i (s.2 112 0 s.1.toNatClampNeg)]) (σ' := (γ, hM s.2 J, κ)) rfl ?_
    by_cases c210 : (s.2 112 0 s.1.toNatClampNeg) = x1
    · rw [if_pos c210] at hf
      refine mx_WP.bne (x := (s.2 112 0 s.1.toNatClampNeg)) (y := x1) (q := 79) (p3 := 72) rfl (fun hh => absurd c210 hh) (fun _ => ?_)
      refine mx_WP.go 4 (pc' := 78) (L' := [some (mx_r (some (1, 11, 0))), some (mx_i x1), some (mx_i s.1)]) (st' := [mx_i (1 : Int32), mx_i s.1, mx_r (some (1, 115, 0))]) (σ' := (γ, hM s.2 J, κ)) rfl ?_
      by_cases c211 : s.1 < 0 ∨ 24 ≤ s.1.toNatClampNeg
      · rw [if_pos c211] at hf
        cases hf
      rw [if_neg c211] at hf
      refine mx_WP.bastx c211 ?_
      show mx_WP (d + 0) 145 79 [some (mx_r (some (1, 11, 0))), some (mx_i x1), some (mx_i s.1)] [] (γ, hM (mx_u3 s.2 115 0 s.1.toNatClampNeg (vp_nar .boolean (1 : Int32))) J, κ) Q
      refine mx_WP.go 2 (pc' := 54) (L' := [some (mx_r (some (1, 11, 0))), some (mx_i x1), some (mx_i (s.1 + 1))]) (st' := []) (σ' := (γ, hM (mx_u3 s.2 115 0 s.1.toNatClampNeg (vp_nar .boolean (1 : Int32))) J, κ)) rfl ?_
      rw [← Option.some.inj hf] at hk
      exact hk
    · rw [if_neg c210] at hf
      refine mx_WP.bne (x := (s.2 112 0 s.1.toNatClampNeg)) (y := x1) (q := 79) (p3 := 72) rfl (fun _ => ?_) (fun hh => absurd c210 hh)
      refine mx_WP.go 2 (pc' := 54) (L' := [some (mx_r (some (1, 11, 0))), some (mx_i x1), some (mx_i (s.1 + 1))]) (st' := []) (σ' := (γ, hM s.2 J, κ)) rfl ?_
      rw [← Option.some.inj hf] at hk
      exact hk
theorem L145_54 {d : Nat} {x1 : Int32} {γ : mx_Rg} {I : Nat → Nat → Nat → Int32} {J : Nat → Nat → Nat → Int64} {κ : (Nat × (Nat → Int32)) × (Nat × Nat)} {Q : Option mx_V → mx_Hp → Prop} {n : Nat} {s : Int32 × (Nat → Nat → Nat → Int32)} {o : Int32 × (Nat → Nat → Nat → Int32)} (hf : mx_lp (b145_54 x1 I) n s = some o) (hk : (fun x : Int32 × (Nat → Nat → Nat → Int32) => mx_WP (d + 0) 145 85 [some (mx_r (some (1, 11, 0))), some (mx_i x1), some (mx_i x.1)] [] (γ, hM x.2 J, κ) Q) o) : mx_WP (d + 0) 145 54 [some (mx_r (some (1, 11, 0))), some (mx_i x1), some (mx_i s.1)] [] (γ, hM s.2 J, κ) Q := mx_lp_ok (P := fun s : Int32 × (Nat → Nat → Nat → Int32) => mx_WP (d + 0) 145 54 [some (mx_r (some (1, 11, 0))), some (mx_i x1), some (mx_i s.1)] [] (γ, hM s.2 J, κ) Q) (E := (fun x : Int32 × (Nat → Nat → Nat → Int32) => mx_WP (d + 0) 145 85 [some (mx_r (some (1, 11, 0))), some (mx_i x1), some (mx_i x.1)] [] (γ, hM x.2 J, κ) Q)) (fun s o hf hk => B145_54 hf hk) n s o hf hk
def f145 (x1 : Int32) (I : Nat → Nat → Nat → Int32) : Option ((Nat → Nat → Nat → Int32)) :=
  (mx_lp (b145_3 x1 I) mx_fu ((31 : Int32), I)).bind fun u104 =>
  if x1 < (128 : Int32) then ((mx_lp (b145_54 x1 (mx_u3 (mx_u3 u104.2 113 0 0 x1) 11 0 40 ((u104.2 11 0 40) + (1 : Int32)))) mx_fu ((0 : Int32), (mx_u3 (mx_u3 u104.2 113 0 0 x1) 11 0 40 ((u104.2 11 0 40) + (1 : Int32))))).bind fun u212 =>
  some u212.2) else some (mx_u3 (mx_u3 u104.2 113 0 0 x1) 11 0 40 ((u104.2 11 0 40) + (1 : Int32)))
theorem T145 {d : Nat} {x1 : Int32} {γ : mx_Rg} {I : Nat → Nat → Nat → Int32} {J : Nat → Nat → Nat → Int64} {κ : (Nat × (Nat → Int32)) × (Nat × Nat)} {Q : Option mx_V → mx_Hp → Prop} {o : (Nat → Nat → Nat → Int32)} (hf : f145 x1 I = some o) (hk : Q (none) (γ, hM o J, κ)) : mx_WP (d + 0) 145 0 (mx_ent 145 [mx_r (some (1, 11, 0)), mx_i x1]) [] (γ, hM I J, κ) Q := by
  unfold f145 at hf
  refine mx_WP.go 2 (pc' := 3) (L' := [some (mx_r (some (1, 11, 0))), some (mx_i x1), some (mx_i (31 : Int32))]) (st' := []) (σ' := (γ, hM I J, κ)) rfl ?_
  obtain ⟨u104, e105, hf⟩ := Option.bind_eq_some_iff.mp hf
  refine L145_3 (d := d) e105 ?_
  show mx_WP (d + 0) 145 27 [some (mx_r (some (1, 11, 0))), some (mx_i x1), some (mx_i u104.1)] [] (γ, hM u104.2 J, κ) Q
  refine mx_WP.go 4 (pc' := 33) (L' := [some (mx_r (some (1, 11, 0))), some (mx_i x1), some (mx_i u104.1)]) (st' := [mx_i x1, mx_i (0 : Int32), mx_r (some (1, 113, 0))]) (σ' := (γ, hM u104.2 J, κ)) rfl ?_
  refine mx_WP.iastx (show ¬ ((0 : Int32) < 0 ∨ 32 ≤ (0 : Int32).toNatClampNeg) by decide) ?_
  show mx_WP (d + 0) 145 34 [some (mx_r (some (1, 11, 0))), some (mx_i x1), some (mx_i u104.1)] [] (γ, hM (mx_u3 u104.2 113 0 0 x1) J, κ) Q
  refine mx_WP.go 8 (pc' := 48) (L' := [some (mx_r (some (1, 11, 0))), some (mx_i x1), some (mx_i u104.1)]) (st' := [mx_i (128 : Int32), mx_i x1]) (σ' := (γ, hM (mx_u3 (mx_u3 u104.2 113 0 0 x1) 11 0 40 ((u104.2 11 0 40) + (1 : Int32))) J, κ)) rfl ?_
  by_cases c107 : x1 < (128 : Int32)
  · rw [if_pos c107] at hf
    refine mx_WP.blt (x := x1) (y := (128 : Int32)) (q := 52) (p3 := 51) rfl (fun _ => ?_) (fun hh => absurd c107 hh)
    refine mx_WP.go 2 (pc' := 54) (L' := [some (mx_r (some (1, 11, 0))), some (mx_i x1), some (mx_i (0 : Int32))]) (st' := []) (σ' := (γ, hM (mx_u3 (mx_u3 u104.2 113 0 0 x1) 11 0 40 ((u104.2 11 0 40) + (1 : Int32))) J, κ)) rfl ?_
    obtain ⟨u212, e213, hf⟩ := Option.bind_eq_some_iff.mp hf
    refine L145_54 (d := d) e213 ?_
    show mx_WP (d + 0) 145 85 [some (mx_r (some (1, 11, 0))), some (mx_i x1), some (mx_i u212.1)] [] (γ, hM u212.2 J, κ) Q
    rw [← Option.some.inj hf] at hk
    refine mx_WP.ret (v := none) rfl ?_
    exact hk
  · rw [if_neg c107] at hf
    refine mx_WP.blt (x := x1) (y := (128 : Int32)) (q := 52) (p3 := 51) rfl (fun hh => absurd hh c107) (fun _ => ?_)
    rw [← Option.some.inj hf] at hk
    refine mx_WP.ret (v := none) rfl ?_
    exact hk
def b134_71 (x1 : Int32) (I : Nat → Nat → Nat → Int32) (J : Nat → Nat → Nat → Int64) (s : Int32 × (Nat → Nat → Nat → Int32)) : Option ((Int32 × (Nat → Nat → Nat → Int32)) ⊕ (Int32 × (Nat → Nat → Nat → Int32))) :=
  if (128 : Int32) ≤ s.1 then (some (Sum.inr (s.1, s.2))) else if s.1 < 0 ∨ 128 ≤ s.1.toNatClampNeg then none else if (s.2 109 0 s.1.toNatClampNeg) = (0 : Int32) then (some (Sum.inl (s.1 + 1, s.2))) else if s.1 < 0 ∨ 128 ≤ s.1.toNatClampNeg then none else if (s.2 108 0 s.1.toNatClampNeg) = (0 : Int32) then ((f145 s.1 s.2).bind fun u319 =>
  some (Sum.inl (s.1 + 1, u319))) else some (Sum.inl (s.1 + 1, s.2))
theorem B134_71 {d : Nat} {x1 : Int32} {γ : mx_Rg} {I : Nat → Nat → Nat → Int32} {J : Nat → Nat → Nat → Int64} {κ : (Nat × (Nat → Int32)) × (Nat × Nat)} {Q : Option mx_V → mx_Hp → Prop} {s : Int32 × (Nat → Nat → Nat → Int32)} {o : (Int32 × (Nat → Nat → Nat → Int32)) ⊕ (Int32 × (Nat → Nat → Nat → Int32))} (hf : b134_71 x1 I J s = some o) (hk : Sum.elim (fun s : Int32 × (Nat → Nat → Nat → Int32) => mx_WP (d + 5) 134 71 [some (mx_r (some (1, 11, 0))), some (mx_i x1), some (mx_i s.1)] [] (γ, hM s.2 J, κ) Q) (fun x : Int32 × (Nat → Nat → Nat → Int32) => mx_WP (d + 5) 134 107 [some (mx_r (some (1, 11, 0))), some (mx_i x1), some (mx_i x.1)] [] (γ, hM x.2 J, κ) Q) o) : mx_WP (d + 5) 134 71 [some (mx_r (some (1, 11, 0))), some (mx_i x1), some (mx_i s.1)] [] (γ, hM s.2 J, κ) Q := by
  unfold b134_71 at hf
  refine mx_WP.go 2 (pc' := 75) (L' := [some (mx_r (some (1, 11, 0))), some (mx_i x1), some (mx_i s.1)]) (st' := [mx_i (128 : Int32), mx_i s.1]) (σ' := (γ, hM s.2 J, κ)) rfl ?_
  by_cases c314 : (128 : Int32) ≤ s.1
  · rw [if_pos c314] at hf
    refine mx_WP.bge (x := s.1) (y := (128 : Int32)) (q := 107) (p3 := 78) rfl (fun _ => ?_) (fun hh => absurd c314 hh)
    rw [← Option.some.inj hf] at hk
    exact hk
  · rw [if_neg c314] at hf
    refine mx_WP.bge (x := s.1) (y := (128 : Int32)) (q := 107) (p3 := 78) rfl (fun hh => absurd hh c314) (fun _ => ?_)
    refine mx_WP.go 3 (pc' := 83) (L' := [some (mx_r (some (1, 11, 0))), some (mx_i x1), some (mx_i s.1)]) (st' := [mx_i s.1, mx_r (some (1, 109, 0))]) (σ' := (γ, hM s.2 J, κ)) rfl ?_
    by_cases c315 : s.1 < 0 ∨ 128 ≤ s.1.toNatClampNeg
    · rw [if_pos c315] at hf
      cases hf
    rw [if_neg c315] at hf
    refine mx_WP.baldx c315 ?_
    show mx_WP (d + 5) 134 84 [some (mx_r (some (1, 11, 0))), some (mx_i x1), some (mx_i s.1)] [mx_i (s.2 109 0 s.1.toNatClampNeg)] (γ, hM s.2 J, κ) Q
    by_cases c316 : (s.2 109 0 s.1.toNatClampNeg) = (0 : Int32)
    · rw [if_pos c316] at hf
      refine mx_WP.beq (x := (s.2 109 0 s.1.toNatClampNeg)) (y := (0 : Int32)) (q := 101) (p3 := 87) rfl (fun _ => ?_) (fun hh => absurd c316 hh)
      refine mx_WP.go 2 (pc' := 71) (L' := [some (mx_r (some (1, 11, 0))), some (mx_i x1), some (mx_i (s.1 + 1))]) (st' := []) (σ' := (γ, hM s.2 J, κ)) rfl ?_
      rw [← Option.some.inj hf] at hk
      exact hk
    · rw [if_neg c316] at hf
      refine mx_WP.beq (x := (s.2 109 0 s.1.toNatClampNeg)) (y := (0 : Int32)) (q := 101) (p3 := 87) rfl (fun hh => absurd hh c316) (fun _ => ?_)
      refine mx_WP.go 3 (pc' := 92) (L' := [some (mx_r (some (1, 11, 0))), some (mx_i x1), some (mx_i s.1)]) (st' := [mx_i s.1, mx_r (some (1, 108, 0))]) (σ' := (γ, hM s.2 J, κ)) rfl ?_
      by_cases c317 : s.1 < 0 ∨ 128 ≤ s.1.toNatClampNeg
      · rw [if_pos c317] at hf
        cases hf
      rw [if_neg c317] at hf
      refine mx_WP.baldx c317 ?_
      show mx_WP (d + 5) 134 93 [some (mx_r (some (1, 11, 0))), some (mx_i x1), some (mx_i s.1)] [mx_i (s.2 108 0 s.1.toNatClampNeg)] (γ, hM s.2 J, κ) Q
      by_cases c318 : (s.2 108 0 s.1.toNatClampNeg) = (0 : Int32)
      · rw [if_pos c318] at hf
        refine mx_WP.bne (x := (s.2 108 0 s.1.toNatClampNeg)) (y := (0 : Int32)) (q := 101) (p3 := 96) rfl (fun hh => absurd c318 hh) (fun _ => ?_)
        refine mx_WP.go 2 (pc' := 98) (L' := [some (mx_r (some (1, 11, 0))), some (mx_i x1), some (mx_i s.1)]) (st' := [mx_i s.1, mx_r (some (1, 11, 0))]) (σ' := (γ, hM s.2 J, κ)) rfl ?_
        obtain ⟨u319, e320, hf⟩ := Option.bind_eq_some_iff.mp hf
        refine mx_WP.call (d := d + 4) (y := 145) (as := [mx_r (some (1, 11, 0)), mx_i s.1]) (pc' := 101) (r := []) rfl rfl (T145 (d := d + 4)  e320 ?_)
        show mx_WP (d + 5) 134 101 [some (mx_r (some (1, 11, 0))), some (mx_i x1), some (mx_i s.1)] [] (γ, hM u319 J, κ) Q
        refine mx_WP.go 2 (pc' := 71) (L' := [some (mx_r (some (1, 11, 0))), some (mx_i x1), some (mx_i (s.1 + 1))]) (st' := []) (σ' := (γ, hM u319 J, κ)) rfl ?_
        rw [← Option.some.inj hf] at hk
        exact hk
      · rw [if_neg c318] at hf
        refine mx_WP.bne (x := (s.2 108 0 s.1.toNatClampNeg)) (y := (0 : Int32)) (q := 101) (p3 := 96) rfl (fun _ => ?_) (fun hh => absurd c318 hh)
        refine mx_WP.go 2 (pc' := 71) (L' := [some (mx_r (some (1, 11, 0))), some (mx_i x1), some (mx_i (s.1 + 1))]) (st' := []) (σ' := (γ, hM s.2 J, κ)) rfl ?_
        rw [← Option.some.inj hf] at hk
        exact hk
theorem L134_71 {d : Nat} {x1 : Int32} {γ : mx_Rg} {I : Nat → Nat → Nat → Int32} {J : Nat → Nat → Nat → Int64} {κ : (Nat × (Nat → Int32)) × (Nat × Nat)} {Q : Option mx_V → mx_Hp → Prop} {n : Nat} {s : Int32 × (Nat → Nat → Nat → Int32)} {o : Int32 × (Nat → Nat → Nat → Int32)} (hf : mx_lp (b134_71 x1 I J) n s = some o) (hk : (fun x : Int32 × (Nat → Nat → Nat → Int32) => mx_WP (d + 5) 134 107 [some (mx_r (some (1, 11, 0))), some (mx_i x1), some (mx_i x.1)] [] (γ, hM x.2 J, κ) Q) o) : mx_WP (d + 5) 134 71 [some (mx_r (some (1, 11, 0))), some (mx_i x1), some (mx_i s.1)] [] (γ, hM s.2 J, κ) Q := mx_lp_ok (P := fun s : Int32 × (Nat → Nat → Nat → Int32) => mx_WP (d + 5) 134 71 [some (mx_r (some (1, 11, 0))), some (mx_i x1), some (mx_i s.1)] [] (γ, hM s.2 J, κ) Q) (E := (fun x : Int32 × (Nat → Nat → Nat → Int32) => mx_WP (d + 5) 134 107 [some (mx_r (some (1, 11, 0))), some (mx_i x1), some (mx_i x.1)] [] (γ, hM x.2 J, κ) Q)) (fun s o hf hk => B134_71 hf hk) n s o hf hk
def b134_109 (x1 : Int32) (I : Nat → Nat → Nat → Int32) (J : Nat → Nat → Nat → Int64) (s : Int32 × (Nat → Nat → Nat → Int32)) : Option ((Int32 × (Nat → Nat → Nat → Int32)) ⊕ (Int32 × (Nat → Nat → Nat → Int32))) :=
  if (128 : Int32) ≤ s.1 then (some (Sum.inr (s.1, s.2))) else if s.1 < 0 ∨ 128 ≤ s.1.toNatClampNeg then none else if (s.2 109 0 s.1.toNatClampNeg) = (0 : Int32) then (if s.1 < 0 ∨ 128 ≤ s.1.toNatClampNeg then none else if (s.2 108 0 s.1.toNatClampNeg) = (0 : Int32) then (some (Sum.inl (s.1 + 1, s.2))) else (f145 ((128 : Int32) + s.1) s.2).bind fun u428 =>
  some (Sum.inl (s.1 + 1, u428))) else some (Sum.inl (s.1 + 1, s.2))
theorem B134_109 {d : Nat} {x1 : Int32} {γ : mx_Rg} {I : Nat → Nat → Nat → Int32} {J : Nat → Nat → Nat → Int64} {κ : (Nat × (Nat → Int32)) × (Nat × Nat)} {Q : Option mx_V → mx_Hp → Prop} {s : Int32 × (Nat → Nat → Nat → Int32)} {o : (Int32 × (Nat → Nat → Nat → Int32)) ⊕ (Int32 × (Nat → Nat → Nat → Int32))} (hf : b134_109 x1 I J s = some o) (hk : Sum.elim (fun s : Int32 × (Nat → Nat → Nat → Int32) => mx_WP (d + 5) 134 109 [some (mx_r (some (1, 11, 0))), some (mx_i x1), some (mx_i s.1)] [] (γ, hM s.2 J, κ) Q) (fun x : Int32 × (Nat → Nat → Nat → Int32) => mx_WP (d + 5) 134 149 [some (mx_r (some (1, 11, 0))), some (mx_i x1), some (mx_i x.1)] [] (γ, hM x.2 J, κ) Q) o) : mx_WP (d + 5) 134 109 [some (mx_r (some (1, 11, 0))), some (mx_i x1), some (mx_i s.1)] [] (γ, hM s.2 J, κ) Q := by
  unfold b134_109 at hf
  refine mx_WP.go 2 (pc' := 113) (L' := [some (mx_r (some (1, 11, 0))), some (mx_i x1), some (mx_i s.1)]) (st' := [mx_i (128 : Int32), mx_i s.1]) (σ' := (γ, hM s.2 J, κ)) rfl ?_
  by_cases c423 : (128 : Int32) ≤ s.1
  · rw [if_pos c423] at hf
    refine mx_WP.bge (x := s.1) (y := (128 : Int32)) (q := 149) (p3 := 116) rfl (fun _ => ?_) (fun hh => absurd c423 hh)
    rw [← Option.some.inj hf] at hk
    exact hk
  · rw [if_neg c423] at hf
    refine mx_WP.bge (x := s.1) (y := (128 : Int32)) (q := 149) (p3 := 116) rfl (fun hh => absurd hh c423) (fun _ => ?_)
    refine mx_WP.go 3 (pc' := 121) (L' := [some (mx_r (some (1, 11, 0))), some (mx_i x1), some (mx_i s.1)]) (st' := [mx_i s.1, mx_r (some (1, 109, 0))]) (σ' := (γ, hM s.2 J, κ)) rfl ?_
    by_cases c424 : s.1 < 0 ∨ 128 ≤ s.1.toNatClampNeg
    · rw [if_pos c424] at hf
      cases hf
    rw [if_neg c424] at hf
    refine mx_WP.baldx c424 ?_
    show mx_WP (d + 5) 134 122 [some (mx_r (some (1, 11, 0))), some (mx_i x1), some (mx_i s.1)] [mx_i (s.2 109 0 s.1.toNatClampNeg)] (γ, hM s.2 J, κ) Q
    by_cases c425 : (s.2 109 0 s.1.toNatClampNeg) = (0 : Int32)
    · rw [if_pos c425] at hf
      refine mx_WP.bne (x := (s.2 109 0 s.1.toNatClampNeg)) (y := (0 : Int32)) (q := 143) (p3 := 125) rfl (fun hh => absurd c425 hh) (fun _ => ?_)
      refine mx_WP.go 3 (pc' := 130) (L' := [some (mx_r (some (1, 11, 0))), some (mx_i x1), some (mx_i s.1)]) (st' := [mx_i s.1, mx_r (some (1, 108, 0))]) (σ' := (γ, hM s.2 J, κ)) rfl ?_
      by_cases c426 : s.1 < 0 ∨ 128 ≤ s.1.toNatClampNeg
      · rw [if_pos c426] at hf
        cases hf
      rw [if_neg c426] at hf
      refine mx_WP.baldx c426 ?_
      show mx_WP (d + 5) 134 131 [some (mx_r (some (1, 11, 0))), some (mx_i x1), some (mx_i s.1)] [mx_i (s.2 108 0 s.1.toNatClampNeg)] (γ, hM s.2 J, κ) Q
      by_cases c427 : (s.2 108 0 s.1.toNatClampNeg) = (0 : Int32)
      · rw [if_pos c427] at hf
        refine mx_WP.beq (x := (s.2 108 0 s.1.toNatClampNeg)) (y := (0 : Int32)) (q := 143) (p3 := 134) rfl (fun _ => ?_) (fun hh => absurd c427 hh)
        refine mx_WP.go 2 (pc' := 109) (L' := [some (mx_r (some (1, 11, 0))), some (mx_i x1), some (mx_i (s.1 + 1))]) (st' := []) (σ' := (γ, hM s.2 J, κ)) rfl ?_
        rw [← Option.some.inj hf] at hk
        exact hk
      · rw [if_neg c427] at hf
        refine mx_WP.beq (x := (s.2 108 0 s.1.toNatClampNeg)) (y := (0 : Int32)) (q := 143) (p3 := 134) rfl (fun hh => absurd hh c427) (fun _ => ?_)
        refine mx_WP.go 4 (pc' := 140) (L' := [some (mx_r (some (1, 11, 0))), some (mx_i x1), some (mx_i s.1)]) (st' := [mx_i ((128 : Int32) + s.1), mx_r (some (1, 11, 0))]) (σ' := (γ, hM s.2 J, κ)) rfl ?_
        obtain ⟨u428, e429, hf⟩ := Option.bind_eq_some_iff.mp hf
        refine mx_WP.call (d := d + 4) (y := 145) (as := [mx_r (some (1, 11, 0)), mx_i ((128 : Int32) + s.1)]) (pc' := 143) (r := []) rfl rfl (T145 (d := d + 4)  e429 ?_)
        show mx_WP (d + 5) 134 143 [some (mx_r (some (1, 11, 0))), some (mx_i x1), some (mx_i s.1)] [] (γ, hM u428 J, κ) Q
        refine mx_WP.go 2 (pc' := 109) (L' := [some (mx_r (some (1, 11, 0))), some (mx_i x1), some (mx_i (s.1 + 1))]) (st' := []) (σ' := (γ, hM u428 J, κ)) rfl ?_
        rw [← Option.some.inj hf] at hk
        exact hk
    · rw [if_neg c425] at hf
      refine mx_WP.bne (x := (s.2 109 0 s.1.toNatClampNeg)) (y := (0 : Int32)) (q := 143) (p3 := 125) rfl (fun _ => ?_) (fun hh => absurd c425 hh)
      refine mx_WP.go 2 (pc' := 109) (L' := [some (mx_r (some (1, 11, 0))), some (mx_i x1), some (mx_i (s.1 + 1))]) (st' := []) (σ' := (γ, hM s.2 J, κ)) rfl ?_
      rw [← Option.some.inj hf] at hk
      exact hk
theorem L134_109 {d : Nat} {x1 : Int32} {γ : mx_Rg} {I : Nat → Nat → Nat → Int32} {J : Nat → Nat → Nat → Int64} {κ : (Nat × (Nat → Int32)) × (Nat × Nat)} {Q : Option mx_V → mx_Hp → Prop} {n : Nat} {s : Int32 × (Nat → Nat → Nat → Int32)} {o : Int32 × (Nat → Nat → Nat → Int32)} (hf : mx_lp (b134_109 x1 I J) n s = some o) (hk : (fun x : Int32 × (Nat → Nat → Nat → Int32) => mx_WP (d + 5) 134 149 [some (mx_r (some (1, 11, 0))), some (mx_i x1), some (mx_i x.1)] [] (γ, hM x.2 J, κ) Q) o) : mx_WP (d + 5) 134 109 [some (mx_r (some (1, 11, 0))), some (mx_i x1), some (mx_i s.1)] [] (γ, hM s.2 J, κ) Q := mx_lp_ok (P := fun s : Int32 × (Nat → Nat → Nat → Int32) => mx_WP (d + 5) 134 109 [some (mx_r (some (1, 11, 0))), some (mx_i x1), some (mx_i s.1)] [] (γ, hM s.2 J, κ) Q) (E := (fun x : Int32 × (Nat → Nat → Nat → Int32) => mx_WP (d + 5) 134 149 [some (mx_r (some (1, 11, 0))), some (mx_i x1), some (mx_i x.1)] [] (γ, hM x.2 J, κ) Q)) (fun s o hf hk => B134_109 hf hk) n s o hf hk
def f134 (I : Nat → Nat → Nat → Int32) (J : Nat → Nat → Nat → Int64) : Option (Int32 × (Nat → Nat → Nat → Int32)) :=
  (f135 I).bind fun u1 =>
  (mx_lp (b134_11 (I 11 0 40) u1 J) mx_fu ((0 : Int32), u1)).bind fun u106 =>
  (mx_lp (b134_45 (I 11 0 40) u106.2 J) mx_fu ((0 : Int32), u106.2)).bind fun u212 =>
  (mx_lp (b134_71 (I 11 0 40) u212.2 J) mx_fu ((0 : Int32), u212.2)).bind fun u321 =>
  (mx_lp (b134_109 (I 11 0 40) u321.2 J) mx_fu ((0 : Int32), u321.2)).bind fun u430 =>
  some ((u430.2 11 0 40) - (I 11 0 40), u430.2)
theorem T134 {d : Nat} {γ : mx_Rg} {I : Nat → Nat → Nat → Int32} {J : Nat → Nat → Nat → Int64} {κ : (Nat × (Nat → Int32)) × (Nat × Nat)} {Q : Option mx_V → mx_Hp → Prop} {o : Int32 × (Nat → Nat → Nat → Int32)} (hf : f134 I J = some o) (hk : Q (some (mx_i o.1)) (γ, hM o.2 J, κ)) : mx_WP (d + 5) 134 0 (mx_ent 134 [mx_r (some (1, 11, 0))]) [] (γ, hM I J, κ) Q := by
  unfold f134 at hf
  refine mx_WP.go 4 (pc' := 6) (L' := [some (mx_r (some (1, 11, 0))), some (mx_i (I 11 0 40)), none]) (st' := [mx_r (some (1, 11, 0))]) (σ' := (γ, hM I J, κ)) rfl ?_
  obtain ⟨u1, e432, hf⟩ := Option.bind_eq_some_iff.mp hf
  refine mx_WP.call (d := d + 4) (y := 135) (as := [mx_r (some (1, 11, 0))]) (pc' := 9) (r := []) rfl rfl (T135 (d := d + 1)  e432 ?_)
  show mx_WP (d + 5) 134 9 [some (mx_r (some (1, 11, 0))), some (mx_i (I 11 0 40)), none] [] (γ, hM u1 J, κ) Q
  refine mx_WP.go 2 (pc' := 11) (L' := [some (mx_r (some (1, 11, 0))), some (mx_i (I 11 0 40)), some (mx_i (0 : Int32))]) (st' := []) (σ' := (γ, hM u1 J, κ)) rfl ?_
  obtain ⟨u106, e107, hf⟩ := Option.bind_eq_some_iff.mp hf
  refine L134_11 (d := d) e107 ?_
  show mx_WP (d + 5) 134 43 [some (mx_r (some (1, 11, 0))), some (mx_i (I 11 0 40)), some (mx_i u106.1)] [] (γ, hM u106.2 J, κ) Q
  refine mx_WP.go 2 (pc' := 45) (L' := [some (mx_r (some (1, 11, 0))), some (mx_i (I 11 0 40)), some (mx_i (0 : Int32))]) (st' := []) (σ' := (γ, hM u106.2 J, κ)) rfl ?_
  obtain ⟨u212, e213, hf⟩ := Option.bind_eq_some_iff.mp hf
  refine L134_45 (d := d) e213 ?_
  show mx_WP (d + 5) 134 69 [some (mx_r (some (1, 11, 0))), some (mx_i (I 11 0 40)), some (mx_i u212.1)] [] (γ, hM u212.2 J, κ) Q
  refine mx_WP.go 2 (pc' := 71) (L' := [some (mx_r (some (1, 11, 0))), some (mx_i (I 11 0 40)), some (mx_i (0 : Int32))]) (st' := []) (σ' := (γ, hM u212.2 J, κ)) rfl ?_
  obtain ⟨u321, e322, hf⟩ := Option.bind_eq_some_iff.mp hf
  refine L134_71 (d := d) e322 ?_
  show mx_WP (d + 5) 134 107 [some (mx_r (some (1, 11, 0))), some (mx_i (I 11 0 40)), some (mx_i u321.1)] [] (γ, hM u321.2 J, κ) Q
  refine mx_WP.go 2 (pc' := 109) (L' := [some (mx_r (some (1, 11, 0))), some (mx_i (I 11 0 40)), some (mx_i (0 : Int32))]) (st' := []) (σ' := (γ, hM u321.2 J, κ)) rfl ?_
  obtain ⟨u430, e431, hf⟩ := Option.bind_eq_some_iff.mp hf
  refine L134_109 (d := d) e431 ?_
  show mx_WP (d + 5) 134 149 [some (mx_r (some (1, 11, 0))), some (mx_i (I 11 0 40)), some (mx_i u430.1)] [] (γ, hM u430.2 J, κ) Q
  refine mx_WP.go 4 (pc' := 155) (L' := [some (mx_r (some (1, 11, 0))), some (mx_i (I 11 0 40)), some (mx_i u430.1)]) (st' := [mx_i ((u430.2 11 0 40) - (I 11 0 40))]) (σ' := (γ, hM u430.2 J, κ)) rfl ?_
  rw [← Option.some.inj hf] at hk
  refine mx_WP.ret (v := some (mx_i ((u430.2 11 0 40) - (I 11 0 40)))) rfl ?_
  exact hk
def j126_322 (v1 : Int32) (I : Nat → Nat → Nat → Int32) (J : Nat → Nat → Nat → Int64) : Option (Int32 × (Nat → Nat → Nat → Int32) × (Nat → Nat → Nat → Int64)) :=
  (f125 I J).bind fun u2350 =>
  (f134 u2350.2.1 u2350.2.2).bind fun u2351 =>
  if v1 < 0 ∨ 8 ≤ v1.toNatClampNeg then none else if (0 : Int32) ≤ (u2351.2 97 0 v1.toNatClampNeg) then (some ((1 : Int32), u2351.2, u2350.2.2)) else some ((0 : Int32), u2351.2, u2350.2.2)
theorem J126_322 {d : Nat} {v1 : Int32} {z2 : Option mx_V} {z3 : Option mx_V} {γ : mx_Rg} {I : Nat → Nat → Nat → Int32} {J : Nat → Nat → Nat → Int64} {κ : (Nat × (Nat → Int32)) × (Nat × Nat)} {Q : Option mx_V → mx_Hp → Prop} {o : Int32 × (Nat → Nat → Nat → Int32) × (Nat → Nat → Nat → Int64)} (hf : j126_322 v1 I J = some o) (hk : Q (some (mx_i o.1)) (γ, hM o.2.1 o.2.2, κ)) : mx_WP (d + 6) 126 322 [some (mx_r (some (1, 11, 0))), some (mx_i v1), z2, z3] [] (γ, hM I J, κ) Q := by
  unfold j126_322 at hf
  refine mx_WP.go 1 (pc' := 323) (L' := [some (mx_r (some (1, 11, 0))), some (mx_i v1), z2, z3]) (st' := [mx_r (some (1, 11, 0))]) (σ' := (γ, hM I J, κ)) rfl ?_
  obtain ⟨u2350, e2355, hf⟩ := Option.bind_eq_some_iff.mp hf
  refine mx_WP.call (d := d + 5) (y := 125) (as := [mx_r (some (1, 11, 0))]) (pc' := 326) (r := []) rfl rfl (T125 (d := d + 5)  e2355 ?_)
  show mx_WP (d + 6) 126 326 [some (mx_r (some (1, 11, 0))), some (mx_i v1), z2, z3] [mx_i u2350.1] (γ, hM u2350.2.1 u2350.2.2, κ) Q
  refine mx_WP.go 2 (pc' := 328) (L' := [some (mx_r (some (1, 11, 0))), some (mx_i v1), z2, z3]) (st' := [mx_r (some (1, 11, 0))]) (σ' := (γ, hM u2350.2.1 u2350.2.2, κ)) rfl ?_
  obtain ⟨u2351, e2354, hf⟩ := Option.bind_eq_some_iff.mp hf
  refine mx_WP.call (d := d + 5) (y := 134) (as := [mx_r (some (1, 11, 0))]) (pc' := 331) (r := []) rfl rfl (T134 (d := d + 0)  e2354 ?_)
  show mx_WP (d + 6) 126 331 [some (mx_r (some (1, 11, 0))), some (mx_i v1), z2, z3] [mx_i u2351.1] (γ, hM u2351.2 u2350.2.2, κ) Q
  refine mx_WP.go 4 (pc' := 337) (L' := [some (mx_r (some (1, 11, 0))), some (mx_i v1), z2, z3]) (st' := [mx_i v1, mx_r (some (1, 97, 0))]) (σ' := (γ, hM u2351.2 u2350.2.2, κ)) rfl ?_
  by_cases c2352 : v1 < 0 ∨ 8 ≤ v1.toNatClampNeg
  · rw [if_pos c2352] at hf
    cases hf
  rw [if_neg c2352] at hf
  refine mx_WP.ialdx c2352 ?_
  show mx_WP (d + 6) 126 338 [some (mx_r (some (1, 11, 0))), some (mx_i v1), z2, z3] [mx_i (u2351.2 97 0 v1.toNatClampNeg)] (γ, hM u2351.2 u2350.2.2, κ) Q
  by_cases c2353 : (0 : Int32) ≤ (u2351.2 97 0 v1.toNatClampNeg)
  · rw [if_pos c2353] at hf
    refine mx_WP.bge (x := (u2351.2 97 0 v1.toNatClampNeg)) (y := (0 : Int32)) (q := 345) (p3 := 341) rfl (fun _ => ?_) (fun hh => absurd c2353 hh)
    refine mx_WP.go 1 (pc' := 346) (L' := [some (mx_r (some (1, 11, 0))), some (mx_i v1), z2, z3]) (st' := [mx_i (1 : Int32)]) (σ' := (γ, hM u2351.2 u2350.2.2, κ)) rfl ?_
    rw [← Option.some.inj hf] at hk
    refine mx_WP.ret (v := some (mx_i (1 : Int32))) rfl ?_
    exact hk
  · rw [if_neg c2353] at hf
    refine mx_WP.bge (x := (u2351.2 97 0 v1.toNatClampNeg)) (y := (0 : Int32)) (q := 345) (p3 := 341) rfl (fun hh => absurd hh c2353) (fun _ => ?_)
    refine mx_WP.go 2 (pc' := 346) (L' := [some (mx_r (some (1, 11, 0))), some (mx_i v1), z2, z3]) (st' := [mx_i (0 : Int32)]) (σ' := (γ, hM u2351.2 u2350.2.2, κ)) rfl ?_
    rw [← Option.some.inj hf] at hk
    refine mx_WP.ret (v := some (mx_i (0 : Int32))) rfl ?_
    exact hk
def j126_266 (v1 : Int32) (t0 : Int32) (t1 : Int32) (I : Nat → Nat → Nat → Int32) (J : Nat → Nat → Nat → Int64) : Option (Int32 × (Nat → Nat → Nat → Int32) × (Nat → Nat → Nat → Int64)) :=
  if t1 < 0 ∨ 8 ≤ t1.toNatClampNeg then none else (mx_lp (b126_269 v1 (mx_u3 I 98 0 t1.toNatClampNeg t0) J) mx_fu ((0 : Int32), (mx_u3 I 98 0 t1.toNatClampNeg t0))).bind fun u1346 =>
  if v1 < 0 ∨ 8 ≤ v1.toNatClampNeg then none else if (u1346.2 97 0 v1.toNatClampNeg) < (0 : Int32) then (j126_322 v1 u1346.2 J) else if v1 < 0 ∨ 8 ≤ v1.toNatClampNeg then none else j126_322 v1 (mx_u3 u1346.2 100 0 v1.toNatClampNeg (0 : Int32)) J
theorem J126_266 {d : Nat} {v1 : Int32} {t0 : Int32} {t1 : Int32} {z2 : Option mx_V} {z3 : Option mx_V} {γ : mx_Rg} {I : Nat → Nat → Nat → Int32} {J : Nat → Nat → Nat → Int64} {κ : (Nat × (Nat → Int32)) × (Nat × Nat)} {Q : Option mx_V → mx_Hp → Prop} {o : Int32 × (Nat → Nat → Nat → Int32) × (Nat → Nat → Nat → Int64)} (hf : j126_266 v1 t0 t1 I J = some o) (hk : Q (some (mx_i o.1)) (γ, hM o.2.1 o.2.2, κ)) : mx_WP (d + 6) 126 266 [some (mx_r (some (1, 11, 0))), some (mx_i v1), z2, z3] [mx_i t0, mx_i t1, mx_r (some (1, 98, 0))] (γ, hM I J, κ) Q := by
  unfold j126_266 at hf
  by_cases c1239 : t1 < 0 ∨ 8 ≤ t1.toNatClampNeg
  · rw [if_pos c1239] at hf
    cases hf
  rw [if_neg c1239] at hf
  refine mx_WP.iastx c1239 ?_
  show mx_WP (d + 6) 126 267 [some (mx_r (some (1, 11, 0))), some (mx_i v1), z2, z3] [] (γ, hM (mx_u3 I 98 0 t1.toNatClampNeg t0) J, κ) Q
  refine mx_WP.go 2 (pc' := 269) (L' := [some (mx_r (some (1, 11, 0))), some (mx_i v1), z2, some (mx_i (0 : Int32))]) (st' := []) (σ' := (γ, hM (mx_u3 I 98 0 t1.toNatClampNeg t0) J, κ)) rfl ?_
  obtain ⟨u1346, e1347, hf⟩ := Option.bind_eq_some_iff.mp hf
  refine (L126_269 (d := d) e1347 ?_) (z2)
  intro z2
  show mx_WP (d + 6) 126 306 [some (mx_r (some (1, 11, 0))), some (mx_i v1), z2, some (mx_i u1346.1)] [] (γ, hM u1346.2 J, κ) Q
  refine mx_WP.go 3 (pc' := 311) (L' := [some (mx_r (some (1, 11, 0))), some (mx_i v1), z2, some (mx_i u1346.1)]) (st' := [mx_i v1, mx_r (some (1, 97, 0))]) (σ' := (γ, hM u1346.2 J, κ)) rfl ?_
  by_cases c1348 : v1 < 0 ∨ 8 ≤ v1.toNatClampNeg
  · rw [if_pos c1348] at hf
    cases hf
  rw [if_neg c1348] at hf
  refine mx_WP.ialdx c1348 ?_
  show mx_WP (d + 6) 126 312 [some (mx_r (some (1, 11, 0))), some (mx_i v1), z2, some (mx_i u1346.1)] [mx_i (u1346.2 97 0 v1.toNatClampNeg)] (γ, hM u1346.2 J, κ) Q
  by_cases c1349 : (u1346.2 97 0 v1.toNatClampNeg) < (0 : Int32)
  · rw [if_pos c1349] at hf
    refine mx_WP.blt (x := (u1346.2 97 0 v1.toNatClampNeg)) (y := (0 : Int32)) (q := 322) (p3 := 315) rfl (fun _ => ?_) (fun hh => absurd c1349 hh)
    exact J126_322 (d := d) hf hk
  · rw [if_neg c1349] at hf
    refine mx_WP.blt (x := (u1346.2 97 0 v1.toNatClampNeg)) (y := (0 : Int32)) (q := 322) (p3 := 315) rfl (fun hh => absurd hh c1349) (fun _ => ?_)
    refine mx_WP.go 4 (pc' := 321) (L' := [some (mx_r (some (1, 11, 0))), some (mx_i v1), z2, some (mx_i u1346.1)]) (st' := [mx_i (0 : Int32), mx_i v1, mx_r (some (1, 100, 0))]) (σ' := (γ, hM u1346.2 J, κ)) rfl ?_
    by_cases c2356 : v1 < 0 ∨ 8 ≤ v1.toNatClampNeg
    · rw [if_pos c2356] at hf
      cases hf
    rw [if_neg c2356] at hf
    refine mx_WP.iastx c2356 ?_
    show mx_WP (d + 6) 126 322 [some (mx_r (some (1, 11, 0))), some (mx_i v1), z2, some (mx_i u1346.1)] [] (γ, hM (mx_u3 u1346.2 100 0 v1.toNatClampNeg (0 : Int32)) J, κ) Q
    exact J126_322 (d := d) hf hk
def f126 (x1 : Int32) (x2 : Int32) (I : Nat → Nat → Nat → Int32) (J : Nat → Nat → Nat → Int64) : Option (Int32 × (Nat → Nat → Nat → Int32) × (Nat → Nat → Nat → Int64)) :=
  (f120 x1 (0 : Int32) (7 : Int32)).bind fun u1 =>
  if u1 = true then ((f120 x2 (0 : Int32) (255 : Int32)).bind fun u3 =>
  if u3 = true then (if x1 < 0 ∨ 8 ≤ x1.toNatClampNeg then none else if (I 92 0 x1.toNatClampNeg) = (0 : Int32) then (if x1 < 0 ∨ 8 ≤ x1.toNatClampNeg then none else if x1 < 0 ∨ 8 ≤ x1.toNatClampNeg then none else if x1 < 0 ∨ 8 ≤ x1.toNatClampNeg then none else if x1 < 0 ∨ 8 ≤ x1.toNatClampNeg then none else if x1 < 0 ∨ 9 ≤ x1.toNatClampNeg then none else if x1 < 0 ∨ 9 ≤ x1.toNatClampNeg then none else if x1 < 0 ∨ 9 ≤ x1.toNatClampNeg then none else if x1 < 0 ∨ 9 ≤ x1.toNatClampNeg then none else (mx_lp (b126_117 x1 (mx_u3 (mx_u3 (mx_u3 (mx_u3 (mx_u3 (mx_u3 (mx_u3 I 92 0 x1.toNatClampNeg (vp_nar .boolean (1 : Int32))) 96 0 x1.toNatClampNeg x2) 94 0 x1.toNatClampNeg (vp_nar .boolean (0 : Int32))) 99 0 x1.toNatClampNeg (0 : Int32)) 83 0 x1.toNatClampNeg (I 83 0 8)) 87 0 x1.toNatClampNeg (I 87 0 8)) 89 0 x1.toNatClampNeg (I 89 0 8)) (mx_u3 J 91 0 x1.toNatClampNeg (J 91 0 8))) mx_fu ((0 : Int32), (mx_u3 (mx_u3 (mx_u3 (mx_u3 (mx_u3 (mx_u3 (mx_u3 I 92 0 x1.toNatClampNeg (vp_nar .boolean (1 : Int32))) 96 0 x1.toNatClampNeg x2) 94 0 x1.toNatClampNeg (vp_nar .boolean (0 : Int32))) 99 0 x1.toNatClampNeg (0 : Int32)) 83 0 x1.toNatClampNeg (I 83 0 8)) 87 0 x1.toNatClampNeg (I 87 0 8)) 89 0 x1.toNatClampNeg (I 89 0 8)))).bind fun u126 =>
  (mx_lp (b126_187 x1 u126.2 (mx_u3 J 91 0 x1.toNatClampNeg (J 91 0 8))) mx_fu ((0 : Int32), u126.2, (mx_u3 J 91 0 x1.toNatClampNeg (J 91 0 8)))).bind fun u233 =>
  (f127 x1 u233.2.1 u233.2.2).bind fun u235 =>
  if x1 < 0 ∨ 8 ≤ x1.toNatClampNeg then none else if x1 < 0 ∨ 8 ≤ x1.toNatClampNeg then none else if (0 : Int32) ≤ ((mx_u3 u235.2.1 97 0 x1.toNatClampNeg u235.1) 97 0 x1.toNatClampNeg) then (j126_266 x1 (1 : Int32) x1 (mx_u3 u235.2.1 97 0 x1.toNatClampNeg u235.1) u235.2.2) else j126_266 x1 (-1 : Int32) x1 (mx_u3 u235.2.1 97 0 x1.toNatClampNeg u235.1) u235.2.2) else some ((-3 : Int32), I, J)) else some ((-1 : Int32), I, J)) else some ((-1 : Int32), I, J)
theorem T126 {d : Nat} {x1 : Int32} {x2 : Int32} {γ : mx_Rg} {I : Nat → Nat → Nat → Int32} {J : Nat → Nat → Nat → Int64} {κ : (Nat × (Nat → Int32)) × (Nat × Nat)} {Q : Option mx_V → mx_Hp → Prop} {o : Int32 × (Nat → Nat → Nat → Int32) × (Nat → Nat → Nat → Int64)} (hf : f126 x1 x2 I J = some o) (hk : Q (some (mx_i o.1)) (γ, hM o.2.1 o.2.2, κ)) : mx_WP (d + 6) 126 0 (mx_ent 126 [mx_r (some (1, 11, 0)), mx_i x1, mx_i x2]) [] (γ, hM I J, κ) Q := by
  unfold f126 at hf
  refine mx_WP.go 3 (pc' := 4) (L' := [some (mx_r (some (1, 11, 0))), some (mx_i x1), some (mx_i x2), none]) (st' := [mx_i (7 : Int32), mx_i (0 : Int32), mx_i x1]) (σ' := (γ, hM I J, κ)) rfl ?_
  obtain ⟨u1, e2359, hf⟩ := Option.bind_eq_some_iff.mp hf
  refine mx_WP.call (d := d + 5) (y := 120) (as := [mx_i x1, mx_i (0 : Int32), mx_i (7 : Int32)]) (pc' := 7) (r := []) rfl rfl (T120 (d := d + 5)  e2359 ?_)
  show mx_WP (d + 6) 126 7 [some (mx_r (some (1, 11, 0))), some (mx_i x1), some (mx_i x2), none] [mx_i (b2i u1)] (γ, hM I J, κ) Q
  by_cases c2 : u1 = true
  · rw [if_pos c2] at hf
    refine mx_WP.zeq (b := u1) (q := 21) (p3 := 10) rfl (fun hh => absurd hh (by simp [c2])) (fun _ => ?_)
    refine mx_WP.go 3 (pc' := 15) (L' := [some (mx_r (some (1, 11, 0))), some (mx_i x1), some (mx_i x2), none]) (st' := [mx_i (255 : Int32), mx_i (0 : Int32), mx_i x2]) (σ' := (γ, hM I J, κ)) rfl ?_
    obtain ⟨u3, e2358, hf⟩ := Option.bind_eq_some_iff.mp hf
    refine mx_WP.call (d := d + 5) (y := 120) (as := [mx_i x2, mx_i (0 : Int32), mx_i (255 : Int32)]) (pc' := 18) (r := []) rfl rfl (T120 (d := d + 5)  e2358 ?_)
    show mx_WP (d + 6) 126 18 [some (mx_r (some (1, 11, 0))), some (mx_i x1), some (mx_i x2), none] [mx_i (b2i u3)] (γ, hM I J, κ) Q
    by_cases c4 : u3 = true
    · rw [if_pos c4] at hf
      refine mx_WP.zne (b := u3) (q := 23) (p3 := 21) rfl (fun _ => ?_) (fun hh => absurd hh (by simp [c4]))
      refine mx_WP.go 3 (pc' := 28) (L' := [some (mx_r (some (1, 11, 0))), some (mx_i x1), some (mx_i x2), none]) (st' := [mx_i x1, mx_r (some (1, 92, 0))]) (σ' := (γ, hM I J, κ)) rfl ?_
      by_cases c5 : x1 < 0 ∨ 8 ≤ x1.toNatClampNeg
      · rw [if_pos c5] at hf
        cases hf
      rw [if_neg c5] at hf
      refine mx_WP.baldx c5 ?_
      show mx_WP (d + 6) 126 29 [some (mx_r (some (1, 11, 0))), some (mx_i x1), some (mx_i x2), none] [mx_i (I 92 0 x1.toNatClampNeg)] (γ, hM I J, κ) Q
      by_cases c6 : (I 92 0 x1.toNatClampNeg) = (0 : Int32)
      · rw [if_pos c6] at hf
        refine mx_WP.beq (x := (I 92 0 x1.toNatClampNeg)) (y := (0 : Int32)) (q := 35) (p3 := 32) rfl (fun _ => ?_) (fun hh => absurd c6 hh)
        refine mx_WP.go 4 (pc' := 41) (L' := [some (mx_r (some (1, 11, 0))), some (mx_i x1), some (mx_i x2), none]) (st' := [mx_i (1 : Int32), mx_i x1, mx_r (some (1, 92, 0))]) (σ' := (γ, hM I J, κ)) rfl ?_
        by_cases c7 : x1 < 0 ∨ 8 ≤ x1.toNatClampNeg
        · rw [if_pos c7] at hf
          cases hf
        rw [if_neg c7] at hf
        refine mx_WP.bastx c7 ?_
        show mx_WP (d + 6) 126 42 [some (mx_r (some (1, 11, 0))), some (mx_i x1), some (mx_i x2), none] [] (γ, hM (mx_u3 I 92 0 x1.toNatClampNeg (vp_nar .boolean (1 : Int32))) J, κ) Q
        refine mx_WP.go 4 (pc' := 48) (L' := [some (mx_r (some (1, 11, 0))), some (mx_i x1), some (mx_i x2), none]) (st' := [mx_i x2, mx_i x1, mx_r (some (1, 96, 0))]) (σ' := (γ, hM (mx_u3 I 92 0 x1.toNatClampNeg (vp_nar .boolean (1 : Int32))) J, κ)) rfl ?_
        by_cases c8 : x1 < 0 ∨ 8 ≤ x1.toNatClampNeg
        · rw [if_pos c8] at hf
          cases hf
        rw [if_neg c8] at hf
        refine mx_WP.iastx c8 ?_
        show mx_WP (d + 6) 126 49 [some (mx_r (some (1, 11, 0))), some (mx_i x1), some (mx_i x2), none] [] (γ, hM (mx_u3 (mx_u3 I 92 0 x1.toNatClampNeg (vp_nar .boolean (1 : Int32))) 96 0 x1.toNatClampNeg x2) J, κ) Q
        refine mx_WP.go 4 (pc' := 55) (L' := [some (mx_r (some (1, 11, 0))), some (mx_i x1), some (mx_i x2), none]) (st' := [mx_i (0 : Int32), mx_i x1, mx_r (some (1, 94, 0))]) (σ' := (γ, hM (mx_u3 (mx_u3 I 92 0 x1.toNatClampNeg (vp_nar .boolean (1 : Int32))) 96 0 x1.toNatClampNeg x2) J, κ)) rfl ?_
        by_cases c9 : x1 < 0 ∨ 8 ≤ x1.toNatClampNeg
        · rw [if_pos c9] at hf
          cases hf
        rw [if_neg c9] at hf
        refine mx_WP.bastx c9 ?_
        show mx_WP (d + 6) 126 56 [some (mx_r (some (1, 11, 0))), some (mx_i x1), some (mx_i x2), none] [] (γ, hM (mx_u3 (mx_u3 (mx_u3 I 92 0 x1.toNatClampNeg (vp_nar .boolean (1 : Int32))) 96 0 x1.toNatClampNeg x2) 94 0 x1.toNatClampNeg (vp_nar .boolean (0 : Int32))) J, κ) Q
        refine mx_WP.go 4 (pc' := 62) (L' := [some (mx_r (some (1, 11, 0))), some (mx_i x1), some (mx_i x2), none]) (st' := [mx_i (0 : Int32), mx_i x1, mx_r (some (1, 99, 0))]) (σ' := (γ, hM (mx_u3 (mx_u3 (mx_u3 I 92 0 x1.toNatClampNeg (vp_nar .boolean (1 : Int32))) 96 0 x1.toNatClampNeg x2) 94 0 x1.toNatClampNeg (vp_nar .boolean (0 : Int32))) J, κ)) rfl ?_
        by_cases c10 : x1 < 0 ∨ 8 ≤ x1.toNatClampNeg
        · rw [if_pos c10] at hf
          cases hf
        rw [if_neg c10] at hf
        refine mx_WP.iastx c10 ?_
        show mx_WP (d + 6) 126 63 [some (mx_r (some (1, 11, 0))), some (mx_i x1), some (mx_i x2), none] [] (γ, hM (mx_u3 (mx_u3 (mx_u3 (mx_u3 I 92 0 x1.toNatClampNeg (vp_nar .boolean (1 : Int32))) 96 0 x1.toNatClampNeg x2) 94 0 x1.toNatClampNeg (vp_nar .boolean (0 : Int32))) 99 0 x1.toNatClampNeg (0 : Int32)) J, κ) Q
        refine mx_WP.go 6 (pc' := 74) (L' := [some (mx_r (some (1, 11, 0))), some (mx_i x1), some (mx_i x2), none]) (st' := [mx_i (8 : Int32), mx_r (some (1, 83, 0)), mx_i x1, mx_r (some (1, 83, 0))]) (σ' := (γ, hM (mx_u3 (mx_u3 (mx_u3 (mx_u3 I 92 0 x1.toNatClampNeg (vp_nar .boolean (1 : Int32))) 96 0 x1.toNatClampNeg x2) 94 0 x1.toNatClampNeg (vp_nar .boolean (0 : Int32))) 99 0 x1.toNatClampNeg (0 : Int32)) J, κ)) rfl ?_
        refine mx_WP.ialdx (show ¬ ((8 : Int32) < 0 ∨ 9 ≤ (8 : Int32).toNatClampNeg) by decide) ?_
        show mx_WP (d + 6) 126 75 [some (mx_r (some (1, 11, 0))), some (mx_i x1), some (mx_i x2), none] [mx_i (I 83 0 8), mx_i x1, mx_r (some (1, 83, 0))] (γ, hM (mx_u3 (mx_u3 (mx_u3 (mx_u3 I 92 0 x1.toNatClampNeg (vp_nar .boolean (1 : Int32))) 96 0 x1.toNatClampNeg x2) 94 0 x1.toNatClampNeg (vp_nar .boolean (0 : Int32))) 99 0 x1.toNatClampNeg (0 : Int32)) J, κ) Q
        by_cases c12 : x1 < 0 ∨ 9 ≤ x1.toNatClampNeg
        · rw [if_pos c12] at hf
          cases hf
        rw [if_neg c12] at hf
        refine mx_WP.iastx c12 ?_
        show mx_WP (d + 6) 126 76 [some (mx_r (some (1, 11, 0))), some (mx_i x1), some (mx_i x2), none] [] (γ, hM (mx_u3 (mx_u3 (mx_u3 (mx_u3 (mx_u3 I 92 0 x1.toNatClampNeg (vp_nar .boolean (1 : Int32))) 96 0 x1.toNatClampNeg x2) 94 0 x1.toNatClampNeg (vp_nar .boolean (0 : Int32))) 99 0 x1.toNatClampNeg (0 : Int32)) 83 0 x1.toNatClampNeg (I 83 0 8)) J, κ) Q
        refine mx_WP.go 6 (pc' := 87) (L' := [some (mx_r (some (1, 11, 0))), some (mx_i x1), some (mx_i x2), none]) (st' := [mx_i (8 : Int32), mx_r (some (1, 87, 0)), mx_i x1, mx_r (some (1, 87, 0))]) (σ' := (γ, hM (mx_u3 (mx_u3 (mx_u3 (mx_u3 (mx_u3 I 92 0 x1.toNatClampNeg (vp_nar .boolean (1 : Int32))) 96 0 x1.toNatClampNeg x2) 94 0 x1.toNatClampNeg (vp_nar .boolean (0 : Int32))) 99 0 x1.toNatClampNeg (0 : Int32)) 83 0 x1.toNatClampNeg (I 83 0 8)) J, κ)) rfl ?_
        refine mx_WP.ialdx (show ¬ ((8 : Int32) < 0 ∨ 9 ≤ (8 : Int32).toNatClampNeg) by decide) ?_
        show mx_WP (d + 6) 126 88 [some (mx_r (some (1, 11, 0))), some (mx_i x1), some (mx_i x2), none] [mx_i (I 87 0 8), mx_i x1, mx_r (some (1, 87, 0))] (γ, hM (mx_u3 (mx_u3 (mx_u3 (mx_u3 (mx_u3 I 92 0 x1.toNatClampNeg (vp_nar .boolean (1 : Int32))) 96 0 x1.toNatClampNeg x2) 94 0 x1.toNatClampNeg (vp_nar .boolean (0 : Int32))) 99 0 x1.toNatClampNeg (0 : Int32)) 83 0 x1.toNatClampNeg (I 83 0 8)) J, κ) Q
        by_cases c14 : x1 < 0 ∨ 9 ≤ x1.toNatClampNeg
        · rw [if_pos c14] at hf
          cases hf
        rw [if_neg c14] at hf
        refine mx_WP.iastx c14 ?_
        show mx_WP (d + 6) 126 89 [some (mx_r (some (1, 11, 0))), some (mx_i x1), some (mx_i x2), none] [] (γ, hM (mx_u3 (mx_u3 (mx_u3 (mx_u3 (mx_u3 (mx_u3 I 92 0 x1.toNatClampNeg (vp_nar .boolean (1 : Int32))) 96 0 x1.toNatClampNeg x2) 94 0 x1.toNatClampNeg (vp_nar .boolean (0 : Int32))) 99 0 x1.toNatClampNeg (0 : Int32)) 83 0 x1.toNatClampNeg (I 83 0 8)) 87 0 x1.toNatClampNeg (I 87 0 8)) J, κ) Q
        refine mx_WP.go 6 (pc' := 100) (L' := [some (mx_r (some (1, 11, 0))), some (mx_i x1), some (mx_i x2), none]) (st' := [mx_i (8 : Int32), mx_r (some (1, 89, 0)), mx_i x1, mx_r (some (1, 89, 0))]) (σ' := (γ, hM (mx_u3 (mx_u3 (mx_u3 (mx_u3 (mx_u3 (mx_u3 I 92 0 x1.toNatClampNeg (vp_nar .boolean (1 : Int32))) 96 0 x1.toNatClampNeg x2) 94 0 x1.toNatClampNeg (vp_nar .boolean (0 : Int32))) 99 0 x1.toNatClampNeg (0 : Int32)) 83 0 x1.toNatClampNeg (I 83 0 8)) 87 0 x1.toNatClampNeg (I 87 0 8)) J, κ)) rfl ?_
        refine mx_WP.ialdx (show ¬ ((8 : Int32) < 0 ∨ 9 ≤ (8 : Int32).toNatClampNeg) by decide) ?_
        show mx_WP (d + 6) 126 101 [some (mx_r (some (1, 11, 0))), some (mx_i x1), some (mx_i x2), none] [mx_i (I 89 0 8), mx_i x1, mx_r (some (1, 89, 0))] (γ, hM (mx_u3 (mx_u3 (mx_u3 (mx_u3 (mx_u3 (mx_u3 I 92 0 x1.toNatClampNeg (vp_nar .boolean (1 : Int32))) 96 0 x1.toNatClampNeg x2) 94 0 x1.toNatClampNeg (vp_nar .boolean (0 : Int32))) 99 0 x1.toNatClampNeg (0 : Int32)) 83 0 x1.toNatClampNeg (I 83 0 8)) 87 0 x1.toNatClampNeg (I 87 0 8)) J, κ) Q
        by_cases c16 : x1 < 0 ∨ 9 ≤ x1.toNatClampNeg
        · rw [if_pos c16] at hf
          cases hf
        rw [if_neg c16] at hf
        refine mx_WP.iastx c16 ?_
        show mx_WP (d + 6) 126 102 [some (mx_r (some (1, 11, 0))), some (mx_i x1), some (mx_i x2), none] [] (γ, hM (mx_u3 (mx_u3 (mx_u3 (mx_u3 (mx_u3 (mx_u3 (mx_u3 I 92 0 x1.toNatClampNeg (vp_nar .boolean (1 : Int32))) 96 0 x1.toNatClampNeg x2) 94 0 x1.toNatClampNeg (vp_nar .boolean (0 : Int32))) 99 0 x1.toNatClampNeg (0 : Int32)) 83 0 x1.toNatClampNeg (I 83 0 8)) 87 0 x1.toNatClampNeg (I 87 0 8)) 89 0 x1.toNatClampNeg (I 89 0 8)) J, κ) Q
        refine mx_WP.go 6 (pc' := 113) (L' := [some (mx_r (some (1, 11, 0))), some (mx_i x1), some (mx_i x2), none]) (st' := [mx_i (8 : Int32), mx_r (some (1, 91, 0)), mx_i x1, mx_r (some (1, 91, 0))]) (σ' := (γ, hM (mx_u3 (mx_u3 (mx_u3 (mx_u3 (mx_u3 (mx_u3 (mx_u3 I 92 0 x1.toNatClampNeg (vp_nar .boolean (1 : Int32))) 96 0 x1.toNatClampNeg x2) 94 0 x1.toNatClampNeg (vp_nar .boolean (0 : Int32))) 99 0 x1.toNatClampNeg (0 : Int32)) 83 0 x1.toNatClampNeg (I 83 0 8)) 87 0 x1.toNatClampNeg (I 87 0 8)) 89 0 x1.toNatClampNeg (I 89 0 8)) J, κ)) rfl ?_
        refine mx_WP.laldx (show ¬ ((8 : Int32) < 0 ∨ 9 ≤ (8 : Int32).toNatClampNeg) by decide) ?_
        show mx_WP (d + 6) 126 114 [some (mx_r (some (1, 11, 0))), some (mx_i x1), some (mx_i x2), none] [mx_l (J 91 0 8), mx_i x1, mx_r (some (1, 91, 0))] (γ, hM (mx_u3 (mx_u3 (mx_u3 (mx_u3 (mx_u3 (mx_u3 (mx_u3 I 92 0 x1.toNatClampNeg (vp_nar .boolean (1 : Int32))) 96 0 x1.toNatClampNeg x2) 94 0 x1.toNatClampNeg (vp_nar .boolean (0 : Int32))) 99 0 x1.toNatClampNeg (0 : Int32)) 83 0 x1.toNatClampNeg (I 83 0 8)) 87 0 x1.toNatClampNeg (I 87 0 8)) 89 0 x1.toNatClampNeg (I 89 0 8)) J, κ) Q
        by_cases c18 : x1 < 0 ∨ 9 ≤ x1.toNatClampNeg
        · rw [if_pos c18] at hf
          cases hf
        rw [if_neg c18] at hf
        refine mx_WP.lastx c18 ?_
        show mx_WP (d + 6) 126 115 [some (mx_r (some (1, 11, 0))), some (mx_i x1), some (mx_i x2), none] [] (γ, hM (mx_u3 (mx_u3 (mx_u3 (mx_u3 (mx_u3 (mx_u3 (mx_u3 I 92 0 x1.toNatClampNeg (vp_nar .boolean (1 : Int32))) 96 0 x1.toNatClampNeg x2) 94 0 x1.toNatClampNeg (vp_nar .boolean (0 : Int32))) 99 0 x1.toNatClampNeg (0 : Int32)) 83 0 x1.toNatClampNeg (I 83 0 8)) 87 0 x1.toNatClampNeg (I 87 0 8)) 89 0 x1.toNatClampNeg (I 89 0 8)) (mx_u3 J 91 0 x1.toNatClampNeg (J 91 0 8)), κ) Q
        refine mx_WP.go 2 (pc' := 117) (L' := [some (mx_r (some (1, 11, 0))), some (mx_i x1), some (mx_i x2), some (mx_i (0 : Int32))]) (st' := []) (σ' := (γ, hM (mx_u3 (mx_u3 (mx_u3 (mx_u3 (mx_u3 (mx_u3 (mx_u3 I 92 0 x1.toNatClampNeg (vp_nar .boolean (1 : Int32))) 96 0 x1.toNatClampNeg x2) 94 0 x1.toNatClampNeg (vp_nar .boolean (0 : Int32))) 99 0 x1.toNatClampNeg (0 : Int32)) 83 0 x1.toNatClampNeg (I 83 0 8)) 87 0 x1.toNatClampNeg (I 87 0 8)) 89 0 x1.toNatClampNeg (I 89 0 8)) (mx_u3 J 91 0 x1.toNatClampNeg (J 91 0 8)), κ)) rfl ?_
        obtain ⟨u126, e127, hf⟩ := Option.bind_eq_some_iff.mp hf
        refine (L126_117 (d := d) e127 ?_) (some (mx_i x2))
        intro z2
        show mx_WP (d + 6) 126 185 [some (mx_r (some (1, 11, 0))), some (mx_i x1), z2, some (mx_i u126.1)] [] (γ, hM u126.2 (mx_u3 J 91 0 x1.toNatClampNeg (J 91 0 8)), κ) Q
        refine mx_WP.go 2 (pc' := 187) (L' := [some (mx_r (some (1, 11, 0))), some (mx_i x1), z2, some (mx_i (0 : Int32))]) (st' := []) (σ' := (γ, hM u126.2 (mx_u3 J 91 0 x1.toNatClampNeg (J 91 0 8)), κ)) rfl ?_
        obtain ⟨u233, e234, hf⟩ := Option.bind_eq_some_iff.mp hf
        refine (L126_187 (d := d) e234 ?_) (z2)
        intro z2
        show mx_WP (d + 6) 126 236 [some (mx_r (some (1, 11, 0))), some (mx_i x1), z2, some (mx_i u233.1)] [] (γ, hM u233.2.1 u233.2.2, κ) Q
        refine mx_WP.go 5 (pc' := 243) (L' := [some (mx_r (some (1, 11, 0))), some (mx_i x1), z2, some (mx_i u233.1)]) (st' := [mx_i x1, mx_r (some (1, 11, 0)), mx_i x1, mx_r (some (1, 97, 0))]) (σ' := (γ, hM u233.2.1 u233.2.2, κ)) rfl ?_
        obtain ⟨u235, e2357, hf⟩ := Option.bind_eq_some_iff.mp hf
        refine mx_WP.call (d := d + 5) (y := 127) (as := [mx_r (some (1, 11, 0)), mx_i x1]) (pc' := 246) (r := [mx_i x1, mx_r (some (1, 97, 0))]) rfl rfl (T127 (d := d + 1)  e2357 ?_)
        show mx_WP (d + 6) 126 246 [some (mx_r (some (1, 11, 0))), some (mx_i x1), z2, some (mx_i u233.1)] [mx_i u235.1, mx_i x1, mx_r (some (1, 97, 0))] (γ, hM u235.2.1 u235.2.2, κ) Q
        by_cases c236 : x1 < 0 ∨ 8 ≤ x1.toNatClampNeg
        · rw [if_pos c236] at hf
          cases hf
        rw [if_neg c236] at hf
        refine mx_WP.iastx c236 ?_
        show mx_WP (d + 6) 126 247 [some (mx_r (some (1, 11, 0))), some (mx_i x1), z2, some (mx_i u233.1)] [] (γ, hM (mx_u3 u235.2.1 97 0 x1.toNatClampNeg u235.1) u235.2.2, κ) Q
        refine mx_WP.go 6 (pc' := 257) (L' := [some (mx_r (some (1, 11, 0))), some (mx_i x1), z2, some (mx_i u233.1)]) (st' := [mx_i x1, mx_r (some (1, 97, 0)), mx_i x1, mx_r (some (1, 98, 0))]) (σ' := (γ, hM (mx_u3 u235.2.1 97 0 x1.toNatClampNeg u235.1) u235.2.2, κ)) rfl ?_
        by_cases c237 : x1 < 0 ∨ 8 ≤ x1.toNatClampNeg
        · rw [if_pos c237] at hf
          cases hf
        rw [if_neg c237] at hf
        refine mx_WP.ialdx c237 ?_
        show mx_WP (d + 6) 126 258 [some (mx_r (some (1, 11, 0))), some (mx_i x1), z2, some (mx_i u233.1)] [mx_i ((mx_u3 u235.2.1 97 0 x1.toNatClampNeg u235.1) 97 0 x1.toNatClampNeg), mx_i x1, mx_r (some (1, 98, 0))] (γ, hM (mx_u3 u235.2.1 97 0 x1.toNatClampNeg u235.1) u235.2.2, κ) Q
        by_cases c238 : (0 : Int32) ≤ ((mx_u3 u235.2.1 97 0 x1.toNatClampNeg u235.1) 97 0 x1.toNatClampNeg)
        · rw [if_pos c238] at hf
          refine mx_WP.bge (x := ((mx_u3 u235.2.1 97 0 x1.toNatClampNeg u235.1) 97 0 x1.toNatClampNeg)) (y := (0 : Int32)) (q := 265) (p3 := 261) rfl (fun _ => ?_) (fun hh => absurd c238 hh)
          refine mx_WP.go 1 (pc' := 266) (L' := [some (mx_r (some (1, 11, 0))), some (mx_i x1), z2, some (mx_i u233.1)]) (st' := [mx_i (1 : Int32), mx_i x1, mx_r (some (1, 98, 0))]) (σ' := (γ, hM (mx_u3 u235.2.1 97 0 x1.toNatClampNeg u235.1) u235.2.2, κ)) rfl ?_
          exact J126_266 (d := d) hf hk
        · rw [if_neg c238] at hf
          refine mx_WP.bge (x := ((mx_u3 u235.2.1 97 0 x1.toNatClampNeg u235.1) 97 0 x1.toNatClampNeg)) (y := (0 : Int32)) (q := 265) (p3 := 261) rfl (fun hh => absurd hh c238) (fun _ => ?_)
          refine mx_WP.go 2 (pc' := 266) (L' := [some (mx_r (some (1, 11, 0))), some (mx_i x1), z2, some (mx_i u233.1)]) (st' := [mx_i (-1 : Int32), mx_i x1, mx_r (some (1, 98, 0))]) (σ' := (γ, hM (mx_u3 u235.2.1 97 0 x1.toNatClampNeg u235.1) u235.2.2, κ)) rfl ?_
          exact J126_266 (d := d) hf hk
      · rw [if_neg c6] at hf
        refine mx_WP.beq (x := (I 92 0 x1.toNatClampNeg)) (y := (0 : Int32)) (q := 35) (p3 := 32) rfl (fun hh => absurd hh c6) (fun _ => ?_)
        refine mx_WP.go 1 (pc' := 34) (L' := [some (mx_r (some (1, 11, 0))), some (mx_i x1), some (mx_i x2), none]) (st' := [mx_i (-3 : Int32)]) (σ' := (γ, hM I J, κ)) rfl ?_
        rw [← Option.some.inj hf] at hk
        refine mx_WP.ret (v := some (mx_i (-3 : Int32))) rfl ?_
        exact hk
    · rw [if_neg c4] at hf
      refine mx_WP.zne (b := u3) (q := 23) (p3 := 21) rfl (fun hh => absurd hh (by simp [c4])) (fun _ => ?_)
      refine mx_WP.go 1 (pc' := 22) (L' := [some (mx_r (some (1, 11, 0))), some (mx_i x1), some (mx_i x2), none]) (st' := [mx_i (-1 : Int32)]) (σ' := (γ, hM I J, κ)) rfl ?_
      rw [← Option.some.inj hf] at hk
      refine mx_WP.ret (v := some (mx_i (-1 : Int32))) rfl ?_
      exact hk
  · rw [if_neg c2] at hf
    refine mx_WP.zeq (b := u1) (q := 21) (p3 := 10) rfl (fun _ => ?_) (fun hh => absurd hh (by simp [c2]))
    refine mx_WP.go 1 (pc' := 22) (L' := [some (mx_r (some (1, 11, 0))), some (mx_i x1), some (mx_i x2), none]) (st' := [mx_i (-1 : Int32)]) (σ' := (γ, hM I J, κ)) rfl ?_
    rw [← Option.some.inj hf] at hk
    refine mx_WP.ret (v := some (mx_i (-1 : Int32))) rfl ?_
    exact hk
def b147_10 (x1 : Int32) (I : Nat → Nat → Nat → Int32) (s : Int32 × (Nat → Nat → Nat → Int32)) : Option ((Int32 × (Nat → Nat → Nat → Int32)) ⊕ (Int32 × (Nat → Nat → Nat → Int32))) :=
  if s.1 ≤ (0 : Int32) then (some (Sum.inr (s.1, s.2))) else if (s.1 - (1 : Int32)) < 0 ∨ 16 ≤ (s.1 - (1 : Int32)).toNatClampNeg then none else if s.1 < 0 ∨ 16 ≤ s.1.toNatClampNeg then none else some (Sum.inl (s.1 + (-1), (mx_u3 s.2 114 0 s.1.toNatClampNeg (s.2 114 0 ((s.1 - (1 : Int32)).toNatClampNeg)))))
theorem B147_10 {d : Nat} {x1 : Int32} {γ : mx_Rg} {I : Nat → Nat → Nat → Int32} {J : Nat → Nat → Nat → Int64} {κ : (Nat × (Nat → Int32)) × (Nat × Nat)} {Q : Option mx_V → mx_Hp → Prop} {s : Int32 × (Nat → Nat → Nat → Int32)} {o : (Int32 × (Nat → Nat → Nat → Int32)) ⊕ (Int32 × (Nat → Nat → Nat → Int32))} (hf : b147_10 x1 I s = some o) (hk : Sum.elim (fun s : Int32 × (Nat → Nat → Nat → Int32) => mx_WP (d + 0) 147 10 [some (mx_r (some (1, 11, 0))), some (mx_i x1), some (mx_i s.1)] [] (γ, hM s.2 J, κ) Q) (fun x : Int32 × (Nat → Nat → Nat → Int32) => mx_WP (d + 0) 147 34 [some (mx_r (some (1, 11, 0))), some (mx_i x1), some (mx_i x.1)] [] (γ, hM x.2 J, κ) Q) o) : mx_WP (d + 0) 147 10 [some (mx_r (some (1, 11, 0))), some (mx_i x1), some (mx_i s.1)] [] (γ, hM s.2 J, κ) Q := by
  unfold b147_10 at hf
  refine mx_WP.go 1 (pc' := 11) (L' := [some (mx_r (some (1, 11, 0))), some (mx_i x1), some (mx_i s.1)]) (st' := [mx_i s.1]) (σ' := (γ, hM s.2 J, κ)) rfl ?_
  by_cases c102 : s.1 ≤ (0 : Int32)
  · rw [if_pos c102] at hf
    refine mx_WP.ble (x := s.1) (y := (0 : Int32)) (q := 34) (p3 := 14) rfl (fun _ => ?_) (fun hh => absurd c102 hh)
    rw [← Option.some.inj hf] at hk
    exact hk
  · rw [if_neg c102] at hf
    refine mx_WP.ble (x := s.1) (y := (0 : Int32)) (q := 34) (p3 := 14) rfl (fun hh => absurd hh c102) (fun _ => ?_)
    refine mx_WP.go 8 (pc' := 26) (L' := [some (mx_r (some (1, 11, 0))), some (mx_i x1), some (mx_i s.1)]) (st' := [mx_i (s.1 - (1 : Int32)), mx_r (some (1, 114, 0)), mx_i s.1, mx_r (some (1, 114, 0))]) (σ' := (γ, hM s.2 J, κ)) rfl ?_
    by_cases c103 : (s.1 - (1 : Int32)) < 0 ∨ 16 ≤ (s.1 - (1 : Int32)).toNatClampNeg
    · rw [if_pos c103] at hf
      cases hf
    rw [if_neg c103] at hf
    refine mx_WP.ialdx c103 ?_
    show mx_WP (d + 0) 147 27 [some (mx_r (some (1, 11, 0))), some (mx_i x1), some (mx_i s.1)] [mx_i (s.2 114 0 ((s.1 - (1 : Int32)).toNatClampNeg)), mx_i s.1, mx_r (some (1, 114, 0))] (γ, hM s.2 J, κ) Q
    by_cases c104 : s.1 < 0 ∨ 16 ≤ s.1.toNatClampNeg
    · rw [if_pos c104] at hf
      cases hf
    rw [if_neg c104] at hf
    refine mx_WP.iastx c104 ?_
    show mx_WP (d + 0) 147 28 [some (mx_r (some (1, 11, 0))), some (mx_i x1), some (mx_i s.1)] [] (γ, hM (mx_u3 s.2 114 0 s.1.toNatClampNeg (s.2 114 0 ((s.1 - (1 : Int32)).toNatClampNeg))) J, κ) Q
    refine mx_WP.go 2 (pc' := 10) (L' := [some (mx_r (some (1, 11, 0))), some (mx_i x1), some (mx_i (s.1 + (-1)))]) (st' := []) (σ' := (γ, hM (mx_u3 s.2 114 0 s.1.toNatClampNeg (s.2 114 0 ((s.1 - (1 : Int32)).toNatClampNeg))) J, κ)) rfl ?_
    rw [← Option.some.inj hf] at hk
    exact hk
theorem L147_10 {d : Nat} {x1 : Int32} {γ : mx_Rg} {I : Nat → Nat → Nat → Int32} {J : Nat → Nat → Nat → Int64} {κ : (Nat × (Nat → Int32)) × (Nat × Nat)} {Q : Option mx_V → mx_Hp → Prop} {n : Nat} {s : Int32 × (Nat → Nat → Nat → Int32)} {o : Int32 × (Nat → Nat → Nat → Int32)} (hf : mx_lp (b147_10 x1 I) n s = some o) (hk : (fun x : Int32 × (Nat → Nat → Nat → Int32) => mx_WP (d + 0) 147 34 [some (mx_r (some (1, 11, 0))), some (mx_i x1), some (mx_i x.1)] [] (γ, hM x.2 J, κ) Q) o) : mx_WP (d + 0) 147 10 [some (mx_r (some (1, 11, 0))), some (mx_i x1), some (mx_i s.1)] [] (γ, hM s.2 J, κ) Q := mx_lp_ok (P := fun s : Int32 × (Nat → Nat → Nat → Int32) => mx_WP (d + 0) 147 10 [some (mx_r (some (1, 11, 0))), some (mx_i x1), some (mx_i s.1)] [] (γ, hM s.2 J, κ) Q) (E := (fun x : Int32 × (Nat → Nat → Nat → Int32) => mx_WP (d + 0) 147 34 [some (mx_r (some (1, 11, 0))), some (mx_i x1), some (mx_i x.1)] [] (γ, hM x.2 J, κ) Q)) (fun s o hf hk => B147_10 hf hk) n s o hf hk
def f147 (x1 : Int32) (I : Nat → Nat → Nat → Int32) : Option ((Nat → Nat → Nat → Int32)) :=
  if x1 < 0 ∨ 8 ≤ x1.toNatClampNeg then none else (mx_lp (b147_10 x1 (mx_u3 I 94 0 x1.toNatClampNeg (vp_nar .boolean (0 : Int32)))) mx_fu ((15 : Int32), (mx_u3 I 94 0 x1.toNatClampNeg (vp_nar .boolean (0 : Int32))))).bind fun u105 =>
  some (mx_u3 (mx_u3 u105.2 114 0 0 x1) 11 0 41 ((u105.2 11 0 41) + (1 : Int32)))
theorem T147 {d : Nat} {x1 : Int32} {γ : mx_Rg} {I : Nat → Nat → Nat → Int32} {J : Nat → Nat → Nat → Int64} {κ : (Nat × (Nat → Int32)) × (Nat × Nat)} {Q : Option mx_V → mx_Hp → Prop} {o : (Nat → Nat → Nat → Int32)} (hf : f147 x1 I = some o) (hk : Q (none) (γ, hM o J, κ)) : mx_WP (d + 0) 147 0 (mx_ent 147 [mx_r (some (1, 11, 0)), mx_i x1]) [] (γ, hM I J, κ) Q := by
  unfold f147 at hf
  refine mx_WP.go 4 (pc' := 6) (L' := [some (mx_r (some (1, 11, 0))), some (mx_i x1), none]) (st' := [mx_i (0 : Int32), mx_i x1, mx_r (some (1, 94, 0))]) (σ' := (γ, hM I J, κ)) rfl ?_
  by_cases c1 : x1 < 0 ∨ 8 ≤ x1.toNatClampNeg
  · rw [if_pos c1] at hf
    cases hf
  rw [if_neg c1] at hf
  refine mx_WP.bastx c1 ?_
  show mx_WP (d + 0) 147 7 [some (mx_r (some (1, 11, 0))), some (mx_i x1), none] [] (γ, hM (mx_u3 I 94 0 x1.toNatClampNeg (vp_nar .boolean (0 : Int32))) J, κ) Q
  refine mx_WP.go 2 (pc' := 10) (L' := [some (mx_r (some (1, 11, 0))), some (mx_i x1), some (mx_i (15 : Int32))]) (st' := []) (σ' := (γ, hM (mx_u3 I 94 0 x1.toNatClampNeg (vp_nar .boolean (0 : Int32))) J, κ)) rfl ?_
  obtain ⟨u105, e106, hf⟩ := Option.bind_eq_some_iff.mp hf
  refine L147_10 (d := d) e106 ?_
  show mx_WP (d + 0) 147 34 [some (mx_r (some (1, 11, 0))), some (mx_i x1), some (mx_i u105.1)] [] (γ, hM u105.2 J, κ) Q
  refine mx_WP.go 4 (pc' := 40) (L' := [some (mx_r (some (1, 11, 0))), some (mx_i x1), some (mx_i u105.1)]) (st' := [mx_i x1, mx_i (0 : Int32), mx_r (some (1, 114, 0))]) (σ' := (γ, hM u105.2 J, κ)) rfl ?_
  refine mx_WP.iastx (show ¬ ((0 : Int32) < 0 ∨ 16 ≤ (0 : Int32).toNatClampNeg) by decide) ?_
  show mx_WP (d + 0) 147 41 [some (mx_r (some (1, 11, 0))), some (mx_i x1), some (mx_i u105.1)] [] (γ, hM (mx_u3 u105.2 114 0 0 x1) J, κ) Q
  refine mx_WP.go 6 (pc' := 51) (L' := [some (mx_r (some (1, 11, 0))), some (mx_i x1), some (mx_i u105.1)]) (st' := []) (σ' := (γ, hM (mx_u3 (mx_u3 u105.2 114 0 0 x1) 11 0 41 ((u105.2 11 0 41) + (1 : Int32))) J, κ)) rfl ?_
  rw [← Option.some.inj hf] at hk
  refine mx_WP.ret (v := none) rfl ?_
  exact hk
def b146_49 (x2 : Int32) (I : Nat → Nat → Nat → Int32) (J : Nat → Nat → Nat → Int64) (s : Int32 × (Nat → Nat → Nat → Int32)) : Option ((Int32 × (Nat → Nat → Nat → Int32)) ⊕ (Int32 × (Nat → Nat → Nat → Int32))) :=
  if (8 : Int32) ≤ s.1 then (some (Sum.inr (s.1, s.2))) else if s.1 < 0 ∨ 8 ≤ s.1.toNatClampNeg then none else if (s.2 94 0 s.1.toNatClampNeg) = (0 : Int32) then (some (Sum.inl (s.1 + 1, s.2))) else if s.1 < 0 ∨ 8 ≤ s.1.toNatClampNeg then none else if (s.2 93 0 s.1.toNatClampNeg) = (0 : Int32) then ((f147 s.1 s.2).bind fun u1114 =>
  some (Sum.inl (s.1 + 1, u1114))) else some (Sum.inl (s.1 + 1, s.2))
theorem B146_49 {d : Nat} {x2 : Int32} {γ : mx_Rg} {I : Nat → Nat → Nat → Int32} {J : Nat → Nat → Nat → Int64} {κ : (Nat × (Nat → Int32)) × (Nat × Nat)} {Q : Option mx_V → mx_Hp → Prop} {s : Int32 × (Nat → Nat → Nat → Int32)} {o : (Int32 × (Nat → Nat → Nat → Int32)) ⊕ (Int32 × (Nat → Nat → Nat → Int32))} (hf : b146_49 x2 I J s = some o) (hk : Sum.elim (fun s : Int32 × (Nat → Nat → Nat → Int32) => ∀ (z1 : Option mx_V), mx_WP (d + 6) 146 49 [some (mx_r (some (1, 11, 0))), z1, some (mx_i x2), some (mx_i s.1)] [] (γ, hM s.2 J, κ) Q) (fun x : Int32 × (Nat → Nat → Nat → Int32) => ∀ (z1 : Option mx_V), mx_WP (d + 6) 146 84 [some (mx_r (some (1, 11, 0))), z1, some (mx_i x2), some (mx_i x.1)] [] (γ, hM x.2 J, κ) Q) o) : ∀ (z1 : Option mx_V), mx_WP (d + 6) 146 49 [some (mx_r (some (1, 11, 0))), z1, some (mx_i x2), some (mx_i s.1)] [] (γ, hM s.2 J, κ) Q := by
  intro z1
  unfold b146_49 at hf
  refine mx_WP.go 2 (pc' := 52) (L' := [some (mx_r (some (1, 11, 0))), z1, some (mx_i x2), some (mx_i s.1)]) (st' := [mx_i (8 : Int32), mx_i s.1]) (σ' := (γ, hM s.2 J, κ)) rfl ?_
  by_cases c1109 : (8 : Int32) ≤ s.1
  · rw [if_pos c1109] at hf
    refine mx_WP.bge (x := s.1) (y := (8 : Int32)) (q := 84) (p3 := 55) rfl (fun _ => ?_) (fun hh => absurd c1109 hh)
    rw [← Option.some.inj hf] at hk
    exact hk (z1)
  · rw [if_neg c1109] at hf
    refine mx_WP.bge (x := s.1) (y := (8 : Int32)) (q := 84) (p3 := 55) rfl (fun hh => absurd hh c1109) (fun _ => ?_)
    refine mx_WP.go 3 (pc' := 60) (L' := [some (mx_r (some (1, 11, 0))), z1, some (mx_i x2), some (mx_i s.1)]) (st' := [mx_i s.1, mx_r (some (1, 94, 0))]) (σ' := (γ, hM s.2 J, κ)) rfl ?_
    by_cases c1110 : s.1 < 0 ∨ 8 ≤ s.1.toNatClampNeg
    · rw [if_pos c1110] at hf
      cases hf
    rw [if_neg c1110] at hf
    refine mx_WP.baldx c1110 ?_
    show mx_WP (d + 6) 146 61 [some (mx_r (some (1, 11, 0))), z1, some (mx_i x2), some (mx_i s.1)] [mx_i (s.2 94 0 s.1.toNatClampNeg)] (γ, hM s.2 J, κ) Q
    by_cases c1111 : (s.2 94 0 s.1.toNatClampNeg) = (0 : Int32)
    · rw [if_pos c1111] at hf
      refine mx_WP.beq (x := (s.2 94 0 s.1.toNatClampNeg)) (y := (0 : Int32)) (q := 78) (p3 := 64) rfl (fun _ => ?_) (fun hh => absurd c1111 hh)
      refine mx_WP.go 2 (pc' := 49) (L' := [some (mx_r (some (1, 11, 0))), z1, some (mx_i x2), some (mx_i (s.1 + 1))]) (st' := []) (σ' := (γ, hM s.2 J, κ)) rfl ?_
      rw [← Option.some.inj hf] at hk
      exact hk (z1)
    · rw [if_neg c1111] at hf
      refine mx_WP.beq (x := (s.2 94 0 s.1.toNatClampNeg)) (y := (0 : Int32)) (q := 78) (p3 := 64) rfl (fun hh => absurd hh c1111) (fun _ => ?_)
      refine mx_WP.go 3 (pc' := 69) (L' := [some (mx_r (some (1, 11, 0))), z1, some (mx_i x2), some (mx_i s.1)]) (st' := [mx_i s.1, mx_r (some (1, 93, 0))]) (σ' := (γ, hM s.2 J, κ)) rfl ?_
      by_cases c1112 : s.1 < 0 ∨ 8 ≤ s.1.toNatClampNeg
      · rw [if_pos c1112] at hf
        cases hf
      rw [if_neg c1112] at hf
      refine mx_WP.baldx c1112 ?_
      show mx_WP (d + 6) 146 70 [some (mx_r (some (1, 11, 0))), z1, some (mx_i x2), some (mx_i s.1)] [mx_i (s.2 93 0 s.1.toNatClampNeg)] (γ, hM s.2 J, κ) Q
      by_cases c1113 : (s.2 93 0 s.1.toNatClampNeg) = (0 : Int32)
      · rw [if_pos c1113] at hf
        refine mx_WP.bne (x := (s.2 93 0 s.1.toNatClampNeg)) (y := (0 : Int32)) (q := 78) (p3 := 73) rfl (fun hh => absurd c1113 hh) (fun _ => ?_)
        refine mx_WP.go 2 (pc' := 75) (L' := [some (mx_r (some (1, 11, 0))), z1, some (mx_i x2), some (mx_i s.1)]) (st' := [mx_i s.1, mx_r (some (1, 11, 0))]) (σ' := (γ, hM s.2 J, κ)) rfl ?_
        obtain ⟨u1114, e1115, hf⟩ := Option.bind_eq_some_iff.mp hf
        refine mx_WP.call (d := d + 5) (y := 147) (as := [mx_r (some (1, 11, 0)), mx_i s.1]) (pc' := 78) (r := []) rfl rfl (T147 (d := d + 5)  e1115 ?_)
        show mx_WP (d + 6) 146 78 [some (mx_r (some (1, 11, 0))), z1, some (mx_i x2), some (mx_i s.1)] [] (γ, hM u1114 J, κ) Q
        refine mx_WP.go 2 (pc' := 49) (L' := [some (mx_r (some (1, 11, 0))), z1, some (mx_i x2), some (mx_i (s.1 + 1))]) (st' := []) (σ' := (γ, hM u1114 J, κ)) rfl ?_
        rw [← Option.some.inj hf] at hk
        exact hk (z1)
      · rw [if_neg c1113] at hf
        refine mx_WP.bne (x := (s.2 93 0 s.1.toNatClampNeg)) (y := (0 : Int32)) (q := 78) (p3 := 73) rfl (fun _ => ?_) (fun hh => absurd c1113 hh)
        refine mx_WP.go 2 (pc' := 49) (L' := [some (mx_r (some (1, 11, 0))), z1, some (mx_i x2), some (mx_i (s.1 + 1))]) (st' := []) (σ' := (γ, hM s.2 J, κ)) rfl ?_
        rw [← Option.some.inj hf] at hk
        exact hk (z1)
theorem L146_49 {d : Nat} {x2 : Int32} {γ : mx_Rg} {I : Nat → Nat → Nat → Int32} {J : Nat → Nat → Nat → Int64} {κ : (Nat × (Nat → Int32)) × (Nat × Nat)} {Q : Option mx_V → mx_Hp → Prop} {n : Nat} {s : Int32 × (Nat → Nat → Nat → Int32)} {o : Int32 × (Nat → Nat → Nat → Int32)} (hf : mx_lp (b146_49 x2 I J) n s = some o) (hk : (fun x : Int32 × (Nat → Nat → Nat → Int32) => ∀ (z1 : Option mx_V), mx_WP (d + 6) 146 84 [some (mx_r (some (1, 11, 0))), z1, some (mx_i x2), some (mx_i x.1)] [] (γ, hM x.2 J, κ) Q) o) : ∀ (z1 : Option mx_V), mx_WP (d + 6) 146 49 [some (mx_r (some (1, 11, 0))), z1, some (mx_i x2), some (mx_i s.1)] [] (γ, hM s.2 J, κ) Q := mx_lp_ok (P := fun s : Int32 × (Nat → Nat → Nat → Int32) => ∀ (z1 : Option mx_V), mx_WP (d + 6) 146 49 [some (mx_r (some (1, 11, 0))), z1, some (mx_i x2), some (mx_i s.1)] [] (γ, hM s.2 J, κ) Q) (E := (fun x : Int32 × (Nat → Nat → Nat → Int32) => ∀ (z1 : Option mx_V), mx_WP (d + 6) 146 84 [some (mx_r (some (1, 11, 0))), z1, some (mx_i x2), some (mx_i x.1)] [] (γ, hM x.2 J, κ) Q)) (fun s o hf hk => B146_49 hf hk) n s o hf hk
def j146_35 (v1 : Int32) (I : Nat → Nat → Nat → Int32) (J : Nat → Nat → Nat → Int64) : Option (Int32 × (Nat → Nat → Nat → Int32)) :=
  if v1 < 0 ∨ 8 ≤ v1.toNatClampNeg then none else (f134 (mx_u3 I 92 0 v1.toNatClampNeg (vp_nar .boolean (0 : Int32))) J).bind fun u1008 =>
  (mx_lp (b146_49 u1008.1 u1008.2 J) mx_fu ((0 : Int32), u1008.2)).bind fun u1116 =>
  some (u1008.1, u1116.2)
theorem J146_35 {d : Nat} {v1 : Int32} {z2 : Option mx_V} {z3 : Option mx_V} {γ : mx_Rg} {I : Nat → Nat → Nat → Int32} {J : Nat → Nat → Nat → Int64} {κ : (Nat × (Nat → Int32)) × (Nat × Nat)} {Q : Option mx_V → mx_Hp → Prop} {o : Int32 × (Nat → Nat → Nat → Int32)} (hf : j146_35 v1 I J = some o) (hk : Q (some (mx_i o.1)) (γ, hM o.2 J, κ)) : mx_WP (d + 6) 146 35 [some (mx_r (some (1, 11, 0))), some (mx_i v1), z2, z3] [] (γ, hM I J, κ) Q := by
  unfold j146_35 at hf
  refine mx_WP.go 4 (pc' := 41) (L' := [some (mx_r (some (1, 11, 0))), some (mx_i v1), z2, z3]) (st' := [mx_i (0 : Int32), mx_i v1, mx_r (some (1, 92, 0))]) (σ' := (γ, hM I J, κ)) rfl ?_
  by_cases c1007 : v1 < 0 ∨ 8 ≤ v1.toNatClampNeg
  · rw [if_pos c1007] at hf
    cases hf
  rw [if_neg c1007] at hf
  refine mx_WP.bastx c1007 ?_
  show mx_WP (d + 6) 146 42 [some (mx_r (some (1, 11, 0))), some (mx_i v1), z2, z3] [] (γ, hM (mx_u3 I 92 0 v1.toNatClampNeg (vp_nar .boolean (0 : Int32))) J, κ) Q
  refine mx_WP.go 1 (pc' := 43) (L' := [some (mx_r (some (1, 11, 0))), some (mx_i v1), z2, z3]) (st' := [mx_r (some (1, 11, 0))]) (σ' := (γ, hM (mx_u3 I 92 0 v1.toNatClampNeg (vp_nar .boolean (0 : Int32))) J, κ)) rfl ?_
  obtain ⟨u1008, e1118, hf⟩ := Option.bind_eq_some_iff.mp hf
  refine mx_WP.call (d := d + 5) (y := 134) (as := [mx_r (some (1, 11, 0))]) (pc' := 46) (r := []) rfl rfl (T134 (d := d + 0)  e1118 ?_)
  show mx_WP (d + 6) 146 46 [some (mx_r (some (1, 11, 0))), some (mx_i v1), z2, z3] [mx_i u1008.1] (γ, hM u1008.2 J, κ) Q
  refine mx_WP.go 3 (pc' := 49) (L' := [some (mx_r (some (1, 11, 0))), some (mx_i v1), some (mx_i u1008.1), some (mx_i (0 : Int32))]) (st' := []) (σ' := (γ, hM u1008.2 J, κ)) rfl ?_
  obtain ⟨u1116, e1117, hf⟩ := Option.bind_eq_some_iff.mp hf
  refine (L146_49 (d := d) e1117 ?_) (some (mx_i v1))
  intro z1
  show mx_WP (d + 6) 146 84 [some (mx_r (some (1, 11, 0))), z1, some (mx_i u1008.1), some (mx_i u1116.1)] [] (γ, hM u1116.2 J, κ) Q
  refine mx_WP.go 1 (pc' := 85) (L' := [some (mx_r (some (1, 11, 0))), z1, some (mx_i u1008.1), some (mx_i u1116.1)]) (st' := [mx_i u1008.1]) (σ' := (γ, hM u1116.2 J, κ)) rfl ?_
  rw [← Option.some.inj hf] at hk
  refine mx_WP.ret (v := some (mx_i u1008.1)) rfl ?_
  exact hk
def f146 (x1 : Int32) (I : Nat → Nat → Nat → Int32) (J : Nat → Nat → Nat → Int64) : Option (Int32 × (Nat → Nat → Nat → Int32)) :=
  (f120 x1 (0 : Int32) (7 : Int32)).bind fun u1 =>
  if u1 = true then (if x1 < 0 ∨ 8 ≤ x1.toNatClampNeg then none else if (I 92 0 x1.toNatClampNeg) = (0 : Int32) then (some ((-1 : Int32), I)) else if x1 < 0 ∨ 8 ≤ x1.toNatClampNeg then none else if (I 94 0 x1.toNatClampNeg) = (0 : Int32) then (j146_35 x1 I J) else (f147 x1 I).bind fun u1119 =>
  j146_35 x1 u1119 J) else some ((-1 : Int32), I)
theorem T146 {d : Nat} {x1 : Int32} {γ : mx_Rg} {I : Nat → Nat → Nat → Int32} {J : Nat → Nat → Nat → Int64} {κ : (Nat × (Nat → Int32)) × (Nat × Nat)} {Q : Option mx_V → mx_Hp → Prop} {o : Int32 × (Nat → Nat → Nat → Int32)} (hf : f146 x1 I J = some o) (hk : Q (some (mx_i o.1)) (γ, hM o.2 J, κ)) : mx_WP (d + 6) 146 0 (mx_ent 146 [mx_r (some (1, 11, 0)), mx_i x1]) [] (γ, hM I J, κ) Q := by
  unfold f146 at hf
  refine mx_WP.go 3 (pc' := 4) (L' := [some (mx_r (some (1, 11, 0))), some (mx_i x1), none, none]) (st' := [mx_i (7 : Int32), mx_i (0 : Int32), mx_i x1]) (σ' := (γ, hM I J, κ)) rfl ?_
  obtain ⟨u1, e1121, hf⟩ := Option.bind_eq_some_iff.mp hf
  refine mx_WP.call (d := d + 5) (y := 120) (as := [mx_i x1, mx_i (0 : Int32), mx_i (7 : Int32)]) (pc' := 7) (r := []) rfl rfl (T120 (d := d + 5)  e1121 ?_)
  show mx_WP (d + 6) 146 7 [some (mx_r (some (1, 11, 0))), some (mx_i x1), none, none] [mx_i (b2i u1)] (γ, hM I J, κ) Q
  by_cases c2 : u1 = true
  · rw [if_pos c2] at hf
    refine mx_WP.zeq (b := u1) (q := 19) (p3 := 10) rfl (fun hh => absurd hh (by simp [c2])) (fun _ => ?_)
    refine mx_WP.go 3 (pc' := 15) (L' := [some (mx_r (some (1, 11, 0))), some (mx_i x1), none, none]) (st' := [mx_i x1, mx_r (some (1, 92, 0))]) (σ' := (γ, hM I J, κ)) rfl ?_
    by_cases c3 : x1 < 0 ∨ 8 ≤ x1.toNatClampNeg
    · rw [if_pos c3] at hf
      cases hf
    rw [if_neg c3] at hf
    refine mx_WP.baldx c3 ?_
    show mx_WP (d + 6) 146 16 [some (mx_r (some (1, 11, 0))), some (mx_i x1), none, none] [mx_i (I 92 0 x1.toNatClampNeg)] (γ, hM I J, κ) Q
    by_cases c4 : (I 92 0 x1.toNatClampNeg) = (0 : Int32)
    · rw [if_pos c4] at hf
      refine mx_WP.bne (x := (I 92 0 x1.toNatClampNeg)) (y := (0 : Int32)) (q := 21) (p3 := 19) rfl (fun hh => absurd c4 hh) (fun _ => ?_)
      refine mx_WP.go 1 (pc' := 20) (L' := [some (mx_r (some (1, 11, 0))), some (mx_i x1), none, none]) (st' := [mx_i (-1 : Int32)]) (σ' := (γ, hM I J, κ)) rfl ?_
      rw [← Option.some.inj hf] at hk
      refine mx_WP.ret (v := some (mx_i (-1 : Int32))) rfl ?_
      exact hk
    · rw [if_neg c4] at hf
      refine mx_WP.bne (x := (I 92 0 x1.toNatClampNeg)) (y := (0 : Int32)) (q := 21) (p3 := 19) rfl (fun _ => ?_) (fun hh => absurd c4 hh)
      refine mx_WP.go 3 (pc' := 26) (L' := [some (mx_r (some (1, 11, 0))), some (mx_i x1), none, none]) (st' := [mx_i x1, mx_r (some (1, 94, 0))]) (σ' := (γ, hM I J, κ)) rfl ?_
      by_cases c5 : x1 < 0 ∨ 8 ≤ x1.toNatClampNeg
      · rw [if_pos c5] at hf
        cases hf
      rw [if_neg c5] at hf
      refine mx_WP.baldx c5 ?_
      show mx_WP (d + 6) 146 27 [some (mx_r (some (1, 11, 0))), some (mx_i x1), none, none] [mx_i (I 94 0 x1.toNatClampNeg)] (γ, hM I J, κ) Q
      by_cases c6 : (I 94 0 x1.toNatClampNeg) = (0 : Int32)
      · rw [if_pos c6] at hf
        refine mx_WP.beq (x := (I 94 0 x1.toNatClampNeg)) (y := (0 : Int32)) (q := 35) (p3 := 30) rfl (fun _ => ?_) (fun hh => absurd c6 hh)
        exact J146_35 (d := d) hf hk
      · rw [if_neg c6] at hf
        refine mx_WP.beq (x := (I 94 0 x1.toNatClampNeg)) (y := (0 : Int32)) (q := 35) (p3 := 30) rfl (fun hh => absurd hh c6) (fun _ => ?_)
        refine mx_WP.go 2 (pc' := 32) (L' := [some (mx_r (some (1, 11, 0))), some (mx_i x1), none, none]) (st' := [mx_i x1, mx_r (some (1, 11, 0))]) (σ' := (γ, hM I J, κ)) rfl ?_
        obtain ⟨u1119, e1120, hf⟩ := Option.bind_eq_some_iff.mp hf
        refine mx_WP.call (d := d + 5) (y := 147) (as := [mx_r (some (1, 11, 0)), mx_i x1]) (pc' := 35) (r := []) rfl rfl (T147 (d := d + 5)  e1120 ?_)
        show mx_WP (d + 6) 146 35 [some (mx_r (some (1, 11, 0))), some (mx_i x1), none, none] [] (γ, hM u1119 J, κ) Q
        exact J146_35 (d := d) hf hk
  · rw [if_neg c2] at hf
    refine mx_WP.zeq (b := u1) (q := 19) (p3 := 10) rfl (fun _ => ?_) (fun hh => absurd hh (by simp [c2]))
    refine mx_WP.go 1 (pc' := 20) (L' := [some (mx_r (some (1, 11, 0))), some (mx_i x1), none, none]) (st' := [mx_i (-1 : Int32)]) (σ' := (γ, hM I J, κ)) rfl ?_
    rw [← Option.some.inj hf] at hk
    refine mx_WP.ret (v := some (mx_i (-1 : Int32))) rfl ?_
    exact hk
def b149_42 (x1 : Int32) (x2 : Int32) (x3 : Int32) (x5 : Int32) (I : Nat → Nat → Nat → Int32) (s : Int32 × Int32) : Option ((Int32 × Int32) ⊕ (Int32 × Int32)) :=
  if x5 < 0 ∨ 9 ≤ x5.toNatClampNeg then none else if (I 83 0 x5.toNatClampNeg) ≤ s.2 then (some (Sum.inr (s.1, s.2))) else if x5 < 0 ∨ 8 ≤ x5.toNatClampNeg then none else if (I 94 0 x5.toNatClampNeg) = (0 : Int32) then (some (Sum.inr (s.1, s.2))) else if x5 = x3 then (some (Sum.inl (s.1 ||| (0 : Int32), s.2 + 1))) else if (((3 : Int32) * x5) + s.2) < 0 ∨ 27 ≤ (((3 : Int32) * x5) + s.2).toNatClampNeg then none else if (I 84 0 ((((3 : Int32) * x5) + s.2).toNatClampNeg)) = x3 then (some (Sum.inl (s.1 ||| (1 : Int32), s.2 + 1))) else some (Sum.inl (s.1 ||| (0 : Int32), s.2 + 1))
theorem B149_42 {d : Nat} {x1 : Int32} {x2 : Int32} {x3 : Int32} {x5 : Int32} {γ : mx_Rg} {I : Nat → Nat → Nat → Int32} {J : Nat → Nat → Nat → Int64} {κ : (Nat × (Nat → Int32)) × (Nat × Nat)} {Q : Option mx_V → mx_Hp → Prop} {s : Int32 × Int32} {o : (Int32 × Int32) ⊕ (Int32 × Int32)} (hf : b149_42 x1 x2 x3 x5 I s = some o) (hk : Sum.elim (fun s : Int32 × Int32 => mx_WP (d + 0) 149 42 [some (mx_r (some (1, 11, 0))), some (mx_i x1), some (mx_i x2), some (mx_i x3), some (mx_i s.1), some (mx_i x5), some (mx_i s.2)] [] (γ, hM I J, κ) Q) (fun x : Int32 × Int32 => mx_WP (d + 0) 149 102 [some (mx_r (some (1, 11, 0))), some (mx_i x1), some (mx_i x2), some (mx_i x3), some (mx_i x.1), some (mx_i x5), some (mx_i x.2)] [] (γ, hM I J, κ) Q) o) : mx_WP (d + 0) 149 42 [some (mx_r (some (1, 11, 0))), some (mx_i x1), some (mx_i x2), some (mx_i x3), some (mx_i s.1), some (mx_i x5), some (mx_i s.2)] [] (γ, hM I J, κ) Q := by
  unfold b149_42 at hf
  refine mx_WP.go 4 (pc' := 50) (L' := [some (mx_r (some (1, 11, 0))), some (mx_i x1), some (mx_i x2), some (mx_i x3), some (mx_i s.1), some (mx_i x5), some (mx_i s.2)]) (st' := [mx_i x5, mx_r (some (1, 83, 0)), mx_i s.2]) (σ' := (γ, hM I J, κ)) rfl ?_
  by_cases c305 : x5 < 0 ∨ 9 ≤ x5.toNatClampNeg
  · rw [if_pos c305] at hf
    cases hf
  rw [if_neg c305] at hf
  refine mx_WP.ialdx c305 ?_
  show mx_WP (d + 0) 149 51 [some (mx_r (some (1, 11, 0))), some (mx_i x1), some (mx_i x2), some (mx_i x3), some (mx_i s.1), some (mx_i x5), some (mx_i s.2)] [mx_i (I 83 0 x5.toNatClampNeg), mx_i s.2] (γ, hM I J, κ) Q
  by_cases c306 : (I 83 0 x5.toNatClampNeg) ≤ s.2
  · rw [if_pos c306] at hf
    refine mx_WP.bge (x := s.2) (y := (I 83 0 x5.toNatClampNeg)) (q := 102) (p3 := 54) rfl (fun _ => ?_) (fun hh => absurd c306 hh)
    rw [← Option.some.inj hf] at hk
    exact hk
  · rw [if_neg c306] at hf
    refine mx_WP.bge (x := s.2) (y := (I 83 0 x5.toNatClampNeg)) (q := 102) (p3 := 54) rfl (fun hh => absurd hh c306) (fun _ => ?_)
    refine mx_WP.go 3 (pc' := 60) (L' := [some (mx_r (some (1, 11, 0))), some (mx_i x1), some (mx_i x2), some (mx_i x3), some (mx_i s.1), some (mx_i x5), some (mx_i s.2)]) (st' := [mx_i x5, mx_r (some (1, 94, 0))]) (σ' := (γ, hM I J, κ)) rfl ?_
    by_cases c307 : x5 < 0 ∨ 8 ≤ x5.toNatClampNeg
    · rw [if_pos c307] at hf
      cases hf
    rw [if_neg c307] at hf
    refine mx_WP.baldx c307 ?_
    show mx_WP (d + 0) 149 61 [some (mx_r (some (1, 11, 0))), some (mx_i x1), some (mx_i x2), some (mx_i x3), some (mx_i s.1), some (mx_i x5), some (mx_i s.2)] [mx_i (I 94 0 x5.toNatClampNeg)] (γ, hM I J, κ) Q
    by_cases c308 : (I 94 0 x5.toNatClampNeg) = (0 : Int32)
    · rw [if_pos c308] at hf
      refine mx_WP.beq (x := (I 94 0 x5.toNatClampNeg)) (y := (0 : Int32)) (q := 102) (p3 := 64) rfl (fun _ => ?_) (fun hh => absurd c308 hh)
      rw [← Option.some.inj hf] at hk
      exact hk
    · rw [if_neg c308] at hf
      refine mx_WP.beq (x := (I 94 0 x5.toNatClampNeg)) (y := (0 : Int32)) (q := 102) (p3 := 64) rfl (fun hh => absurd hh c308) (fun _ => ?_)
      refine mx_WP.go 3 (pc' := 69) (L' := [some (mx_r (some (1, 11, 0))), some (mx_i x1), some (mx_i x2), some (mx_i x3), some (mx_i s.1), some (mx_i x5), some (mx_i s.2)]) (st' := [mx_i x3, mx_i x5, mx_i s.1]) (σ' := (γ, hM I J, κ)) rfl ?_
      by_cases c309 : x5 = x3
      · rw [if_pos c309] at hf
        refine mx_WP.beq (x := x5) (y := x3) (q := 92) (p3 := 72) rfl (fun _ => ?_) (fun hh => absurd c309 hh)
        refine mx_WP.go 5 (pc' := 42) (L' := [some (mx_r (some (1, 11, 0))), some (mx_i x1), some (mx_i x2), some (mx_i x3), some (mx_i (s.1 ||| (0 : Int32))), some (mx_i x5), some (mx_i (s.2 + 1))]) (st' := []) (σ' := (γ, hM I J, κ)) rfl ?_
        rw [← Option.some.inj hf] at hk
        exact hk
      · rw [if_neg c309] at hf
        refine mx_WP.beq (x := x5) (y := x3) (q := 92) (p3 := 72) rfl (fun hh => absurd hh c309) (fun _ => ?_)
        refine mx_WP.go 7 (pc' := 83) (L' := [some (mx_r (some (1, 11, 0))), some (mx_i x1), some (mx_i x2), some (mx_i x3), some (mx_i s.1), some (mx_i x5), some (mx_i s.2)]) (st' := [mx_i (((3 : Int32) * x5) + s.2), mx_r (some (1, 84, 0)), mx_i s.1]) (σ' := (γ, hM I J, κ)) rfl ?_
        by_cases c310 : (((3 : Int32) * x5) + s.2) < 0 ∨ 27 ≤ (((3 : Int32) * x5) + s.2).toNatClampNeg
        · rw [if_pos c310] at hf
          cases hf
        rw [if_neg c310] at hf
        refine mx_WP.ialdx c310 ?_
        show mx_WP (d + 0) 149 84 [some (mx_r (some (1, 11, 0))), some (mx_i x1), some (mx_i x2), some (mx_i x3), some (mx_i s.1), some (mx_i x5), some (mx_i s.2)] [mx_i (I 84 0 ((((3 : Int32) * x5) + s.2).toNatClampNeg)), mx_i s.1] (γ, hM I J, κ) Q
        refine mx_WP.go 1 (pc' := 85) (L' := [some (mx_r (some (1, 11, 0))), some (mx_i x1), some (mx_i x2), some (mx_i x3), some (mx_i s.1), some (mx_i x5), some (mx_i s.2)]) (st' := [mx_i x3, mx_i (I 84 0 ((((3 : Int32) * x5) + s.2).toNatClampNeg)), mx_i s.1]) (σ' := (γ, hM I J, κ)) rfl ?_
        by_cases c311 : (I 84 0 ((((3 : Int32) * x5) + s.2).toNatClampNeg)) = x3
        · rw [if_pos c311] at hf
          refine mx_WP.bne (x := (I 84 0 ((((3 : Int32) * x5) + s.2).toNatClampNeg))) (y := x3) (q := 92) (p3 := 88) rfl (fun hh => absurd c311 hh) (fun _ => ?_)
          refine mx_WP.go 6 (pc' := 42) (L' := [some (mx_r (some (1, 11, 0))), some (mx_i x1), some (mx_i x2), some (mx_i x3), some (mx_i (s.1 ||| (1 : Int32))), some (mx_i x5), some (mx_i (s.2 + 1))]) (st' := []) (σ' := (γ, hM I J, κ)) rfl ?_
          rw [← Option.some.inj hf] at hk
          exact hk
        · rw [if_neg c311] at hf
          refine mx_WP.bne (x := (I 84 0 ((((3 : Int32) * x5) + s.2).toNatClampNeg))) (y := x3) (q := 92) (p3 := 88) rfl (fun _ => ?_) (fun hh => absurd c311 hh)
          refine mx_WP.go 5 (pc' := 42) (L' := [some (mx_r (some (1, 11, 0))), some (mx_i x1), some (mx_i x2), some (mx_i x3), some (mx_i (s.1 ||| (0 : Int32))), some (mx_i x5), some (mx_i (s.2 + 1))]) (st' := []) (σ' := (γ, hM I J, κ)) rfl ?_
          rw [← Option.some.inj hf] at hk
          exact hk
theorem L149_42 {d : Nat} {x1 : Int32} {x2 : Int32} {x3 : Int32} {x5 : Int32} {γ : mx_Rg} {I : Nat → Nat → Nat → Int32} {J : Nat → Nat → Nat → Int64} {κ : (Nat × (Nat → Int32)) × (Nat × Nat)} {Q : Option mx_V → mx_Hp → Prop} {n : Nat} {s : Int32 × Int32} {o : Int32 × Int32} (hf : mx_lp (b149_42 x1 x2 x3 x5 I) n s = some o) (hk : (fun x : Int32 × Int32 => mx_WP (d + 0) 149 102 [some (mx_r (some (1, 11, 0))), some (mx_i x1), some (mx_i x2), some (mx_i x3), some (mx_i x.1), some (mx_i x5), some (mx_i x.2)] [] (γ, hM I J, κ) Q) o) : mx_WP (d + 0) 149 42 [some (mx_r (some (1, 11, 0))), some (mx_i x1), some (mx_i x2), some (mx_i x3), some (mx_i s.1), some (mx_i x5), some (mx_i s.2)] [] (γ, hM I J, κ) Q := mx_lp_ok (P := fun s : Int32 × Int32 => mx_WP (d + 0) 149 42 [some (mx_r (some (1, 11, 0))), some (mx_i x1), some (mx_i x2), some (mx_i x3), some (mx_i s.1), some (mx_i x5), some (mx_i s.2)] [] (γ, hM I J, κ) Q) (E := (fun x : Int32 × Int32 => mx_WP (d + 0) 149 102 [some (mx_r (some (1, 11, 0))), some (mx_i x1), some (mx_i x2), some (mx_i x3), some (mx_i x.1), some (mx_i x5), some (mx_i x.2)] [] (γ, hM I J, κ) Q)) (fun s o hf hk => B149_42 hf hk) n s o hf hk
def b149_32 (x1 : Int32) (x2 : Int32) (x3 : Int32) (I : Nat → Nat → Nat → Int32) (s : Int32 × Int32) : Option ((Int32 × Int32) ⊕ (Int32 × Int32)) :=
  if (8 : Int32) ≤ s.2 then (some (Sum.inr (s.1, s.2))) else (mx_lp (b149_42 x1 x2 x3 s.2 I) mx_fu (s.1, (0 : Int32))).bind fun u312 =>
  some (Sum.inl (u312.1, s.2 + 1))
theorem B149_32 {d : Nat} {x1 : Int32} {x2 : Int32} {x3 : Int32} {γ : mx_Rg} {I : Nat → Nat → Nat → Int32} {J : Nat → Nat → Nat → Int64} {κ : (Nat × (Nat → Int32)) × (Nat × Nat)} {Q : Option mx_V → mx_Hp → Prop} {s : Int32 × Int32} {o : (Int32 × Int32) ⊕ (Int32 × Int32)} (hf : b149_32 x1 x2 x3 I s = some o) (hk : Sum.elim (fun s : Int32 × Int32 => ∀ (z6 : Option mx_V), mx_WP (d + 0) 149 32 [some (mx_r (some (1, 11, 0))), some (mx_i x1), some (mx_i x2), some (mx_i x3), some (mx_i s.1), some (mx_i s.2), z6] [] (γ, hM I J, κ) Q) (fun x : Int32 × Int32 => ∀ (z6 : Option mx_V), mx_WP (d + 0) 149 108 [some (mx_r (some (1, 11, 0))), some (mx_i x1), some (mx_i x2), some (mx_i x3), some (mx_i x.1), some (mx_i x.2), z6] [] (γ, hM I J, κ) Q) o) : ∀ (z6 : Option mx_V), mx_WP (d + 0) 149 32 [some (mx_r (some (1, 11, 0))), some (mx_i x1), some (mx_i x2), some (mx_i x3), some (mx_i s.1), some (mx_i s.2), z6] [] (γ, hM I J, κ) Q := by
  intro z6
  unfold b149_32 at hf
  refine mx_WP.go 2 (pc' := 36) (L' := [some (mx_r (some (1, 11, 0))), some (mx_i x1), some (mx_i x2), some (mx_i x3), some (mx_i s.1), some (mx_i s.2), z6]) (st' := [mx_i (8 : Int32), mx_i s.2]) (σ' := (γ, hM I J, κ)) rfl ?_
  by_cases c204 : (8 : Int32) ≤ s.2
  · rw [if_pos c204] at hf
    refine mx_WP.bge (x := s.2) (y := (8 : Int32)) (q := 108) (p3 := 39) rfl (fun _ => ?_) (fun hh => absurd c204 hh)
    rw [← Option.some.inj hf] at hk
    exact hk (z6)
  · rw [if_neg c204] at hf
    refine mx_WP.bge (x := s.2) (y := (8 : Int32)) (q := 108) (p3 := 39) rfl (fun hh => absurd hh c204) (fun _ => ?_)
    refine mx_WP.go 2 (pc' := 42) (L' := [some (mx_r (some (1, 11, 0))), some (mx_i x1), some (mx_i x2), some (mx_i x3), some (mx_i s.1), some (mx_i s.2), some (mx_i (0 : Int32))]) (st' := []) (σ' := (γ, hM I J, κ)) rfl ?_
    obtain ⟨u312, e313, hf⟩ := Option.bind_eq_some_iff.mp hf
    refine L149_42 (d := d) e313 ?_
    show mx_WP (d + 0) 149 102 [some (mx_r (some (1, 11, 0))), some (mx_i x1), some (mx_i x2), some (mx_i x3), some (mx_i u312.1), some (mx_i s.2), some (mx_i u312.2)] [] (γ, hM I J, κ) Q
    refine mx_WP.go 2 (pc' := 32) (L' := [some (mx_r (some (1, 11, 0))), some (mx_i x1), some (mx_i x2), some (mx_i x3), some (mx_i u312.1), some (mx_i (s.2 + 1)), some (mx_i u312.2)]) (st' := []) (σ' := (γ, hM I J, κ)) rfl ?_
    rw [← Option.some.inj hf] at hk
    exact hk (some (mx_i u312.2))
theorem L149_32 {d : Nat} {x1 : Int32} {x2 : Int32} {x3 : Int32} {γ : mx_Rg} {I : Nat → Nat → Nat → Int32} {J : Nat → Nat → Nat → Int64} {κ : (Nat × (Nat → Int32)) × (Nat × Nat)} {Q : Option mx_V → mx_Hp → Prop} {n : Nat} {s : Int32 × Int32} {o : Int32 × Int32} (hf : mx_lp (b149_32 x1 x2 x3 I) n s = some o) (hk : (fun x : Int32 × Int32 => ∀ (z6 : Option mx_V), mx_WP (d + 0) 149 108 [some (mx_r (some (1, 11, 0))), some (mx_i x1), some (mx_i x2), some (mx_i x3), some (mx_i x.1), some (mx_i x.2), z6] [] (γ, hM I J, κ) Q) o) : ∀ (z6 : Option mx_V), mx_WP (d + 0) 149 32 [some (mx_r (some (1, 11, 0))), some (mx_i x1), some (mx_i x2), some (mx_i x3), some (mx_i s.1), some (mx_i s.2), z6] [] (γ, hM I J, κ) Q := mx_lp_ok (P := fun s : Int32 × Int32 => ∀ (z6 : Option mx_V), mx_WP (d + 0) 149 32 [some (mx_r (some (1, 11, 0))), some (mx_i x1), some (mx_i x2), some (mx_i x3), some (mx_i s.1), some (mx_i s.2), z6] [] (γ, hM I J, κ) Q) (E := (fun x : Int32 × Int32 => ∀ (z6 : Option mx_V), mx_WP (d + 0) 149 108 [some (mx_r (some (1, 11, 0))), some (mx_i x1), some (mx_i x2), some (mx_i x3), some (mx_i x.1), some (mx_i x.2), z6] [] (γ, hM I J, κ) Q)) (fun s o hf hk => B149_32 hf hk) n s o hf hk
def b149_6  (I : Nat → Nat → Nat → Int32) (s : Int32 × Int32 × Int32) : Option ((Int32 × Int32 × Int32) ⊕ (Int32 × Int32 × Int32)) :=
  if (8 : Int32) ≤ s.2.2 then (some (Sum.inr (s.1, s.2.1, s.2.2))) else if s.2.2 < 0 ∨ 8 ≤ s.2.2.toNatClampNeg then none else if (I 94 0 s.2.2.toNatClampNeg) = (0 : Int32) then (some (Sum.inl (s.1, s.2.1, s.2.2 + 1))) else (mx_lp (b149_32 s.2.2 s.2.1 s.2.2 I) mx_fu ((0 : Int32), (0 : Int32))).bind fun u314 =>
  if u314.1 = (0 : Int32) then (some (Sum.inl (s.2.2, s.2.2, s.2.2 + 1))) else some (Sum.inl (s.2.2, s.2.1, s.2.2 + 1))
theorem B149_6 {d : Nat}  {γ : mx_Rg} {I : Nat → Nat → Nat → Int32} {J : Nat → Nat → Nat → Int64} {κ : (Nat × (Nat → Int32)) × (Nat × Nat)} {Q : Option mx_V → mx_Hp → Prop} {s : Int32 × Int32 × Int32} {o : (Int32 × Int32 × Int32) ⊕ (Int32 × Int32 × Int32)} (hf : b149_6 I s = some o) (hk : Sum.elim (fun s : Int32 × Int32 × Int32 => ∀ (z4 z5 z6 : Option mx_V), mx_WP (d + 0) 149 6 [some (mx_r (some (1, 11, 0))), some (mx_i s.1), some (mx_i s.2.1), some (mx_i s.2.2), z4, z5, z6] [] (γ, hM I J, κ) Q) (fun x : Int32 × Int32 × Int32 => ∀ (z4 z5 z6 : Option mx_V), mx_WP (d + 0) 149 121 [some (mx_r (some (1, 11, 0))), some (mx_i x.1), some (mx_i x.2.1), some (mx_i x.2.2), z4, z5, z6] [] (γ, hM I J, κ) Q) o) : ∀ (z4 z5 z6 : Option mx_V), mx_WP (d + 0) 149 6 [some (mx_r (some (1, 11, 0))), some (mx_i s.1), some (mx_i s.2.1), some (mx_i s.2.2), z4, z5, z6] [] (γ, hM I J, κ) Q := by
  intro z4 z5 z6
  unfold b149_6 at hf
  refine mx_WP.go 2 (pc' := 9) (L' := [some (mx_r (some (1, 11, 0))), some (mx_i s.1), some (mx_i s.2.1), some (mx_i s.2.2), z4, z5, z6]) (st' := [mx_i (8 : Int32), mx_i s.2.2]) (σ' := (γ, hM I J, κ)) rfl ?_
  by_cases c101 : (8 : Int32) ≤ s.2.2
  · rw [if_pos c101] at hf
    refine mx_WP.bge (x := s.2.2) (y := (8 : Int32)) (q := 121) (p3 := 12) rfl (fun _ => ?_) (fun hh => absurd c101 hh)
    rw [← Option.some.inj hf] at hk
    exact hk (z4) (z5) (z6)
  · rw [if_neg c101] at hf
    refine mx_WP.bge (x := s.2.2) (y := (8 : Int32)) (q := 121) (p3 := 12) rfl (fun hh => absurd hh c101) (fun _ => ?_)
    refine mx_WP.go 3 (pc' := 17) (L' := [some (mx_r (some (1, 11, 0))), some (mx_i s.1), some (mx_i s.2.1), some (mx_i s.2.2), z4, z5, z6]) (st' := [mx_i s.2.2, mx_r (some (1, 94, 0))]) (σ' := (γ, hM I J, κ)) rfl ?_
    by_cases c102 : s.2.2 < 0 ∨ 8 ≤ s.2.2.toNatClampNeg
    · rw [if_pos c102] at hf
      cases hf
    rw [if_neg c102] at hf
    refine mx_WP.baldx c102 ?_
    show mx_WP (d + 0) 149 18 [some (mx_r (some (1, 11, 0))), some (mx_i s.1), some (mx_i s.2.1), some (mx_i s.2.2), z4, z5, z6] [mx_i (I 94 0 s.2.2.toNatClampNeg)] (γ, hM I J, κ) Q
    by_cases c103 : (I 94 0 s.2.2.toNatClampNeg) = (0 : Int32)
    · rw [if_pos c103] at hf
      refine mx_WP.bne (x := (I 94 0 s.2.2.toNatClampNeg)) (y := (0 : Int32)) (q := 24) (p3 := 21) rfl (fun hh => absurd c103 hh) (fun _ => ?_)
      refine mx_WP.go 3 (pc' := 6) (L' := [some (mx_r (some (1, 11, 0))), some (mx_i s.1), some (mx_i s.2.1), some (mx_i (s.2.2 + 1)), z4, z5, z6]) (st' := []) (σ' := (γ, hM I J, κ)) rfl ?_
      rw [← Option.some.inj hf] at hk
      exact hk (z4) (z5) (z6)
    · rw [if_neg c103] at hf
      refine mx_WP.bne (x := (I 94 0 s.2.2.toNatClampNeg)) (y := (0 : Int32)) (q := 24) (p3 := 21) rfl (fun _ => ?_) (fun hh => absurd c103 hh)
      refine mx_WP.go 6 (pc' := 32) (L' := [some (mx_r (some (1, 11, 0))), some (mx_i s.2.2), some (mx_i s.2.1), some (mx_i s.2.2), some (mx_i (0 : Int32)), some (mx_i (0 : Int32)), z6]) (st' := []) (σ' := (γ, hM I J, κ)) rfl ?_
      obtain ⟨u314, e315, hf⟩ := Option.bind_eq_some_iff.mp hf
      refine (L149_32 (d := d) e315 ?_) (z6)
      intro z6
      show mx_WP (d + 0) 149 108 [some (mx_r (some (1, 11, 0))), some (mx_i s.2.2), some (mx_i s.2.1), some (mx_i s.2.2), some (mx_i u314.1), some (mx_i u314.2), z6] [] (γ, hM I J, κ) Q
      refine mx_WP.go 1 (pc' := 110) (L' := [some (mx_r (some (1, 11, 0))), some (mx_i s.2.2), some (mx_i s.2.1), some (mx_i s.2.2), some (mx_i u314.1), some (mx_i u314.2), z6]) (st' := [mx_i u314.1]) (σ' := (γ, hM I J, κ)) rfl ?_
      by_cases c316 : u314.1 = (0 : Int32)
      · rw [if_pos c316] at hf
        refine mx_WP.bne (x := u314.1) (y := (0 : Int32)) (q := 115) (p3 := 113) rfl (fun hh => absurd c316 hh) (fun _ => ?_)
        refine mx_WP.go 4 (pc' := 6) (L' := [some (mx_r (some (1, 11, 0))), some (mx_i s.2.2), some (mx_i s.2.2), some (mx_i (s.2.2 + 1)), some (mx_i u314.1), some (mx_i u314.2), z6]) (st' := []) (σ' := (γ, hM I J, κ)) rfl ?_
        rw [← Option.some.inj hf] at hk
        exact hk (some (mx_i u314.1)) (some (mx_i u314.2)) (z6)
      · rw [if_neg c316] at hf
        refine mx_WP.bne (x := u314.1) (y := (0 : Int32)) (q := 115) (p3 := 113) rfl (fun _ => ?_) (fun hh => absurd c316 hh)
        refine mx_WP.go 2 (pc' := 6) (L' := [some (mx_r (some (1, 11, 0))), some (mx_i s.2.2), some (mx_i s.2.1), some (mx_i (s.2.2 + 1)), some (mx_i u314.1), some (mx_i u314.2), z6]) (st' := []) (σ' := (γ, hM I J, κ)) rfl ?_
        rw [← Option.some.inj hf] at hk
        exact hk (some (mx_i u314.1)) (some (mx_i u314.2)) (z6)
theorem L149_6 {d : Nat}  {γ : mx_Rg} {I : Nat → Nat → Nat → Int32} {J : Nat → Nat → Nat → Int64} {κ : (Nat × (Nat → Int32)) × (Nat × Nat)} {Q : Option mx_V → mx_Hp → Prop} {n : Nat} {s : Int32 × Int32 × Int32} {o : Int32 × Int32 × Int32} (hf : mx_lp (b149_6 I) n s = some o) (hk : (fun x : Int32 × Int32 × Int32 => ∀ (z4 z5 z6 : Option mx_V), mx_WP (d + 0) 149 121 [some (mx_r (some (1, 11, 0))), some (mx_i x.1), some (mx_i x.2.1), some (mx_i x.2.2), z4, z5, z6] [] (γ, hM I J, κ) Q) o) : ∀ (z4 z5 z6 : Option mx_V), mx_WP (d + 0) 149 6 [some (mx_r (some (1, 11, 0))), some (mx_i s.1), some (mx_i s.2.1), some (mx_i s.2.2), z4, z5, z6] [] (γ, hM I J, κ) Q := mx_lp_ok (P := fun s : Int32 × Int32 × Int32 => ∀ (z4 z5 z6 : Option mx_V), mx_WP (d + 0) 149 6 [some (mx_r (some (1, 11, 0))), some (mx_i s.1), some (mx_i s.2.1), some (mx_i s.2.2), z4, z5, z6] [] (γ, hM I J, κ) Q) (E := (fun x : Int32 × Int32 × Int32 => ∀ (z4 z5 z6 : Option mx_V), mx_WP (d + 0) 149 121 [some (mx_r (some (1, 11, 0))), some (mx_i x.1), some (mx_i x.2.1), some (mx_i x.2.2), z4, z5, z6] [] (γ, hM I J, κ) Q)) (fun s o hf hk => B149_6 hf hk) n s o hf hk
def f149 (I : Nat → Nat → Nat → Int32) : Option (Int32) :=
  (mx_lp (b149_6 I) mx_fu ((-1 : Int32), (-1 : Int32), (0 : Int32))).bind fun u317 =>
  if u317.2.1 < (0 : Int32) then (some u317.1) else some u317.2.1
theorem T149 {d : Nat} {γ : mx_Rg} {I : Nat → Nat → Nat → Int32} {J : Nat → Nat → Nat → Int64} {κ : (Nat × (Nat → Int32)) × (Nat × Nat)} {Q : Option mx_V → mx_Hp → Prop} {o : Int32} (hf : f149 I = some o) (hk : Q (some (mx_i o)) (γ, hM I J, κ)) : mx_WP (d + 0) 149 0 (mx_ent 149 [mx_r (some (1, 11, 0))]) [] (γ, hM I J, κ) Q := by
  unfold f149 at hf
  refine mx_WP.go 6 (pc' := 6) (L' := [some (mx_r (some (1, 11, 0))), some (mx_i (-1 : Int32)), some (mx_i (-1 : Int32)), some (mx_i (0 : Int32)), none, none, none]) (st' := []) (σ' := (γ, hM I J, κ)) rfl ?_
  obtain ⟨u317, e318, hf⟩ := Option.bind_eq_some_iff.mp hf
  refine (L149_6 (d := d) e318 ?_) (none) (none) (none)
  intro z4 z5 z6
  show mx_WP (d + 0) 149 121 [some (mx_r (some (1, 11, 0))), some (mx_i u317.1), some (mx_i u317.2.1), some (mx_i u317.2.2), z4, z5, z6] [] (γ, hM I J, κ) Q
  refine mx_WP.go 1 (pc' := 122) (L' := [some (mx_r (some (1, 11, 0))), some (mx_i u317.1), some (mx_i u317.2.1), some (mx_i u317.2.2), z4, z5, z6]) (st' := [mx_i u317.2.1]) (σ' := (γ, hM I J, κ)) rfl ?_
  by_cases c319 : u317.2.1 < (0 : Int32)
  · rw [if_pos c319] at hf
    refine mx_WP.blt (x := u317.2.1) (y := (0 : Int32)) (q := 129) (p3 := 125) rfl (fun _ => ?_) (fun hh => absurd c319 hh)
    refine mx_WP.go 1 (pc' := 130) (L' := [some (mx_r (some (1, 11, 0))), some (mx_i u317.1), some (mx_i u317.2.1), some (mx_i u317.2.2), z4, z5, z6]) (st' := [mx_i u317.1]) (σ' := (γ, hM I J, κ)) rfl ?_
    rw [← Option.some.inj hf] at hk
    refine mx_WP.ret (v := some (mx_i u317.1)) rfl ?_
    exact hk
  · rw [if_neg c319] at hf
    refine mx_WP.blt (x := u317.2.1) (y := (0 : Int32)) (q := 129) (p3 := 125) rfl (fun hh => absurd hh c319) (fun _ => ?_)
    refine mx_WP.go 2 (pc' := 130) (L' := [some (mx_r (some (1, 11, 0))), some (mx_i u317.1), some (mx_i u317.2.1), some (mx_i u317.2.2), z4, z5, z6]) (st' := [mx_i u317.2.1]) (σ' := (γ, hM I J, κ)) rfl ?_
    rw [← Option.some.inj hf] at hk
    refine mx_WP.ret (v := some (mx_i u317.2.1)) rfl ?_
    exact hk
def b148_7  (I : Nat → Nat → Nat → Int32) (s : Int32 × Int32 × (Nat → Nat → Nat → Int32)) : Option ((Int32 × Int32 × (Nat → Nat → Nat → Int32)) ⊕ (Int32 × Int32 × (Nat → Nat → Nat → Int32))) :=
  if s.2.1 < (0 : Int32) then (some (Sum.inr (s.1, s.2.1, s.2.2))) else (f147 s.2.1 s.2.2).bind fun u103 =>
  (f149 u103).bind fun u104 =>
  some (Sum.inl (s.1 + 1, u104, u103))
theorem B148_7 {d : Nat}  {γ : mx_Rg} {I : Nat → Nat → Nat → Int32} {J : Nat → Nat → Nat → Int64} {κ : (Nat × (Nat → Int32)) × (Nat × Nat)} {Q : Option mx_V → mx_Hp → Prop} {s : Int32 × Int32 × (Nat → Nat → Nat → Int32)} {o : (Int32 × Int32 × (Nat → Nat → Nat → Int32)) ⊕ (Int32 × Int32 × (Nat → Nat → Nat → Int32))} (hf : b148_7 I s = some o) (hk : Sum.elim (fun s : Int32 × Int32 × (Nat → Nat → Nat → Int32) => mx_WP (d + 1) 148 7 [some (mx_r (some (1, 11, 0))), some (mx_i s.1), some (mx_i s.2.1)] [] (γ, hM s.2.2 J, κ) Q) (fun x : Int32 × Int32 × (Nat → Nat → Nat → Int32) => mx_WP (d + 1) 148 27 [some (mx_r (some (1, 11, 0))), some (mx_i x.1), some (mx_i x.2.1)] [] (γ, hM x.2.2 J, κ) Q) o) : mx_WP (d + 1) 148 7 [some (mx_r (some (1, 11, 0))), some (mx_i s.1), some (mx_i s.2.1)] [] (γ, hM s.2.2 J, κ) Q := by
  unfold b148_7 at hf
  refine mx_WP.go 1 (pc' := 8) (L' := [some (mx_r (some (1, 11, 0))), some (mx_i s.1), some (mx_i s.2.1)]) (st' := [mx_i s.2.1]) (σ' := (γ, hM s.2.2 J, κ)) rfl ?_
  by_cases c102 : s.2.1 < (0 : Int32)
  · rw [if_pos c102] at hf
    refine mx_WP.blt (x := s.2.1) (y := (0 : Int32)) (q := 27) (p3 := 11) rfl (fun _ => ?_) (fun hh => absurd c102 hh)
    rw [← Option.some.inj hf] at hk
    exact hk
  · rw [if_neg c102] at hf
    refine mx_WP.blt (x := s.2.1) (y := (0 : Int32)) (q := 27) (p3 := 11) rfl (fun hh => absurd hh c102) (fun _ => ?_)
    refine mx_WP.go 2 (pc' := 13) (L' := [some (mx_r (some (1, 11, 0))), some (mx_i s.1), some (mx_i s.2.1)]) (st' := [mx_i s.2.1, mx_r (some (1, 11, 0))]) (σ' := (γ, hM s.2.2 J, κ)) rfl ?_
    obtain ⟨u103, e106, hf⟩ := Option.bind_eq_some_iff.mp hf
    refine mx_WP.call (d := d + 0) (y := 147) (as := [mx_r (some (1, 11, 0)), mx_i s.2.1]) (pc' := 16) (r := []) rfl rfl (T147 (d := d + 0)  e106 ?_)
    show mx_WP (d + 1) 148 16 [some (mx_r (some (1, 11, 0))), some (mx_i s.1), some (mx_i s.2.1)] [] (γ, hM u103 J, κ) Q
    refine mx_WP.go 2 (pc' := 20) (L' := [some (mx_r (some (1, 11, 0))), some (mx_i (s.1 + 1)), some (mx_i s.2.1)]) (st' := [mx_r (some (1, 11, 0))]) (σ' := (γ, hM u103 J, κ)) rfl ?_
    obtain ⟨u104, e105, hf⟩ := Option.bind_eq_some_iff.mp hf
    refine mx_WP.call (d := d + 0) (y := 149) (as := [mx_r (some (1, 11, 0))]) (pc' := 23) (r := []) rfl rfl (T149 (d := d + 0)  e105 ?_)
    show mx_WP (d + 1) 148 23 [some (mx_r (some (1, 11, 0))), some (mx_i (s.1 + 1)), some (mx_i s.2.1)] [mx_i u104] (γ, hM u103 J, κ) Q
    refine mx_WP.go 2 (pc' := 7) (L' := [some (mx_r (some (1, 11, 0))), some (mx_i (s.1 + 1)), some (mx_i u104)]) (st' := []) (σ' := (γ, hM u103 J, κ)) rfl ?_
    rw [← Option.some.inj hf] at hk
    exact hk
theorem L148_7 {d : Nat}  {γ : mx_Rg} {I : Nat → Nat → Nat → Int32} {J : Nat → Nat → Nat → Int64} {κ : (Nat × (Nat → Int32)) × (Nat × Nat)} {Q : Option mx_V → mx_Hp → Prop} {n : Nat} {s : Int32 × Int32 × (Nat → Nat → Nat → Int32)} {o : Int32 × Int32 × (Nat → Nat → Nat → Int32)} (hf : mx_lp (b148_7 I) n s = some o) (hk : (fun x : Int32 × Int32 × (Nat → Nat → Nat → Int32) => mx_WP (d + 1) 148 27 [some (mx_r (some (1, 11, 0))), some (mx_i x.1), some (mx_i x.2.1)] [] (γ, hM x.2.2 J, κ) Q) o) : mx_WP (d + 1) 148 7 [some (mx_r (some (1, 11, 0))), some (mx_i s.1), some (mx_i s.2.1)] [] (γ, hM s.2.2 J, κ) Q := mx_lp_ok (P := fun s : Int32 × Int32 × (Nat → Nat → Nat → Int32) => mx_WP (d + 1) 148 7 [some (mx_r (some (1, 11, 0))), some (mx_i s.1), some (mx_i s.2.1)] [] (γ, hM s.2.2 J, κ) Q) (E := (fun x : Int32 × Int32 × (Nat → Nat → Nat → Int32) => mx_WP (d + 1) 148 27 [some (mx_r (some (1, 11, 0))), some (mx_i x.1), some (mx_i x.2.1)] [] (γ, hM x.2.2 J, κ) Q)) (fun s o hf hk => B148_7 hf hk) n s o hf hk
def f148 (I : Nat → Nat → Nat → Int32) : Option (Int32 × (Nat → Nat → Nat → Int32)) :=
  (f149 I).bind fun u1 =>
  (mx_lp (b148_7 I) mx_fu ((0 : Int32), u1, I)).bind fun u107 =>
  some (u107.1, u107.2.2)
theorem T148 {d : Nat} {γ : mx_Rg} {I : Nat → Nat → Nat → Int32} {J : Nat → Nat → Nat → Int64} {κ : (Nat × (Nat → Int32)) × (Nat × Nat)} {Q : Option mx_V → mx_Hp → Prop} {o : Int32 × (Nat → Nat → Nat → Int32)} (hf : f148 I = some o) (hk : Q (some (mx_i o.1)) (γ, hM o.2 J, κ)) : mx_WP (d + 1) 148 0 (mx_ent 148 [mx_r (some (1, 11, 0))]) [] (γ, hM I J, κ) Q := by
  unfold f148 at hf
  refine mx_WP.go 3 (pc' := 3) (L' := [some (mx_r (some (1, 11, 0))), some (mx_i (0 : Int32)), none]) (st' := [mx_r (some (1, 11, 0))]) (σ' := (γ, hM I J, κ)) rfl ?_
  obtain ⟨u1, e109, hf⟩ := Option.bind_eq_some_iff.mp hf
  refine mx_WP.call (d := d + 0) (y := 149) (as := [mx_r (some (1, 11, 0))]) (pc' := 6) (r := []) rfl rfl (T149 (d := d + 0)  e109 ?_)
  show mx_WP (d + 1) 148 6 [some (mx_r (some (1, 11, 0))), some (mx_i (0 : Int32)), none] [mx_i u1] (γ, hM I J, κ) Q
  refine mx_WP.go 1 (pc' := 7) (L' := [some (mx_r (some (1, 11, 0))), some (mx_i (0 : Int32)), some (mx_i u1)]) (st' := []) (σ' := (γ, hM I J, κ)) rfl ?_
  obtain ⟨u107, e108, hf⟩ := Option.bind_eq_some_iff.mp hf
  refine L148_7 (d := d) e108 ?_
  show mx_WP (d + 1) 148 27 [some (mx_r (some (1, 11, 0))), some (mx_i u107.1), some (mx_i u107.2.1)] [] (γ, hM u107.2.2 J, κ) Q
  refine mx_WP.go 1 (pc' := 28) (L' := [some (mx_r (some (1, 11, 0))), some (mx_i u107.1), some (mx_i u107.2.1)]) (st' := [mx_i u107.1]) (σ' := (γ, hM u107.2.2 J, κ)) rfl ?_
  rw [← Option.some.inj hf] at hk
  refine mx_WP.ret (v := some (mx_i u107.1)) rfl ?_
  exact hk
def b152_45 (x1 : Int32) (x2 : Int64) (x4 : Int32) (x5 : Int32) (I : Nat → Nat → Nat → Int32) (J : Nat → Nat → Nat → Int64) (s : Int32) : Option ((Int32) ⊕ ((Int32) ⊕ (Int32))) :=
  if x5 < 0 ∨ 9 ≤ x5.toNatClampNeg then none else if (I 87 0 x5.toNatClampNeg) ≤ s then (some (Sum.inr (Sum.inl s))) else if x5 < 0 ∨ 8 ≤ x5.toNatClampNeg then none else if (I 92 0 x5.toNatClampNeg) = (0 : Int32) then (some (Sum.inr (Sum.inl s))) else if (((4 : Int32) * x5) + s) < 0 ∨ 36 ≤ (((4 : Int32) * x5) + s).toNatClampNeg then none else if (lg_cmp (J 90 0 ((((4 : Int32) * x5) + s).toNatClampNeg)) x2) = (0 : Int32) then (some (Sum.inr (Sum.inr (((4 : Int32) * x5) + s)))) else some (Sum.inl (s + 1))
theorem B152_45 {d : Nat} {x1 : Int32} {x2 : Int64} {x4 : Int32} {x5 : Int32} {γ : mx_Rg} {I : Nat → Nat → Nat → Int32} {J : Nat → Nat → Nat → Int64} {κ : (Nat × (Nat → Int32)) × (Nat × Nat)} {Q : Option mx_V → mx_Hp → Prop} {s : Int32} {o : (Int32) ⊕ ((Int32) ⊕ (Int32))} (hf : b152_45 x1 x2 x4 x5 I J s = some o) (hk : Sum.elim (fun s : Int32 => mx_WP (d + 0) 152 45 [some (mx_r (some (1, 11, 0))), some (mx_i x1), some (mx_l x2), none, some (mx_i x4), some (mx_i x5), some (mx_i s)] [] (γ, hM I J, κ) Q) (Sum.elim (fun x : Int32 => mx_WP (d + 0) 152 98 [some (mx_r (some (1, 11, 0))), some (mx_i x1), some (mx_l x2), none, some (mx_i x4), some (mx_i x5), some (mx_i x)] [] (γ, hM I J, κ) Q) (fun x : Int32 => Q (some (mx_i x)) (γ, hM I J, κ))) o) : mx_WP (d + 0) 152 45 [some (mx_r (some (1, 11, 0))), some (mx_i x1), some (mx_l x2), none, some (mx_i x4), some (mx_i x5), some (mx_i s)] [] (γ, hM I J, κ) Q := by
  unfold b152_45 at hf
  refine mx_WP.go 4 (pc' := 53) (L' := [some (mx_r (some (1, 11, 0))), some (mx_i x1), some (mx_l x2), none, some (mx_i x4), some (mx_i x5), some (mx_i s)]) (st' := [mx_i x5, mx_r (some (1, 87, 0)), mx_i s]) (σ' := (γ, hM I J, κ)) rfl ?_
  by_cases c1205 : x5 < 0 ∨ 9 ≤ x5.toNatClampNeg
  · rw [if_pos c1205] at hf
    cases hf
  rw [if_neg c1205] at hf
  refine mx_WP.ialdx c1205 ?_
  show mx_WP (d + 0) 152 54 [some (mx_r (some (1, 11, 0))), some (mx_i x1), some (mx_l x2), none, some (mx_i x4), some (mx_i x5), some (mx_i s)] [mx_i (I 87 0 x5.toNatClampNeg), mx_i s] (γ, hM I J, κ) Q
  by_cases c1206 : (I 87 0 x5.toNatClampNeg) ≤ s
  · rw [if_pos c1206] at hf
    refine mx_WP.bge (x := s) (y := (I 87 0 x5.toNatClampNeg)) (q := 98) (p3 := 57) rfl (fun _ => ?_) (fun hh => absurd c1206 hh)
    rw [← Option.some.inj hf] at hk
    exact hk
  · rw [if_neg c1206] at hf
    refine mx_WP.bge (x := s) (y := (I 87 0 x5.toNatClampNeg)) (q := 98) (p3 := 57) rfl (fun hh => absurd hh c1206) (fun _ => ?_)
    refine mx_WP.go 3 (pc' := 63) (L' := [some (mx_r (some (1, 11, 0))), some (mx_i x1), some (mx_l x2), none, some (mx_i x4), some (mx_i x5), some (mx_i s)]) (st' := [mx_i x5, mx_r (some (1, 92, 0))]) (σ' := (γ, hM I J, κ)) rfl ?_
    by_cases c1207 : x5 < 0 ∨ 8 ≤ x5.toNatClampNeg
    · rw [if_pos c1207] at hf
      cases hf
    rw [if_neg c1207] at hf
    refine mx_WP.baldx c1207 ?_
    show mx_WP (d + 0) 152 64 [some (mx_r (some (1, 11, 0))), some (mx_i x1), some (mx_l x2), none, some (mx_i x4), some (mx_i x5), some (mx_i s)] [mx_i (I 92 0 x5.toNatClampNeg)] (γ, hM I J, κ) Q
    by_cases c1208 : (I 92 0 x5.toNatClampNeg) = (0 : Int32)
    · rw [if_pos c1208] at hf
      refine mx_WP.beq (x := (I 92 0 x5.toNatClampNeg)) (y := (0 : Int32)) (q := 98) (p3 := 67) rfl (fun _ => ?_) (fun hh => absurd c1208 hh)
      rw [← Option.some.inj hf] at hk
      exact hk
    · rw [if_neg c1208] at hf
      refine mx_WP.beq (x := (I 92 0 x5.toNatClampNeg)) (y := (0 : Int32)) (q := 98) (p3 := 67) rfl (fun hh => absurd hh c1208) (fun _ => ?_)
      refine mx_WP.go 7 (pc' := 78) (L' := [some (mx_r (some (1, 11, 0))), some (mx_i x1), some (mx_l x2), none, some (mx_i x4), some (mx_i x5), some (mx_i s)]) (st' := [mx_i (((4 : Int32) * x5) + s), mx_r (some (1, 90, 0))]) (σ' := (γ, hM I J, κ)) rfl ?_
      by_cases c1209 : (((4 : Int32) * x5) + s) < 0 ∨ 36 ≤ (((4 : Int32) * x5) + s).toNatClampNeg
      · rw [if_pos c1209] at hf
        cases hf
      rw [if_neg c1209] at hf
      refine mx_WP.laldx c1209 ?_
      show mx_WP (d + 0) 152 79 [some (mx_r (some (1, 11, 0))), some (mx_i x1), some (mx_l x2), none, some (mx_i x4), some (mx_i x5), some (mx_i s)] [mx_l (J 90 0 ((((4 : Int32) * x5) + s).toNatClampNeg))] (γ, hM I J, κ) Q
      refine mx_WP.go 2 (pc' := 81) (L' := [some (mx_r (some (1, 11, 0))), some (mx_i x1), some (mx_l x2), none, some (mx_i x4), some (mx_i x5), some (mx_i s)]) (st' := [mx_i (lg_cmp (J 90 0 ((((4 : Int32) * x5) + s).toNatClampNeg)) x2)]) (σ' := (γ, hM I J, κ)) rfl ?_
      by_cases c1210 : (lg_cmp (J 90 0 ((((4 : Int32) * x5) + s).toNatClampNeg)) x2) = (0 : Int32)
      · rw [if_pos c1210] at hf
        refine mx_WP.bne (x := (lg_cmp (J 90 0 ((((4 : Int32) * x5) + s).toNatClampNeg)) x2)) (y := (0 : Int32)) (q := 92) (p3 := 84) rfl (fun hh => absurd c1210 hh) (fun _ => ?_)
        refine mx_WP.go 5 (pc' := 91) (L' := [some (mx_r (some (1, 11, 0))), some (mx_i x1), some (mx_l x2), none, some (mx_i x4), some (mx_i x5), some (mx_i s)]) (st' := [mx_i (((4 : Int32) * x5) + s)]) (σ' := (γ, hM I J, κ)) rfl ?_
        rw [← Option.some.inj hf] at hk
        refine mx_WP.ret (v := some (mx_i (((4 : Int32) * x5) + s))) rfl ?_
        exact hk
      · rw [if_neg c1210] at hf
        refine mx_WP.bne (x := (lg_cmp (J 90 0 ((((4 : Int32) * x5) + s).toNatClampNeg)) x2)) (y := (0 : Int32)) (q := 92) (p3 := 84) rfl (fun _ => ?_) (fun hh => absurd c1210 hh)
        refine mx_WP.go 2 (pc' := 45) (L' := [some (mx_r (some (1, 11, 0))), some (mx_i x1), some (mx_l x2), none, some (mx_i x4), some (mx_i x5), some (mx_i (s + 1))]) (st' := []) (σ' := (γ, hM I J, κ)) rfl ?_
        rw [← Option.some.inj hf] at hk
        exact hk
theorem L152_45 {d : Nat} {x1 : Int32} {x2 : Int64} {x4 : Int32} {x5 : Int32} {γ : mx_Rg} {I : Nat → Nat → Nat → Int32} {J : Nat → Nat → Nat → Int64} {κ : (Nat × (Nat → Int32)) × (Nat × Nat)} {Q : Option mx_V → mx_Hp → Prop} {n : Nat} {s : Int32} {o : (Int32) ⊕ (Int32)} (hf : mx_lp (b152_45 x1 x2 x4 x5 I J) n s = some o) (hk : (Sum.elim (fun x : Int32 => mx_WP (d + 0) 152 98 [some (mx_r (some (1, 11, 0))), some (mx_i x1), some (mx_l x2), none, some (mx_i x4), some (mx_i x5), some (mx_i x)] [] (γ, hM I J, κ) Q) (fun x : Int32 => Q (some (mx_i x)) (γ, hM I J, κ))) o) : mx_WP (d + 0) 152 45 [some (mx_r (some (1, 11, 0))), some (mx_i x1), some (mx_l x2), none, some (mx_i x4), some (mx_i x5), some (mx_i s)] [] (γ, hM I J, κ) Q := mx_lp_ok (P := fun s : Int32 => mx_WP (d + 0) 152 45 [some (mx_r (some (1, 11, 0))), some (mx_i x1), some (mx_l x2), none, some (mx_i x4), some (mx_i x5), some (mx_i s)] [] (γ, hM I J, κ) Q) (E := (Sum.elim (fun x : Int32 => mx_WP (d + 0) 152 98 [some (mx_r (some (1, 11, 0))), some (mx_i x1), some (mx_l x2), none, some (mx_i x4), some (mx_i x5), some (mx_i x)] [] (γ, hM I J, κ) Q) (fun x : Int32 => Q (some (mx_i x)) (γ, hM I J, κ)))) (fun s o hf hk => B152_45 hf hk) n s o hf hk
def j152_40 (v1 : Int32) (v2 : Int64) (v4 : Int32) (t0 : Int32) (I : Nat → Nat → Nat → Int32) (J : Nat → Nat → Nat → Int64) : Option ((Int32) ⊕ ((Int32) ⊕ (Int32))) :=
  (mx_lp (b152_45 v1 v2 v4 t0 I J) mx_fu (0 : Int32)).bind fun u1211 => Sum.elim (fun w1213 =>
  some (Sum.inl (v4 + 1))) (fun y1214 => some (Sum.inr (Sum.inr y1214))) u1211
theorem J152_40 {d : Nat} {v1 : Int32} {v2 : Int64} {v4 : Int32} {t0 : Int32} {z5 : Option mx_V} {z6 : Option mx_V} {γ : mx_Rg} {I : Nat → Nat → Nat → Int32} {J : Nat → Nat → Nat → Int64} {κ : (Nat × (Nat → Int32)) × (Nat × Nat)} {Q : Option mx_V → mx_Hp → Prop} {o : (Int32) ⊕ ((Int32) ⊕ (Int32))} (hf : j152_40 v1 v2 v4 t0 I J = some o) (hk : Sum.elim (fun s : Int32 => ∀ (z5 z6 : Option mx_V), mx_WP (d + 0) 152 3 [some (mx_r (some (1, 11, 0))), some (mx_i v1), some (mx_l v2), none, some (mx_i s), z5, z6] [] (γ, hM I J, κ) Q) (Sum.elim (fun x : Int32 => ∀ (z5 z6 : Option mx_V), mx_WP (d + 0) 152 104 [some (mx_r (some (1, 11, 0))), some (mx_i v1), some (mx_l v2), none, some (mx_i x), z5, z6] [] (γ, hM I J, κ) Q) (fun x : Int32 => Q (some (mx_i x)) (γ, hM I J, κ))) o) : mx_WP (d + 0) 152 40 [some (mx_r (some (1, 11, 0))), some (mx_i v1), some (mx_l v2), none, some (mx_i v4), z5, z6] [mx_i t0] (γ, hM I J, κ) Q := by
  unfold j152_40 at hf
  refine mx_WP.go 3 (pc' := 45) (L' := [some (mx_r (some (1, 11, 0))), some (mx_i v1), some (mx_l v2), none, some (mx_i v4), some (mx_i t0), some (mx_i (0 : Int32))]) (st' := []) (σ' := (γ, hM I J, κ)) rfl ?_
  obtain ⟨u1211, e1212, hf⟩ := Option.bind_eq_some_iff.mp hf
  cases u1211 with
  | inr y1214 =>
    rw [Sum.elim_inr] at hf
    rw [← Option.some.inj hf] at hk
    exact (L152_45 (d := d) e1212 hk)
  | inl w1213 =>
    rw [Sum.elim_inl] at hf
    refine (L152_45 (d := d) e1212 ?_)
    show mx_WP (d + 0) 152 98 [some (mx_r (some (1, 11, 0))), some (mx_i v1), some (mx_l v2), none, some (mx_i v4), some (mx_i t0), some (mx_i w1213)] [] (γ, hM I J, κ) Q
    refine mx_WP.go 2 (pc' := 3) (L' := [some (mx_r (some (1, 11, 0))), some (mx_i v1), some (mx_l v2), none, some (mx_i (v4 + 1)), some (mx_i t0), some (mx_i w1213)]) (st' := []) (σ' := (γ, hM I J, κ)) rfl ?_
    rw [← Option.some.inj hf] at hk
    exact hk (some (mx_i t0)) (some (mx_i w1213))
def b152_3 (x1 : Int32) (x2 : Int64) (I : Nat → Nat → Nat → Int32) (J : Nat → Nat → Nat → Int64) (s : Int32) : Option ((Int32) ⊕ ((Int32) ⊕ (Int32))) :=
  if x1 < 0 ∨ 9 ≤ x1.toNatClampNeg then none else if (I 83 0 x1.toNatClampNeg) < s then (some (Sum.inr (Sum.inl s))) else if x1 < 0 ∨ 9 ≤ x1.toNatClampNeg then none else if (I 83 0 x1.toNatClampNeg) ≤ s then (j152_40 x1 x2 s x1 I J) else if (((3 : Int32) * x1) + s) < 0 ∨ 27 ≤ (((3 : Int32) * x1) + s).toNatClampNeg then none else j152_40 x1 x2 s (I 84 0 ((((3 : Int32) * x1) + s).toNatClampNeg)) I J
theorem B152_3 {d : Nat} {x1 : Int32} {x2 : Int64} {γ : mx_Rg} {I : Nat → Nat → Nat → Int32} {J : Nat → Nat → Nat → Int64} {κ : (Nat × (Nat → Int32)) × (Nat × Nat)} {Q : Option mx_V → mx_Hp → Prop} {s : Int32} {o : (Int32) ⊕ ((Int32) ⊕ (Int32))} (hf : b152_3 x1 x2 I J s = some o) (hk : Sum.elim (fun s : Int32 => ∀ (z5 z6 : Option mx_V), mx_WP (d + 0) 152 3 [some (mx_r (some (1, 11, 0))), some (mx_i x1), some (mx_l x2), none, some (mx_i s), z5, z6] [] (γ, hM I J, κ) Q) (Sum.elim (fun x : Int32 => ∀ (z5 z6 : Option mx_V), mx_WP (d + 0) 152 104 [some (mx_r (some (1, 11, 0))), some (mx_i x1), some (mx_l x2), none, some (mx_i x), z5, z6] [] (γ, hM I J, κ) Q) (fun x : Int32 => Q (some (mx_i x)) (γ, hM I J, κ))) o) : ∀ (z5 z6 : Option mx_V), mx_WP (d + 0) 152 3 [some (mx_r (some (1, 11, 0))), some (mx_i x1), some (mx_l x2), none, some (mx_i s), z5, z6] [] (γ, hM I J, κ) Q := by
  intro z5 z6
  unfold b152_3 at hf
  refine mx_WP.go 4 (pc' := 10) (L' := [some (mx_r (some (1, 11, 0))), some (mx_i x1), some (mx_l x2), none, some (mx_i s), z5, z6]) (st' := [mx_i x1, mx_r (some (1, 83, 0)), mx_i s]) (σ' := (γ, hM I J, κ)) rfl ?_
  by_cases c101 : x1 < 0 ∨ 9 ≤ x1.toNatClampNeg
  · rw [if_pos c101] at hf
    cases hf
  rw [if_neg c101] at hf
  refine mx_WP.ialdx c101 ?_
  show mx_WP (d + 0) 152 11 [some (mx_r (some (1, 11, 0))), some (mx_i x1), some (mx_l x2), none, some (mx_i s), z5, z6] [mx_i (I 83 0 x1.toNatClampNeg), mx_i s] (γ, hM I J, κ) Q
  by_cases c102 : (I 83 0 x1.toNatClampNeg) < s
  · rw [if_pos c102] at hf
    refine mx_WP.bgt (x := s) (y := (I 83 0 x1.toNatClampNeg)) (q := 104) (p3 := 14) rfl (fun _ => ?_) (fun hh => absurd c102 hh)
    rw [← Option.some.inj hf] at hk
    exact hk (z5) (z6)
  · rw [if_neg c102] at hf
    refine mx_WP.bgt (x := s) (y := (I 83 0 x1.toNatClampNeg)) (q := 104) (p3 := 14) rfl (fun hh => absurd hh c102) (fun _ => ?_)
    refine mx_WP.go 4 (pc' := 21) (L' := [some (mx_r (some (1, 11, 0))), some (mx_i x1), some (mx_l x2), none, some (mx_i s), z5, z6]) (st' := [mx_i x1, mx_r (some (1, 83, 0)), mx_i s]) (σ' := (γ, hM I J, κ)) rfl ?_
    by_cases c103 : x1 < 0 ∨ 9 ≤ x1.toNatClampNeg
    · rw [if_pos c103] at hf
      cases hf
    rw [if_neg c103] at hf
    refine mx_WP.ialdx c103 ?_
    show mx_WP (d + 0) 152 22 [some (mx_r (some (1, 11, 0))), some (mx_i x1), some (mx_l x2), none, some (mx_i s), z5, z6] [mx_i (I 83 0 x1.toNatClampNeg), mx_i s] (γ, hM I J, κ) Q
    by_cases c104 : (I 83 0 x1.toNatClampNeg) ≤ s
    · rw [if_pos c104] at hf
      refine mx_WP.bge (x := s) (y := (I 83 0 x1.toNatClampNeg)) (q := 39) (p3 := 25) rfl (fun _ => ?_) (fun hh => absurd c104 hh)
      refine mx_WP.go 1 (pc' := 40) (L' := [some (mx_r (some (1, 11, 0))), some (mx_i x1), some (mx_l x2), none, some (mx_i s), z5, z6]) (st' := [mx_i x1]) (σ' := (γ, hM I J, κ)) rfl ?_
      exact J152_40 (d := d) hf hk
    · rw [if_neg c104] at hf
      refine mx_WP.bge (x := s) (y := (I 83 0 x1.toNatClampNeg)) (q := 39) (p3 := 25) rfl (fun hh => absurd hh c104) (fun _ => ?_)
      refine mx_WP.go 7 (pc' := 35) (L' := [some (mx_r (some (1, 11, 0))), some (mx_i x1), some (mx_l x2), none, some (mx_i s), z5, z6]) (st' := [mx_i (((3 : Int32) * x1) + s), mx_r (some (1, 84, 0))]) (σ' := (γ, hM I J, κ)) rfl ?_
      by_cases c1215 : (((3 : Int32) * x1) + s) < 0 ∨ 27 ≤ (((3 : Int32) * x1) + s).toNatClampNeg
      · rw [if_pos c1215] at hf
        cases hf
      rw [if_neg c1215] at hf
      refine mx_WP.ialdx c1215 ?_
      show mx_WP (d + 0) 152 36 [some (mx_r (some (1, 11, 0))), some (mx_i x1), some (mx_l x2), none, some (mx_i s), z5, z6] [mx_i (I 84 0 ((((3 : Int32) * x1) + s).toNatClampNeg))] (γ, hM I J, κ) Q
      refine mx_WP.go 1 (pc' := 40) (L' := [some (mx_r (some (1, 11, 0))), some (mx_i x1), some (mx_l x2), none, some (mx_i s), z5, z6]) (st' := [mx_i (I 84 0 ((((3 : Int32) * x1) + s).toNatClampNeg))]) (σ' := (γ, hM I J, κ)) rfl ?_
      exact J152_40 (d := d) hf hk
theorem L152_3 {d : Nat} {x1 : Int32} {x2 : Int64} {γ : mx_Rg} {I : Nat → Nat → Nat → Int32} {J : Nat → Nat → Nat → Int64} {κ : (Nat × (Nat → Int32)) × (Nat × Nat)} {Q : Option mx_V → mx_Hp → Prop} {n : Nat} {s : Int32} {o : (Int32) ⊕ (Int32)} (hf : mx_lp (b152_3 x1 x2 I J) n s = some o) (hk : (Sum.elim (fun x : Int32 => ∀ (z5 z6 : Option mx_V), mx_WP (d + 0) 152 104 [some (mx_r (some (1, 11, 0))), some (mx_i x1), some (mx_l x2), none, some (mx_i x), z5, z6] [] (γ, hM I J, κ) Q) (fun x : Int32 => Q (some (mx_i x)) (γ, hM I J, κ))) o) : ∀ (z5 z6 : Option mx_V), mx_WP (d + 0) 152 3 [some (mx_r (some (1, 11, 0))), some (mx_i x1), some (mx_l x2), none, some (mx_i s), z5, z6] [] (γ, hM I J, κ) Q := mx_lp_ok (P := fun s : Int32 => ∀ (z5 z6 : Option mx_V), mx_WP (d + 0) 152 3 [some (mx_r (some (1, 11, 0))), some (mx_i x1), some (mx_l x2), none, some (mx_i s), z5, z6] [] (γ, hM I J, κ) Q) (E := (Sum.elim (fun x : Int32 => ∀ (z5 z6 : Option mx_V), mx_WP (d + 0) 152 104 [some (mx_r (some (1, 11, 0))), some (mx_i x1), some (mx_l x2), none, some (mx_i x), z5, z6] [] (γ, hM I J, κ) Q) (fun x : Int32 => Q (some (mx_i x)) (γ, hM I J, κ)))) (fun s o hf hk => B152_3 hf hk) n s o hf hk
def f152 (x1 : Int32) (x2 : Int64) (I : Nat → Nat → Nat → Int32) (J : Nat → Nat → Nat → Int64) : Option (Int32) :=
  (mx_lp (b152_3 x1 x2 I J) mx_fu (0 : Int32)).bind fun u1216 => Sum.elim (fun w1218 =>
  some (-1 : Int32)) (fun y1219 => some y1219) u1216
theorem T152 {d : Nat} {x1 : Int32} {x2 : Int64} {γ : mx_Rg} {I : Nat → Nat → Nat → Int32} {J : Nat → Nat → Nat → Int64} {κ : (Nat × (Nat → Int32)) × (Nat × Nat)} {Q : Option mx_V → mx_Hp → Prop} {o : Int32} (hf : f152 x1 x2 I J = some o) (hk : Q (some (mx_i o)) (γ, hM I J, κ)) : mx_WP (d + 0) 152 0 (mx_ent 152 [mx_r (some (1, 11, 0)), mx_i x1, mx_l x2]) [] (γ, hM I J, κ) Q := by
  unfold f152 at hf
  refine mx_WP.go 2 (pc' := 3) (L' := [some (mx_r (some (1, 11, 0))), some (mx_i x1), some (mx_l x2), none, some (mx_i (0 : Int32)), none, none]) (st' := []) (σ' := (γ, hM I J, κ)) rfl ?_
  obtain ⟨u1216, e1217, hf⟩ := Option.bind_eq_some_iff.mp hf
  cases u1216 with
  | inr y1219 =>
    rw [Sum.elim_inr] at hf
    rw [← Option.some.inj hf] at hk
    exact (L152_3 (d := d) e1217 hk) (none) (none)
  | inl w1218 =>
    rw [Sum.elim_inl] at hf
    refine (L152_3 (d := d) e1217 ?_) (none) (none)
    intro z5 z6
    show mx_WP (d + 0) 152 104 [some (mx_r (some (1, 11, 0))), some (mx_i x1), some (mx_l x2), none, some (mx_i w1218), z5, z6] [] (γ, hM I J, κ) Q
    refine mx_WP.go 1 (pc' := 105) (L' := [some (mx_r (some (1, 11, 0))), some (mx_i x1), some (mx_l x2), none, some (mx_i w1218), z5, z6]) (st' := [mx_i (-1 : Int32)]) (σ' := (γ, hM I J, κ)) rfl ?_
    rw [← Option.some.inj hf] at hk
    refine mx_WP.ret (v := some (mx_i (-1 : Int32))) rfl ?_
    exact hk
def j153_128 (v2 : Int32) (v4 : Int32) (v6 : Int32) (t0 : Int32) (I : Nat → Nat → Nat → Int32) (J : Nat → Nat → Nat → Int64) : Option ((Int32 × Int32 × Int32 × Int32 × (Nat → Nat → Nat → Int32)) ⊕ (Int32 × Int32 × Int32 × Int32 × (Nat → Nat → Nat → Int32))) :=
  if t0 = (0 : Int32) then (some (Sum.inl (v2, (0 : Int32), v4, t0, I))) else if v6 < 0 ∨ 9 ≤ v6.toNatClampNeg then none else (f152 v6 (J 91 0 v6.toNatClampNeg) I J).bind fun u3118 =>
  some (Sum.inl (v2, u3118, v4, t0, I))
theorem J153_128 {d : Nat} {v2 : Int32} {v4 : Int32} {v6 : Int32} {t0 : Int32} {z1 : Option mx_V} {z3 : Option mx_V} {z5 : Option mx_V} {z7 : Option mx_V} {γ : mx_Rg} {I : Nat → Nat → Nat → Int32} {J : Nat → Nat → Nat → Int64} {κ : (Nat × (Nat → Int32)) × (Nat × Nat)} {Q : Option mx_V → mx_Hp → Prop} {o : (Int32 × Int32 × Int32 × Int32 × (Nat → Nat → Nat → Int32)) ⊕ (Int32 × Int32 × Int32 × Int32 × (Nat → Nat → Nat → Int32))} (hf : j153_128 v2 v4 v6 t0 I J = some o) (hk : Sum.elim (fun s : Int32 × Int32 × Int32 × Int32 × (Nat → Nat → Nat → Int32) => ∀ (z1 z6 z7 : Option mx_V), mx_WP (d + 1) 153 10 [some (mx_r (some (1, 11, 0))), z1, some (mx_i s.1), some (mx_i s.2.1), some (mx_i s.2.2.1), some (mx_i s.2.2.2.1), z6, z7] [] (γ, hM s.2.2.2.2 J, κ) Q) (fun x : Int32 × Int32 × Int32 × Int32 × (Nat → Nat → Nat → Int32) => ∀ (z1 z6 z7 : Option mx_V), mx_WP (d + 1) 153 156 [some (mx_r (some (1, 11, 0))), z1, some (mx_i x.1), some (mx_i x.2.1), some (mx_i x.2.2.1), some (mx_i x.2.2.2.1), z6, z7] [] (γ, hM x.2.2.2.2 J, κ) Q) o) : mx_WP (d + 1) 153 128 [some (mx_r (some (1, 11, 0))), z1, some (mx_i v2), z3, some (mx_i v4), z5, some (mx_i v6), z7] [mx_i t0] (γ, hM I J, κ) Q := by
  unfold j153_128 at hf
  refine mx_WP.go 2 (pc' := 132) (L' := [some (mx_r (some (1, 11, 0))), z1, some (mx_i v2), z3, some (mx_i v4), some (mx_i t0), some (mx_i v6), z7]) (st' := [mx_i t0]) (σ' := (γ, hM I J, κ)) rfl ?_
  by_cases c3116 : t0 = (0 : Int32)
  · rw [if_pos c3116] at hf
    refine mx_WP.beq (x := t0) (y := (0 : Int32)) (q := 151) (p3 := 135) rfl (fun _ => ?_) (fun hh => absurd c3116 hh)
    refine mx_WP.go 3 (pc' := 10) (L' := [some (mx_r (some (1, 11, 0))), z1, some (mx_i v2), some (mx_i (0 : Int32)), some (mx_i v4), some (mx_i t0), some (mx_i v6), z7]) (st' := []) (σ' := (γ, hM I J, κ)) rfl ?_
    rw [← Option.some.inj hf] at hk
    exact hk (z1) (some (mx_i v6)) (z7)
  · rw [if_neg c3116] at hf
    refine mx_WP.beq (x := t0) (y := (0 : Int32)) (q := 151) (p3 := 135) rfl (fun hh => absurd hh c3116) (fun _ => ?_)
    refine mx_WP.go 5 (pc' := 144) (L' := [some (mx_r (some (1, 11, 0))), z1, some (mx_i v2), z3, some (mx_i v4), some (mx_i t0), some (mx_i v6), z7]) (st' := [mx_i v6, mx_r (some (1, 91, 0)), mx_i v6, mx_r (some (1, 11, 0))]) (σ' := (γ, hM I J, κ)) rfl ?_
    by_cases c3117 : v6 < 0 ∨ 9 ≤ v6.toNatClampNeg
    · rw [if_pos c3117] at hf
      cases hf
    rw [if_neg c3117] at hf
    refine mx_WP.laldx c3117 ?_
    show mx_WP (d + 1) 153 145 [some (mx_r (some (1, 11, 0))), z1, some (mx_i v2), z3, some (mx_i v4), some (mx_i t0), some (mx_i v6), z7] [mx_l (J 91 0 v6.toNatClampNeg), mx_i v6, mx_r (some (1, 11, 0))] (γ, hM I J, κ) Q
    obtain ⟨u3118, e3119, hf⟩ := Option.bind_eq_some_iff.mp hf
    refine mx_WP.call (d := d + 0) (y := 152) (as := [mx_r (some (1, 11, 0)), mx_i v6, mx_l (J 91 0 v6.toNatClampNeg)]) (pc' := 148) (r := []) rfl rfl (T152 (d := d + 0)  e3119 ?_)
    show mx_WP (d + 1) 153 148 [some (mx_r (some (1, 11, 0))), z1, some (mx_i v2), z3, some (mx_i v4), some (mx_i t0), some (mx_i v6), z7] [mx_i u3118] (γ, hM I J, κ) Q
    refine mx_WP.go 3 (pc' := 10) (L' := [some (mx_r (some (1, 11, 0))), z1, some (mx_i v2), some (mx_i u3118), some (mx_i v4), some (mx_i t0), some (mx_i v6), z7]) (st' := []) (σ' := (γ, hM I J, κ)) rfl ?_
    rw [← Option.some.inj hf] at hk
    exact hk (z1) (some (mx_i v6)) (z7)
def j153_127 (v2 : Int32) (v4 : Int32) (v6 : Int32) (I : Nat → Nat → Nat → Int32) (J : Nat → Nat → Nat → Int64) : Option ((Int32 × Int32 × Int32 × Int32 × (Nat → Nat → Nat → Int32)) ⊕ (Int32 × Int32 × Int32 × Int32 × (Nat → Nat → Nat → Int32))) :=
  j153_128 v2 v4 v6 (0 : Int32) I J
theorem J153_127 {d : Nat} {v2 : Int32} {v4 : Int32} {v6 : Int32} {z1 : Option mx_V} {z3 : Option mx_V} {z5 : Option mx_V} {z7 : Option mx_V} {γ : mx_Rg} {I : Nat → Nat → Nat → Int32} {J : Nat → Nat → Nat → Int64} {κ : (Nat × (Nat → Int32)) × (Nat × Nat)} {Q : Option mx_V → mx_Hp → Prop} {o : (Int32 × Int32 × Int32 × Int32 × (Nat → Nat → Nat → Int32)) ⊕ (Int32 × Int32 × Int32 × Int32 × (Nat → Nat → Nat → Int32))} (hf : j153_127 v2 v4 v6 I J = some o) (hk : Sum.elim (fun s : Int32 × Int32 × Int32 × Int32 × (Nat → Nat → Nat → Int32) => ∀ (z1 z6 z7 : Option mx_V), mx_WP (d + 1) 153 10 [some (mx_r (some (1, 11, 0))), z1, some (mx_i s.1), some (mx_i s.2.1), some (mx_i s.2.2.1), some (mx_i s.2.2.2.1), z6, z7] [] (γ, hM s.2.2.2.2 J, κ) Q) (fun x : Int32 × Int32 × Int32 × Int32 × (Nat → Nat → Nat → Int32) => ∀ (z1 z6 z7 : Option mx_V), mx_WP (d + 1) 153 156 [some (mx_r (some (1, 11, 0))), z1, some (mx_i x.1), some (mx_i x.2.1), some (mx_i x.2.2.1), some (mx_i x.2.2.2.1), z6, z7] [] (γ, hM x.2.2.2.2 J, κ) Q) o) : mx_WP (d + 1) 153 127 [some (mx_r (some (1, 11, 0))), z1, some (mx_i v2), z3, some (mx_i v4), z5, some (mx_i v6), z7] [] (γ, hM I J, κ) Q := by
  unfold j153_127 at hf
  refine mx_WP.go 1 (pc' := 128) (L' := [some (mx_r (some (1, 11, 0))), z1, some (mx_i v2), z3, some (mx_i v4), z5, some (mx_i v6), z7]) (st' := [mx_i (0 : Int32)]) (σ' := (γ, hM I J, κ)) rfl ?_
  exact J153_128 (d := d) hf hk
def j153_26 (v2 : Int32) (v3 : Int32) (v4 : Int32) (t0 : Int32) (I : Nat → Nat → Nat → Int32) (J : Nat → Nat → Nat → Int64) : Option ((Int32 × Int32 × Int32 × Int32 × (Nat → Nat → Nat → Int32)) ⊕ (Int32 × Int32 × Int32 × Int32 × (Nat → Nat → Nat → Int32))) :=
  if (0 : Int32) ≤ v3 then (if v3 < 0 ∨ 36 ≤ v3.toNatClampNeg then none else if (4 : Int32) ≤ (I 88 0 v3.toNatClampNeg) then (some (Sum.inl (v2, v3, v4, (0 : Int32), I))) else if t0 < 0 ∨ 8 ≤ t0.toNatClampNeg then none else if (I 94 0 t0.toNatClampNeg) = (0 : Int32) then (if t0 < 0 ∨ 8 ≤ t0.toNatClampNeg then none else if (I 95 0 t0.toNatClampNeg) = (0 : Int32) then (if t0 < 0 ∨ 8 ≤ t0.toNatClampNeg then none else if t0 < 0 ∨ 8 ≤ t0.toNatClampNeg then none else if t0 < 0 ∨ 8 ≤ t0.toNatClampNeg then none else if v2 < 0 ∨ 8 ≤ v2.toNatClampNeg then none else if t0 < 0 ∨ 9 ≤ t0.toNatClampNeg then none else if (I 89 0 t0.toNatClampNeg) ≤ (0 : Int32) then (j153_127 (v2 + 1) v4 t0 (mx_u3 (mx_u3 (mx_u3 I 95 0 t0.toNatClampNeg (vp_nar .boolean (1 : Int32))) 99 0 t0.toNatClampNeg ((I 99 0 t0.toNatClampNeg) + (1 : Int32))) 101 0 v2.toNatClampNeg t0) J) else if t0 < 0 ∨ 9 ≤ t0.toNatClampNeg then none else if (lg_cmp (J 91 0 t0.toNatClampNeg) (0 : Int64)) = (0 : Int32) then (j153_127 (v2 + 1) v4 t0 (mx_u3 (mx_u3 (mx_u3 I 95 0 t0.toNatClampNeg (vp_nar .boolean (1 : Int32))) 99 0 t0.toNatClampNeg ((I 99 0 t0.toNatClampNeg) + (1 : Int32))) 101 0 v2.toNatClampNeg t0) J) else j153_128 (v2 + 1) v4 t0 (1 : Int32) (mx_u3 (mx_u3 (mx_u3 I 95 0 t0.toNatClampNeg (vp_nar .boolean (1 : Int32))) 99 0 t0.toNatClampNeg ((I 99 0 t0.toNatClampNeg) + (1 : Int32))) 101 0 v2.toNatClampNeg t0) J) else some (Sum.inl (v2, v3, v4, (0 : Int32), I))) else some (Sum.inl (v2, v3, v4, (0 : Int32), I))) else some (Sum.inl (v2, v3, (0 : Int32), (0 : Int32), I))
theorem J153_26 {d : Nat} {v2 : Int32} {v3 : Int32} {v4 : Int32} {t0 : Int32} {z1 : Option mx_V} {z5 : Option mx_V} {z6 : Option mx_V} {z7 : Option mx_V} {γ : mx_Rg} {I : Nat → Nat → Nat → Int32} {J : Nat → Nat → Nat → Int64} {κ : (Nat × (Nat → Int32)) × (Nat × Nat)} {Q : Option mx_V → mx_Hp → Prop} {o : (Int32 × Int32 × Int32 × Int32 × (Nat → Nat → Nat → Int32)) ⊕ (Int32 × Int32 × Int32 × Int32 × (Nat → Nat → Nat → Int32))} (hf : j153_26 v2 v3 v4 t0 I J = some o) (hk : Sum.elim (fun s : Int32 × Int32 × Int32 × Int32 × (Nat → Nat → Nat → Int32) => ∀ (z1 z6 z7 : Option mx_V), mx_WP (d + 1) 153 10 [some (mx_r (some (1, 11, 0))), z1, some (mx_i s.1), some (mx_i s.2.1), some (mx_i s.2.2.1), some (mx_i s.2.2.2.1), z6, z7] [] (γ, hM s.2.2.2.2 J, κ) Q) (fun x : Int32 × Int32 × Int32 × Int32 × (Nat → Nat → Nat → Int32) => ∀ (z1 z6 z7 : Option mx_V), mx_WP (d + 1) 153 156 [some (mx_r (some (1, 11, 0))), z1, some (mx_i x.1), some (mx_i x.2.1), some (mx_i x.2.2.1), some (mx_i x.2.2.2.1), z6, z7] [] (γ, hM x.2.2.2.2 J, κ) Q) o) : mx_WP (d + 1) 153 26 [some (mx_r (some (1, 11, 0))), z1, some (mx_i v2), some (mx_i v3), some (mx_i v4), z5, z6, z7] [mx_i t0] (γ, hM I J, κ) Q := by
  unfold j153_26 at hf
  refine mx_WP.go 4 (pc' := 32) (L' := [some (mx_r (some (1, 11, 0))), z1, some (mx_i v2), some (mx_i v3), some (mx_i v4), some (mx_i (0 : Int32)), some (mx_i t0), z7]) (st' := [mx_i v3]) (σ' := (γ, hM I J, κ)) rfl ?_
  by_cases c1103 : (0 : Int32) ≤ v3
  · rw [if_pos c1103] at hf
    refine mx_WP.bge (x := v3) (y := (0 : Int32)) (q := 41) (p3 := 35) rfl (fun _ => ?_) (fun hh => absurd c1103 hh)
    refine mx_WP.go 3 (pc' := 46) (L' := [some (mx_r (some (1, 11, 0))), z1, some (mx_i v2), some (mx_i v3), some (mx_i v4), some (mx_i (0 : Int32)), some (mx_i t0), z7]) (st' := [mx_i v3, mx_r (some (1, 88, 0))]) (σ' := (γ, hM I J, κ)) rfl ?_
    by_cases c1104 : v3 < 0 ∨ 36 ≤ v3.toNatClampNeg
    · rw [if_pos c1104] at hf
      cases hf
    rw [if_neg c1104] at hf
    refine mx_WP.ialdx c1104 ?_
    show mx_WP (d + 1) 153 47 [some (mx_r (some (1, 11, 0))), z1, some (mx_i v2), some (mx_i v3), some (mx_i v4), some (mx_i (0 : Int32)), some (mx_i t0), z7] [mx_i (I 88 0 v3.toNatClampNeg)] (γ, hM I J, κ) Q
    refine mx_WP.go 1 (pc' := 48) (L' := [some (mx_r (some (1, 11, 0))), z1, some (mx_i v2), some (mx_i v3), some (mx_i v4), some (mx_i (0 : Int32)), some (mx_i t0), z7]) (st' := [mx_i (4 : Int32), mx_i (I 88 0 v3.toNatClampNeg)]) (σ' := (γ, hM I J, κ)) rfl ?_
    by_cases c1105 : (4 : Int32) ≤ (I 88 0 v3.toNatClampNeg)
    · rw [if_pos c1105] at hf
      refine mx_WP.bge (x := (I 88 0 v3.toNatClampNeg)) (y := (4 : Int32)) (q := 153) (p3 := 51) rfl (fun _ => ?_) (fun hh => absurd c1105 hh)
      refine mx_WP.go 1 (pc' := 10) (L' := [some (mx_r (some (1, 11, 0))), z1, some (mx_i v2), some (mx_i v3), some (mx_i v4), some (mx_i (0 : Int32)), some (mx_i t0), z7]) (st' := []) (σ' := (γ, hM I J, κ)) rfl ?_
      rw [← Option.some.inj hf] at hk
      exact hk (z1) (some (mx_i t0)) (z7)
    · rw [if_neg c1105] at hf
      refine mx_WP.bge (x := (I 88 0 v3.toNatClampNeg)) (y := (4 : Int32)) (q := 153) (p3 := 51) rfl (fun hh => absurd hh c1105) (fun _ => ?_)
      refine mx_WP.go 3 (pc' := 57) (L' := [some (mx_r (some (1, 11, 0))), z1, some (mx_i v2), some (mx_i v3), some (mx_i v4), some (mx_i (0 : Int32)), some (mx_i t0), z7]) (st' := [mx_i t0, mx_r (some (1, 94, 0))]) (σ' := (γ, hM I J, κ)) rfl ?_
      by_cases c1106 : t0 < 0 ∨ 8 ≤ t0.toNatClampNeg
      · rw [if_pos c1106] at hf
        cases hf
      rw [if_neg c1106] at hf
      refine mx_WP.baldx c1106 ?_
      show mx_WP (d + 1) 153 58 [some (mx_r (some (1, 11, 0))), z1, some (mx_i v2), some (mx_i v3), some (mx_i v4), some (mx_i (0 : Int32)), some (mx_i t0), z7] [mx_i (I 94 0 t0.toNatClampNeg)] (γ, hM I J, κ) Q
      by_cases c1107 : (I 94 0 t0.toNatClampNeg) = (0 : Int32)
      · rw [if_pos c1107] at hf
        refine mx_WP.bne (x := (I 94 0 t0.toNatClampNeg)) (y := (0 : Int32)) (q := 153) (p3 := 61) rfl (fun hh => absurd c1107 hh) (fun _ => ?_)
        refine mx_WP.go 3 (pc' := 67) (L' := [some (mx_r (some (1, 11, 0))), z1, some (mx_i v2), some (mx_i v3), some (mx_i v4), some (mx_i (0 : Int32)), some (mx_i t0), z7]) (st' := [mx_i t0, mx_r (some (1, 95, 0))]) (σ' := (γ, hM I J, κ)) rfl ?_
        by_cases c1108 : t0 < 0 ∨ 8 ≤ t0.toNatClampNeg
        · rw [if_pos c1108] at hf
          cases hf
        rw [if_neg c1108] at hf
        refine mx_WP.baldx c1108 ?_
        show mx_WP (d + 1) 153 68 [some (mx_r (some (1, 11, 0))), z1, some (mx_i v2), some (mx_i v3), some (mx_i v4), some (mx_i (0 : Int32)), some (mx_i t0), z7] [mx_i (I 95 0 t0.toNatClampNeg)] (γ, hM I J, κ) Q
        by_cases c1109 : (I 95 0 t0.toNatClampNeg) = (0 : Int32)
        · rw [if_pos c1109] at hf
          refine mx_WP.bne (x := (I 95 0 t0.toNatClampNeg)) (y := (0 : Int32)) (q := 153) (p3 := 71) rfl (fun hh => absurd c1109 hh) (fun _ => ?_)
          refine mx_WP.go 4 (pc' := 78) (L' := [some (mx_r (some (1, 11, 0))), z1, some (mx_i v2), some (mx_i v3), some (mx_i v4), some (mx_i (0 : Int32)), some (mx_i t0), z7]) (st' := [mx_i (1 : Int32), mx_i t0, mx_r (some (1, 95, 0))]) (σ' := (γ, hM I J, κ)) rfl ?_
          by_cases c1110 : t0 < 0 ∨ 8 ≤ t0.toNatClampNeg
          · rw [if_pos c1110] at hf
            cases hf
          rw [if_neg c1110] at hf
          refine mx_WP.bastx c1110 ?_
          show mx_WP (d + 1) 153 79 [some (mx_r (some (1, 11, 0))), z1, some (mx_i v2), some (mx_i v3), some (mx_i v4), some (mx_i (0 : Int32)), some (mx_i t0), z7] [] (γ, hM (mx_u3 I 95 0 t0.toNatClampNeg (vp_nar .boolean (1 : Int32))) J, κ) Q
          refine mx_WP.go 4 (pc' := 86) (L' := [some (mx_r (some (1, 11, 0))), z1, some (mx_i v2), some (mx_i v3), some (mx_i v4), some (mx_i (0 : Int32)), some (mx_i t0), z7]) (st' := [mx_i t0, mx_r (some (1, 99, 0)), mx_i t0, mx_r (some (1, 99, 0))]) (σ' := (γ, hM (mx_u3 I 95 0 t0.toNatClampNeg (vp_nar .boolean (1 : Int32))) J, κ)) rfl ?_
          by_cases c1111 : t0 < 0 ∨ 8 ≤ t0.toNatClampNeg
          · rw [if_pos c1111] at hf
            cases hf
          rw [if_neg c1111] at hf
          refine mx_WP.ialdx c1111 ?_
          show mx_WP (d + 1) 153 87 [some (mx_r (some (1, 11, 0))), z1, some (mx_i v2), some (mx_i v3), some (mx_i v4), some (mx_i (0 : Int32)), some (mx_i t0), z7] [mx_i (I 99 0 t0.toNatClampNeg), mx_i t0, mx_r (some (1, 99, 0))] (γ, hM (mx_u3 I 95 0 t0.toNatClampNeg (vp_nar .boolean (1 : Int32))) J, κ) Q
          refine mx_WP.go 2 (pc' := 89) (L' := [some (mx_r (some (1, 11, 0))), z1, some (mx_i v2), some (mx_i v3), some (mx_i v4), some (mx_i (0 : Int32)), some (mx_i t0), z7]) (st' := [mx_i ((I 99 0 t0.toNatClampNeg) + (1 : Int32)), mx_i t0, mx_r (some (1, 99, 0))]) (σ' := (γ, hM (mx_u3 I 95 0 t0.toNatClampNeg (vp_nar .boolean (1 : Int32))) J, κ)) rfl ?_
          by_cases c1112 : t0 < 0 ∨ 8 ≤ t0.toNatClampNeg
          · rw [if_pos c1112] at hf
            cases hf
          rw [if_neg c1112] at hf
          refine mx_WP.iastx c1112 ?_
          show mx_WP (d + 1) 153 90 [some (mx_r (some (1, 11, 0))), z1, some (mx_i v2), some (mx_i v3), some (mx_i v4), some (mx_i (0 : Int32)), some (mx_i t0), z7] [] (γ, hM (mx_u3 (mx_u3 I 95 0 t0.toNatClampNeg (vp_nar .boolean (1 : Int32))) 99 0 t0.toNatClampNeg ((I 99 0 t0.toNatClampNeg) + (1 : Int32))) J, κ) Q
          refine mx_WP.go 5 (pc' := 100) (L' := [some (mx_r (some (1, 11, 0))), z1, some (mx_i (v2 + 1)), some (mx_i v3), some (mx_i v4), some (mx_i (0 : Int32)), some (mx_i t0), z7]) (st' := [mx_i t0, mx_i v2, mx_r (some (1, 101, 0))]) (σ' := (γ, hM (mx_u3 (mx_u3 I 95 0 t0.toNatClampNeg (vp_nar .boolean (1 : Int32))) 99 0 t0.toNatClampNeg ((I 99 0 t0.toNatClampNeg) + (1 : Int32))) J, κ)) rfl ?_
          by_cases c1113 : v2 < 0 ∨ 8 ≤ v2.toNatClampNeg
          · rw [if_pos c1113] at hf
            cases hf
          rw [if_neg c1113] at hf
          refine mx_WP.iastx c1113 ?_
          show mx_WP (d + 1) 153 101 [some (mx_r (some (1, 11, 0))), z1, some (mx_i (v2 + 1)), some (mx_i v3), some (mx_i v4), some (mx_i (0 : Int32)), some (mx_i t0), z7] [] (γ, hM (mx_u3 (mx_u3 (mx_u3 I 95 0 t0.toNatClampNeg (vp_nar .boolean (1 : Int32))) 99 0 t0.toNatClampNeg ((I 99 0 t0.toNatClampNeg) + (1 : Int32))) 101 0 v2.toNatClampNeg t0) J, κ) Q
          refine mx_WP.go 3 (pc' := 107) (L' := [some (mx_r (some (1, 11, 0))), z1, some (mx_i (v2 + 1)), some (mx_i v3), some (mx_i v4), some (mx_i (0 : Int32)), some (mx_i t0), z7]) (st' := [mx_i t0, mx_r (some (1, 89, 0))]) (σ' := (γ, hM (mx_u3 (mx_u3 (mx_u3 I 95 0 t0.toNatClampNeg (vp_nar .boolean (1 : Int32))) 99 0 t0.toNatClampNeg ((I 99 0 t0.toNatClampNeg) + (1 : Int32))) 101 0 v2.toNatClampNeg t0) J, κ)) rfl ?_
          by_cases c1114 : t0 < 0 ∨ 9 ≤ t0.toNatClampNeg
          · rw [if_pos c1114] at hf
            cases hf
          rw [if_neg c1114] at hf
          refine mx_WP.ialdx c1114 ?_
          show mx_WP (d + 1) 153 108 [some (mx_r (some (1, 11, 0))), z1, some (mx_i (v2 + 1)), some (mx_i v3), some (mx_i v4), some (mx_i (0 : Int32)), some (mx_i t0), z7] [mx_i (I 89 0 t0.toNatClampNeg)] (γ, hM (mx_u3 (mx_u3 (mx_u3 I 95 0 t0.toNatClampNeg (vp_nar .boolean (1 : Int32))) 99 0 t0.toNatClampNeg ((I 99 0 t0.toNatClampNeg) + (1 : Int32))) 101 0 v2.toNatClampNeg t0) J, κ) Q
          by_cases c1115 : (I 89 0 t0.toNatClampNeg) ≤ (0 : Int32)
          · rw [if_pos c1115] at hf
            refine mx_WP.ble (x := (I 89 0 t0.toNatClampNeg)) (y := (0 : Int32)) (q := 127) (p3 := 111) rfl (fun _ => ?_) (fun hh => absurd c1115 hh)
            exact J153_127 (d := d) hf hk
          · rw [if_neg c1115] at hf
            refine mx_WP.ble (x := (I 89 0 t0.toNatClampNeg)) (y := (0 : Int32)) (q := 127) (p3 := 111) rfl (fun hh => absurd hh c1115) (fun _ => ?_)
            refine mx_WP.go 3 (pc' := 117) (L' := [some (mx_r (some (1, 11, 0))), z1, some (mx_i (v2 + 1)), some (mx_i v3), some (mx_i v4), some (mx_i (0 : Int32)), some (mx_i t0), z7]) (st' := [mx_i t0, mx_r (some (1, 91, 0))]) (σ' := (γ, hM (mx_u3 (mx_u3 (mx_u3 I 95 0 t0.toNatClampNeg (vp_nar .boolean (1 : Int32))) 99 0 t0.toNatClampNeg ((I 99 0 t0.toNatClampNeg) + (1 : Int32))) 101 0 v2.toNatClampNeg t0) J, κ)) rfl ?_
            by_cases c3120 : t0 < 0 ∨ 9 ≤ t0.toNatClampNeg
            · rw [if_pos c3120] at hf
              cases hf
            rw [if_neg c3120] at hf
            refine mx_WP.laldx c3120 ?_
            show mx_WP (d + 1) 153 118 [some (mx_r (some (1, 11, 0))), z1, some (mx_i (v2 + 1)), some (mx_i v3), some (mx_i v4), some (mx_i (0 : Int32)), some (mx_i t0), z7] [mx_l (J 91 0 t0.toNatClampNeg)] (γ, hM (mx_u3 (mx_u3 (mx_u3 I 95 0 t0.toNatClampNeg (vp_nar .boolean (1 : Int32))) 99 0 t0.toNatClampNeg ((I 99 0 t0.toNatClampNeg) + (1 : Int32))) 101 0 v2.toNatClampNeg t0) J, κ) Q
            refine mx_WP.go 2 (pc' := 120) (L' := [some (mx_r (some (1, 11, 0))), z1, some (mx_i (v2 + 1)), some (mx_i v3), some (mx_i v4), some (mx_i (0 : Int32)), some (mx_i t0), z7]) (st' := [mx_i (lg_cmp (J 91 0 t0.toNatClampNeg) (0 : Int64))]) (σ' := (γ, hM (mx_u3 (mx_u3 (mx_u3 I 95 0 t0.toNatClampNeg (vp_nar .boolean (1 : Int32))) 99 0 t0.toNatClampNeg ((I 99 0 t0.toNatClampNeg) + (1 : Int32))) 101 0 v2.toNatClampNeg t0) J, κ)) rfl ?_
            by_cases c3121 : (lg_cmp (J 91 0 t0.toNatClampNeg) (0 : Int64)) = (0 : Int32)
            · rw [if_pos c3121] at hf
              refine mx_WP.beq (x := (lg_cmp (J 91 0 t0.toNatClampNeg) (0 : Int64))) (y := (0 : Int32)) (q := 127) (p3 := 123) rfl (fun _ => ?_) (fun hh => absurd c3121 hh)
              exact J153_127 (d := d) hf hk
            · rw [if_neg c3121] at hf
              refine mx_WP.beq (x := (lg_cmp (J 91 0 t0.toNatClampNeg) (0 : Int64))) (y := (0 : Int32)) (q := 127) (p3 := 123) rfl (fun hh => absurd hh c3121) (fun _ => ?_)
              refine mx_WP.go 2 (pc' := 128) (L' := [some (mx_r (some (1, 11, 0))), z1, some (mx_i (v2 + 1)), some (mx_i v3), some (mx_i v4), some (mx_i (0 : Int32)), some (mx_i t0), z7]) (st' := [mx_i (1 : Int32)]) (σ' := (γ, hM (mx_u3 (mx_u3 (mx_u3 I 95 0 t0.toNatClampNeg (vp_nar .boolean (1 : Int32))) 99 0 t0.toNatClampNeg ((I 99 0 t0.toNatClampNeg) + (1 : Int32))) 101 0 v2.toNatClampNeg t0) J, κ)) rfl ?_
              exact J153_128 (d := d) hf hk
        · rw [if_neg c1109] at hf
          refine mx_WP.bne (x := (I 95 0 t0.toNatClampNeg)) (y := (0 : Int32)) (q := 153) (p3 := 71) rfl (fun _ => ?_) (fun hh => absurd c1109 hh)
          refine mx_WP.go 1 (pc' := 10) (L' := [some (mx_r (some (1, 11, 0))), z1, some (mx_i v2), some (mx_i v3), some (mx_i v4), some (mx_i (0 : Int32)), some (mx_i t0), z7]) (st' := []) (σ' := (γ, hM I J, κ)) rfl ?_
          rw [← Option.some.inj hf] at hk
          exact hk (z1) (some (mx_i t0)) (z7)
      · rw [if_neg c1107] at hf
        refine mx_WP.bne (x := (I 94 0 t0.toNatClampNeg)) (y := (0 : Int32)) (q := 153) (p3 := 61) rfl (fun _ => ?_) (fun hh => absurd c1107 hh)
        refine mx_WP.go 1 (pc' := 10) (L' := [some (mx_r (some (1, 11, 0))), z1, some (mx_i v2), some (mx_i v3), some (mx_i v4), some (mx_i (0 : Int32)), some (mx_i t0), z7]) (st' := []) (σ' := (γ, hM I J, κ)) rfl ?_
        rw [← Option.some.inj hf] at hk
        exact hk (z1) (some (mx_i t0)) (z7)
  · rw [if_neg c1103] at hf
    refine mx_WP.bge (x := v3) (y := (0 : Int32)) (q := 41) (p3 := 35) rfl (fun hh => absurd hh c1103) (fun _ => ?_)
    refine mx_WP.go 4 (pc' := 10) (L' := [some (mx_r (some (1, 11, 0))), z1, some (mx_i v2), some (mx_i v3), some (mx_i (0 : Int32)), some (mx_i (0 : Int32)), some (mx_i t0), z7]) (st' := []) (σ' := (γ, hM I J, κ)) rfl ?_
    rw [← Option.some.inj hf] at hk
    exact hk (z1) (some (mx_i t0)) (z7)
def b153_10  (I : Nat → Nat → Nat → Int32) (J : Nat → Nat → Nat → Int64) (s : Int32 × Int32 × Int32 × Int32 × (Nat → Nat → Nat → Int32)) : Option ((Int32 × Int32 × Int32 × Int32 × (Nat → Nat → Nat → Int32)) ⊕ (Int32 × Int32 × Int32 × Int32 × (Nat → Nat → Nat → Int32))) :=
  if s.2.2.2.1 = (0 : Int32) then (some (Sum.inr (s.1, s.2.1, s.2.2.1, s.2.2.2.1, s.2.2.2.2))) else if (0 : Int32) ≤ s.2.1 then (j153_26 s.1 s.2.1 s.2.2.1 (s.2.1 / (4 : Int32)) s.2.2.2.2 J) else j153_26 s.1 s.2.1 s.2.2.1 (0 : Int32) s.2.2.2.2 J
theorem B153_10 {d : Nat}  {γ : mx_Rg} {I : Nat → Nat → Nat → Int32} {J : Nat → Nat → Nat → Int64} {κ : (Nat × (Nat → Int32)) × (Nat × Nat)} {Q : Option mx_V → mx_Hp → Prop} {s : Int32 × Int32 × Int32 × Int32 × (Nat → Nat → Nat → Int32)} {o : (Int32 × Int32 × Int32 × Int32 × (Nat → Nat → Nat → Int32)) ⊕ (Int32 × Int32 × Int32 × Int32 × (Nat → Nat → Nat → Int32))} (hf : b153_10 I J s = some o) (hk : Sum.elim (fun s : Int32 × Int32 × Int32 × Int32 × (Nat → Nat → Nat → Int32) => ∀ (z1 z6 z7 : Option mx_V), mx_WP (d + 1) 153 10 [some (mx_r (some (1, 11, 0))), z1, some (mx_i s.1), some (mx_i s.2.1), some (mx_i s.2.2.1), some (mx_i s.2.2.2.1), z6, z7] [] (γ, hM s.2.2.2.2 J, κ) Q) (fun x : Int32 × Int32 × Int32 × Int32 × (Nat → Nat → Nat → Int32) => ∀ (z1 z6 z7 : Option mx_V), mx_WP (d + 1) 153 156 [some (mx_r (some (1, 11, 0))), z1, some (mx_i x.1), some (mx_i x.2.1), some (mx_i x.2.2.1), some (mx_i x.2.2.2.1), z6, z7] [] (γ, hM x.2.2.2.2 J, κ) Q) o) : ∀ (z1 z6 z7 : Option mx_V), mx_WP (d + 1) 153 10 [some (mx_r (some (1, 11, 0))), z1, some (mx_i s.1), some (mx_i s.2.1), some (mx_i s.2.2.1), some (mx_i s.2.2.2.1), z6, z7] [] (γ, hM s.2.2.2.2 J, κ) Q := by
  intro z1 z6 z7
  unfold b153_10 at hf
  refine mx_WP.go 1 (pc' := 12) (L' := [some (mx_r (some (1, 11, 0))), z1, some (mx_i s.1), some (mx_i s.2.1), some (mx_i s.2.2.1), some (mx_i s.2.2.2.1), z6, z7]) (st' := [mx_i s.2.2.2.1]) (σ' := (γ, hM s.2.2.2.2 J, κ)) rfl ?_
  by_cases c101 : s.2.2.2.1 = (0 : Int32)
  · rw [if_pos c101] at hf
    refine mx_WP.beq (x := s.2.2.2.1) (y := (0 : Int32)) (q := 156) (p3 := 15) rfl (fun _ => ?_) (fun hh => absurd c101 hh)
    rw [← Option.some.inj hf] at hk
    exact hk (z1) (z6) (z7)
  · rw [if_neg c101] at hf
    refine mx_WP.beq (x := s.2.2.2.1) (y := (0 : Int32)) (q := 156) (p3 := 15) rfl (fun hh => absurd hh c101) (fun _ => ?_)
    refine mx_WP.go 1 (pc' := 16) (L' := [some (mx_r (some (1, 11, 0))), z1, some (mx_i s.1), some (mx_i s.2.1), some (mx_i s.2.2.1), some (mx_i s.2.2.2.1), z6, z7]) (st' := [mx_i s.2.1]) (σ' := (γ, hM s.2.2.2.2 J, κ)) rfl ?_
    by_cases c102 : (0 : Int32) ≤ s.2.1
    · rw [if_pos c102] at hf
      refine mx_WP.bge (x := s.2.1) (y := (0 : Int32)) (q := 23) (p3 := 19) rfl (fun _ => ?_) (fun hh => absurd c102 hh)
      refine mx_WP.go 3 (pc' := 26) (L' := [some (mx_r (some (1, 11, 0))), z1, some (mx_i s.1), some (mx_i s.2.1), some (mx_i s.2.2.1), some (mx_i s.2.2.2.1), z6, z7]) (st' := [mx_i (s.2.1 / (4 : Int32))]) (σ' := (γ, hM s.2.2.2.2 J, κ)) rfl ?_
      exact J153_26 (d := d) hf hk
    · rw [if_neg c102] at hf
      refine mx_WP.bge (x := s.2.1) (y := (0 : Int32)) (q := 23) (p3 := 19) rfl (fun hh => absurd hh c102) (fun _ => ?_)
      refine mx_WP.go 2 (pc' := 26) (L' := [some (mx_r (some (1, 11, 0))), z1, some (mx_i s.1), some (mx_i s.2.1), some (mx_i s.2.2.1), some (mx_i s.2.2.2.1), z6, z7]) (st' := [mx_i (0 : Int32)]) (σ' := (γ, hM s.2.2.2.2 J, κ)) rfl ?_
      exact J153_26 (d := d) hf hk
theorem L153_10 {d : Nat}  {γ : mx_Rg} {I : Nat → Nat → Nat → Int32} {J : Nat → Nat → Nat → Int64} {κ : (Nat × (Nat → Int32)) × (Nat × Nat)} {Q : Option mx_V → mx_Hp → Prop} {n : Nat} {s : Int32 × Int32 × Int32 × Int32 × (Nat → Nat → Nat → Int32)} {o : Int32 × Int32 × Int32 × Int32 × (Nat → Nat → Nat → Int32)} (hf : mx_lp (b153_10 I J) n s = some o) (hk : (fun x : Int32 × Int32 × Int32 × Int32 × (Nat → Nat → Nat → Int32) => ∀ (z1 z6 z7 : Option mx_V), mx_WP (d + 1) 153 156 [some (mx_r (some (1, 11, 0))), z1, some (mx_i x.1), some (mx_i x.2.1), some (mx_i x.2.2.1), some (mx_i x.2.2.2.1), z6, z7] [] (γ, hM x.2.2.2.2 J, κ) Q) o) : ∀ (z1 z6 z7 : Option mx_V), mx_WP (d + 1) 153 10 [some (mx_r (some (1, 11, 0))), z1, some (mx_i s.1), some (mx_i s.2.1), some (mx_i s.2.2.1), some (mx_i s.2.2.2.1), z6, z7] [] (γ, hM s.2.2.2.2 J, κ) Q := mx_lp_ok (P := fun s : Int32 × Int32 × Int32 × Int32 × (Nat → Nat → Nat → Int32) => ∀ (z1 z6 z7 : Option mx_V), mx_WP (d + 1) 153 10 [some (mx_r (some (1, 11, 0))), z1, some (mx_i s.1), some (mx_i s.2.1), some (mx_i s.2.2.1), some (mx_i s.2.2.2.1), z6, z7] [] (γ, hM s.2.2.2.2 J, κ) Q) (E := (fun x : Int32 × Int32 × Int32 × Int32 × (Nat → Nat → Nat → Int32) => ∀ (z1 z6 z7 : Option mx_V), mx_WP (d + 1) 153 156 [some (mx_r (some (1, 11, 0))), z1, some (mx_i x.1), some (mx_i x.2.1), some (mx_i x.2.2.1), some (mx_i x.2.2.2.1), z6, z7] [] (γ, hM x.2.2.2.2 J, κ) Q)) (fun s o hf hk => B153_10 hf hk) n s o hf hk
def b153_161  (I : Nat → Nat → Nat → Int32) (J : Nat → Nat → Nat → Int64) (s : Int32 × Int32 × (Nat → Nat → Nat → Int32)) : Option ((Int32 × Int32 × (Nat → Nat → Nat → Int32)) ⊕ (Int32 × Int32 × (Nat → Nat → Nat → Int32))) :=
  if s.2.1 < (0 : Int32) then (some (Sum.inr (s.1, s.2.1, s.2.2))) else if s.2.1 < 0 ∨ 8 ≤ s.2.1.toNatClampNeg then none else if (s.2.2 101 0 s.2.1.toNatClampNeg) < 0 ∨ 8 ≤ (s.2.2 101 0 s.2.1.toNatClampNeg).toNatClampNeg then none else if s.1 = (0 : Int32) then (if (s.2.2 101 0 s.2.1.toNatClampNeg) < 0 ∨ 8 ≤ (s.2.2 101 0 s.2.1.toNatClampNeg).toNatClampNeg then none else some (Sum.inl ((0 : Int32), s.2.1 + (-1), (mx_u3 (mx_u3 s.2.2 95 0 ((s.2.2 101 0 s.2.1.toNatClampNeg).toNatClampNeg) (vp_nar .boolean (0 : Int32))) 94 0 ((s.2.2 101 0 s.2.1.toNatClampNeg).toNatClampNeg) (vp_nar .boolean (0 : Int32)))))) else if (s.2.2 101 0 s.2.1.toNatClampNeg) < 0 ∨ 9 ≤ (s.2.2 101 0 s.2.1.toNatClampNeg).toNatClampNeg then none else if (s.2.2 89 0 ((s.2.2 101 0 s.2.1.toNatClampNeg).toNatClampNeg)) = (2 : Int32) then (if (s.2.2 101 0 s.2.1.toNatClampNeg) < 0 ∨ 8 ≤ (s.2.2 101 0 s.2.1.toNatClampNeg).toNatClampNeg then none else some (Sum.inl ((0 : Int32), s.2.1 + (-1), (mx_u3 (mx_u3 s.2.2 95 0 ((s.2.2 101 0 s.2.1.toNatClampNeg).toNatClampNeg) (vp_nar .boolean (0 : Int32))) 94 0 ((s.2.2 101 0 s.2.1.toNatClampNeg).toNatClampNeg) (vp_nar .boolean (0 : Int32)))))) else if (s.2.2 101 0 s.2.1.toNatClampNeg) < 0 ∨ 8 ≤ (s.2.2 101 0 s.2.1.toNatClampNeg).toNatClampNeg then none else some (Sum.inl ((1 : Int32), s.2.1 + (-1), (mx_u3 (mx_u3 s.2.2 95 0 ((s.2.2 101 0 s.2.1.toNatClampNeg).toNatClampNeg) (vp_nar .boolean (0 : Int32))) 94 0 ((s.2.2 101 0 s.2.1.toNatClampNeg).toNatClampNeg) (vp_nar .boolean (1 : Int32)))))
theorem B153_161 {d : Nat}  {γ : mx_Rg} {I : Nat → Nat → Nat → Int32} {J : Nat → Nat → Nat → Int64} {κ : (Nat × (Nat → Int32)) × (Nat × Nat)} {Q : Option mx_V → mx_Hp → Prop} {s : Int32 × Int32 × (Nat → Nat → Nat → Int32)} {o : (Int32 × Int32 × (Nat → Nat → Nat → Int32)) ⊕ (Int32 × Int32 × (Nat → Nat → Nat → Int32))} (hf : b153_161 I J s = some o) (hk : Sum.elim (fun s : Int32 × Int32 × (Nat → Nat → Nat → Int32) => ∀ (z1 z2 z3 z5 z7 : Option mx_V), mx_WP (d + 1) 153 161 [some (mx_r (some (1, 11, 0))), z1, z2, z3, some (mx_i s.1), z5, some (mx_i s.2.1), z7] [] (γ, hM s.2.2 J, κ) Q) (fun x : Int32 × Int32 × (Nat → Nat → Nat → Int32) => ∀ (z1 z2 z3 z5 z7 : Option mx_V), mx_WP (d + 1) 153 221 [some (mx_r (some (1, 11, 0))), z1, z2, z3, some (mx_i x.1), z5, some (mx_i x.2.1), z7] [] (γ, hM x.2.2 J, κ) Q) o) : ∀ (z1 z2 z3 z5 z7 : Option mx_V), mx_WP (d + 1) 153 161 [some (mx_r (some (1, 11, 0))), z1, z2, z3, some (mx_i s.1), z5, some (mx_i s.2.1), z7] [] (γ, hM s.2.2 J, κ) Q := by
  intro z1 z2 z3 z5 z7
  unfold b153_161 at hf
  refine mx_WP.go 1 (pc' := 163) (L' := [some (mx_r (some (1, 11, 0))), z1, z2, z3, some (mx_i s.1), z5, some (mx_i s.2.1), z7]) (st' := [mx_i s.2.1]) (σ' := (γ, hM s.2.2 J, κ)) rfl ?_
  by_cases c3224 : s.2.1 < (0 : Int32)
  · rw [if_pos c3224] at hf
    refine mx_WP.blt (x := s.2.1) (y := (0 : Int32)) (q := 221) (p3 := 166) rfl (fun _ => ?_) (fun hh => absurd c3224 hh)
    rw [← Option.some.inj hf] at hk
    exact hk (z1) (z2) (z3) (z5) (z7)
  · rw [if_neg c3224] at hf
    refine mx_WP.blt (x := s.2.1) (y := (0 : Int32)) (q := 221) (p3 := 166) rfl (fun hh => absurd hh c3224) (fun _ => ?_)
    refine mx_WP.go 3 (pc' := 172) (L' := [some (mx_r (some (1, 11, 0))), z1, z2, z3, some (mx_i s.1), z5, some (mx_i s.2.1), z7]) (st' := [mx_i s.2.1, mx_r (some (1, 101, 0))]) (σ' := (γ, hM s.2.2 J, κ)) rfl ?_
    by_cases c3225 : s.2.1 < 0 ∨ 8 ≤ s.2.1.toNatClampNeg
    · rw [if_pos c3225] at hf
      cases hf
    rw [if_neg c3225] at hf
    refine mx_WP.ialdx c3225 ?_
    show mx_WP (d + 1) 153 173 [some (mx_r (some (1, 11, 0))), z1, z2, z3, some (mx_i s.1), z5, some (mx_i s.2.1), z7] [mx_i (s.2.2 101 0 s.2.1.toNatClampNeg)] (γ, hM s.2.2 J, κ) Q
    refine mx_WP.go 5 (pc' := 182) (L' := [some (mx_r (some (1, 11, 0))), z1, z2, z3, some (mx_i s.1), z5, some (mx_i s.2.1), some (mx_i (s.2.2 101 0 s.2.1.toNatClampNeg))]) (st' := [mx_i (0 : Int32), mx_i (s.2.2 101 0 s.2.1.toNatClampNeg), mx_r (some (1, 95, 0))]) (σ' := (γ, hM s.2.2 J, κ)) rfl ?_
    by_cases c3226 : (s.2.2 101 0 s.2.1.toNatClampNeg) < 0 ∨ 8 ≤ (s.2.2 101 0 s.2.1.toNatClampNeg).toNatClampNeg
    · rw [if_pos c3226] at hf
      cases hf
    rw [if_neg c3226] at hf
    refine mx_WP.bastx c3226 ?_
    show mx_WP (d + 1) 153 183 [some (mx_r (some (1, 11, 0))), z1, z2, z3, some (mx_i s.1), z5, some (mx_i s.2.1), some (mx_i (s.2.2 101 0 s.2.1.toNatClampNeg))] [] (γ, hM (mx_u3 s.2.2 95 0 ((s.2.2 101 0 s.2.1.toNatClampNeg).toNatClampNeg) (vp_nar .boolean (0 : Int32))) J, κ) Q
    refine mx_WP.go 1 (pc' := 185) (L' := [some (mx_r (some (1, 11, 0))), z1, z2, z3, some (mx_i s.1), z5, some (mx_i s.2.1), some (mx_i (s.2.2 101 0 s.2.1.toNatClampNeg))]) (st' := [mx_i s.1]) (σ' := (γ, hM (mx_u3 s.2.2 95 0 ((s.2.2 101 0 s.2.1.toNatClampNeg).toNatClampNeg) (vp_nar .boolean (0 : Int32))) J, κ)) rfl ?_
    by_cases c3227 : s.1 = (0 : Int32)
    · rw [if_pos c3227] at hf
      refine mx_WP.beq (x := s.1) (y := (0 : Int32)) (q := 203) (p3 := 188) rfl (fun _ => ?_) (fun hh => absurd c3227 hh)
      refine mx_WP.go 6 (pc' := 214) (L' := [some (mx_r (some (1, 11, 0))), z1, z2, z3, some (mx_i (0 : Int32)), z5, some (mx_i s.2.1), some (mx_i (s.2.2 101 0 s.2.1.toNatClampNeg))]) (st' := [mx_i (0 : Int32), mx_i (s.2.2 101 0 s.2.1.toNatClampNeg), mx_r (some (1, 94, 0))]) (σ' := (γ, hM (mx_u3 s.2.2 95 0 ((s.2.2 101 0 s.2.1.toNatClampNeg).toNatClampNeg) (vp_nar .boolean (0 : Int32))) J, κ)) rfl ?_
      by_cases c3228 : (s.2.2 101 0 s.2.1.toNatClampNeg) < 0 ∨ 8 ≤ (s.2.2 101 0 s.2.1.toNatClampNeg).toNatClampNeg
      · rw [if_pos c3228] at hf
        cases hf
      rw [if_neg c3228] at hf
      refine mx_WP.bastx c3228 ?_
      show mx_WP (d + 1) 153 215 [some (mx_r (some (1, 11, 0))), z1, z2, z3, some (mx_i (0 : Int32)), z5, some (mx_i s.2.1), some (mx_i (s.2.2 101 0 s.2.1.toNatClampNeg))] [] (γ, hM (mx_u3 (mx_u3 s.2.2 95 0 ((s.2.2 101 0 s.2.1.toNatClampNeg).toNatClampNeg) (vp_nar .boolean (0 : Int32))) 94 0 ((s.2.2 101 0 s.2.1.toNatClampNeg).toNatClampNeg) (vp_nar .boolean (0 : Int32))) J, κ) Q
      refine mx_WP.go 2 (pc' := 161) (L' := [some (mx_r (some (1, 11, 0))), z1, z2, z3, some (mx_i (0 : Int32)), z5, some (mx_i (s.2.1 + (-1))), some (mx_i (s.2.2 101 0 s.2.1.toNatClampNeg))]) (st' := []) (σ' := (γ, hM (mx_u3 (mx_u3 s.2.2 95 0 ((s.2.2 101 0 s.2.1.toNatClampNeg).toNatClampNeg) (vp_nar .boolean (0 : Int32))) 94 0 ((s.2.2 101 0 s.2.1.toNatClampNeg).toNatClampNeg) (vp_nar .boolean (0 : Int32))) J, κ)) rfl ?_
      rw [← Option.some.inj hf] at hk
      exact hk (z1) (z2) (z3) (z5) (some (mx_i (s.2.2 101 0 s.2.1.toNatClampNeg)))
    · rw [if_neg c3227] at hf
      refine mx_WP.beq (x := s.1) (y := (0 : Int32)) (q := 203) (p3 := 188) rfl (fun hh => absurd hh c3227) (fun _ => ?_)
      refine mx_WP.go 3 (pc' := 194) (L' := [some (mx_r (some (1, 11, 0))), z1, z2, z3, some (mx_i s.1), z5, some (mx_i s.2.1), some (mx_i (s.2.2 101 0 s.2.1.toNatClampNeg))]) (st' := [mx_i (s.2.2 101 0 s.2.1.toNatClampNeg), mx_r (some (1, 89, 0))]) (σ' := (γ, hM (mx_u3 s.2.2 95 0 ((s.2.2 101 0 s.2.1.toNatClampNeg).toNatClampNeg) (vp_nar .boolean (0 : Int32))) J, κ)) rfl ?_
      by_cases c3229 : (s.2.2 101 0 s.2.1.toNatClampNeg) < 0 ∨ 9 ≤ (s.2.2 101 0 s.2.1.toNatClampNeg).toNatClampNeg
      · rw [if_pos c3229] at hf
        cases hf
      rw [if_neg c3229] at hf
      refine mx_WP.ialdx c3229 ?_
      show mx_WP (d + 1) 153 195 [some (mx_r (some (1, 11, 0))), z1, z2, z3, some (mx_i s.1), z5, some (mx_i s.2.1), some (mx_i (s.2.2 101 0 s.2.1.toNatClampNeg))] [mx_i (s.2.2 89 0 ((s.2.2 101 0 s.2.1.toNatClampNeg).toNatClampNeg))] (γ, hM (mx_u3 s.2.2 95 0 ((s.2.2 101 0 s.2.1.toNatClampNeg).toNatClampNeg) (vp_nar .boolean (0 : Int32))) J, κ) Q
      refine mx_WP.go 1 (pc' := 196) (L' := [some (mx_r (some (1, 11, 0))), z1, z2, z3, some (mx_i s.1), z5, some (mx_i s.2.1), some (mx_i (s.2.2 101 0 s.2.1.toNatClampNeg))]) (st' := [mx_i (2 : Int32), mx_i (s.2.2 89 0 ((s.2.2 101 0 s.2.1.toNatClampNeg).toNatClampNeg))]) (σ' := (γ, hM (mx_u3 s.2.2 95 0 ((s.2.2 101 0 s.2.1.toNatClampNeg).toNatClampNeg) (vp_nar .boolean (0 : Int32))) J, κ)) rfl ?_
      by_cases c3230 : (s.2.2 89 0 ((s.2.2 101 0 s.2.1.toNatClampNeg).toNatClampNeg)) = (2 : Int32)
      · rw [if_pos c3230] at hf
        refine mx_WP.beq (x := (s.2.2 89 0 ((s.2.2 101 0 s.2.1.toNatClampNeg).toNatClampNeg))) (y := (2 : Int32)) (q := 203) (p3 := 199) rfl (fun _ => ?_) (fun hh => absurd c3230 hh)
        refine mx_WP.go 6 (pc' := 214) (L' := [some (mx_r (some (1, 11, 0))), z1, z2, z3, some (mx_i (0 : Int32)), z5, some (mx_i s.2.1), some (mx_i (s.2.2 101 0 s.2.1.toNatClampNeg))]) (st' := [mx_i (0 : Int32), mx_i (s.2.2 101 0 s.2.1.toNatClampNeg), mx_r (some (1, 94, 0))]) (σ' := (γ, hM (mx_u3 s.2.2 95 0 ((s.2.2 101 0 s.2.1.toNatClampNeg).toNatClampNeg) (vp_nar .boolean (0 : Int32))) J, κ)) rfl ?_
        by_cases c3231 : (s.2.2 101 0 s.2.1.toNatClampNeg) < 0 ∨ 8 ≤ (s.2.2 101 0 s.2.1.toNatClampNeg).toNatClampNeg
        · rw [if_pos c3231] at hf
          cases hf
        rw [if_neg c3231] at hf
        refine mx_WP.bastx c3231 ?_
        show mx_WP (d + 1) 153 215 [some (mx_r (some (1, 11, 0))), z1, z2, z3, some (mx_i (0 : Int32)), z5, some (mx_i s.2.1), some (mx_i (s.2.2 101 0 s.2.1.toNatClampNeg))] [] (γ, hM (mx_u3 (mx_u3 s.2.2 95 0 ((s.2.2 101 0 s.2.1.toNatClampNeg).toNatClampNeg) (vp_nar .boolean (0 : Int32))) 94 0 ((s.2.2 101 0 s.2.1.toNatClampNeg).toNatClampNeg) (vp_nar .boolean (0 : Int32))) J, κ) Q
        refine mx_WP.go 2 (pc' := 161) (L' := [some (mx_r (some (1, 11, 0))), z1, z2, z3, some (mx_i (0 : Int32)), z5, some (mx_i (s.2.1 + (-1))), some (mx_i (s.2.2 101 0 s.2.1.toNatClampNeg))]) (st' := []) (σ' := (γ, hM (mx_u3 (mx_u3 s.2.2 95 0 ((s.2.2 101 0 s.2.1.toNatClampNeg).toNatClampNeg) (vp_nar .boolean (0 : Int32))) 94 0 ((s.2.2 101 0 s.2.1.toNatClampNeg).toNatClampNeg) (vp_nar .boolean (0 : Int32))) J, κ)) rfl ?_
        rw [← Option.some.inj hf] at hk
        exact hk (z1) (z2) (z3) (z5) (some (mx_i (s.2.2 101 0 s.2.1.toNatClampNeg)))
      · rw [if_neg c3230] at hf
        refine mx_WP.beq (x := (s.2.2 89 0 ((s.2.2 101 0 s.2.1.toNatClampNeg).toNatClampNeg))) (y := (2 : Int32)) (q := 203) (p3 := 199) rfl (fun hh => absurd hh c3230) (fun _ => ?_)
        refine mx_WP.go 7 (pc' := 214) (L' := [some (mx_r (some (1, 11, 0))), z1, z2, z3, some (mx_i (1 : Int32)), z5, some (mx_i s.2.1), some (mx_i (s.2.2 101 0 s.2.1.toNatClampNeg))]) (st' := [mx_i (1 : Int32), mx_i (s.2.2 101 0 s.2.1.toNatClampNeg), mx_r (some (1, 94, 0))]) (σ' := (γ, hM (mx_u3 s.2.2 95 0 ((s.2.2 101 0 s.2.1.toNatClampNeg).toNatClampNeg) (vp_nar .boolean (0 : Int32))) J, κ)) rfl ?_
        by_cases c3232 : (s.2.2 101 0 s.2.1.toNatClampNeg) < 0 ∨ 8 ≤ (s.2.2 101 0 s.2.1.toNatClampNeg).toNatClampNeg
        · rw [if_pos c3232] at hf
          cases hf
        rw [if_neg c3232] at hf
        refine mx_WP.bastx c3232 ?_
        show mx_WP (d + 1) 153 215 [some (mx_r (some (1, 11, 0))), z1, z2, z3, some (mx_i (1 : Int32)), z5, some (mx_i s.2.1), some (mx_i (s.2.2 101 0 s.2.1.toNatClampNeg))] [] (γ, hM (mx_u3 (mx_u3 s.2.2 95 0 ((s.2.2 101 0 s.2.1.toNatClampNeg).toNatClampNeg) (vp_nar .boolean (0 : Int32))) 94 0 ((s.2.2 101 0 s.2.1.toNatClampNeg).toNatClampNeg) (vp_nar .boolean (1 : Int32))) J, κ) Q
        refine mx_WP.go 2 (pc' := 161) (L' := [some (mx_r (some (1, 11, 0))), z1, z2, z3, some (mx_i (1 : Int32)), z5, some (mx_i (s.2.1 + (-1))), some (mx_i (s.2.2 101 0 s.2.1.toNatClampNeg))]) (st' := []) (σ' := (γ, hM (mx_u3 (mx_u3 s.2.2 95 0 ((s.2.2 101 0 s.2.1.toNatClampNeg).toNatClampNeg) (vp_nar .boolean (0 : Int32))) 94 0 ((s.2.2 101 0 s.2.1.toNatClampNeg).toNatClampNeg) (vp_nar .boolean (1 : Int32))) J, κ)) rfl ?_
        rw [← Option.some.inj hf] at hk
        exact hk (z1) (z2) (z3) (z5) (some (mx_i (s.2.2 101 0 s.2.1.toNatClampNeg)))
theorem L153_161 {d : Nat}  {γ : mx_Rg} {I : Nat → Nat → Nat → Int32} {J : Nat → Nat → Nat → Int64} {κ : (Nat × (Nat → Int32)) × (Nat × Nat)} {Q : Option mx_V → mx_Hp → Prop} {n : Nat} {s : Int32 × Int32 × (Nat → Nat → Nat → Int32)} {o : Int32 × Int32 × (Nat → Nat → Nat → Int32)} (hf : mx_lp (b153_161 I J) n s = some o) (hk : (fun x : Int32 × Int32 × (Nat → Nat → Nat → Int32) => ∀ (z1 z2 z3 z5 z7 : Option mx_V), mx_WP (d + 1) 153 221 [some (mx_r (some (1, 11, 0))), z1, z2, z3, some (mx_i x.1), z5, some (mx_i x.2.1), z7] [] (γ, hM x.2.2 J, κ) Q) o) : ∀ (z1 z2 z3 z5 z7 : Option mx_V), mx_WP (d + 1) 153 161 [some (mx_r (some (1, 11, 0))), z1, z2, z3, some (mx_i s.1), z5, some (mx_i s.2.1), z7] [] (γ, hM s.2.2 J, κ) Q := mx_lp_ok (P := fun s : Int32 × Int32 × (Nat → Nat → Nat → Int32) => ∀ (z1 z2 z3 z5 z7 : Option mx_V), mx_WP (d + 1) 153 161 [some (mx_r (some (1, 11, 0))), z1, z2, z3, some (mx_i s.1), z5, some (mx_i s.2.1), z7] [] (γ, hM s.2.2 J, κ) Q) (E := (fun x : Int32 × Int32 × (Nat → Nat → Nat → Int32) => ∀ (z1 z2 z3 z5 z7 : Option mx_V), mx_WP (d + 1) 153 221 [some (mx_r (some (1, 11, 0))), z1, z2, z3, some (mx_i x.1), z5, some (mx_i x.2.1), z7] [] (γ, hM x.2.2 J, κ) Q)) (fun s o hf hk => B153_161 hf hk) n s o hf hk
def f153 (x1 : Int32) (I : Nat → Nat → Nat → Int32) (J : Nat → Nat → Nat → Int64) : Option (Bool × (Nat → Nat → Nat → Int32)) :=
  (mx_lp (b153_10 I J) mx_fu ((0 : Int32), x1, (1 : Int32), (1 : Int32), I)).bind fun u3122 =>
  (mx_lp (b153_161 u3122.2.2.2.2 J) mx_fu (u3122.2.2.1, u3122.1 - (1 : Int32), u3122.2.2.2.2)).bind fun u3233 =>
  if u3233.1 = 0 then some (false, u3233.2.2) else if u3233.1 = 1 then some (true, u3233.2.2) else none
theorem T153 {d : Nat} {x1 : Int32} {γ : mx_Rg} {I : Nat → Nat → Nat → Int32} {J : Nat → Nat → Nat → Int64} {κ : (Nat × (Nat → Int32)) × (Nat × Nat)} {Q : Option mx_V → mx_Hp → Prop} {o : Bool × (Nat → Nat → Nat → Int32)} (hf : f153 x1 I J = some o) (hk : Q (some (mx_i (b2i o.1))) (γ, hM o.2 J, κ)) : mx_WP (d + 1) 153 0 (mx_ent 153 [mx_r (some (1, 11, 0)), mx_i x1]) [] (γ, hM I J, κ) Q := by
  unfold f153 at hf
  refine mx_WP.go 8 (pc' := 10) (L' := [some (mx_r (some (1, 11, 0))), some (mx_i x1), some (mx_i (0 : Int32)), some (mx_i x1), some (mx_i (1 : Int32)), some (mx_i (1 : Int32)), none, none]) (st' := []) (σ' := (γ, hM I J, κ)) rfl ?_
  obtain ⟨u3122, e3123, hf⟩ := Option.bind_eq_some_iff.mp hf
  refine (L153_10 (d := d) e3123 ?_) (some (mx_i x1)) (none) (none)
  intro z1 z6 z7
  show mx_WP (d + 1) 153 156 [some (mx_r (some (1, 11, 0))), z1, some (mx_i u3122.1), some (mx_i u3122.2.1), some (mx_i u3122.2.2.1), some (mx_i u3122.2.2.2.1), z6, z7] [] (γ, hM u3122.2.2.2.2 J, κ) Q
  refine mx_WP.go 4 (pc' := 161) (L' := [some (mx_r (some (1, 11, 0))), z1, some (mx_i u3122.1), some (mx_i u3122.2.1), some (mx_i u3122.2.2.1), some (mx_i u3122.2.2.2.1), some (mx_i (u3122.1 - (1 : Int32))), z7]) (st' := []) (σ' := (γ, hM u3122.2.2.2.2 J, κ)) rfl ?_
  obtain ⟨u3233, e3234, hf⟩ := Option.bind_eq_some_iff.mp hf
  refine (L153_161 (d := d) e3234 ?_) (z1) (some (mx_i u3122.1)) (some (mx_i u3122.2.1)) (some (mx_i u3122.2.2.2.1)) (z7)
  intro z1 z2 z3 z5 z7
  show mx_WP (d + 1) 153 221 [some (mx_r (some (1, 11, 0))), z1, z2, z3, some (mx_i u3233.1), z5, some (mx_i u3233.2.1), z7] [] (γ, hM u3233.2.2 J, κ) Q
  refine mx_WP.go 1 (pc' := 223) (L' := [some (mx_r (some (1, 11, 0))), z1, z2, z3, some (mx_i u3233.1), z5, some (mx_i u3233.2.1), z7]) (st' := [mx_i u3233.1]) (σ' := (γ, hM u3233.2.2 J, κ)) rfl ?_
  by_cases c3235 : u3233.1 = 0
  · rw [if_pos c3235] at hf
    rw [← Option.some.inj hf] at hk
    refine mx_WP.retz (Or.inl c3235) (by rfl) (by rfl) ?_
    rw [c3235]
    exact hk
  rw [if_neg c3235] at hf
  by_cases c3236 : u3233.1 = 1
  · rw [if_pos c3236] at hf
    rw [← Option.some.inj hf] at hk
    refine mx_WP.retz (Or.inr c3236) (by rfl) (by rfl) ?_
    rw [c3236]
    exact hk
  rw [if_neg c3236] at hf
  cases hf
def f150 (x1 : Int32) (x2 : Int64) (I : Nat → Nat → Nat → Int32) (J : Nat → Nat → Nat → Int64) : Option (Int32 × (Nat → Nat → Nat → Int32)) :=
  (f140 x1 I).bind fun u1 =>
  if u1 = true then ((f151 x1 I).bind fun u3 =>
  if u3 < 0 ∨ 128 ≤ u3.toNatClampNeg then none else if (I 108 0 u3.toNatClampNeg) = (0 : Int32) then (some ((-1 : Int32), I)) else (f141 x1 x2 I J).bind fun u6 =>
  if (0 : Int32) < (lg_cmp u6 (0 : Int64)) then ((f152 (x1 / (16 : Int32)) u6 I J).bind fun u8 =>
  if (0 : Int32) ≤ u8 then ((f153 u8 I J).bind fun u10 =>
  if u10.1 = true then (if u8 < 0 ∨ 36 ≤ u8.toNatClampNeg then none else if ((u10.2 88 0 u8.toNatClampNeg) &&& (3 : Int32)) ≤ (0 : Int32) then (if (u10.2 11 0 39) = (24 : Int32) then (some ((-2 : Int32), u10.2)) else if (u10.2 11 0 39) < 0 ∨ 24 ≤ (u10.2 11 0 39).toNatClampNeg then none else (f151 x1 (mx_u3 u10.2 110 0 ((u10.2 11 0 39).toNatClampNeg) x1)).bind fun u16 =>
  if (u10.2 11 0 39) < 0 ∨ 24 ≤ (u10.2 11 0 39).toNatClampNeg then none else if (u10.2 11 0 39) < 0 ∨ 24 ≤ (u10.2 11 0 39).toNatClampNeg then none else if (u10.2 11 0 39) < 0 ∨ 24 ≤ (u10.2 11 0 39).toNatClampNeg then none else some (u10.2 11 0 39, (mx_u3 (mx_u3 (mx_u3 (mx_u3 (mx_u3 u10.2 110 0 ((u10.2 11 0 39).toNatClampNeg) x1) 112 0 ((u10.2 11 0 39).toNatClampNeg) u16) 111 0 ((u10.2 11 0 39).toNatClampNeg) (u8 / (4 : Int32))) 115 0 ((u10.2 11 0 39).toNatClampNeg) (vp_nar .boolean (0 : Int32))) 11 0 39 ((u10.2 11 0 39) + (1 : Int32))))) else if ((u10.2 88 0 u8.toNatClampNeg) &&& (3 : Int32)) = (1 : Int32) then (some ((-7 : Int32), u10.2)) else some ((-8 : Int32), u10.2)) else some ((-6 : Int32), u10.2)) else some ((-5 : Int32), I)) else some ((-4 : Int32), I)) else some ((-1 : Int32), I)
theorem T150 {d : Nat} {x1 : Int32} {x2 : Int64} {γ : mx_Rg} {I : Nat → Nat → Nat → Int32} {J : Nat → Nat → Nat → Int64} {κ : (Nat × (Nat → Int32)) × (Nat × Nat)} {Q : Option mx_V → mx_Hp → Prop} {o : Int32 × (Nat → Nat → Nat → Int32)} (hf : f150 x1 x2 I J = some o) (hk : Q (some (mx_i o.1)) (γ, hM o.2 J, κ)) : mx_WP (d + 2) 150 0 (mx_ent 150 [mx_r (some (1, 11, 0)), mx_i x1, mx_l x2]) [] (γ, hM I J, κ) Q := by
  unfold f150 at hf
  refine mx_WP.go 2 (pc' := 2) (L' := [some (mx_r (some (1, 11, 0))), some (mx_i x1), some (mx_l x2), none, none, none, none, none, none]) (st' := [mx_i x1, mx_r (some (1, 11, 0))]) (σ' := (γ, hM I J, κ)) rfl ?_
  obtain ⟨u1, e26, hf⟩ := Option.bind_eq_some_iff.mp hf
  refine mx_WP.call (d := d + 1) (y := 140) (as := [mx_r (some (1, 11, 0)), mx_i x1]) (pc' := 5) (r := []) rfl rfl (T140 (d := d + 0)  e26 ?_)
  show mx_WP (d + 2) 150 5 [some (mx_r (some (1, 11, 0))), some (mx_i x1), some (mx_l x2), none, none, none, none, none, none] [mx_i (b2i u1)] (γ, hM I J, κ) Q
  by_cases c2 : u1 = true
  · rw [if_pos c2] at hf
    refine mx_WP.zeq (b := u1) (q := 21) (p3 := 8) rfl (fun hh => absurd hh (by simp [c2])) (fun _ => ?_)
    refine mx_WP.go 4 (pc' := 14) (L' := [some (mx_r (some (1, 11, 0))), some (mx_i x1), some (mx_l x2), none, none, none, none, none, none]) (st' := [mx_i x1, mx_r (some (1, 11, 0)), mx_r (some (1, 108, 0))]) (σ' := (γ, hM I J, κ)) rfl ?_
    obtain ⟨u3, e25, hf⟩ := Option.bind_eq_some_iff.mp hf
    refine mx_WP.call (d := d + 1) (y := 151) (as := [mx_r (some (1, 11, 0)), mx_i x1]) (pc' := 17) (r := [mx_r (some (1, 108, 0))]) rfl rfl (T151 (d := d + 1)  e25 ?_)
    show mx_WP (d + 2) 150 17 [some (mx_r (some (1, 11, 0))), some (mx_i x1), some (mx_l x2), none, none, none, none, none, none] [mx_i u3, mx_r (some (1, 108, 0))] (γ, hM I J, κ) Q
    by_cases c4 : u3 < 0 ∨ 128 ≤ u3.toNatClampNeg
    · rw [if_pos c4] at hf
      cases hf
    rw [if_neg c4] at hf
    refine mx_WP.baldx c4 ?_
    show mx_WP (d + 2) 150 18 [some (mx_r (some (1, 11, 0))), some (mx_i x1), some (mx_l x2), none, none, none, none, none, none] [mx_i (I 108 0 u3.toNatClampNeg)] (γ, hM I J, κ) Q
    by_cases c5 : (I 108 0 u3.toNatClampNeg) = (0 : Int32)
    · rw [if_pos c5] at hf
      refine mx_WP.bne (x := (I 108 0 u3.toNatClampNeg)) (y := (0 : Int32)) (q := 23) (p3 := 21) rfl (fun hh => absurd c5 hh) (fun _ => ?_)
      refine mx_WP.go 1 (pc' := 22) (L' := [some (mx_r (some (1, 11, 0))), some (mx_i x1), some (mx_l x2), none, none, none, none, none, none]) (st' := [mx_i (-1 : Int32)]) (σ' := (γ, hM I J, κ)) rfl ?_
      rw [← Option.some.inj hf] at hk
      refine mx_WP.ret (v := some (mx_i (-1 : Int32))) rfl ?_
      exact hk
    · rw [if_neg c5] at hf
      refine mx_WP.bne (x := (I 108 0 u3.toNatClampNeg)) (y := (0 : Int32)) (q := 23) (p3 := 21) rfl (fun _ => ?_) (fun hh => absurd c5 hh)
      refine mx_WP.go 3 (pc' := 26) (L' := [some (mx_r (some (1, 11, 0))), some (mx_i x1), some (mx_l x2), none, none, none, none, none, none]) (st' := [mx_l x2, mx_i x1, mx_r (some (1, 11, 0))]) (σ' := (γ, hM I J, κ)) rfl ?_
      obtain ⟨u6, e24, hf⟩ := Option.bind_eq_some_iff.mp hf
      refine mx_WP.call (d := d + 1) (y := 141) (as := [mx_r (some (1, 11, 0)), mx_i x1, mx_l x2]) (pc' := 29) (r := []) rfl rfl (T141 (d := d + 1)  e24 ?_)
      show mx_WP (d + 2) 150 29 [some (mx_r (some (1, 11, 0))), some (mx_i x1), some (mx_l x2), none, none, none, none, none, none] [mx_l u6] (γ, hM I J, κ) Q
      refine mx_WP.go 4 (pc' := 35) (L' := [some (mx_r (some (1, 11, 0))), some (mx_i x1), some (mx_l x2), none, some (mx_l u6), none, none, none, none]) (st' := [mx_i (lg_cmp u6 (0 : Int64))]) (σ' := (γ, hM I J, κ)) rfl ?_
      by_cases c7 : (0 : Int32) < (lg_cmp u6 (0 : Int64))
      · rw [if_pos c7] at hf
        refine mx_WP.bgt (x := (lg_cmp u6 (0 : Int64))) (y := (0 : Int32)) (q := 41) (p3 := 38) rfl (fun _ => ?_) (fun hh => absurd c7 hh)
        refine mx_WP.go 5 (pc' := 48) (L' := [some (mx_r (some (1, 11, 0))), some (mx_i x1), some (mx_l x2), none, some (mx_l u6), none, none, none, none]) (st' := [mx_l u6, mx_i (x1 / (16 : Int32)), mx_r (some (1, 11, 0))]) (σ' := (γ, hM I J, κ)) rfl ?_
        obtain ⟨u8, e23, hf⟩ := Option.bind_eq_some_iff.mp hf
        refine mx_WP.call (d := d + 1) (y := 152) (as := [mx_r (some (1, 11, 0)), mx_i (x1 / (16 : Int32)), mx_l u6]) (pc' := 51) (r := []) rfl rfl (T152 (d := d + 1)  e23 ?_)
        show mx_WP (d + 2) 150 51 [some (mx_r (some (1, 11, 0))), some (mx_i x1), some (mx_l x2), none, some (mx_l u6), none, none, none, none] [mx_i u8] (γ, hM I J, κ) Q
        refine mx_WP.go 2 (pc' := 55) (L' := [some (mx_r (some (1, 11, 0))), some (mx_i x1), some (mx_l x2), none, some (mx_l u6), none, some (mx_i u8), none, none]) (st' := [mx_i u8]) (σ' := (γ, hM I J, κ)) rfl ?_
        by_cases c9 : (0 : Int32) ≤ u8
        · rw [if_pos c9] at hf
          refine mx_WP.bge (x := u8) (y := (0 : Int32)) (q := 61) (p3 := 58) rfl (fun _ => ?_) (fun hh => absurd c9 hh)
          refine mx_WP.go 2 (pc' := 64) (L' := [some (mx_r (some (1, 11, 0))), some (mx_i x1), some (mx_l x2), none, some (mx_l u6), none, some (mx_i u8), none, none]) (st' := [mx_i u8, mx_r (some (1, 11, 0))]) (σ' := (γ, hM I J, κ)) rfl ?_
          obtain ⟨u10, e22, hf⟩ := Option.bind_eq_some_iff.mp hf
          refine mx_WP.call (d := d + 1) (y := 153) (as := [mx_r (some (1, 11, 0)), mx_i u8]) (pc' := 67) (r := []) rfl rfl (T153 (d := d + 0)  e22 ?_)
          show mx_WP (d + 2) 150 67 [some (mx_r (some (1, 11, 0))), some (mx_i x1), some (mx_l x2), none, some (mx_l u6), none, some (mx_i u8), none, none] [mx_i (b2i u10.1)] (γ, hM u10.2 J, κ) Q
          refine mx_WP.go 2 (pc' := 71) (L' := [some (mx_r (some (1, 11, 0))), some (mx_i x1), some (mx_l x2), none, some (mx_l u6), none, some (mx_i u8), some (mx_i (b2i u10.1)), none]) (st' := [mx_i (b2i u10.1)]) (σ' := (γ, hM u10.2 J, κ)) rfl ?_
          by_cases c11 : u10.1 = true
          · rw [if_pos c11] at hf
            refine mx_WP.zne (b := u10.1) (q := 77) (p3 := 74) rfl (fun _ => ?_) (fun hh => absurd hh (by simp [c11]))
            refine mx_WP.go 3 (pc' := 83) (L' := [some (mx_r (some (1, 11, 0))), some (mx_i x1), some (mx_l x2), none, some (mx_l u6), none, some (mx_i u8), some (mx_i (b2i u10.1)), none]) (st' := [mx_i u8, mx_r (some (1, 88, 0))]) (σ' := (γ, hM u10.2 J, κ)) rfl ?_
            by_cases c12 : u8 < 0 ∨ 36 ≤ u8.toNatClampNeg
            · rw [if_pos c12] at hf
              cases hf
            rw [if_neg c12] at hf
            refine mx_WP.ialdx c12 ?_
            show mx_WP (d + 2) 150 84 [some (mx_r (some (1, 11, 0))), some (mx_i x1), some (mx_l x2), none, some (mx_l u6), none, some (mx_i u8), some (mx_i (b2i u10.1)), none] [mx_i (u10.2 88 0 u8.toNatClampNeg)] (γ, hM u10.2 J, κ) Q
            refine mx_WP.go 4 (pc' := 90) (L' := [some (mx_r (some (1, 11, 0))), some (mx_i x1), some (mx_l x2), none, some (mx_l u6), none, some (mx_i u8), some (mx_i (b2i u10.1)), some (mx_i ((u10.2 88 0 u8.toNatClampNeg) &&& (3 : Int32)))]) (st' := [mx_i ((u10.2 88 0 u8.toNatClampNeg) &&& (3 : Int32))]) (σ' := (γ, hM u10.2 J, κ)) rfl ?_
            by_cases c13 : ((u10.2 88 0 u8.toNatClampNeg) &&& (3 : Int32)) ≤ (0 : Int32)
            · rw [if_pos c13] at hf
              refine mx_WP.ble (x := ((u10.2 88 0 u8.toNatClampNeg) &&& (3 : Int32))) (y := (0 : Int32)) (q := 107) (p3 := 93) rfl (fun _ => ?_) (fun hh => absurd c13 hh)
              refine mx_WP.go 3 (pc' := 113) (L' := [some (mx_r (some (1, 11, 0))), some (mx_i x1), some (mx_l x2), none, some (mx_l u6), none, some (mx_i u8), some (mx_i (b2i u10.1)), some (mx_i ((u10.2 88 0 u8.toNatClampNeg) &&& (3 : Int32)))]) (st' := [mx_i (24 : Int32), mx_i (u10.2 11 0 39)]) (σ' := (γ, hM u10.2 J, κ)) rfl ?_
              by_cases c14 : (u10.2 11 0 39) = (24 : Int32)
              · rw [if_pos c14] at hf
                refine mx_WP.bne (x := (u10.2 11 0 39)) (y := (24 : Int32)) (q := 119) (p3 := 116) rfl (fun hh => absurd c14 hh) (fun _ => ?_)
                refine mx_WP.go 1 (pc' := 118) (L' := [some (mx_r (some (1, 11, 0))), some (mx_i x1), some (mx_l x2), none, some (mx_l u6), none, some (mx_i u8), some (mx_i (b2i u10.1)), some (mx_i ((u10.2 88 0 u8.toNatClampNeg) &&& (3 : Int32)))]) (st' := [mx_i (-2 : Int32)]) (σ' := (γ, hM u10.2 J, κ)) rfl ?_
                rw [← Option.some.inj hf] at hk
                refine mx_WP.ret (v := some (mx_i (-2 : Int32))) rfl ?_
                exact hk
              · rw [if_neg c14] at hf
                refine mx_WP.bne (x := (u10.2 11 0 39)) (y := (24 : Int32)) (q := 119) (p3 := 116) rfl (fun _ => ?_) (fun hh => absurd c14 hh)
                refine mx_WP.go 5 (pc' := 128) (L' := [some (mx_r (some (1, 11, 0))), some (mx_i x1), some (mx_l x2), none, some (mx_l u6), none, some (mx_i u8), some (mx_i (b2i u10.1)), some (mx_i ((u10.2 88 0 u8.toNatClampNeg) &&& (3 : Int32)))]) (st' := [mx_i x1, mx_i (u10.2 11 0 39), mx_r (some (1, 110, 0))]) (σ' := (γ, hM u10.2 J, κ)) rfl ?_
                by_cases c15 : (u10.2 11 0 39) < 0 ∨ 24 ≤ (u10.2 11 0 39).toNatClampNeg
                · rw [if_pos c15] at hf
                  cases hf
                rw [if_neg c15] at hf
                refine mx_WP.iastx c15 ?_
                show mx_WP (d + 2) 150 129 [some (mx_r (some (1, 11, 0))), some (mx_i x1), some (mx_l x2), none, some (mx_l u6), none, some (mx_i u8), some (mx_i (b2i u10.1)), some (mx_i ((u10.2 88 0 u8.toNatClampNeg) &&& (3 : Int32)))] [] (γ, hM (mx_u3 u10.2 110 0 ((u10.2 11 0 39).toNatClampNeg) x1) J, κ) Q
                refine mx_WP.go 6 (pc' := 139) (L' := [some (mx_r (some (1, 11, 0))), some (mx_i x1), some (mx_l x2), none, some (mx_l u6), none, some (mx_i u8), some (mx_i (b2i u10.1)), some (mx_i ((u10.2 88 0 u8.toNatClampNeg) &&& (3 : Int32)))]) (st' := [mx_i x1, mx_r (some (1, 11, 0)), mx_i (u10.2 11 0 39), mx_r (some (1, 112, 0))]) (σ' := (γ, hM (mx_u3 u10.2 110 0 ((u10.2 11 0 39).toNatClampNeg) x1) J, κ)) rfl ?_
                obtain ⟨u16, e20, hf⟩ := Option.bind_eq_some_iff.mp hf
                refine mx_WP.call (d := d + 1) (y := 151) (as := [mx_r (some (1, 11, 0)), mx_i x1]) (pc' := 142) (r := [mx_i (u10.2 11 0 39), mx_r (some (1, 112, 0))]) rfl rfl (T151 (d := d + 1)  e20 ?_)
                show mx_WP (d + 2) 150 142 [some (mx_r (some (1, 11, 0))), some (mx_i x1), some (mx_l x2), none, some (mx_l u6), none, some (mx_i u8), some (mx_i (b2i u10.1)), some (mx_i ((u10.2 88 0 u8.toNatClampNeg) &&& (3 : Int32)))] [mx_i u16, mx_i (u10.2 11 0 39), mx_r (some (1, 112, 0))] (γ, hM (mx_u3 u10.2 110 0 ((u10.2 11 0 39).toNatClampNeg) x1) J, κ) Q
                by_cases c17 : (u10.2 11 0 39) < 0 ∨ 24 ≤ (u10.2 11 0 39).toNatClampNeg
                · rw [if_pos c17] at hf
                  cases hf
                rw [if_neg c17] at hf
                refine mx_WP.iastx c17 ?_
                show mx_WP (d + 2) 150 143 [some (mx_r (some (1, 11, 0))), some (mx_i x1), some (mx_l x2), none, some (mx_l u6), none, some (mx_i u8), some (mx_i (b2i u10.1)), some (mx_i ((u10.2 88 0 u8.toNatClampNeg) &&& (3 : Int32)))] [] (γ, hM (mx_u3 (mx_u3 u10.2 110 0 ((u10.2 11 0 39).toNatClampNeg) x1) 112 0 ((u10.2 11 0 39).toNatClampNeg) u16) J, κ) Q
                refine mx_WP.go 7 (pc' := 155) (L' := [some (mx_r (some (1, 11, 0))), some (mx_i x1), some (mx_l x2), none, some (mx_l u6), none, some (mx_i u8), some (mx_i (b2i u10.1)), some (mx_i ((u10.2 88 0 u8.toNatClampNeg) &&& (3 : Int32)))]) (st' := [mx_i (u8 / (4 : Int32)), mx_i (u10.2 11 0 39), mx_r (some (1, 111, 0))]) (σ' := (γ, hM (mx_u3 (mx_u3 u10.2 110 0 ((u10.2 11 0 39).toNatClampNeg) x1) 112 0 ((u10.2 11 0 39).toNatClampNeg) u16) J, κ)) rfl ?_
                by_cases c18 : (u10.2 11 0 39) < 0 ∨ 24 ≤ (u10.2 11 0 39).toNatClampNeg
                · rw [if_pos c18] at hf
                  cases hf
                rw [if_neg c18] at hf
                refine mx_WP.iastx c18 ?_
                show mx_WP (d + 2) 150 156 [some (mx_r (some (1, 11, 0))), some (mx_i x1), some (mx_l x2), none, some (mx_l u6), none, some (mx_i u8), some (mx_i (b2i u10.1)), some (mx_i ((u10.2 88 0 u8.toNatClampNeg) &&& (3 : Int32)))] [] (γ, hM (mx_u3 (mx_u3 (mx_u3 u10.2 110 0 ((u10.2 11 0 39).toNatClampNeg) x1) 112 0 ((u10.2 11 0 39).toNatClampNeg) u16) 111 0 ((u10.2 11 0 39).toNatClampNeg) (u8 / (4 : Int32))) J, κ) Q
                refine mx_WP.go 5 (pc' := 165) (L' := [some (mx_r (some (1, 11, 0))), some (mx_i x1), some (mx_l x2), none, some (mx_l u6), none, some (mx_i u8), some (mx_i (b2i u10.1)), some (mx_i ((u10.2 88 0 u8.toNatClampNeg) &&& (3 : Int32)))]) (st' := [mx_i (0 : Int32), mx_i (u10.2 11 0 39), mx_r (some (1, 115, 0))]) (σ' := (γ, hM (mx_u3 (mx_u3 (mx_u3 u10.2 110 0 ((u10.2 11 0 39).toNatClampNeg) x1) 112 0 ((u10.2 11 0 39).toNatClampNeg) u16) 111 0 ((u10.2 11 0 39).toNatClampNeg) (u8 / (4 : Int32))) J, κ)) rfl ?_
                by_cases c19 : (u10.2 11 0 39) < 0 ∨ 24 ≤ (u10.2 11 0 39).toNatClampNeg
                · rw [if_pos c19] at hf
                  cases hf
                rw [if_neg c19] at hf
                refine mx_WP.bastx c19 ?_
                show mx_WP (d + 2) 150 166 [some (mx_r (some (1, 11, 0))), some (mx_i x1), some (mx_l x2), none, some (mx_l u6), none, some (mx_i u8), some (mx_i (b2i u10.1)), some (mx_i ((u10.2 88 0 u8.toNatClampNeg) &&& (3 : Int32)))] [] (γ, hM (mx_u3 (mx_u3 (mx_u3 (mx_u3 u10.2 110 0 ((u10.2 11 0 39).toNatClampNeg) x1) 112 0 ((u10.2 11 0 39).toNatClampNeg) u16) 111 0 ((u10.2 11 0 39).toNatClampNeg) (u8 / (4 : Int32))) 115 0 ((u10.2 11 0 39).toNatClampNeg) (vp_nar .boolean (0 : Int32))) J, κ) Q
                refine mx_WP.go 7 (pc' := 177) (L' := [some (mx_r (some (1, 11, 0))), some (mx_i x1), some (mx_l x2), none, some (mx_l u6), none, some (mx_i u8), some (mx_i (b2i u10.1)), some (mx_i ((u10.2 88 0 u8.toNatClampNeg) &&& (3 : Int32)))]) (st' := [mx_i (u10.2 11 0 39)]) (σ' := (γ, hM (mx_u3 (mx_u3 (mx_u3 (mx_u3 (mx_u3 u10.2 110 0 ((u10.2 11 0 39).toNatClampNeg) x1) 112 0 ((u10.2 11 0 39).toNatClampNeg) u16) 111 0 ((u10.2 11 0 39).toNatClampNeg) (u8 / (4 : Int32))) 115 0 ((u10.2 11 0 39).toNatClampNeg) (vp_nar .boolean (0 : Int32))) 11 0 39 ((u10.2 11 0 39) + (1 : Int32))) J, κ)) rfl ?_
                rw [← Option.some.inj hf] at hk
                refine mx_WP.ret (v := some (mx_i (u10.2 11 0 39))) rfl ?_
                exact hk
            · rw [if_neg c13] at hf
              refine mx_WP.ble (x := ((u10.2 88 0 u8.toNatClampNeg) &&& (3 : Int32))) (y := (0 : Int32)) (q := 107) (p3 := 93) rfl (fun hh => absurd hh c13) (fun _ => ?_)
              refine mx_WP.go 2 (pc' := 96) (L' := [some (mx_r (some (1, 11, 0))), some (mx_i x1), some (mx_l x2), none, some (mx_l u6), none, some (mx_i u8), some (mx_i (b2i u10.1)), some (mx_i ((u10.2 88 0 u8.toNatClampNeg) &&& (3 : Int32)))]) (st' := [mx_i (1 : Int32), mx_i ((u10.2 88 0 u8.toNatClampNeg) &&& (3 : Int32))]) (σ' := (γ, hM u10.2 J, κ)) rfl ?_
              by_cases c21 : ((u10.2 88 0 u8.toNatClampNeg) &&& (3 : Int32)) = (1 : Int32)
              · rw [if_pos c21] at hf
                refine mx_WP.bne (x := ((u10.2 88 0 u8.toNatClampNeg) &&& (3 : Int32))) (y := (1 : Int32)) (q := 104) (p3 := 99) rfl (fun hh => absurd c21 hh) (fun _ => ?_)
                refine mx_WP.go 2 (pc' := 106) (L' := [some (mx_r (some (1, 11, 0))), some (mx_i x1), some (mx_l x2), none, some (mx_l u6), none, some (mx_i u8), some (mx_i (b2i u10.1)), some (mx_i ((u10.2 88 0 u8.toNatClampNeg) &&& (3 : Int32)))]) (st' := [mx_i (-7 : Int32)]) (σ' := (γ, hM u10.2 J, κ)) rfl ?_
                rw [← Option.some.inj hf] at hk
                refine mx_WP.ret (v := some (mx_i (-7 : Int32))) rfl ?_
                exact hk
              · rw [if_neg c21] at hf
                refine mx_WP.bne (x := ((u10.2 88 0 u8.toNatClampNeg) &&& (3 : Int32))) (y := (1 : Int32)) (q := 104) (p3 := 99) rfl (fun _ => ?_) (fun hh => absurd c21 hh)
                refine mx_WP.go 1 (pc' := 106) (L' := [some (mx_r (some (1, 11, 0))), some (mx_i x1), some (mx_l x2), none, some (mx_l u6), none, some (mx_i u8), some (mx_i (b2i u10.1)), some (mx_i ((u10.2 88 0 u8.toNatClampNeg) &&& (3 : Int32)))]) (st' := [mx_i (-8 : Int32)]) (σ' := (γ, hM u10.2 J, κ)) rfl ?_
                rw [← Option.some.inj hf] at hk
                refine mx_WP.ret (v := some (mx_i (-8 : Int32))) rfl ?_
                exact hk
          · rw [if_neg c11] at hf
            refine mx_WP.zne (b := u10.1) (q := 77) (p3 := 74) rfl (fun hh => absurd hh (by simp [c11])) (fun _ => ?_)
            refine mx_WP.go 1 (pc' := 76) (L' := [some (mx_r (some (1, 11, 0))), some (mx_i x1), some (mx_l x2), none, some (mx_l u6), none, some (mx_i u8), some (mx_i (b2i u10.1)), none]) (st' := [mx_i (-6 : Int32)]) (σ' := (γ, hM u10.2 J, κ)) rfl ?_
            rw [← Option.some.inj hf] at hk
            refine mx_WP.ret (v := some (mx_i (-6 : Int32))) rfl ?_
            exact hk
        · rw [if_neg c9] at hf
          refine mx_WP.bge (x := u8) (y := (0 : Int32)) (q := 61) (p3 := 58) rfl (fun hh => absurd hh c9) (fun _ => ?_)
          refine mx_WP.go 1 (pc' := 60) (L' := [some (mx_r (some (1, 11, 0))), some (mx_i x1), some (mx_l x2), none, some (mx_l u6), none, some (mx_i u8), none, none]) (st' := [mx_i (-5 : Int32)]) (σ' := (γ, hM I J, κ)) rfl ?_
          rw [← Option.some.inj hf] at hk
          refine mx_WP.ret (v := some (mx_i (-5 : Int32))) rfl ?_
          exact hk
      · rw [if_neg c7] at hf
        refine mx_WP.bgt (x := (lg_cmp u6 (0 : Int64))) (y := (0 : Int32)) (q := 41) (p3 := 38) rfl (fun hh => absurd hh c7) (fun _ => ?_)
        refine mx_WP.go 1 (pc' := 40) (L' := [some (mx_r (some (1, 11, 0))), some (mx_i x1), some (mx_l x2), none, some (mx_l u6), none, none, none, none]) (st' := [mx_i (-4 : Int32)]) (σ' := (γ, hM I J, κ)) rfl ?_
        rw [← Option.some.inj hf] at hk
        refine mx_WP.ret (v := some (mx_i (-4 : Int32))) rfl ?_
        exact hk
  · rw [if_neg c2] at hf
    refine mx_WP.zeq (b := u1) (q := 21) (p3 := 8) rfl (fun _ => ?_) (fun hh => absurd hh (by simp [c2]))
    refine mx_WP.go 1 (pc' := 22) (L' := [some (mx_r (some (1, 11, 0))), some (mx_i x1), some (mx_l x2), none, none, none, none, none, none]) (st' := [mx_i (-1 : Int32)]) (σ' := (γ, hM I J, κ)) rfl ?_
    rw [← Option.some.inj hf] at hk
    refine mx_WP.ret (v := some (mx_i (-1 : Int32))) rfl ?_
    exact hk
