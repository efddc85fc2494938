def f89 (x0 : Int32) : Option (Int32) :=
  some (x0 / (4 : Int32))
theorem T89 {d : Nat} {x0 : Int32} {σ : mx_Hp} {Q : Option mx_V → mx_Hp → Prop} {o : Int32} (hf : f89 x0 = some o) (hk : Q (some (mx_i o)) σ) : mx_WP (d + 0) 89 0 (mx_ent 89 [mx_i x0]) [] σ Q := by
  unfold f89 at hf
  refine mx_WP.go 3 (pc' := 3) (L' := [some (mx_i x0)]) (st' := [mx_i (x0 / (4 : Int32))]) (σ' := σ) rfl ?_
  rw [← Option.some.inj hf] at hk
  refine mx_WP.ret (v := some (mx_i (x0 / (4 : Int32)))) rfl ?_
  exact hk
def f88 (x1 : Int32) (I : Nat → Nat → Nat → Int32) : Option (Int32) :=
  (f89 x1).bind fun u1 =>
  if u1 < 0 ∨ 8 ≤ u1.toNatClampNeg then none else if (x1 - x1 / (4 : Int32) * (4 : Int32)) < 0 ∨ 4 ≤ (x1 - x1 / (4 : Int32) * (4 : Int32)).toNatClampNeg then none else some (I 69 (u1.toNatClampNeg + 1) ((x1 - x1 / (4 : Int32) * (4 : Int32)).toNatClampNeg))
theorem T88 {d : Nat} {x1 : Int32} {I : Nat → Nat → Nat → Int32} {J : Nat → Nat → Nat → Int64} {h : Nat → Nat} {μ : mx_Rg × (Nat × (Nat → Int32)) × (Nat × Nat)} {Q : Option mx_V → mx_Hp → Prop} {o : Int32} (hf : f88 x1 I = some o) (hk : Q (some (mx_i o)) (hC I J h, μ)) : mx_WP (d + 1) 88 0 (mx_ent 88 [mx_r (some (0, 7, 0)), mx_i x1]) [] (hC I J h, μ) Q := by
  unfold f88 at hf
  refine mx_WP.go 3 (pc' := 5) (L' := [some (mx_r (some (0, 7, 0))), some (mx_i x1)]) (st' := [mx_i x1, mx_r (some (0, 73, 0))]) (σ' := (hC I J h, μ)) rfl ?_
  obtain ⟨u1, e4, hf⟩ := Option.bind_eq_some_iff.mp hf
  refine mx_WP.call (d := d + 0) (y := 89) (as := [mx_i x1]) (pc' := 8) (r := [mx_r (some (0, 73, 0))]) rfl rfl (T89 (d := d + 0)  e4 ?_)
  show mx_WP (d + 1) 88 8 [some (mx_r (some (0, 7, 0))), some (mx_i x1)] [mx_i u1, mx_r (some (0, 73, 0))] (hC I J h, μ) Q
  by_cases c2 : u1 < 0 ∨ 8 ≤ u1.toNatClampNeg
  · rw [if_pos c2] at hf
    cases hf
  rw [if_neg c2] at hf
  refine mx_WP.aal73 c2 ?_
  show mx_WP (d + 1) 88 9 [some (mx_r (some (0, 7, 0))), some (mx_i x1)] [mx_r (some (0, 6, u1.toNatClampNeg))] (hC I J h, μ) Q
  refine mx_WP.go 5 (pc' := 18) (L' := [some (mx_r (some (0, 7, 0))), some (mx_i x1)]) (st' := [mx_i (x1 - x1 / (4 : Int32) * (4 : Int32)), mx_r (some (0, 69, (u1.toNatClampNeg + 1)))]) (σ' := (hC I J h, μ)) rfl ?_
  by_cases c3 : (x1 - x1 / (4 : Int32) * (4 : Int32)) < 0 ∨ 4 ≤ (x1 - x1 / (4 : Int32) * (4 : Int32)).toNatClampNeg
  · rw [if_pos c3] at hf
    cases hf
  rw [if_neg c3] at hf
  refine mx_WP.ialdx c3 ?_
  show mx_WP (d + 1) 88 19 [some (mx_r (some (0, 7, 0))), some (mx_i x1)] [mx_i (I 69 (u1.toNatClampNeg + 1) ((x1 - x1 / (4 : Int32) * (4 : Int32)).toNatClampNeg))] (hC I J h, μ) Q
  rw [← Option.some.inj hf] at hk
  refine mx_WP.ret (v := some (mx_i (I 69 (u1.toNatClampNeg + 1) ((x1 - x1 / (4 : Int32) * (4 : Int32)).toNatClampNeg)))) rfl ?_
  exact hk
def f87 (fw90 : Int32 → Int32 → (Nat → Nat → Nat → Int32) → (Nat → Nat → Nat → Int64) → Option (Bool × (Nat → Nat → Nat → Int32))) (x1 : Int32) (x2 : Int32) (I : Nat → Nat → Nat → Int32) (J : Nat → Nat → Nat → Int64) : Option (Bool × (Nat → Nat → Nat → Int32)) :=
  (f88 x1 I).bind fun u1 =>
  if (u1 &&& (4 : Int32)) = (0 : Int32) then ((f89 x1).bind fun u3 =>
  (fw90 u3 x2 I J).bind fun u4 =>
  if u4.1 = true then (some (true, u4.2)) else some (false, u4.2)) else some (true, I)
theorem T87 {d : Nat} {fw90 : Int32 → Int32 → (Nat → Nat → Nat → Int32) → (Nat → Nat → Nat → Int64) → Option (Bool × (Nat → Nat → Nat → Int32))} (Tw90 : ∀ {x1 : Int32} {x2 : Int32} {I : Nat → Nat → Nat → Int32} {J : Nat → Nat → Nat → Int64} {h : Nat → Nat} {μ : mx_Rg × (Nat × (Nat → Int32)) × (Nat × Nat)} {Q : Option mx_V → mx_Hp → Prop} {o : Bool × (Nat → Nat → Nat → Int32)}, fw90 x1 x2 I J = some o → Q (some (mx_i (b2i o.1))) (hC o.2 J h, μ) → mx_WP (d + 2) 90 0 (mx_ent 90 [mx_r (some (0, 7, 0)), mx_i x1, mx_i x2]) [] (hC I J h, μ) Q) {x1 : Int32} {x2 : Int32} {I : Nat → Nat → Nat → Int32} {J : Nat → Nat → Nat → Int64} {h : Nat → Nat} {μ : mx_Rg × (Nat × (Nat → Int32)) × (Nat × Nat)} {Q : Option mx_V → mx_Hp → Prop} {o : Bool × (Nat → Nat → Nat → Int32)} (hf : f87 fw90 x1 x2 I J = some o) (hk : Q (some (mx_i (b2i o.1))) (hC o.2 J h, μ)) : mx_WP (d + 3) 87 0 (mx_ent 87 [mx_r (some (0, 7, 0)), mx_i x1, mx_i x2]) [] (hC I J h, μ) Q := by
  unfold f87 at hf
  refine mx_WP.go 2 (pc' := 2) (L' := [some (mx_r (some (0, 7, 0))), some (mx_i x1), some (mx_i x2)]) (st' := [mx_i x1, mx_r (some (0, 7, 0))]) (σ' := (hC I J h, μ)) rfl ?_
  obtain ⟨u1, e8, hf⟩ := Option.bind_eq_some_iff.mp hf
  refine mx_WP.call (d := d + 2) (y := 88) (as := [mx_r (some (0, 7, 0)), mx_i x1]) (pc' := 5) (r := []) rfl rfl (T88 (d := d + 1)  e8 ?_)
  show mx_WP (d + 3) 87 5 [some (mx_r (some (0, 7, 0))), some (mx_i x1), some (mx_i x2)] [mx_i u1] (hC I J h, μ) Q
  refine mx_WP.go 2 (pc' := 7) (L' := [some (mx_r (some (0, 7, 0))), some (mx_i x1), some (mx_i x2)]) (st' := [mx_i (u1 &&& (4 : Int32))]) (σ' := (hC I J h, μ)) rfl ?_
  by_cases c2 : (u1 &&& (4 : Int32)) = (0 : Int32)
  · rw [if_pos c2] at hf
    refine mx_WP.bne (x := (u1 &&& (4 : Int32))) (y := (0 : Int32)) (q := 22) (p3 := 10) rfl (fun hh => absurd c2 hh) (fun _ => ?_)
    refine mx_WP.go 2 (pc' := 12) (L' := [some (mx_r (some (0, 7, 0))), some (mx_i x1), some (mx_i x2)]) (st' := [mx_i x1, mx_r (some (0, 7, 0))]) (σ' := (hC I J h, μ)) rfl ?_
    obtain ⟨u3, e7, hf⟩ := Option.bind_eq_some_iff.mp hf
    refine mx_WP.call (d := d + 2) (y := 89) (as := [mx_i x1]) (pc' := 15) (r := [mx_r (some (0, 7, 0))]) rfl rfl (T89 (d := d + 2)  e7 ?_)
    show mx_WP (d + 3) 87 15 [some (mx_r (some (0, 7, 0))), some (mx_i x1), some (mx_i x2)] [mx_i u3, mx_r (some (0, 7, 0))] (hC I J h, μ) Q
    refine mx_WP.go 1 (pc' := 16) (L' := [some (mx_r (some (0, 7, 0))), some (mx_i x1), some (mx_i x2)]) (st' := [mx_i x2, mx_i u3, mx_r (some (0, 7, 0))]) (σ' := (hC I J h, μ)) rfl ?_
    obtain ⟨u4, e6, hf⟩ := Option.bind_eq_some_iff.mp hf
    refine mx_WP.call (d := d + 2) (y := 90) (as := [mx_r (some (0, 7, 0)), mx_i u3, mx_i x2]) (pc' := 19) (r := []) rfl rfl (Tw90  e6 ?_)
    show mx_WP (d + 3) 87 19 [some (mx_r (some (0, 7, 0))), some (mx_i x1), some (mx_i x2)] [mx_i (b2i u4.1)] (hC u4.2 J h, μ) Q
    by_cases c5 : u4.1 = true
    · rw [if_pos c5] at hf
      refine mx_WP.zeq (b := u4.1) (q := 26) (p3 := 22) rfl (fun hh => absurd hh (by simp [c5])) (fun _ => ?_)
      refine mx_WP.go 2 (pc' := 27) (L' := [some (mx_r (some (0, 7, 0))), some (mx_i x1), some (mx_i x2)]) (st' := [mx_i (1 : Int32)]) (σ' := (hC u4.2 J h, μ)) rfl ?_
      rw [← Option.some.inj hf] at hk
      refine mx_WP.ret (v := some (mx_i (1 : Int32))) rfl ?_
      exact hk
    · rw [if_neg c5] at hf
      refine mx_WP.zeq (b := u4.1) (q := 26) (p3 := 22) rfl (fun _ => ?_) (fun hh => absurd hh (by simp [c5]))
      refine mx_WP.go 1 (pc' := 27) (L' := [some (mx_r (some (0, 7, 0))), some (mx_i x1), some (mx_i x2)]) (st' := [mx_i (0 : Int32)]) (σ' := (hC u4.2 J h, μ)) rfl ?_
      rw [← Option.some.inj hf] at hk
      refine mx_WP.ret (v := some (mx_i (0 : Int32))) rfl ?_
      exact hk
  · rw [if_neg c2] at hf
    refine mx_WP.bne (x := (u1 &&& (4 : Int32))) (y := (0 : Int32)) (q := 22) (p3 := 10) rfl (fun _ => ?_) (fun hh => absurd c2 hh)
    refine mx_WP.go 2 (pc' := 27) (L' := [some (mx_r (some (0, 7, 0))), some (mx_i x1), some (mx_i x2)]) (st' := [mx_i (1 : Int32)]) (σ' := (hC I J h, μ)) rfl ?_
    rw [← Option.some.inj hf] at hk
    refine mx_WP.ret (v := some (mx_i (1 : Int32))) rfl ?_
    exact hk
def b39_2 (x0 : Nat) (x1 : Int64) (I : Nat → Nat → Nat → Int32) (J : Nat → Nat → Nat → Int64) (s : Int32) : Option ((Int32) ⊕ ((Int32) ⊕ (Int32))) :=
  if (I 2 x0 6) ≤ s then (some (Sum.inr (Sum.inl s))) else if s < 0 ∨ 4 ≤ s.toNatClampNeg then none else if (lg_cmp (J 68 x0 s.toNatClampNeg) x1) = (0 : Int32) then (some (Sum.inr (Sum.inr s))) else some (Sum.inl (s + 1))
theorem B39_2 {d : Nat} {x0 : Nat} {x1 : Int64} {I : Nat → Nat → Nat → Int32} {J : Nat → Nat → Nat → Int64} {h : Nat → Nat} {μ : mx_Rg × (Nat × (Nat → Int32)) × (Nat × Nat)} {Q : Option mx_V → mx_Hp → Prop} {s : Int32} {o : (Int32) ⊕ ((Int32) ⊕ (Int32))} (hf : b39_2 x0 x1 I J s = some o) (hk : Sum.elim (fun s : Int32 => mx_WP (d + 0) 39 2 [some (mx_r (some (0, 2, x0))), some (mx_l x1), none, some (mx_i s)] [] (hC I J h, μ) Q) (Sum.elim (fun x : Int32 => mx_WP (d + 0) 39 29 [some (mx_r (some (0, 2, x0))), some (mx_l x1), none, some (mx_i x)] [] (hC I J h, μ) Q) (fun x : Int32 => Q (some (mx_i x)) (hC I J h, μ))) o) : mx_WP (d + 0) 39 2 [some (mx_r (some (0, 2, x0))), some (mx_l x1), none, some (mx_i s)] [] (hC I J h, μ) Q := by
  unfold b39_2 at hf
  refine mx_WP.go 3 (pc' := 7) (L' := [some (mx_r (some (0, 2, x0))), some (mx_l x1), none, some (mx_i s)]) (st' := [mx_i (I 2 x0 6), mx_i s]) (σ' := (hC I J h, μ)) rfl ?_
  by_cases c101 : (I 2 x0 6) ≤ s
  · rw [if_pos c101] at hf
    refine mx_WP.bge (x := s) (y := (I 2 x0 6)) (q := 29) (p3 := 10) rfl (fun _ => ?_) (fun hh => absurd c101 hh)
    rw [← Option.some.inj hf] at hk
    exact hk
  · rw [if_neg c101] at hf
    refine mx_WP.bge (x := s) (y := (I 2 x0 6)) (q := 29) (p3 := 10) rfl (fun hh => absurd hh c101) (fun _ => ?_)
    refine mx_WP.go 3 (pc' := 15) (L' := [some (mx_r (some (0, 2, x0))), some (mx_l x1), none, some (mx_i s)]) (st' := [mx_i s, mx_r (some (0, 68, x0))]) (σ' := (hC I J h, μ)) rfl ?_
    by_cases c102 : s < 0 ∨ 4 ≤ s.toNatClampNeg
    · rw [if_pos c102] at hf
      cases hf
    rw [if_neg c102] at hf
    refine mx_WP.laldx c102 ?_
    show mx_WP (d + 0) 39 16 [some (mx_r (some (0, 2, x0))), some (mx_l x1), none, some (mx_i s)] [mx_l (J 68 x0 s.toNatClampNeg)] (hC I J h, μ) Q
    refine mx_WP.go 2 (pc' := 18) (L' := [some (mx_r (some (0, 2, x0))), some (mx_l x1), none, some (mx_i s)]) (st' := [mx_i (lg_cmp (J 68 x0 s.toNatClampNeg) x1)]) (σ' := (hC I J h, μ)) rfl ?_
    by_cases c103 : (lg_cmp (J 68 x0 s.toNatClampNeg) x1) = (0 : Int32)
    · rw [if_pos c103] at hf
      refine mx_WP.bne (x := (lg_cmp (J 68 x0 s.toNatClampNeg) x1)) (y := (0 : Int32)) (q := 23) (p3 := 21) rfl (fun hh => absurd c103 hh) (fun _ => ?_)
      refine mx_WP.go 1 (pc' := 22) (L' := [some (mx_r (some (0, 2, x0))), some (mx_l x1), none, some (mx_i s)]) (st' := [mx_i s]) (σ' := (hC I J h, μ)) rfl ?_
      rw [← Option.some.inj hf] at hk
      refine mx_WP.ret (v := some (mx_i s)) rfl ?_
      exact hk
    · rw [if_neg c103] at hf
      refine mx_WP.bne (x := (lg_cmp (J 68 x0 s.toNatClampNeg) x1)) (y := (0 : Int32)) (q := 23) (p3 := 21) rfl (fun _ => ?_) (fun hh => absurd c103 hh)
      refine mx_WP.go 2 (pc' := 2) (L' := [some (mx_r (some (0, 2, x0))), some (mx_l x1), none, some (mx_i (s + 1))]) (st' := []) (σ' := (hC I J h, μ)) rfl ?_
      rw [← Option.some.inj hf] at hk
      exact hk
theorem L39_2 {d : Nat} {x0 : Nat} {x1 : Int64} {I : Nat → Nat → Nat → Int32} {J : Nat → Nat → Nat → Int64} {h : Nat → Nat} {μ : mx_Rg × (Nat × (Nat → Int32)) × (Nat × Nat)} {Q : Option mx_V → mx_Hp → Prop} {n : Nat} {s : Int32} {o : (Int32) ⊕ (Int32)} (hf : mx_lp (b39_2 x0 x1 I J) n s = some o) (hk : (Sum.elim (fun x : Int32 => mx_WP (d + 0) 39 29 [some (mx_r (some (0, 2, x0))), some (mx_l x1), none, some (mx_i x)] [] (hC I J h, μ) Q) (fun x : Int32 => Q (some (mx_i x)) (hC I J h, μ))) o) : mx_WP (d + 0) 39 2 [some (mx_r (some (0, 2, x0))), some (mx_l x1), none, some (mx_i s)] [] (hC I J h, μ) Q := mx_lp_ok (P := fun s : Int32 => mx_WP (d + 0) 39 2 [some (mx_r (some (0, 2, x0))), some (mx_l x1), none, some (mx_i s)] [] (hC I J h, μ) Q) (E := (Sum.elim (fun x : Int32 => mx_WP (d + 0) 39 29 [some (mx_r (some (0, 2, x0))), some (mx_l x1), none, some (mx_i x)] [] (hC I J h, μ) Q) (fun x : Int32 => Q (some (mx_i x)) (hC I J h, μ)))) (fun s o hf hk => B39_2 hf hk) n s o hf hk
def f39 (x0 : Nat) (x1 : Int64) (I : Nat → Nat → Nat → Int32) (J : Nat → Nat → Nat → Int64) : Option (Int32) :=
  (mx_lp (b39_2 x0 x1 I J) mx_fu (0 : Int32)).bind fun u104 => Sum.elim (fun w106 =>
  some (-1 : Int32)) (fun y107 => some y107) u104
theorem T39 {d : Nat} {x0 : Nat} {x1 : Int64} {I : Nat → Nat → Nat → Int32} {J : Nat → Nat → Nat → Int64} {h : Nat → Nat} {μ : mx_Rg × (Nat × (Nat → Int32)) × (Nat × Nat)} {Q : Option mx_V → mx_Hp → Prop} {o : Int32} (hf : f39 x0 x1 I J = some o) (hk : Q (some (mx_i o)) (hC I J h, μ)) : mx_WP (d + 0) 39 0 (mx_ent 39 [mx_r (some (0, 2, x0)), mx_l x1]) [] (hC I J h, μ) Q := by
  unfold f39 at hf
  refine mx_WP.go 2 (pc' := 2) (L' := [some (mx_r (some (0, 2, x0))), some (mx_l x1), none, some (mx_i (0 : Int32))]) (st' := []) (σ' := (hC I J h, μ)) rfl ?_
  obtain ⟨u104, e105, hf⟩ := Option.bind_eq_some_iff.mp hf
  cases u104 with
  | inr y107 =>
    rw [Sum.elim_inr] at hf
    rw [← Option.some.inj hf] at hk
    exact (L39_2 (d := d) e105 hk)
  | inl w106 =>
    rw [Sum.elim_inl] at hf
    refine (L39_2 (d := d) e105 ?_)
    show mx_WP (d + 0) 39 29 [some (mx_r (some (0, 2, x0))), some (mx_l x1), none, some (mx_i w106)] [] (hC I J h, μ) Q
    refine mx_WP.go 1 (pc' := 30) (L' := [some (mx_r (some (0, 2, x0))), some (mx_l x1), none, some (mx_i w106)]) (st' := [mx_i (-1 : Int32)]) (σ' := (hC I J h, μ)) rfl ?_
    rw [← Option.some.inj hf] at hk
    refine mx_WP.ret (v := some (mx_i (-1 : Int32))) rfl ?_
    exact hk
def f86 (x1 : Int32) (x2 : Int64) (I : Nat → Nat → Nat → Int32) (J : Nat → Nat → Nat → Int64) : Option (Int32) :=
  if x1 < 0 ∨ 8 ≤ x1.toNatClampNeg then none else (f39 (x1.toNatClampNeg + 1) x2 I J).bind fun u2 =>
  if u2 = (-1 : Int32) then (some (-1 : Int32)) else some ((x1 * (4 : Int32)) + u2)
theorem T86 {d : Nat} {x1 : Int32} {x2 : Int64} {I : Nat → Nat → Nat → Int32} {J : Nat → Nat → Nat → Int64} {h : Nat → Nat} {μ : mx_Rg × (Nat × (Nat → Int32)) × (Nat × Nat)} {Q : Option mx_V → mx_Hp → Prop} {o : Int32} (hf : f86 x1 x2 I J = some o) (hk : Q (some (mx_i o)) (hC I J h, μ)) : mx_WP (d + 1) 86 0 (mx_ent 86 [mx_r (some (0, 7, 0)), mx_i x1, mx_l x2]) [] (hC I J h, μ) Q := by
  unfold f86 at hf
  refine mx_WP.go 3 (pc' := 5) (L' := [some (mx_r (some (0, 7, 0))), some (mx_i x1), some (mx_l x2), none, none]) (st' := [mx_i x1, mx_r (some (0, 73, 0))]) (σ' := (hC I J h, μ)) rfl ?_
  by_cases c1 : x1 < 0 ∨ 8 ≤ x1.toNatClampNeg
  · rw [if_pos c1] at hf
    cases hf
  rw [if_neg c1] at hf
  refine mx_WP.aal73 c1 ?_
  show mx_WP (d + 1) 86 6 [some (mx_r (some (0, 7, 0))), some (mx_i x1), some (mx_l x2), none, none] [mx_r (some (0, 6, x1.toNatClampNeg))] (hC I J h, μ) Q
  refine mx_WP.go 2 (pc' := 10) (L' := [some (mx_r (some (0, 7, 0))), some (mx_i x1), some (mx_l x2), none, none]) (st' := [mx_l x2, mx_r (some (0, 2, (x1.toNatClampNeg + 1)))]) (σ' := (hC I J h, μ)) rfl ?_
  obtain ⟨u2, e4, hf⟩ := Option.bind_eq_some_iff.mp hf
  refine mx_WP.call (d := d + 0) (y := 39) (as := [mx_r (some (0, 2, (x1.toNatClampNeg + 1))), mx_l x2]) (pc' := 13) (r := []) rfl rfl (T39 (d := d + 0)  e4 ?_)
  show mx_WP (d + 1) 86 13 [some (mx_r (some (0, 7, 0))), some (mx_i x1), some (mx_l x2), none, none] [mx_i u2] (hC I J h, μ) Q
  refine mx_WP.go 3 (pc' := 18) (L' := [some (mx_r (some (0, 7, 0))), some (mx_i x1), some (mx_l x2), none, some (mx_i u2)]) (st' := [mx_i (-1 : Int32), mx_i u2]) (σ' := (hC I J h, μ)) rfl ?_
  by_cases c3 : u2 = (-1 : Int32)
  · rw [if_pos c3] at hf
    refine mx_WP.bne (x := u2) (y := (-1 : Int32)) (q := 25) (p3 := 21) rfl (fun hh => absurd c3 hh) (fun _ => ?_)
    refine mx_WP.go 2 (pc' := 31) (L' := [some (mx_r (some (0, 7, 0))), some (mx_i x1), some (mx_l x2), none, some (mx_i u2)]) (st' := [mx_i (-1 : Int32)]) (σ' := (hC I J h, μ)) rfl ?_
    rw [← Option.some.inj hf] at hk
    refine mx_WP.ret (v := some (mx_i (-1 : Int32))) rfl ?_
    exact hk
  · rw [if_neg c3] at hf
    refine mx_WP.bne (x := u2) (y := (-1 : Int32)) (q := 25) (p3 := 21) rfl (fun _ => ?_) (fun hh => absurd c3 hh)
    refine mx_WP.go 5 (pc' := 31) (L' := [some (mx_r (some (0, 7, 0))), some (mx_i x1), some (mx_l x2), none, some (mx_i u2)]) (st' := [mx_i ((x1 * (4 : Int32)) + u2)]) (σ' := (hC I J h, μ)) rfl ?_
    rw [← Option.some.inj hf] at hk
    refine mx_WP.ret (v := some (mx_i ((x1 * (4 : Int32)) + u2))) rfl ?_
    exact hk
def b85_14 (x1 : Int32) (x2 : Int64) (x4 : Nat) (I : Nat → Nat → Nat → Int32) (J : Nat → Nat → Nat → Int64) (s : Int32) : Option ((Int32) ⊕ ((Int32) ⊕ (Int32))) :=
  if (I 2 x4 5) ≤ s then (some (Sum.inr (Sum.inl s))) else if s < 0 ∨ 3 ≤ s.toNatClampNeg then none else (f86 (I 65 x4 s.toNatClampNeg) x2 I J).bind fun u104 =>
  if u104 = (-1 : Int32) then (some (Sum.inl (s + 1))) else some (Sum.inr (Sum.inr u104))
theorem B85_14 {d : Nat} {x1 : Int32} {x2 : Int64} {x4 : Nat} {I : Nat → Nat → Nat → Int32} {J : Nat → Nat → Nat → Int64} {h : Nat → Nat} {μ : mx_Rg × (Nat × (Nat → Int32)) × (Nat × Nat)} {Q : Option mx_V → mx_Hp → Prop} {s : Int32} {o : (Int32) ⊕ ((Int32) ⊕ (Int32))} (hf : b85_14 x1 x2 x4 I J s = some o) (hk : Sum.elim (fun s : Int32 => ∀ (z6 : Option mx_V), mx_WP (d + 2) 85 14 [some (mx_r (some (0, 7, 0))), some (mx_i x1), some (mx_l x2), none, some (mx_r (some (0, 2, x4))), some (mx_i s), z6] [] (hC I J h, μ) Q) (Sum.elim (fun x : Int32 => ∀ (z6 : Option mx_V), mx_WP (d + 2) 85 54 [some (mx_r (some (0, 7, 0))), some (mx_i x1), some (mx_l x2), none, some (mx_r (some (0, 2, x4))), some (mx_i x), z6] [] (hC I J h, μ) Q) (fun x : Int32 => Q (some (mx_i x)) (hC I J h, μ))) o) : ∀ (z6 : Option mx_V), mx_WP (d + 2) 85 14 [some (mx_r (some (0, 7, 0))), some (mx_i x1), some (mx_l x2), none, some (mx_r (some (0, 2, x4))), some (mx_i s), z6] [] (hC I J h, μ) Q := by
  intro z6
  unfold b85_14 at hf
  refine mx_WP.go 3 (pc' := 21) (L' := [some (mx_r (some (0, 7, 0))), some (mx_i x1), some (mx_l x2), none, some (mx_r (some (0, 2, x4))), some (mx_i s), z6]) (st' := [mx_i (I 2 x4 5), mx_i s]) (σ' := (hC I J h, μ)) rfl ?_
  by_cases c102 : (I 2 x4 5) ≤ s
  · rw [if_pos c102] at hf
    refine mx_WP.bge (x := s) (y := (I 2 x4 5)) (q := 54) (p3 := 24) rfl (fun _ => ?_) (fun hh => absurd c102 hh)
    rw [← Option.some.inj hf] at hk
    exact hk (z6)
  · rw [if_neg c102] at hf
    refine mx_WP.bge (x := s) (y := (I 2 x4 5)) (q := 54) (p3 := 24) rfl (fun hh => absurd hh c102) (fun _ => ?_)
    refine mx_WP.go 4 (pc' := 32) (L' := [some (mx_r (some (0, 7, 0))), some (mx_i x1), some (mx_l x2), none, some (mx_r (some (0, 2, x4))), some (mx_i s), z6]) (st' := [mx_i s, mx_r (some (0, 65, x4)), mx_r (some (0, 7, 0))]) (σ' := (hC I J h, μ)) rfl ?_
    by_cases c103 : s < 0 ∨ 3 ≤ s.toNatClampNeg
    · rw [if_pos c103] at hf
      cases hf
    rw [if_neg c103] at hf
    refine mx_WP.ialdx c103 ?_
    show mx_WP (d + 2) 85 33 [some (mx_r (some (0, 7, 0))), some (mx_i x1), some (mx_l x2), none, some (mx_r (some (0, 2, x4))), some (mx_i s), z6] [mx_i (I 65 x4 s.toNatClampNeg), mx_r (some (0, 7, 0))] (hC I J h, μ) Q
    refine mx_WP.go 1 (pc' := 34) (L' := [some (mx_r (some (0, 7, 0))), some (mx_i x1), some (mx_l x2), none, some (mx_r (some (0, 2, x4))), some (mx_i s), z6]) (st' := [mx_l x2, mx_i (I 65 x4 s.toNatClampNeg), mx_r (some (0, 7, 0))]) (σ' := (hC I J h, μ)) rfl ?_
    obtain ⟨u104, e106, hf⟩ := Option.bind_eq_some_iff.mp hf
    refine mx_WP.call (d := d + 1) (y := 86) (as := [mx_r (some (0, 7, 0)), mx_i (I 65 x4 s.toNatClampNeg), mx_l x2]) (pc' := 37) (r := []) rfl rfl (T86 (d := d + 0)  e106 ?_)
    show mx_WP (d + 2) 85 37 [some (mx_r (some (0, 7, 0))), some (mx_i x1), some (mx_l x2), none, some (mx_r (some (0, 2, x4))), some (mx_i s), z6] [mx_i u104] (hC I J h, μ) Q
    refine mx_WP.go 3 (pc' := 42) (L' := [some (mx_r (some (0, 7, 0))), some (mx_i x1), some (mx_l x2), none, some (mx_r (some (0, 2, x4))), some (mx_i s), some (mx_i u104)]) (st' := [mx_i (-1 : Int32), mx_i u104]) (σ' := (hC I J h, μ)) rfl ?_
    by_cases c105 : u104 = (-1 : Int32)
    · rw [if_pos c105] at hf
      refine mx_WP.beq (x := u104) (y := (-1 : Int32)) (q := 48) (p3 := 45) rfl (fun _ => ?_) (fun hh => absurd c105 hh)
      refine mx_WP.go 2 (pc' := 14) (L' := [some (mx_r (some (0, 7, 0))), some (mx_i x1), some (mx_l x2), none, some (mx_r (some (0, 2, x4))), some (mx_i (s + 1)), some (mx_i u104)]) (st' := []) (σ' := (hC I J h, μ)) rfl ?_
      rw [← Option.some.inj hf] at hk
      exact hk (some (mx_i u104))
    · rw [if_neg c105] at hf
      refine mx_WP.beq (x := u104) (y := (-1 : Int32)) (q := 48) (p3 := 45) rfl (fun hh => absurd hh c105) (fun _ => ?_)
      refine mx_WP.go 1 (pc' := 47) (L' := [some (mx_r (some (0, 7, 0))), some (mx_i x1), some (mx_l x2), none, some (mx_r (some (0, 2, x4))), some (mx_i s), some (mx_i u104)]) (st' := [mx_i u104]) (σ' := (hC I J h, μ)) rfl ?_
      rw [← Option.some.inj hf] at hk
      refine mx_WP.ret (v := some (mx_i u104)) rfl ?_
      exact hk
theorem L85_14 {d : Nat} {x1 : Int32} {x2 : Int64} {x4 : Nat} {I : Nat → Nat → Nat → Int32} {J : Nat → Nat → Nat → Int64} {h : Nat → Nat} {μ : mx_Rg × (Nat × (Nat → Int32)) × (Nat × Nat)} {Q : Option mx_V → mx_Hp → Prop} {n : Nat} {s : Int32} {o : (Int32) ⊕ (Int32)} (hf : mx_lp (b85_14 x1 x2 x4 I J) n s = some o) (hk : (Sum.elim (fun x : Int32 => ∀ (z6 : Option mx_V), mx_WP (d + 2) 85 54 [some (mx_r (some (0, 7, 0))), some (mx_i x1), some (mx_l x2), none, some (mx_r (some (0, 2, x4))), some (mx_i x), z6] [] (hC I J h, μ) Q) (fun x : Int32 => Q (some (mx_i x)) (hC I J h, μ))) o) : ∀ (z6 : Option mx_V), mx_WP (d + 2) 85 14 [some (mx_r (some (0, 7, 0))), some (mx_i x1), some (mx_l x2), none, some (mx_r (some (0, 2, x4))), some (mx_i s), z6] [] (hC I J h, μ) Q := mx_lp_ok (P := fun s : Int32 => ∀ (z6 : Option mx_V), mx_WP (d + 2) 85 14 [some (mx_r (some (0, 7, 0))), some (mx_i x1), some (mx_l x2), none, some (mx_r (some (0, 2, x4))), some (mx_i s), z6] [] (hC I J h, μ) Q) (E := (Sum.elim (fun x : Int32 => ∀ (z6 : Option mx_V), mx_WP (d + 2) 85 54 [some (mx_r (some (0, 7, 0))), some (mx_i x1), some (mx_l x2), none, some (mx_r (some (0, 2, x4))), some (mx_i x), z6] [] (hC I J h, μ) Q) (fun x : Int32 => Q (some (mx_i x)) (hC I J h, μ)))) (fun s o hf hk => B85_14 hf hk) n s o hf hk
def f85 (x1 : Int32) (x2 : Int64) (I : Nat → Nat → Nat → Int32) (J : Nat → Nat → Nat → Int64) : Option (Int32) :=
  if x1 < 0 ∨ 8 ≤ x1.toNatClampNeg then none else (mx_lp (b85_14 x1 x2 (x1.toNatClampNeg + 1) I J) mx_fu (0 : Int32)).bind fun u107 => Sum.elim (fun w109 =>
  (f86 x1 x2 I J).bind fun u110 =>
  some u110) (fun y112 => some y112) u107
theorem T85 {d : Nat} {x1 : Int32} {x2 : Int64} {I : Nat → Nat → Nat → Int32} {J : Nat → Nat → Nat → Int64} {h : Nat → Nat} {μ : mx_Rg × (Nat × (Nat → Int32)) × (Nat × Nat)} {Q : Option mx_V → mx_Hp → Prop} {o : Int32} (hf : f85 x1 x2 I J = some o) (hk : Q (some (mx_i o)) (hC I J h, μ)) : mx_WP (d + 2) 85 0 (mx_ent 85 [mx_r (some (0, 7, 0)), mx_i x1, mx_l x2]) [] (hC I J h, μ) Q := by
  unfold f85 at hf
  refine mx_WP.go 3 (pc' := 5) (L' := [some (mx_r (some (0, 7, 0))), some (mx_i x1), some (mx_l x2), none, none, none, none]) (st' := [mx_i x1, mx_r (some (0, 73, 0))]) (σ' := (hC I J h, μ)) rfl ?_
  by_cases c1 : x1 < 0 ∨ 8 ≤ x1.toNatClampNeg
  · rw [if_pos c1] at hf
    cases hf
  rw [if_neg c1] at hf
  refine mx_WP.aal73 c1 ?_
  show mx_WP (d + 2) 85 6 [some (mx_r (some (0, 7, 0))), some (mx_i x1), some (mx_l x2), none, none, none, none] [mx_r (some (0, 6, x1.toNatClampNeg))] (hC I J h, μ) Q
  refine mx_WP.go 4 (pc' := 14) (L' := [some (mx_r (some (0, 7, 0))), some (mx_i x1), some (mx_l x2), none, some (mx_r (some (0, 2, (x1.toNatClampNeg + 1)))), some (mx_i (0 : Int32)), none]) (st' := []) (σ' := (hC I J h, μ)) rfl ?_
  obtain ⟨u107, e108, hf⟩ := Option.bind_eq_some_iff.mp hf
  cases u107 with
  | inr y112 =>
    rw [Sum.elim_inr] at hf
    rw [← Option.some.inj hf] at hk
    exact (L85_14 (d := d) e108 hk) (none)
  | inl w109 =>
    rw [Sum.elim_inl] at hf
    refine (L85_14 (d := d) e108 ?_) (none)
    intro z6
    show mx_WP (d + 2) 85 54 [some (mx_r (some (0, 7, 0))), some (mx_i x1), some (mx_l x2), none, some (mx_r (some (0, 2, (x1.toNatClampNeg + 1)))), some (mx_i w109), z6] [] (hC I J h, μ) Q
    refine mx_WP.go 3 (pc' := 57) (L' := [some (mx_r (some (0, 7, 0))), some (mx_i x1), some (mx_l x2), none, some (mx_r (some (0, 2, (x1.toNatClampNeg + 1)))), some (mx_i w109), z6]) (st' := [mx_l x2, mx_i x1, mx_r (some (0, 7, 0))]) (σ' := (hC I J h, μ)) rfl ?_
    obtain ⟨u110, e111, hf⟩ := Option.bind_eq_some_iff.mp hf
    refine mx_WP.call (d := d + 1) (y := 86) (as := [mx_r (some (0, 7, 0)), mx_i x1, mx_l x2]) (pc' := 60) (r := []) rfl rfl (T86 (d := d + 0)  e111 ?_)
    show mx_WP (d + 2) 85 60 [some (mx_r (some (0, 7, 0))), some (mx_i x1), some (mx_l x2), none, some (mx_r (some (0, 2, (x1.toNatClampNeg + 1)))), some (mx_i w109), z6] [mx_i u110] (hC I J h, μ) Q
    rw [← Option.some.inj hf] at hk
    refine mx_WP.ret (v := some (mx_i u110)) rfl ?_
    exact hk
def f91 (fw90 : Int32 → Int32 → (Nat → Nat → Nat → Int32) → (Nat → Nat → Nat → Int64) → Option (Bool × (Nat → Nat → Nat → Int32))) (x1 : Int32) (x2 : Int32) (I : Nat → Nat → Nat → Int32) (J : Nat → Nat → Nat → Int64) : Option (Bool × (Nat → Nat → Nat → Int32)) :=
  if x1 < 0 ∨ 8 ≤ x1.toNatClampNeg then none else if (lg_cmp (J 2 (x1.toNatClampNeg + 1) 8) (0 : Int64)) = (0 : Int32) then (if (I 2 (x1.toNatClampNeg + 1) 7) = (2 : Int32) then (some (false, I)) else some (true, I)) else (f85 x1 (J 2 (x1.toNatClampNeg + 1) 8) I J).bind fun u4 =>
  if u4 = (-1 : Int32) then (some (false, I)) else (f87 fw90 u4 (x2 + (1 : Int32)) I J).bind fun u6 =>
  if u6.1 = true then (if (u6.2 2 (x1.toNatClampNeg + 1) 7) = (2 : Int32) then (some (false, u6.2)) else some (true, u6.2)) else some (false, u6.2)
theorem T91 {d : Nat} {fw90 : Int32 → Int32 → (Nat → Nat → Nat → Int32) → (Nat → Nat → Nat → Int64) → Option (Bool × (Nat → Nat → Nat → Int32))} (Tw90 : ∀ {x1 : Int32} {x2 : Int32} {I : Nat → Nat → Nat → Int32} {J : Nat → Nat → Nat → Int64} {h : Nat → Nat} {μ : mx_Rg × (Nat × (Nat → Int32)) × (Nat × Nat)} {Q : Option mx_V → mx_Hp → Prop} {o : Bool × (Nat → Nat → Nat → Int32)}, fw90 x1 x2 I J = some o → Q (some (mx_i (b2i o.1))) (hC o.2 J h, μ) → mx_WP (d + 2) 90 0 (mx_ent 90 [mx_r (some (0, 7, 0)), mx_i x1, mx_i x2]) [] (hC I J h, μ) Q) {x1 : Int32} {x2 : Int32} {I : Nat → Nat → Nat → Int32} {J : Nat → Nat → Nat → Int64} {h : Nat → Nat} {μ : mx_Rg × (Nat × (Nat → Int32)) × (Nat × Nat)} {Q : Option mx_V → mx_Hp → Prop} {o : Bool × (Nat → Nat → Nat → Int32)} (hf : f91 fw90 x1 x2 I J = some o) (hk : Q (some (mx_i (b2i o.1))) (hC o.2 J h, μ)) : mx_WP (d + 4) 91 0 (mx_ent 91 [mx_r (some (0, 7, 0)), mx_i x1, mx_i x2]) [] (hC I J h, μ) Q := by
  unfold f91 at hf
  refine mx_WP.go 3 (pc' := 5) (L' := [some (mx_r (some (0, 7, 0))), some (mx_i x1), some (mx_i x2), none, none]) (st' := [mx_i x1, mx_r (some (0, 73, 0))]) (σ' := (hC I J h, μ)) rfl ?_
  by_cases c1 : x1 < 0 ∨ 8 ≤ x1.toNatClampNeg
  · rw [if_pos c1] at hf
    cases hf
  rw [if_neg c1] at hf
  refine mx_WP.aal73 c1 ?_
  show mx_WP (d + 4) 91 6 [some (mx_r (some (0, 7, 0))), some (mx_i x1), some (mx_i x2), none, none] [mx_r (some (0, 6, x1.toNatClampNeg))] (hC I J h, μ) Q
  refine mx_WP.go 6 (pc' := 16) (L' := [some (mx_r (some (0, 7, 0))), some (mx_i x1), some (mx_i x2), some (mx_r (some (0, 2, (x1.toNatClampNeg + 1)))), none]) (st' := [mx_i (lg_cmp (J 2 (x1.toNatClampNeg + 1) 8) (0 : Int64))]) (σ' := (hC I J h, μ)) rfl ?_
  by_cases c2 : (lg_cmp (J 2 (x1.toNatClampNeg + 1) 8) (0 : Int64)) = (0 : Int32)
  · rw [if_pos c2] at hf
    refine mx_WP.beq (x := (lg_cmp (J 2 (x1.toNatClampNeg + 1) 8) (0 : Int64))) (y := (0 : Int32)) (q := 50) (p3 := 19) rfl (fun _ => ?_) (fun hh => absurd c2 hh)
    refine mx_WP.go 3 (pc' := 55) (L' := [some (mx_r (some (0, 7, 0))), some (mx_i x1), some (mx_i x2), some (mx_r (some (0, 2, (x1.toNatClampNeg + 1)))), none]) (st' := [mx_i (2 : Int32), mx_i (I 2 (x1.toNatClampNeg + 1) 7)]) (σ' := (hC I J h, μ)) rfl ?_
    by_cases c3 : (I 2 (x1.toNatClampNeg + 1) 7) = (2 : Int32)
    · rw [if_pos c3] at hf
      refine mx_WP.beq (x := (I 2 (x1.toNatClampNeg + 1) 7)) (y := (2 : Int32)) (q := 62) (p3 := 58) rfl (fun _ => ?_) (fun hh => absurd c3 hh)
      refine mx_WP.go 1 (pc' := 63) (L' := [some (mx_r (some (0, 7, 0))), some (mx_i x1), some (mx_i x2), some (mx_r (some (0, 2, (x1.toNatClampNeg + 1)))), none]) (st' := [mx_i (0 : Int32)]) (σ' := (hC I J h, μ)) rfl ?_
      rw [← Option.some.inj hf] at hk
      refine mx_WP.ret (v := some (mx_i (0 : Int32))) rfl ?_
      exact hk
    · rw [if_neg c3] at hf
      refine mx_WP.beq (x := (I 2 (x1.toNatClampNeg + 1) 7)) (y := (2 : Int32)) (q := 62) (p3 := 58) rfl (fun hh => absurd hh c3) (fun _ => ?_)
      refine mx_WP.go 2 (pc' := 63) (L' := [some (mx_r (some (0, 7, 0))), some (mx_i x1), some (mx_i x2), some (mx_r (some (0, 2, (x1.toNatClampNeg + 1)))), none]) (st' := [mx_i (1 : Int32)]) (σ' := (hC I J h, μ)) rfl ?_
      rw [← Option.some.inj hf] at hk
      refine mx_WP.ret (v := some (mx_i (1 : Int32))) rfl ?_
      exact hk
  · rw [if_neg c2] at hf
    refine mx_WP.beq (x := (lg_cmp (J 2 (x1.toNatClampNeg + 1) 8) (0 : Int64))) (y := (0 : Int32)) (q := 50) (p3 := 19) rfl (fun hh => absurd hh c2) (fun _ => ?_)
    refine mx_WP.go 4 (pc' := 25) (L' := [some (mx_r (some (0, 7, 0))), some (mx_i x1), some (mx_i x2), some (mx_r (some (0, 2, (x1.toNatClampNeg + 1)))), none]) (st' := [mx_l (J 2 (x1.toNatClampNeg + 1) 8), mx_i x1, mx_r (some (0, 7, 0))]) (σ' := (hC I J h, μ)) rfl ?_
    obtain ⟨u4, e10, hf⟩ := Option.bind_eq_some_iff.mp hf
    refine mx_WP.call (d := d + 3) (y := 85) (as := [mx_r (some (0, 7, 0)), mx_i x1, mx_l (J 2 (x1.toNatClampNeg + 1) 8)]) (pc' := 28) (r := []) rfl rfl (T85 (d := d + 1)  e10 ?_)
    show mx_WP (d + 4) 91 28 [some (mx_r (some (0, 7, 0))), some (mx_i x1), some (mx_i x2), some (mx_r (some (0, 2, (x1.toNatClampNeg + 1)))), none] [mx_i u4] (hC I J h, μ) Q
    refine mx_WP.go 3 (pc' := 33) (L' := [some (mx_r (some (0, 7, 0))), some (mx_i x1), some (mx_i x2), some (mx_r (some (0, 2, (x1.toNatClampNeg + 1)))), some (mx_i u4)]) (st' := [mx_i (-1 : Int32), mx_i u4]) (σ' := (hC I J h, μ)) rfl ?_
    by_cases c5 : u4 = (-1 : Int32)
    · rw [if_pos c5] at hf
      refine mx_WP.beq (x := u4) (y := (-1 : Int32)) (q := 48) (p3 := 36) rfl (fun _ => ?_) (fun hh => absurd c5 hh)
      refine mx_WP.go 1 (pc' := 49) (L' := [some (mx_r (some (0, 7, 0))), some (mx_i x1), some (mx_i x2), some (mx_r (some (0, 2, (x1.toNatClampNeg + 1)))), some (mx_i u4)]) (st' := [mx_i (0 : Int32)]) (σ' := (hC I J h, μ)) rfl ?_
      rw [← Option.some.inj hf] at hk
      refine mx_WP.ret (v := some (mx_i (0 : Int32))) rfl ?_
      exact hk
    · rw [if_neg c5] at hf
      refine mx_WP.beq (x := u4) (y := (-1 : Int32)) (q := 48) (p3 := 36) rfl (fun hh => absurd hh c5) (fun _ => ?_)
      refine mx_WP.go 5 (pc' := 42) (L' := [some (mx_r (some (0, 7, 0))), some (mx_i x1), some (mx_i x2), some (mx_r (some (0, 2, (x1.toNatClampNeg + 1)))), some (mx_i u4)]) (st' := [mx_i (x2 + (1 : Int32)), mx_i u4, mx_r (some (0, 7, 0))]) (σ' := (hC I J h, μ)) rfl ?_
      obtain ⟨u6, e9, hf⟩ := Option.bind_eq_some_iff.mp hf
      refine mx_WP.call (d := d + 3) (y := 87) (as := [mx_r (some (0, 7, 0)), mx_i u4, mx_i (x2 + (1 : Int32))]) (pc' := 45) (r := []) rfl rfl (T87 (d := d + 0) Tw90 e9 ?_)
      show mx_WP (d + 4) 91 45 [some (mx_r (some (0, 7, 0))), some (mx_i x1), some (mx_i x2), some (mx_r (some (0, 2, (x1.toNatClampNeg + 1)))), some (mx_i u4)] [mx_i (b2i u6.1)] (hC u6.2 J h, μ) Q
      by_cases c7 : u6.1 = true
      · rw [if_pos c7] at hf
        refine mx_WP.zne (b := u6.1) (q := 50) (p3 := 48) rfl (fun _ => ?_) (fun hh => absurd hh (by simp [c7]))
        refine mx_WP.go 3 (pc' := 55) (L' := [some (mx_r (some (0, 7, 0))), some (mx_i x1), some (mx_i x2), some (mx_r (some (0, 2, (x1.toNatClampNeg + 1)))), some (mx_i u4)]) (st' := [mx_i (2 : Int32), mx_i (u6.2 2 (x1.toNatClampNeg + 1) 7)]) (σ' := (hC u6.2 J h, μ)) rfl ?_
        by_cases c8 : (u6.2 2 (x1.toNatClampNeg + 1) 7) = (2 : Int32)
        · rw [if_pos c8] at hf
          refine mx_WP.beq (x := (u6.2 2 (x1.toNatClampNeg + 1) 7)) (y := (2 : Int32)) (q := 62) (p3 := 58) rfl (fun _ => ?_) (fun hh => absurd c8 hh)
          refine mx_WP.go 1 (pc' := 63) (L' := [some (mx_r (some (0, 7, 0))), some (mx_i x1), some (mx_i x2), some (mx_r (some (0, 2, (x1.toNatClampNeg + 1)))), some (mx_i u4)]) (st' := [mx_i (0 : Int32)]) (σ' := (hC u6.2 J h, μ)) rfl ?_
          rw [← Option.some.inj hf] at hk
          refine mx_WP.ret (v := some (mx_i (0 : Int32))) rfl ?_
          exact hk
        · rw [if_neg c8] at hf
          refine mx_WP.beq (x := (u6.2 2 (x1.toNatClampNeg + 1) 7)) (y := (2 : Int32)) (q := 62) (p3 := 58) rfl (fun hh => absurd hh c8) (fun _ => ?_)
          refine mx_WP.go 2 (pc' := 63) (L' := [some (mx_r (some (0, 7, 0))), some (mx_i x1), some (mx_i x2), some (mx_r (some (0, 2, (x1.toNatClampNeg + 1)))), some (mx_i u4)]) (st' := [mx_i (1 : Int32)]) (σ' := (hC u6.2 J h, μ)) rfl ?_
          rw [← Option.some.inj hf] at hk
          refine mx_WP.ret (v := some (mx_i (1 : Int32))) rfl ?_
          exact hk
      · rw [if_neg c7] at hf
        refine mx_WP.zne (b := u6.1) (q := 50) (p3 := 48) rfl (fun hh => absurd hh (by simp [c7])) (fun _ => ?_)
        refine mx_WP.go 1 (pc' := 49) (L' := [some (mx_r (some (0, 7, 0))), some (mx_i x1), some (mx_i x2), some (mx_r (some (0, 2, (x1.toNatClampNeg + 1)))), some (mx_i u4)]) (st' := [mx_i (0 : Int32)]) (σ' := (hC u6.2 J h, μ)) rfl ?_
        rw [← Option.some.inj hf] at hk
        refine mx_WP.ret (v := some (mx_i (0 : Int32))) rfl ?_
        exact hk
def f90 (fw90 : Int32 → Int32 → (Nat → Nat → Nat → Int32) → (Nat → Nat → Nat → Int64) → Option (Bool × (Nat → Nat → Nat → Int32))) (x1 : Int32) (x2 : Int32) (I : Nat → Nat → Nat → Int32) (J : Nat → Nat → Nat → Int64) : Option (Bool × (Nat → Nat → Nat → Int32)) :=
  if x1 < 0 ∨ 8 ≤ x1.toNatClampNeg then none else if (I 6 x1.toNatClampNeg 6) = (0 : Int32) then (if (I 6 x1.toNatClampNeg 5) = (0 : Int32) then (if x2 < (8 : Int32) then ((f91 fw90 x1 x2 (mx_u3 (mx_u3 I 6 x1.toNatClampNeg 5 (1 : Int32)) 6 x1.toNatClampNeg 8 (((mx_u3 I 6 x1.toNatClampNeg 5 (1 : Int32)) 6 x1.toNatClampNeg 8) + (1 : Int32))) J).bind fun u5 =>
  if ((mx_u3 (mx_u3 u5.2 6 x1.toNatClampNeg 6 (b2i u5.1)) 6 x1.toNatClampNeg 5 (0 : Int32)) 6 x1.toNatClampNeg 6) = 0 then some (false, (mx_u3 (mx_u3 u5.2 6 x1.toNatClampNeg 6 (b2i u5.1)) 6 x1.toNatClampNeg 5 (0 : Int32))) else if ((mx_u3 (mx_u3 u5.2 6 x1.toNatClampNeg 6 (b2i u5.1)) 6 x1.toNatClampNeg 5 (0 : Int32)) 6 x1.toNatClampNeg 6) = 1 then some (true, (mx_u3 (mx_u3 u5.2 6 x1.toNatClampNeg 6 (b2i u5.1)) 6 x1.toNatClampNeg 5 (0 : Int32))) else none) else some (false, I)) else some (true, I)) else some (true, I)
theorem T90 {d : Nat} {fw90 : Int32 → Int32 → (Nat → Nat → Nat → Int32) → (Nat → Nat → Nat → Int64) → Option (Bool × (Nat → Nat → Nat → Int32))} (Tw90 : ∀ {x1 : Int32} {x2 : Int32} {I : Nat → Nat → Nat → Int32} {J : Nat → Nat → Nat → Int64} {h : Nat → Nat} {μ : mx_Rg × (Nat × (Nat → Int32)) × (Nat × Nat)} {Q : Option mx_V → mx_Hp → Prop} {o : Bool × (Nat → Nat → Nat → Int32)}, fw90 x1 x2 I J = some o → Q (some (mx_i (b2i o.1))) (hC o.2 J h, μ) → mx_WP (d + 2) 90 0 (mx_ent 90 [mx_r (some (0, 7, 0)), mx_i x1, mx_i x2]) [] (hC I J h, μ) Q) {x1 : Int32} {x2 : Int32} {I : Nat → Nat → Nat → Int32} {J : Nat → Nat → Nat → Int64} {h : Nat → Nat} {μ : mx_Rg × (Nat × (Nat → Int32)) × (Nat × Nat)} {Q : Option mx_V → mx_Hp → Prop} {o : Bool × (Nat → Nat → Nat → Int32)} (hf : f90 fw90 x1 x2 I J = some o) (hk : Q (some (mx_i (b2i o.1))) (hC o.2 J h, μ)) : mx_WP (d + 5) 90 0 (mx_ent 90 [mx_r (some (0, 7, 0)), mx_i x1, mx_i x2]) [] (hC I J h, μ) Q := by
  unfold f90 at hf
  refine mx_WP.go 3 (pc' := 5) (L' := [some (mx_r (some (0, 7, 0))), some (mx_i x1), some (mx_i x2), none]) (st' := [mx_i x1, mx_r (some (0, 73, 0))]) (σ' := (hC I J h, μ)) rfl ?_
  by_cases c1 : x1 < 0 ∨ 8 ≤ x1.toNatClampNeg
  · rw [if_pos c1] at hf
    cases hf
  rw [if_neg c1] at hf
  refine mx_WP.aal73 c1 ?_
  show mx_WP (d + 5) 90 6 [some (mx_r (some (0, 7, 0))), some (mx_i x1), some (mx_i x2), none] [mx_r (some (0, 6, x1.toNatClampNeg))] (hC I J h, μ) Q
  refine mx_WP.go 3 (pc' := 11) (L' := [some (mx_r (some (0, 7, 0))), some (mx_i x1), some (mx_i x2), some (mx_r (some (0, 6, x1.toNatClampNeg)))]) (st' := [mx_i (I 6 x1.toNatClampNeg 6)]) (σ' := (hC I J h, μ)) rfl ?_
  by_cases c2 : (I 6 x1.toNatClampNeg 6) = (0 : Int32)
  · rw [if_pos c2] at hf
    refine mx_WP.bne (x := (I 6 x1.toNatClampNeg 6)) (y := (0 : Int32)) (q := 21) (p3 := 14) rfl (fun hh => absurd c2 hh) (fun _ => ?_)
    refine mx_WP.go 2 (pc' := 18) (L' := [some (mx_r (some (0, 7, 0))), some (mx_i x1), some (mx_i x2), some (mx_r (some (0, 6, x1.toNatClampNeg)))]) (st' := [mx_i (I 6 x1.toNatClampNeg 5)]) (σ' := (hC I J h, μ)) rfl ?_
    by_cases c3 : (I 6 x1.toNatClampNeg 5) = (0 : Int32)
    · rw [if_pos c3] at hf
      refine mx_WP.beq (x := (I 6 x1.toNatClampNeg 5)) (y := (0 : Int32)) (q := 23) (p3 := 21) rfl (fun _ => ?_) (fun hh => absurd c3 hh)
      refine mx_WP.go 2 (pc' := 26) (L' := [some (mx_r (some (0, 7, 0))), some (mx_i x1), some (mx_i x2), some (mx_r (some (0, 6, x1.toNatClampNeg)))]) (st' := [mx_i (8 : Int32), mx_i x2]) (σ' := (hC I J h, μ)) rfl ?_
      by_cases c4 : x2 < (8 : Int32)
      · rw [if_pos c4] at hf
        refine mx_WP.blt (x := x2) (y := (8 : Int32)) (q := 31) (p3 := 29) rfl (fun _ => ?_) (fun hh => absurd c4 hh)
        refine mx_WP.go 13 (pc' := 50) (L' := [some (mx_r (some (0, 7, 0))), some (mx_i x1), some (mx_i x2), some (mx_r (some (0, 6, x1.toNatClampNeg)))]) (st' := [mx_i x2, mx_i x1, mx_r (some (0, 7, 0)), mx_r (some (0, 6, x1.toNatClampNeg))]) (σ' := (hC (mx_u3 (mx_u3 I 6 x1.toNatClampNeg 5 (1 : Int32)) 6 x1.toNatClampNeg 8 (((mx_u3 I 6 x1.toNatClampNeg 5 (1 : Int32)) 6 x1.toNatClampNeg 8) + (1 : Int32))) J h, μ)) rfl ?_
        obtain ⟨u5, e8, hf⟩ := Option.bind_eq_some_iff.mp hf
        refine mx_WP.call (d := d + 4) (y := 91) (as := [mx_r (some (0, 7, 0)), mx_i x1, mx_i x2]) (pc' := 53) (r := [mx_r (some (0, 6, x1.toNatClampNeg))]) rfl rfl (T91 (d := d + 0) Tw90 e8 ?_)
        show mx_WP (d + 5) 90 53 [some (mx_r (some (0, 7, 0))), some (mx_i x1), some (mx_i x2), some (mx_r (some (0, 6, x1.toNatClampNeg)))] [mx_i (b2i u5.1), mx_r (some (0, 6, x1.toNatClampNeg))] (hC u5.2 J h, μ) Q
        refine mx_WP.putz (b2i_01 _) (by rfl) (by rfl) (by rfl) (by rfl) ?_
        show mx_WP (d + 5) 90 56 [some (mx_r (some (0, 7, 0))), some (mx_i x1), some (mx_i x2), some (mx_r (some (0, 6, x1.toNatClampNeg)))] [] (hC (mx_u3 u5.2 6 x1.toNatClampNeg 6 (b2i u5.1)) J h, μ) Q
        refine mx_WP.go 5 (pc' := 65) (L' := [some (mx_r (some (0, 7, 0))), some (mx_i x1), some (mx_i x2), some (mx_r (some (0, 6, x1.toNatClampNeg)))]) (st' := [mx_i ((mx_u3 (mx_u3 u5.2 6 x1.toNatClampNeg 6 (b2i u5.1)) 6 x1.toNatClampNeg 5 (0 : Int32)) 6 x1.toNatClampNeg 6)]) (σ' := (hC (mx_u3 (mx_u3 u5.2 6 x1.toNatClampNeg 6 (b2i u5.1)) 6 x1.toNatClampNeg 5 (0 : Int32)) J h, μ)) rfl ?_
        by_cases c6 : ((mx_u3 (mx_u3 u5.2 6 x1.toNatClampNeg 6 (b2i u5.1)) 6 x1.toNatClampNeg 5 (0 : Int32)) 6 x1.toNatClampNeg 6) = 0
        · rw [if_pos c6] at hf
          rw [← Option.some.inj hf] at hk
          refine mx_WP.retz (Or.inl c6) (by rfl) (by rfl) ?_
          rw [c6]
          exact hk
        rw [if_neg c6] at hf
        by_cases c7 : ((mx_u3 (mx_u3 u5.2 6 x1.toNatClampNeg 6 (b2i u5.1)) 6 x1.toNatClampNeg 5 (0 : Int32)) 6 x1.toNatClampNeg 6) = 1
        · rw [if_pos c7] at hf
          rw [← Option.some.inj hf] at hk
          refine mx_WP.retz (Or.inr c7) (by rfl) (by rfl) ?_
          rw [c7]
          exact hk
        rw [if_neg c7] at hf
        cases hf
      · rw [if_neg c4] at hf
        refine mx_WP.blt (x := x2) (y := (8 : Int32)) (q := 31) (p3 := 29) rfl (fun hh => absurd hh c4) (fun _ => ?_)
        refine mx_WP.go 1 (pc' := 30) (L' := [some (mx_r (some (0, 7, 0))), some (mx_i x1), some (mx_i x2), some (mx_r (some (0, 6, x1.toNatClampNeg)))]) (st' := [mx_i (0 : Int32)]) (σ' := (hC I J h, μ)) rfl ?_
        rw [← Option.some.inj hf] at hk
        refine mx_WP.ret (v := some (mx_i (0 : Int32))) rfl ?_
        exact hk
    · rw [if_neg c3] at hf
      refine mx_WP.beq (x := (I 6 x1.toNatClampNeg 5)) (y := (0 : Int32)) (q := 23) (p3 := 21) rfl (fun hh => absurd hh c3) (fun _ => ?_)
      refine mx_WP.go 1 (pc' := 22) (L' := [some (mx_r (some (0, 7, 0))), some (mx_i x1), some (mx_i x2), some (mx_r (some (0, 6, x1.toNatClampNeg)))]) (st' := [mx_i (1 : Int32)]) (σ' := (hC I J h, μ)) rfl ?_
      rw [← Option.some.inj hf] at hk
      refine mx_WP.ret (v := some (mx_i (1 : Int32))) rfl ?_
      exact hk
  · rw [if_neg c2] at hf
    refine mx_WP.bne (x := (I 6 x1.toNatClampNeg 6)) (y := (0 : Int32)) (q := 21) (p3 := 14) rfl (fun _ => ?_) (fun hh => absurd c2 hh)
    refine mx_WP.go 1 (pc' := 22) (L' := [some (mx_r (some (0, 7, 0))), some (mx_i x1), some (mx_i x2), some (mx_r (some (0, 6, x1.toNatClampNeg)))]) (st' := [mx_i (1 : Int32)]) (σ' := (hC I J h, μ)) rfl ?_
    rw [← Option.some.inj hf] at hk
    refine mx_WP.ret (v := some (mx_i (1 : Int32))) rfl ?_
    exact hk
