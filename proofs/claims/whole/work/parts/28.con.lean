def f33 (x0 : Nat) (r : mx_Rg) (K : Nat) (Z : Nat) : Option (mx_Rg × Nat × Nat) :=
  rg_let (rg_R (mx_alr r 65 3) 2 x0 0 (some (0, 65, (r.2.2.2.1 65)))) fun r1 =>
  rg_let (rg_R (mx_alr r1 66 3) 2 x0 1 (some (0, 66, (r1.2.2.2.1 66)))) fun r2 =>
  rg_let (rg_R (mx_alr r2 67 3) 2 x0 2 (some (0, 67, (r2.2.2.2.1 67)))) fun r3 =>
  rg_let (rg_R (mx_alr r3 68 4) 2 x0 3 (some (0, 68, (r3.2.2.2.1 68)))) fun r4 =>
  some ((rg_R (mx_alr r4 69 4) 2 x0 4 (some (0, 69, (r4.2.2.2.1 69)))), (((((K + 1) + 1) + 1) + 1) + 1), (((((Z + 3) + 3) + 3) + 4) + 4))
theorem T33 {d : Nat} {x0 : Nat} {μ0 : mx_Rg} {ς : Nat × (Nat → Int32)} {r : mx_Rg} {K : Nat} {Z : Nat} {Q : Option mx_V → mx_Hp → Prop} {o : mx_Rg × Nat × Nat} (hf : f33 x0 r K Z = some o) (hk : Q (none) (o.1, μ0, ς, (o.2.1, o.2.2))) : mx_WP (d + 0) 33 0 (mx_ent 33 [mx_r (some (0, 2, x0))]) [] (r, μ0, ς, (K, Z)) Q := by
  unfold f33 at hf
  refine mx_WP.go 8 (pc' := 13) (L' := [some (mx_r (some (0, 2, x0)))]) (st' := [mx_i (3 : Int32), mx_r (some (0, 2, x0))]) (σ' := ((rg_R (mx_alr r 65 3) 2 x0 0 (some (0, 65, (r.2.2.2.1 65)))), μ0, ς, ((K + 1), (Z + 3)))) rfl ?_
  show mx_WP (d + 0) 33 13 [some (mx_r (some (0, 2, x0)))] [mx_i (3 : Int32), mx_r (some (0, 2, x0))] ((rg_R (mx_alr r 65 3) 2 x0 0 (some (0, 65, (r.2.2.2.1 65)))), μ0, ς, ((K + 1), (Z + 3))) Q
  generalize (rg_R (mx_alr r 65 3) 2 x0 0 (some (0, 65, (r.2.2.2.1 65)))) = r1 at hf ⊢
  rw [rg_let] at hf
  refine mx_WP.go 4 (pc' := 20) (L' := [some (mx_r (some (0, 2, x0)))]) (st' := [mx_i (3 : Int32), mx_r (some (0, 2, x0))]) (σ' := ((rg_R (mx_alr r1 66 3) 2 x0 1 (some (0, 66, (r1.2.2.2.1 66)))), μ0, ς, (((K + 1) + 1), ((Z + 3) + 3)))) rfl ?_
  show mx_WP (d + 0) 33 20 [some (mx_r (some (0, 2, x0)))] [mx_i (3 : Int32), mx_r (some (0, 2, x0))] ((rg_R (mx_alr r1 66 3) 2 x0 1 (some (0, 66, (r1.2.2.2.1 66)))), μ0, ς, (((K + 1) + 1), ((Z + 3) + 3))) Q
  generalize (rg_R (mx_alr r1 66 3) 2 x0 1 (some (0, 66, (r1.2.2.2.1 66)))) = r2 at hf ⊢
  rw [rg_let] at hf
  refine mx_WP.go 4 (pc' := 27) (L' := [some (mx_r (some (0, 2, x0)))]) (st' := [mx_i (4 : Int32), mx_r (some (0, 2, x0))]) (σ' := ((rg_R (mx_alr r2 67 3) 2 x0 2 (some (0, 67, (r2.2.2.2.1 67)))), μ0, ς, ((((K + 1) + 1) + 1), (((Z + 3) + 3) + 3)))) rfl ?_
  show mx_WP (d + 0) 33 27 [some (mx_r (some (0, 2, x0)))] [mx_i (4 : Int32), mx_r (some (0, 2, x0))] ((rg_R (mx_alr r2 67 3) 2 x0 2 (some (0, 67, (r2.2.2.2.1 67)))), μ0, ς, ((((K + 1) + 1) + 1), (((Z + 3) + 3) + 3))) Q
  generalize (rg_R (mx_alr r2 67 3) 2 x0 2 (some (0, 67, (r2.2.2.2.1 67)))) = r3 at hf ⊢
  rw [rg_let] at hf
  refine mx_WP.go 4 (pc' := 34) (L' := [some (mx_r (some (0, 2, x0)))]) (st' := [mx_i (4 : Int32), mx_r (some (0, 2, x0))]) (σ' := ((rg_R (mx_alr r3 68 4) 2 x0 3 (some (0, 68, (r3.2.2.2.1 68)))), μ0, ς, (((((K + 1) + 1) + 1) + 1), ((((Z + 3) + 3) + 3) + 4)))) rfl ?_
  show mx_WP (d + 0) 33 34 [some (mx_r (some (0, 2, x0)))] [mx_i (4 : Int32), mx_r (some (0, 2, x0))] ((rg_R (mx_alr r3 68 4) 2 x0 3 (some (0, 68, (r3.2.2.2.1 68)))), μ0, ς, (((((K + 1) + 1) + 1) + 1), ((((Z + 3) + 3) + 3) + 4))) Q
  generalize (rg_R (mx_alr r3 68 4) 2 x0 3 (some (0, 68, (r3.2.2.2.1 68)))) = r4 at hf ⊢
  rw [rg_let] at hf
  refine mx_WP.go 2 (pc' := 39) (L' := [some (mx_r (some (0, 2, x0)))]) (st' := []) (σ' := ((rg_R (mx_alr r4 69 4) 2 x0 4 (some (0, 69, (r4.2.2.2.1 69)))), μ0, ς, ((((((K + 1) + 1) + 1) + 1) + 1), (((((Z + 3) + 3) + 3) + 4) + 4)))) rfl ?_
  rw [← Option.some.inj hf] at hk
  refine mx_WP.ret (v := none) rfl ?_
  exact hk
def f29 (x0 : Nat) (r : mx_Rg) (K : Nat) (Z : Nat) : Option (mx_Rg × Nat × Nat) :=
  rg_let (rg_R (mx_alr r 64 200) 1 x0 0 (some (0, 64, (r.2.2.2.1 64)))) fun r1 =>
  (f33 (r1.2.2.2.1 2) (mx_alr r1 2 0) ((K + 1) + 1) ((Z + 200) + 9)).bind fun u2 =>
  some ((rg_R u2.1 1 x0 1 (some (0, 2, (r1.2.2.2.1 2)))), u2.2.1, u2.2.2)
theorem T29 {d : Nat} {x0 : Nat} {μ0 : mx_Rg} {ς : Nat × (Nat → Int32)} {r : mx_Rg} {K : Nat} {Z : Nat} {Q : Option mx_V → mx_Hp → Prop} {o : mx_Rg × Nat × Nat} (hf : f29 x0 r K Z = some o) (hk : Q (none) (o.1, μ0, ς, (o.2.1, o.2.2))) : mx_WP (d + 1) 29 0 (mx_ent 29 [mx_r (some (0, 1, x0))]) [] (r, μ0, ς, (K, Z)) Q := by
  unfold f29 at hf
  refine mx_WP.go 7 (pc' := 14) (L' := [some (mx_r (some (0, 1, x0)))]) (st' := [mx_r (some (0, 1, x0))]) (σ' := ((rg_R (mx_alr r 64 200) 1 x0 0 (some (0, 64, (r.2.2.2.1 64)))), μ0, ς, ((K + 1), (Z + 200)))) rfl ?_
  show mx_WP (d + 1) 29 14 [some (mx_r (some (0, 1, x0)))] [mx_r (some (0, 1, x0))] ((rg_R (mx_alr r 64 200) 1 x0 0 (some (0, 64, (r.2.2.2.1 64)))), μ0, ς, ((K + 1), (Z + 200))) Q
  generalize (rg_R (mx_alr r 64 200) 1 x0 0 (some (0, 64, (r.2.2.2.1 64)))) = r1 at hf ⊢
  rw [rg_let] at hf
  refine mx_WP.go 2 (pc' := 18) (L' := [some (mx_r (some (0, 1, x0)))]) (st' := [mx_r (some (0, 2, (r1.2.2.2.1 2))), mx_r (some (0, 2, (r1.2.2.2.1 2))), mx_r (some (0, 1, x0))]) (σ' := ((mx_alr r1 2 0), μ0, ς, (((K + 1) + 1), ((Z + 200) + 9)))) rfl ?_
  obtain ⟨u2, e3, hf⟩ := Option.bind_eq_some_iff.mp hf
  refine mx_WP.call (d := d + 0) (y := 33) (as := [mx_r (some (0, 2, (r1.2.2.2.1 2)))]) (pc' := 21) (r := [mx_r (some (0, 2, (r1.2.2.2.1 2))), mx_r (some (0, 1, x0))]) rfl rfl (T33 (d := d + 0)  e3 ?_)
  show mx_WP (d + 1) 29 21 [some (mx_r (some (0, 1, x0)))] [mx_r (some (0, 2, (r1.2.2.2.1 2))), mx_r (some (0, 1, x0))] (u2.1, μ0, ς, (u2.2.1, u2.2.2)) Q
  refine mx_WP.go 1 (pc' := 24) (L' := [some (mx_r (some (0, 1, x0)))]) (st' := []) (σ' := ((rg_R u2.1 1 x0 1 (some (0, 2, (r1.2.2.2.1 2)))), μ0, ς, (u2.2.1, u2.2.2))) rfl ?_
  rw [← Option.some.inj hf] at hk
  refine mx_WP.ret (v := none) rfl ?_
  exact hk
def f41 (x0 : Nat) (r : mx_Rg) (K : Nat) (Z : Nat) : Option (mx_Rg × Nat × Nat) :=
  rg_let (rg_R (mx_alr r 70 4) 3 x0 0 (some (0, 70, (r.2.2.2.1 70)))) fun r1 =>
  some ((rg_I (rg_I (rg_I (rg_R (mx_alr r1 71 4) 3 x0 1 (some (0, 71, (r1.2.2.2.1 71)))) 3 x0 3 (-1 : Int32)) 3 x0 4 (-1 : Int32)) 3 x0 5 (-1 : Int32)), ((K + 1) + 1), ((Z + 4) + 4))
theorem T41 {d : Nat} {x0 : Nat} {μ0 : mx_Rg} {ς : Nat × (Nat → Int32)} {r : mx_Rg} {K : Nat} {Z : Nat} {Q : Option mx_V → mx_Hp → Prop} {o : mx_Rg × Nat × Nat} (hf : f41 x0 r K Z = some o) (hk : Q (none) (o.1, μ0, ς, (o.2.1, o.2.2))) : mx_WP (d + 0) 41 0 (mx_ent 41 [mx_r (some (0, 3, x0))]) [] (r, μ0, ς, (K, Z)) Q := by
  unfold f41 at hf
  refine mx_WP.go 8 (pc' := 13) (L' := [some (mx_r (some (0, 3, x0)))]) (st' := [mx_i (4 : Int32), mx_r (some (0, 3, x0))]) (σ' := ((rg_R (mx_alr r 70 4) 3 x0 0 (some (0, 70, (r.2.2.2.1 70)))), μ0, ς, ((K + 1), (Z + 4)))) rfl ?_
  show mx_WP (d + 0) 41 13 [some (mx_r (some (0, 3, x0)))] [mx_i (4 : Int32), mx_r (some (0, 3, x0))] ((rg_R (mx_alr r 70 4) 3 x0 0 (some (0, 70, (r.2.2.2.1 70)))), μ0, ς, ((K + 1), (Z + 4))) Q
  generalize (rg_R (mx_alr r 70 4) 3 x0 0 (some (0, 70, (r.2.2.2.1 70)))) = r1 at hf ⊢
  rw [rg_let] at hf
  refine mx_WP.go 11 (pc' := 33) (L' := [some (mx_r (some (0, 3, x0)))]) (st' := []) (σ' := ((rg_I (rg_I (rg_I (rg_R (mx_alr r1 71 4) 3 x0 1 (some (0, 71, (r1.2.2.2.1 71)))) 3 x0 3 (-1 : Int32)) 3 x0 4 (-1 : Int32)) 3 x0 5 (-1 : Int32)), μ0, ς, (((K + 1) + 1), ((Z + 4) + 4)))) rfl ?_
  rw [← Option.some.inj hf] at hk
  refine mx_WP.ret (v := none) rfl ?_
  exact hk
def b47_20 (x0 : Nat) (r : mx_Rg) (K : Nat) (Z : Nat) (s : Int32 × mx_Rg × Nat × Nat) : Option ((Int32 × mx_Rg × Nat × Nat) ⊕ (Int32 × mx_Rg × Nat × Nat)) :=
  if (16 : Int32) ≤ s.1 then (some (Sum.inr (s.1, s.2.1, s.2.2.1, s.2.2.2))) else (oget (s.2.1.2.2.1 4 x0 0) 72).bind fun j103 =>
  rg_let s.2.1 fun r105 =>
  (f41 (r105.2.2.2.1 3) (mx_alr r105 3 0) (s.2.2.1 + 1) (s.2.2.2 + 8)).bind fun u106 =>
  if s.1 < 0 ∨ u106.1.2.2.2.2 72 j103 ≤ s.1.toNatClampNeg then none else some (Sum.inl (s.1 + 1, (rg_R u106.1 72 j103 s.1.toNatClampNeg (some (0, 3, (r105.2.2.2.1 3)))), u106.2.1, u106.2.2))
theorem B47_20 {d : Nat} {x0 : Nat} {μ0 : mx_Rg} {ς : Nat × (Nat → Int32)} {r : mx_Rg} {K : Nat} {Z : Nat} {Q : Option mx_V → mx_Hp → Prop} {s : Int32 × mx_Rg × Nat × Nat} {o : (Int32 × mx_Rg × Nat × Nat) ⊕ (Int32 × mx_Rg × Nat × Nat)} (hf : b47_20 x0 r K Z s = some o) (hk : Sum.elim (fun s : Int32 × mx_Rg × Nat × Nat => ∀ (z1 : Option mx_V), mx_WP (d + 1) 47 20 [some (mx_r (some (0, 4, x0))), z1, some (mx_i s.1)] [] (s.2.1, μ0, ς, (s.2.2.1, s.2.2.2)) Q) (fun x : Int32 × mx_Rg × Nat × Nat => ∀ (z1 : Option mx_V), mx_WP (d + 1) 47 45 [some (mx_r (some (0, 4, x0))), z1, some (mx_i x.1)] [] (x.2.1, μ0, ς, (x.2.2.1, x.2.2.2)) Q) o) : ∀ (z1 : Option mx_V), mx_WP (d + 1) 47 20 [some (mx_r (some (0, 4, x0))), z1, some (mx_i s.1)] [] (s.2.1, μ0, ς, (s.2.2.1, s.2.2.2)) Q := by
  intro z1
  unfold b47_20 at hf
  refine mx_WP.go 2 (pc' := 23) (L' := [some (mx_r (some (0, 4, x0))), z1, some (mx_i s.1)]) (st' := [mx_i (16 : Int32), mx_i s.1]) (σ' := (s.2.1, μ0, ς, (s.2.2.1, s.2.2.2))) rfl ?_
  by_cases c102 : (16 : Int32) ≤ s.1
  · rw [if_pos c102] at hf
    refine mx_WP.bge (x := s.1) (y := (16 : Int32)) (q := 45) (p3 := 26) rfl (fun _ => ?_) (fun hh => absurd c102 hh)
    rw [← Option.some.inj hf] at hk
    exact hk (z1)
  · rw [if_neg c102] at hf
    refine mx_WP.bge (x := s.1) (y := (16 : Int32)) (q := 45) (p3 := 26) rfl (fun hh => absurd hh c102) (fun _ => ?_)
    refine mx_WP.go 1 (pc' := 27) (L' := [some (mx_r (some (0, 4, x0))), z1, some (mx_i s.1)]) (st' := [mx_r (some (0, 4, x0))]) (σ' := (s.2.1, μ0, ς, (s.2.2.1, s.2.2.2))) rfl ?_
    obtain ⟨j103, e104, hf⟩ := Option.bind_eq_some_iff.mp hf
    refine mx_WP.gr (o := s.2.1.2.2.1 4 x0 0) (pc' := 30) rfl (oget_ok e104) ?_
    show mx_WP (d + 1) 47 30 [some (mx_r (some (0, 4, x0))), z1, some (mx_i s.1)] [mx_r (some (0, 72, j103))] (s.2.1, μ0, ς, (s.2.2.1, s.2.2.2)) Q
    refine mx_WP.go 1 (pc' := 31) (L' := [some (mx_r (some (0, 4, x0))), z1, some (mx_i s.1)]) (st' := [mx_i s.1, mx_r (some (0, 72, j103))]) (σ' := (s.2.1, μ0, ς, (s.2.2.1, s.2.2.2))) rfl ?_
    show mx_WP (d + 1) 47 31 [some (mx_r (some (0, 4, x0))), z1, some (mx_i s.1)] [mx_i s.1, mx_r (some (0, 72, j103))] (s.2.1, μ0, ς, (s.2.2.1, s.2.2.2)) Q
    generalize s.2.1 = r105 at hf ⊢
    rw [rg_let] at hf
    refine mx_WP.go 2 (pc' := 35) (L' := [some (mx_r (some (0, 4, x0))), z1, some (mx_i s.1)]) (st' := [mx_r (some (0, 3, (r105.2.2.2.1 3))), mx_r (some (0, 3, (r105.2.2.2.1 3))), mx_i s.1, mx_r (some (0, 72, j103))]) (σ' := ((mx_alr r105 3 0), μ0, ς, ((s.2.2.1 + 1), (s.2.2.2 + 8)))) rfl ?_
    obtain ⟨u106, e108, hf⟩ := Option.bind_eq_some_iff.mp hf
    refine mx_WP.call (d := d + 0) (y := 41) (as := [mx_r (some (0, 3, (r105.2.2.2.1 3)))]) (pc' := 38) (r := [mx_r (some (0, 3, (r105.2.2.2.1 3))), mx_i s.1, mx_r (some (0, 72, j103))]) rfl rfl (T41 (d := d + 0)  e108 ?_)
    show mx_WP (d + 1) 47 38 [some (mx_r (some (0, 4, x0))), z1, some (mx_i s.1)] [mx_r (some (0, 3, (r105.2.2.2.1 3))), mx_i s.1, mx_r (some (0, 72, j103))] (u106.1, μ0, ς, (u106.2.1, u106.2.2)) Q
    by_cases c107 : s.1 < 0 ∨ u106.1.2.2.2.2 72 j103 ≤ s.1.toNatClampNeg
    · rw [if_pos c107] at hf
      cases hf
    rw [if_neg c107] at hf
    refine mx_WP.aastx c107 ?_
    show mx_WP (d + 1) 47 39 [some (mx_r (some (0, 4, x0))), z1, some (mx_i s.1)] [] ((rg_R u106.1 72 j103 s.1.toNatClampNeg (some (0, 3, (r105.2.2.2.1 3)))), μ0, ς, (u106.2.1, u106.2.2)) Q
    refine mx_WP.go 2 (pc' := 20) (L' := [some (mx_r (some (0, 4, x0))), z1, some (mx_i (s.1 + 1))]) (st' := []) (σ' := ((rg_R u106.1 72 j103 s.1.toNatClampNeg (some (0, 3, (r105.2.2.2.1 3)))), μ0, ς, (u106.2.1, u106.2.2))) rfl ?_
    rw [← Option.some.inj hf] at hk
    exact hk (z1)
theorem L47_20 {d : Nat} {x0 : Nat} {μ0 : mx_Rg} {ς : Nat × (Nat → Int32)} {r : mx_Rg} {K : Nat} {Z : Nat} {Q : Option mx_V → mx_Hp → Prop} {n : Nat} {s : Int32 × mx_Rg × Nat × Nat} {o : Int32 × mx_Rg × Nat × Nat} (hf : mx_lp (b47_20 x0 r K Z) n s = some o) (hk : (fun x : Int32 × mx_Rg × Nat × Nat => ∀ (z1 : Option mx_V), mx_WP (d + 1) 47 45 [some (mx_r (some (0, 4, x0))), z1, some (mx_i x.1)] [] (x.2.1, μ0, ς, (x.2.2.1, x.2.2.2)) Q) o) : ∀ (z1 : Option mx_V), mx_WP (d + 1) 47 20 [some (mx_r (some (0, 4, x0))), z1, some (mx_i s.1)] [] (s.2.1, μ0, ς, (s.2.2.1, s.2.2.2)) Q := mx_lp_ok (P := fun s : Int32 × mx_Rg × Nat × Nat => ∀ (z1 : Option mx_V), mx_WP (d + 1) 47 20 [some (mx_r (some (0, 4, x0))), z1, some (mx_i s.1)] [] (s.2.1, μ0, ς, (s.2.2.1, s.2.2.2)) Q) (E := (fun x : Int32 × mx_Rg × Nat × Nat => ∀ (z1 : Option mx_V), mx_WP (d + 1) 47 45 [some (mx_r (some (0, 4, x0))), z1, some (mx_i x.1)] [] (x.2.1, μ0, ς, (x.2.2.1, x.2.2.2)) Q)) (fun s o hf hk => B47_20 hf hk) n s o hf hk
def f47 (x0 : Nat) (x1 : Nat) (r : mx_Rg) (K : Nat) (Z : Nat) : Option (mx_Rg × Nat × Nat) :=
  rg_let (rg_R r 4 x0 1 (some (0, 3, x1))) fun r1 =>
  (mx_lp (b47_20 x0 (rg_R (mx_alr r1 72 16) 4 x0 0 (some (0, 72, (r1.2.2.2.1 72)))) (K + 1) (Z + 16)) mx_fu ((0 : Int32), (rg_R (mx_alr r1 72 16) 4 x0 0 (some (0, 72, (r1.2.2.2.1 72)))), (K + 1), (Z + 16))).bind fun u109 =>
  some (u109.2.1, u109.2.2.1, u109.2.2.2)
theorem T47 {d : Nat} {x0 : Nat} {x1 : Nat} {μ0 : mx_Rg} {ς : Nat × (Nat → Int32)} {r : mx_Rg} {K : Nat} {Z : Nat} {Q : Option mx_V → mx_Hp → Prop} {o : mx_Rg × Nat × Nat} (hf : f47 x0 x1 r K Z = some o) (hk : Q (none) (o.1, μ0, ς, (o.2.1, o.2.2))) : mx_WP (d + 1) 47 0 (mx_ent 47 [mx_r (some (0, 4, x0)), mx_r (some (0, 3, x1))]) [] (r, μ0, ς, (K, Z)) Q := by
  unfold f47 at hf
  refine mx_WP.go 7 (pc' := 12) (L' := [some (mx_r (some (0, 4, x0))), some (mx_r (some (0, 3, x1))), none]) (st' := [mx_i (16 : Int32), mx_r (some (0, 4, x0))]) (σ' := ((rg_R r 4 x0 1 (some (0, 3, x1))), μ0, ς, (K, Z))) rfl ?_
  show mx_WP (d + 1) 47 12 [some (mx_r (some (0, 4, x0))), some (mx_r (some (0, 3, x1))), none] [mx_i (16 : Int32), mx_r (some (0, 4, x0))] ((rg_R r 4 x0 1 (some (0, 3, x1))), μ0, ς, (K, Z)) Q
  generalize (rg_R r 4 x0 1 (some (0, 3, x1))) = r1 at hf ⊢
  rw [rg_let] at hf
  refine mx_WP.go 4 (pc' := 20) (L' := [some (mx_r (some (0, 4, x0))), some (mx_r (some (0, 3, x1))), some (mx_i (0 : Int32))]) (st' := []) (σ' := ((rg_R (mx_alr r1 72 16) 4 x0 0 (some (0, 72, (r1.2.2.2.1 72)))), μ0, ς, ((K + 1), (Z + 16)))) rfl ?_
  obtain ⟨u109, e110, hf⟩ := Option.bind_eq_some_iff.mp hf
  refine (L47_20 (d := d) e110 ?_) (some (mx_r (some (0, 3, x1))))
  intro z1
  show mx_WP (d + 1) 47 45 [some (mx_r (some (0, 4, x0))), z1, some (mx_i u109.1)] [] (u109.2.1, μ0, ς, (u109.2.2.1, u109.2.2.2)) Q
  rw [← Option.some.inj hf] at hk
  refine mx_WP.ret (v := none) rfl ?_
  exact hk
def f54 (x0 : Nat) (x1 : Nat) (r : mx_Rg) (K : Nat) (Z : Nat) : Option (mx_Rg × Nat × Nat) :=
  (oget ((rg_R r 5 x0 0 (some (0, 4, x1))).2.2.1 4 x1 1) 3).bind fun j1 =>
  some ((rg_R (rg_R r 5 x0 0 (some (0, 4, x1))) 5 x0 1 (some (0, 3, j1))), K, Z)
theorem T54 {d : Nat} {x0 : Nat} {x1 : Nat} {μ0 : mx_Rg} {ς : Nat × (Nat → Int32)} {r : mx_Rg} {K : Nat} {Z : Nat} {Q : Option mx_V → mx_Hp → Prop} {o : mx_Rg × Nat × Nat} (hf : f54 x0 x1 r K Z = some o) (hk : Q (none) (o.1, μ0, ς, (o.2.1, o.2.2))) : mx_WP (d + 0) 54 0 (mx_ent 54 [mx_r (some (0, 5, x0)), mx_r (some (0, 4, x1))]) [] (r, μ0, ς, (K, Z)) Q := by
  unfold f54 at hf
  refine mx_WP.go 7 (pc' := 11) (L' := [some (mx_r (some (0, 5, x0))), some (mx_r (some (0, 4, x1)))]) (st' := [mx_r (some (0, 4, x1)), mx_r (some (0, 5, x0))]) (σ' := ((rg_R r 5 x0 0 (some (0, 4, x1))), μ0, ς, (K, Z))) rfl ?_
  obtain ⟨j1, e2, hf⟩ := Option.bind_eq_some_iff.mp hf
  refine mx_WP.gr (o := (rg_R r 5 x0 0 (some (0, 4, x1))).2.2.1 4 x1 1) (pc' := 14) rfl (oget_ok e2) ?_
  show mx_WP (d + 0) 54 14 [some (mx_r (some (0, 5, x0))), some (mx_r (some (0, 4, x1)))] [mx_r (some (0, 3, j1)), mx_r (some (0, 5, x0))] ((rg_R r 5 x0 0 (some (0, 4, x1))), μ0, ς, (K, Z)) Q
  refine mx_WP.go 1 (pc' := 17) (L' := [some (mx_r (some (0, 5, x0))), some (mx_r (some (0, 4, x1)))]) (st' := []) (σ' := ((rg_R (rg_R r 5 x0 0 (some (0, 4, x1))) 5 x0 1 (some (0, 3, j1))), μ0, ς, (K, Z))) rfl ?_
  rw [← Option.some.inj hf] at hk
  refine mx_WP.ret (v := none) rfl ?_
  exact hk
def f71 (x0 : Nat) (x1 : Nat) (r : mx_Rg) (K : Nat) (Z : Nat) : Option (mx_Rg × Nat × Nat) :=
  (f33 (r.2.2.2.1 2) (mx_alr r 2 0) (K + 1) (Z + 9)).bind fun u1 =>
  rg_let (rg_R u1.1 6 x0 0 (some (0, 2, (r.2.2.2.1 2)))) fun r2 =>
  (f47 (r2.2.2.2.1 4) x1 (mx_alr r2 4 0) (u1.2.1 + 1) (u1.2.2 + 3)).bind fun u3 =>
  rg_let (rg_R u3.1 6 x0 1 (some (0, 4, (r2.2.2.2.1 4)))) fun r4 =>
  (oget ((mx_alr r4 5 0).2.2.1 6 x0 1) 4).bind fun j5 =>
  (f54 (r4.2.2.2.1 5) j5 (mx_alr r4 5 0) (u3.2.1 + 1) (u3.2.2 + 6)).bind fun u7 =>
  some ((rg_R u7.1 6 x0 2 (some (0, 5, (r4.2.2.2.1 5)))), u7.2.1, u7.2.2)
theorem T71 {d : Nat} {x0 : Nat} {x1 : Nat} {μ0 : mx_Rg} {ς : Nat × (Nat → Int32)} {r : mx_Rg} {K : Nat} {Z : Nat} {Q : Option mx_V → mx_Hp → Prop} {o : mx_Rg × Nat × Nat} (hf : f71 x0 x1 r K Z = some o) (hk : Q (none) (o.1, μ0, ς, (o.2.1, o.2.2))) : mx_WP (d + 2) 71 0 (mx_ent 71 [mx_r (some (0, 6, x0)), mx_r (some (0, 3, x1))]) [] (r, μ0, ς, (K, Z)) Q := by
  unfold f71 at hf
  refine mx_WP.go 5 (pc' := 9) (L' := [some (mx_r (some (0, 6, x0))), some (mx_r (some (0, 3, x1)))]) (st' := [mx_r (some (0, 2, (r.2.2.2.1 2))), mx_r (some (0, 2, (r.2.2.2.1 2))), mx_r (some (0, 6, x0))]) (σ' := ((mx_alr r 2 0), μ0, ς, ((K + 1), (Z + 9)))) rfl ?_
  obtain ⟨u1, e10, hf⟩ := Option.bind_eq_some_iff.mp hf
  refine mx_WP.call (d := d + 1) (y := 33) (as := [mx_r (some (0, 2, (r.2.2.2.1 2)))]) (pc' := 12) (r := [mx_r (some (0, 2, (r.2.2.2.1 2))), mx_r (some (0, 6, x0))]) rfl rfl (T33 (d := d + 1)  e10 ?_)
  show mx_WP (d + 2) 71 12 [some (mx_r (some (0, 6, x0))), some (mx_r (some (0, 3, x1)))] [mx_r (some (0, 2, (r.2.2.2.1 2))), mx_r (some (0, 6, x0))] (u1.1, μ0, ς, (u1.2.1, u1.2.2)) Q
  refine mx_WP.go 2 (pc' := 16) (L' := [some (mx_r (some (0, 6, x0))), some (mx_r (some (0, 3, x1)))]) (st' := [mx_r (some (0, 6, x0))]) (σ' := ((rg_R u1.1 6 x0 0 (some (0, 2, (r.2.2.2.1 2)))), μ0, ς, (u1.2.1, u1.2.2))) rfl ?_
  show mx_WP (d + 2) 71 16 [some (mx_r (some (0, 6, x0))), some (mx_r (some (0, 3, x1)))] [mx_r (some (0, 6, x0))] ((rg_R u1.1 6 x0 0 (some (0, 2, (r.2.2.2.1 2)))), μ0, ς, (u1.2.1, u1.2.2)) Q
  generalize (rg_R u1.1 6 x0 0 (some (0, 2, (r.2.2.2.1 2)))) = r2 at hf ⊢
  rw [rg_let] at hf
  refine mx_WP.go 3 (pc' := 21) (L' := [some (mx_r (some (0, 6, x0))), some (mx_r (some (0, 3, x1)))]) (st' := [mx_r (some (0, 3, x1)), mx_r (some (0, 4, (r2.2.2.2.1 4))), mx_r (some (0, 4, (r2.2.2.2.1 4))), mx_r (some (0, 6, x0))]) (σ' := ((mx_alr r2 4 0), μ0, ς, ((u1.2.1 + 1), (u1.2.2 + 3)))) rfl ?_
  obtain ⟨u3, e9, hf⟩ := Option.bind_eq_some_iff.mp hf
  refine mx_WP.call (d := d + 1) (y := 47) (as := [mx_r (some (0, 4, (r2.2.2.2.1 4))), mx_r (some (0, 3, x1))]) (pc' := 24) (r := [mx_r (some (0, 4, (r2.2.2.2.1 4))), mx_r (some (0, 6, x0))]) rfl rfl (T47 (d := d + 0)  e9 ?_)
  show mx_WP (d + 2) 71 24 [some (mx_r (some (0, 6, x0))), some (mx_r (some (0, 3, x1)))] [mx_r (some (0, 4, (r2.2.2.2.1 4))), mx_r (some (0, 6, x0))] (u3.1, μ0, ς, (u3.2.1, u3.2.2)) Q
  refine mx_WP.go 2 (pc' := 28) (L' := [some (mx_r (some (0, 6, x0))), some (mx_r (some (0, 3, x1)))]) (st' := [mx_r (some (0, 6, x0))]) (σ' := ((rg_R u3.1 6 x0 1 (some (0, 4, (r2.2.2.2.1 4)))), μ0, ς, (u3.2.1, u3.2.2))) rfl ?_
  show mx_WP (d + 2) 71 28 [some (mx_r (some (0, 6, x0))), some (mx_r (some (0, 3, x1)))] [mx_r (some (0, 6, x0))] ((rg_R u3.1 6 x0 1 (some (0, 4, (r2.2.2.2.1 4)))), μ0, ς, (u3.2.1, u3.2.2)) Q
  generalize (rg_R u3.1 6 x0 1 (some (0, 4, (r2.2.2.2.1 4)))) = r4 at hf ⊢
  rw [rg_let] at hf
  refine mx_WP.go 3 (pc' := 33) (L' := [some (mx_r (some (0, 6, x0))), some (mx_r (some (0, 3, x1)))]) (st' := [mx_r (some (0, 6, x0)), mx_r (some (0, 5, (r4.2.2.2.1 5))), mx_r (some (0, 5, (r4.2.2.2.1 5))), mx_r (some (0, 6, x0))]) (σ' := ((mx_alr r4 5 0), μ0, ς, ((u3.2.1 + 1), (u3.2.2 + 6)))) rfl ?_
  obtain ⟨j5, e6, hf⟩ := Option.bind_eq_some_iff.mp hf
  refine mx_WP.gr (o := (mx_alr r4 5 0).2.2.1 6 x0 1) (pc' := 36) rfl (oget_ok e6) ?_
  show mx_WP (d + 2) 71 36 [some (mx_r (some (0, 6, x0))), some (mx_r (some (0, 3, x1)))] [mx_r (some (0, 4, j5)), mx_r (some (0, 5, (r4.2.2.2.1 5))), mx_r (some (0, 5, (r4.2.2.2.1 5))), mx_r (some (0, 6, x0))] ((mx_alr r4 5 0), μ0, ς, ((u3.2.1 + 1), (u3.2.2 + 6))) Q
  obtain ⟨u7, e8, hf⟩ := Option.bind_eq_some_iff.mp hf
  refine mx_WP.call (d := d + 1) (y := 54) (as := [mx_r (some (0, 5, (r4.2.2.2.1 5))), mx_r (some (0, 4, j5))]) (pc' := 39) (r := [mx_r (some (0, 5, (r4.2.2.2.1 5))), mx_r (some (0, 6, x0))]) rfl rfl (T54 (d := d + 1)  e8 ?_)
  show mx_WP (d + 2) 71 39 [some (mx_r (some (0, 6, x0))), some (mx_r (some (0, 3, x1)))] [mx_r (some (0, 5, (r4.2.2.2.1 5))), mx_r (some (0, 6, x0))] (u7.1, μ0, ς, (u7.2.1, u7.2.2)) Q
  refine mx_WP.go 1 (pc' := 42) (L' := [some (mx_r (some (0, 6, x0))), some (mx_r (some (0, 3, x1)))]) (st' := []) (σ' := ((rg_R u7.1 6 x0 2 (some (0, 5, (r4.2.2.2.1 5)))), μ0, ς, (u7.2.1, u7.2.2))) rfl ?_
  rw [← Option.some.inj hf] at hk
  refine mx_WP.ret (v := none) rfl ?_
  exact hk
def b77_26 (x0 : Nat) (r : mx_Rg) (K : Nat) (Z : Nat) (s : Int32 × mx_Rg × Nat × Nat) : Option ((Int32 × mx_Rg × Nat × Nat) ⊕ (Int32 × mx_Rg × Nat × Nat)) :=
  if (8 : Int32) ≤ s.1 then (some (Sum.inr (s.1, s.2.1, s.2.2.1, s.2.2.2))) else (oget (s.2.1.2.2.1 7 x0 0) 73).bind fun j104 =>
  rg_let s.2.1 fun r106 =>
  (oget ((mx_alr r106 6 0).2.2.1 7 x0 1) 3).bind fun j107 =>
  (f71 (r106.2.2.2.1 6) j107 (mx_alr r106 6 0) (s.2.2.1 + 1) (s.2.2.2 + 11)).bind fun u109 =>
  if s.1 < 0 ∨ u109.1.2.2.2.2 73 j104 ≤ s.1.toNatClampNeg then none else some (Sum.inl (s.1 + 1, (rg_R u109.1 73 j104 s.1.toNatClampNeg (some (0, 6, (r106.2.2.2.1 6)))), u109.2.1, u109.2.2))
theorem B77_26 {d : Nat} {x0 : Nat} {μ0 : mx_Rg} {ς : Nat × (Nat → Int32)} {r : mx_Rg} {K : Nat} {Z : Nat} {Q : Option mx_V → mx_Hp → Prop} {s : Int32 × mx_Rg × Nat × Nat} {o : (Int32 × mx_Rg × Nat × Nat) ⊕ (Int32 × mx_Rg × Nat × Nat)} (hf : b77_26 x0 r K Z s = some o) (hk : Sum.elim (fun s : Int32 × mx_Rg × Nat × Nat => mx_WP (d + 3) 77 26 [some (mx_r (some (0, 7, x0))), some (mx_i s.1)] [] (s.2.1, μ0, ς, (s.2.2.1, s.2.2.2)) Q) (fun x : Int32 × mx_Rg × Nat × Nat => mx_WP (d + 3) 77 55 [some (mx_r (some (0, 7, x0))), some (mx_i x.1)] [] (x.2.1, μ0, ς, (x.2.2.1, x.2.2.2)) Q) o) : mx_WP (d + 3) 77 26 [some (mx_r (some (0, 7, x0))), some (mx_i s.1)] [] (s.2.1, μ0, ς, (s.2.2.1, s.2.2.2)) Q := by
  unfold b77_26 at hf
  refine mx_WP.go 2 (pc' := 29) (L' := [some (mx_r (some (0, 7, x0))), some (mx_i s.1)]) (st' := [mx_i (8 : Int32), mx_i s.1]) (σ' := (s.2.1, μ0, ς, (s.2.2.1, s.2.2.2))) rfl ?_
  by_cases c103 : (8 : Int32) ≤ s.1
  · rw [if_pos c103] at hf
    refine mx_WP.bge (x := s.1) (y := (8 : Int32)) (q := 55) (p3 := 32) rfl (fun _ => ?_) (fun hh => absurd c103 hh)
    rw [← Option.some.inj hf] at hk
    exact hk
  · rw [if_neg c103] at hf
    refine mx_WP.bge (x := s.1) (y := (8 : Int32)) (q := 55) (p3 := 32) rfl (fun hh => absurd hh c103) (fun _ => ?_)
    refine mx_WP.go 1 (pc' := 33) (L' := [some (mx_r (some (0, 7, x0))), some (mx_i s.1)]) (st' := [mx_r (some (0, 7, x0))]) (σ' := (s.2.1, μ0, ς, (s.2.2.1, s.2.2.2))) rfl ?_
    obtain ⟨j104, e105, hf⟩ := Option.bind_eq_some_iff.mp hf
    refine mx_WP.gr (o := s.2.1.2.2.1 7 x0 0) (pc' := 36) rfl (oget_ok e105) ?_
    show mx_WP (d + 3) 77 36 [some (mx_r (some (0, 7, x0))), some (mx_i s.1)] [mx_r (some (0, 73, j104))] (s.2.1, μ0, ς, (s.2.2.1, s.2.2.2)) Q
    refine mx_WP.go 1 (pc' := 37) (L' := [some (mx_r (some (0, 7, x0))), some (mx_i s.1)]) (st' := [mx_i s.1, mx_r (some (0, 73, j104))]) (σ' := (s.2.1, μ0, ς, (s.2.2.1, s.2.2.2))) rfl ?_
    show mx_WP (d + 3) 77 37 [some (mx_r (some (0, 7, x0))), some (mx_i s.1)] [mx_i s.1, mx_r (some (0, 73, j104))] (s.2.1, μ0, ς, (s.2.2.1, s.2.2.2)) Q
    generalize s.2.1 = r106 at hf ⊢
    rw [rg_let] at hf
    refine mx_WP.go 3 (pc' := 42) (L' := [some (mx_r (some (0, 7, x0))), some (mx_i s.1)]) (st' := [mx_r (some (0, 7, x0)), mx_r (some (0, 6, (r106.2.2.2.1 6))), mx_r (some (0, 6, (r106.2.2.2.1 6))), mx_i s.1, mx_r (some (0, 73, j104))]) (σ' := ((mx_alr r106 6 0), μ0, ς, ((s.2.2.1 + 1), (s.2.2.2 + 11)))) rfl ?_
    obtain ⟨j107, e108, hf⟩ := Option.bind_eq_some_iff.mp hf
    refine mx_WP.gr (o := (mx_alr r106 6 0).2.2.1 7 x0 1) (pc' := 45) rfl (oget_ok e108) ?_
    show mx_WP (d + 3) 77 45 [some (mx_r (some (0, 7, x0))), some (mx_i s.1)] [mx_r (some (0, 3, j107)), mx_r (some (0, 6, (r106.2.2.2.1 6))), mx_r (some (0, 6, (r106.2.2.2.1 6))), mx_i s.1, mx_r (some (0, 73, j104))] ((mx_alr r106 6 0), μ0, ς, ((s.2.2.1 + 1), (s.2.2.2 + 11))) Q
    obtain ⟨u109, e111, hf⟩ := Option.bind_eq_some_iff.mp hf
    refine mx_WP.call (d := d + 2) (y := 71) (as := [mx_r (some (0, 6, (r106.2.2.2.1 6))), mx_r (some (0, 3, j107))]) (pc' := 48) (r := [mx_r (some (0, 6, (r106.2.2.2.1 6))), mx_i s.1, mx_r (some (0, 73, j104))]) rfl rfl (T71 (d := d + 0)  e111 ?_)
    show mx_WP (d + 3) 77 48 [some (mx_r (some (0, 7, x0))), some (mx_i s.1)] [mx_r (some (0, 6, (r106.2.2.2.1 6))), mx_i s.1, mx_r (some (0, 73, j104))] (u109.1, μ0, ς, (u109.2.1, u109.2.2)) Q
    by_cases c110 : s.1 < 0 ∨ u109.1.2.2.2.2 73 j104 ≤ s.1.toNatClampNeg
    · rw [if_pos c110] at hf
      cases hf
    rw [if_neg c110] at hf
    refine mx_WP.aastx c110 ?_
    show mx_WP (d + 3) 77 49 [some (mx_r (some (0, 7, x0))), some (mx_i s.1)] [] ((rg_R u109.1 73 j104 s.1.toNatClampNeg (some (0, 6, (r106.2.2.2.1 6)))), μ0, ς, (u109.2.1, u109.2.2)) Q
    refine mx_WP.go 2 (pc' := 26) (L' := [some (mx_r (some (0, 7, x0))), some (mx_i (s.1 + 1))]) (st' := []) (σ' := ((rg_R u109.1 73 j104 s.1.toNatClampNeg (some (0, 6, (r106.2.2.2.1 6)))), μ0, ς, (u109.2.1, u109.2.2))) rfl ?_
    rw [← Option.some.inj hf] at hk
    exact hk
theorem L77_26 {d : Nat} {x0 : Nat} {μ0 : mx_Rg} {ς : Nat × (Nat → Int32)} {r : mx_Rg} {K : Nat} {Z : Nat} {Q : Option mx_V → mx_Hp → Prop} {n : Nat} {s : Int32 × mx_Rg × Nat × Nat} {o : Int32 × mx_Rg × Nat × Nat} (hf : mx_lp (b77_26 x0 r K Z) n s = some o) (hk : (fun x : Int32 × mx_Rg × Nat × Nat => mx_WP (d + 3) 77 55 [some (mx_r (some (0, 7, x0))), some (mx_i x.1)] [] (x.2.1, μ0, ς, (x.2.2.1, x.2.2.2)) Q) o) : mx_WP (d + 3) 77 26 [some (mx_r (some (0, 7, x0))), some (mx_i s.1)] [] (s.2.1, μ0, ς, (s.2.2.1, s.2.2.2)) Q := mx_lp_ok (P := fun s : Int32 × mx_Rg × Nat × Nat => mx_WP (d + 3) 77 26 [some (mx_r (some (0, 7, x0))), some (mx_i s.1)] [] (s.2.1, μ0, ς, (s.2.2.1, s.2.2.2)) Q) (E := (fun x : Int32 × mx_Rg × Nat × Nat => mx_WP (d + 3) 77 55 [some (mx_r (some (0, 7, x0))), some (mx_i x.1)] [] (x.2.1, μ0, ς, (x.2.2.1, x.2.2.2)) Q)) (fun s o hf hk => B77_26 hf hk) n s o hf hk
def f113_1632 (x0 : Nat) (r : mx_Rg) (K : Nat) (Z : Nat) : Option (mx_Rg × Nat × Nat) :=
  some ((rg_R (mx_alr r 81 16) 10 x0 0 (some (0, 81, (r.2.2.2.1 81)))), (K + 1), (Z + 16))
theorem T113_1632 {d : Nat} {x0 : Nat} {μ0 : mx_Rg} {ς : Nat × (Nat → Int32)} {r : mx_Rg} {K : Nat} {Z : Nat} {Q : Option mx_V → mx_Hp → Prop} {o : mx_Rg × Nat × Nat} (hf : f113_1632 x0 r K Z = some o) (hk : Q (none) (o.1, μ0, ς, (o.2.1, o.2.2))) : mx_WP (d + 0) 113 0 (mx_ent 113 [mx_r (some (0, 10, x0)), mx_i (16 : Int32)]) [] (r, μ0, ς, (K, Z)) Q := by
  unfold f113_1632 at hf
  refine mx_WP.go 6 (pc' := 11) (L' := [some (mx_r (some (0, 10, x0))), some (mx_i (16 : Int32))]) (st' := []) (σ' := ((rg_R (mx_alr r 81 16) 10 x0 0 (some (0, 81, (r.2.2.2.1 81)))), μ0, ς, ((K + 1), (Z + 16)))) rfl ?_
  rw [← Option.some.inj hf] at hk
  refine mx_WP.ret (v := none) rfl ?_
  exact hk
def f77 (x0 : Nat) (r : mx_Rg) (K : Nat) (Z : Nat) : Option (mx_Rg × Nat × Nat) :=
  (f41 (r.2.2.2.1 3) (mx_alr r 3 0) (K + 1) (Z + 8)).bind fun u1 =>
  rg_let (rg_R u1.1 7 x0 1 (some (0, 3, (r.2.2.2.1 3)))) fun r2 =>
  (mx_lp (b77_26 x0 (rg_R (mx_alr r2 73 8) 7 x0 0 (some (0, 73, (r2.2.2.2.1 73)))) (u1.2.1 + 1) (u1.2.2 + 8)) mx_fu ((0 : Int32), (rg_R (mx_alr r2 73 8) 7 x0 0 (some (0, 73, (r2.2.2.2.1 73)))), (u1.2.1 + 1), (u1.2.2 + 8))).bind fun u112 =>
  rg_let u112.2.1 fun r114 =>
  (f113_1632 (r114.2.2.2.1 10) (mx_alr r114 10 0) (u112.2.2.1 + 1) (u112.2.2.2 + 3)).bind fun u115 =>
  some ((rg_R u115.1 7 x0 2 (some (0, 10, (r114.2.2.2.1 10)))), u115.2.1, u115.2.2)
theorem T77 {d : Nat} {x0 : Nat} {μ0 : mx_Rg} {ς : Nat × (Nat → Int32)} {r : mx_Rg} {K : Nat} {Z : Nat} {Q : Option mx_V → mx_Hp → Prop} {o : mx_Rg × Nat × Nat} (hf : f77 x0 r K Z = some o) (hk : Q (none) (o.1, μ0, ς, (o.2.1, o.2.2))) : mx_WP (d + 3) 77 0 (mx_ent 77 [mx_r (some (0, 7, x0))]) [] (r, μ0, ς, (K, Z)) Q := by
  unfold f77 at hf
  refine mx_WP.go 5 (pc' := 9) (L' := [some (mx_r (some (0, 7, x0))), none]) (st' := [mx_r (some (0, 3, (r.2.2.2.1 3))), mx_r (some (0, 3, (r.2.2.2.1 3))), mx_r (some (0, 7, x0))]) (σ' := ((mx_alr r 3 0), μ0, ς, ((K + 1), (Z + 8)))) rfl ?_
  obtain ⟨u1, e117, hf⟩ := Option.bind_eq_some_iff.mp hf
  refine mx_WP.call (d := d + 2) (y := 41) (as := [mx_r (some (0, 3, (r.2.2.2.1 3)))]) (pc' := 12) (r := [mx_r (some (0, 3, (r.2.2.2.1 3))), mx_r (some (0, 7, x0))]) rfl rfl (T41 (d := d + 2)  e117 ?_)
  show mx_WP (d + 3) 77 12 [some (mx_r (some (0, 7, x0))), none] [mx_r (some (0, 3, (r.2.2.2.1 3))), mx_r (some (0, 7, x0))] (u1.1, μ0, ς, (u1.2.1, u1.2.2)) Q
  refine mx_WP.go 3 (pc' := 18) (L' := [some (mx_r (some (0, 7, x0))), none]) (st' := [mx_i (8 : Int32), mx_r (some (0, 7, x0))]) (σ' := ((rg_R u1.1 7 x0 1 (some (0, 3, (r.2.2.2.1 3)))), μ0, ς, (u1.2.1, u1.2.2))) rfl ?_
  show mx_WP (d + 3) 77 18 [some (mx_r (some (0, 7, x0))), none] [mx_i (8 : Int32), mx_r (some (0, 7, x0))] ((rg_R u1.1 7 x0 1 (some (0, 3, (r.2.2.2.1 3)))), μ0, ς, (u1.2.1, u1.2.2)) Q
  generalize (rg_R u1.1 7 x0 1 (some (0, 3, (r.2.2.2.1 3)))) = r2 at hf ⊢
  rw [rg_let] at hf
  refine mx_WP.go 4 (pc' := 26) (L' := [some (mx_r (some (0, 7, x0))), some (mx_i (0 : Int32))]) (st' := []) (σ' := ((rg_R (mx_alr r2 73 8) 7 x0 0 (some (0, 73, (r2.2.2.2.1 73)))), μ0, ς, ((u1.2.1 + 1), (u1.2.2 + 8)))) rfl ?_
  obtain ⟨u112, e113, hf⟩ := Option.bind_eq_some_iff.mp hf
  refine L77_26 (d := d) e113 ?_
  show mx_WP (d + 3) 77 55 [some (mx_r (some (0, 7, x0))), some (mx_i u112.1)] [] (u112.2.1, μ0, ς, (u112.2.2.1, u112.2.2.2)) Q
  refine mx_WP.go 1 (pc' := 56) (L' := [some (mx_r (some (0, 7, x0))), some (mx_i u112.1)]) (st' := [mx_r (some (0, 7, x0))]) (σ' := (u112.2.1, μ0, ς, (u112.2.2.1, u112.2.2.2))) rfl ?_
  show mx_WP (d + 3) 77 56 [some (mx_r (some (0, 7, x0))), some (mx_i u112.1)] [mx_r (some (0, 7, x0))] (u112.2.1, μ0, ς, (u112.2.2.1, u112.2.2.2)) Q
  generalize u112.2.1 = r114 at hf ⊢
  rw [rg_let] at hf
  refine mx_WP.go 3 (pc' := 62) (L' := [some (mx_r (some (0, 7, x0))), some (mx_i u112.1)]) (st' := [mx_i (16 : Int32), mx_r (some (0, 10, (r114.2.2.2.1 10))), mx_r (some (0, 10, (r114.2.2.2.1 10))), mx_r (some (0, 7, x0))]) (σ' := ((mx_alr r114 10 0), μ0, ς, ((u112.2.2.1 + 1), (u112.2.2.2 + 3)))) rfl ?_
  obtain ⟨u115, e116, hf⟩ := Option.bind_eq_some_iff.mp hf
  refine mx_WP.call (d := d + 2) (y := 113) (as := [mx_r (some (0, 10, (r114.2.2.2.1 10))), mx_i (16 : Int32)]) (pc' := 65) (r := [mx_r (some (0, 10, (r114.2.2.2.1 10))), mx_r (some (0, 7, x0))]) rfl rfl (T113_1632 (d := d + 2)  e116 ?_)
  show mx_WP (d + 3) 77 65 [some (mx_r (some (0, 7, x0))), some (mx_i u112.1)] [mx_r (some (0, 10, (r114.2.2.2.1 10))), mx_r (some (0, 7, x0))] (u115.1, μ0, ς, (u115.2.1, u115.2.2)) Q
  refine mx_WP.go 1 (pc' := 68) (L' := [some (mx_r (some (0, 7, x0))), some (mx_i u112.1)]) (st' := []) (σ' := ((rg_R u115.1 7 x0 2 (some (0, 10, (r114.2.2.2.1 10)))), μ0, ς, (u115.2.1, u115.2.2))) rfl ?_
  rw [← Option.some.inj hf] at hk
  refine mx_WP.ret (v := none) rfl ?_
  exact hk
def f96 (x0 : Nat) (x1 : Nat) (r : mx_Rg) (K : Nat) (Z : Nat) : Option (mx_Rg × Nat × Nat) :=
  rg_let (rg_R r 8 x0 0 (some (0, 7, x1))) fun r1 =>
  rg_let (rg_R (mx_alr r1 74 128) 8 x0 1 (some (0, 74, (r1.2.2.2.1 74)))) fun r2 =>
  rg_let (rg_R (mx_alr r2 75 128) 8 x0 2 (some (0, 75, (r2.2.2.2.1 75)))) fun r3 =>
  some ((rg_R (mx_alr r3 76 128) 8 x0 3 (some (0, 76, (r3.2.2.2.1 76)))), (((K + 1) + 1) + 1), (((Z + 128) + 128) + 128))
theorem T96 {d : Nat} {x0 : Nat} {x1 : Nat} {μ0 : mx_Rg} {ς : Nat × (Nat → Int32)} {r : mx_Rg} {K : Nat} {Z : Nat} {Q : Option mx_V → mx_Hp → Prop} {o : mx_Rg × Nat × Nat} (hf : f96 x0 x1 r K Z = some o) (hk : Q (none) (o.1, μ0, ς, (o.2.1, o.2.2))) : mx_WP (d + 0) 96 0 (mx_ent 96 [mx_r (some (0, 8, x0)), mx_r (some (0, 7, x1))]) [] (r, μ0, ς, (K, Z)) Q := by
  unfold f96 at hf
  refine mx_WP.go 7 (pc' := 13) (L' := [some (mx_r (some (0, 8, x0))), some (mx_r (some (0, 7, x1)))]) (st' := [mx_i (128 : Int32), mx_r (some (0, 8, x0))]) (σ' := ((rg_R r 8 x0 0 (some (0, 7, x1))), μ0, ς, (K, Z))) rfl ?_
  show mx_WP (d + 0) 96 13 [some (mx_r (some (0, 8, x0))), some (mx_r (some (0, 7, x1)))] [mx_i (128 : Int32), mx_r (some (0, 8, x0))] ((rg_R r 8 x0 0 (some (0, 7, x1))), μ0, ς, (K, Z)) Q
  generalize (rg_R r 8 x0 0 (some (0, 7, x1))) = r1 at hf ⊢
  rw [rg_let] at hf
  refine mx_WP.go 4 (pc' := 22) (L' := [some (mx_r (some (0, 8, x0))), some (mx_r (some (0, 7, x1)))]) (st' := [mx_i (128 : Int32), mx_r (some (0, 8, x0))]) (σ' := ((rg_R (mx_alr r1 74 128) 8 x0 1 (some (0, 74, (r1.2.2.2.1 74)))), μ0, ς, ((K + 1), (Z + 128)))) rfl ?_
  show mx_WP (d + 0) 96 22 [some (mx_r (some (0, 8, x0))), some (mx_r (some (0, 7, x1)))] [mx_i (128 : Int32), mx_r (some (0, 8, x0))] ((rg_R (mx_alr r1 74 128) 8 x0 1 (some (0, 74, (r1.2.2.2.1 74)))), μ0, ς, ((K + 1), (Z + 128))) Q
  generalize (rg_R (mx_alr r1 74 128) 8 x0 1 (some (0, 74, (r1.2.2.2.1 74)))) = r2 at hf ⊢
  rw [rg_let] at hf
  refine mx_WP.go 4 (pc' := 31) (L' := [some (mx_r (some (0, 8, x0))), some (mx_r (some (0, 7, x1)))]) (st' := [mx_i (128 : Int32), mx_r (some (0, 8, x0))]) (σ' := ((rg_R (mx_alr r2 75 128) 8 x0 2 (some (0, 75, (r2.2.2.2.1 75)))), μ0, ς, (((K + 1) + 1), ((Z + 128) + 128)))) rfl ?_
  show mx_WP (d + 0) 96 31 [some (mx_r (some (0, 8, x0))), some (mx_r (some (0, 7, x1)))] [mx_i (128 : Int32), mx_r (some (0, 8, x0))] ((rg_R (mx_alr r2 75 128) 8 x0 2 (some (0, 75, (r2.2.2.2.1 75)))), μ0, ς, (((K + 1) + 1), ((Z + 128) + 128))) Q
  generalize (rg_R (mx_alr r2 75 128) 8 x0 2 (some (0, 75, (r2.2.2.2.1 75)))) = r3 at hf ⊢
  rw [rg_let] at hf
  refine mx_WP.go 2 (pc' := 36) (L' := [some (mx_r (some (0, 8, x0))), some (mx_r (some (0, 7, x1)))]) (st' := []) (σ' := ((rg_R (mx_alr r3 76 128) 8 x0 3 (some (0, 76, (r3.2.2.2.1 76)))), μ0, ς, ((((K + 1) + 1) + 1), (((Z + 128) + 128) + 128)))) rfl ?_
  rw [← Option.some.inj hf] at hk
  refine mx_WP.ret (v := none) rfl ?_
  exact hk
def f109 (x0 : Nat) (r : mx_Rg) (K : Nat) (Z : Nat) : Option (mx_Rg × Nat × Nat) :=
  rg_let (rg_R (mx_alr r 77 24) 9 x0 0 (some (0, 77, (r.2.2.2.1 77)))) fun r1 =>
  rg_let (rg_R (mx_alr r1 78 24) 9 x0 1 (some (0, 78, (r1.2.2.2.1 78)))) fun r2 =>
  rg_let (rg_R (mx_alr r2 79 24) 9 x0 2 (some (0, 79, (r2.2.2.2.1 79)))) fun r3 =>
  some ((rg_R (mx_alr r3 80 24) 9 x0 3 (some (0, 80, (r3.2.2.2.1 80)))), ((((K + 1) + 1) + 1) + 1), ((((Z + 24) + 24) + 24) + 24))
theorem T109 {d : Nat} {x0 : Nat} {μ0 : mx_Rg} {ς : Nat × (Nat → Int32)} {r : mx_Rg} {K : Nat} {Z : Nat} {Q : Option mx_V → mx_Hp → Prop} {o : mx_Rg × Nat × Nat} (hf : f109 x0 r K Z = some o) (hk : Q (none) (o.1, μ0, ς, (o.2.1, o.2.2))) : mx_WP (d + 0) 109 0 (mx_ent 109 [mx_r (some (0, 9, x0))]) [] (r, μ0, ς, (K, Z)) Q := by
  unfold f109 at hf
  refine mx_WP.go 8 (pc' := 15) (L' := [some (mx_r (some (0, 9, x0)))]) (st' := [mx_i (24 : Int32), mx_r (some (0, 9, x0))]) (σ' := ((rg_R (mx_alr r 77 24) 9 x0 0 (some (0, 77, (r.2.2.2.1 77)))), μ0, ς, ((K + 1), (Z + 24)))) rfl ?_
  show mx_WP (d + 0) 109 15 [some (mx_r (some (0, 9, x0)))] [mx_i (24 : Int32), mx_r (some (0, 9, x0))] ((rg_R (mx_alr r 77 24) 9 x0 0 (some (0, 77, (r.2.2.2.1 77)))), μ0, ς, ((K + 1), (Z + 24))) Q
  generalize (rg_R (mx_alr r 77 24) 9 x0 0 (some (0, 77, (r.2.2.2.1 77)))) = r1 at hf ⊢
  rw [rg_let] at hf
  refine mx_WP.go 4 (pc' := 23) (L' := [some (mx_r (some (0, 9, x0)))]) (st' := [mx_i (24 : Int32), mx_r (some (0, 9, x0))]) (σ' := ((rg_R (mx_alr r1 78 24) 9 x0 1 (some (0, 78, (r1.2.2.2.1 78)))), μ0, ς, (((K + 1) + 1), ((Z + 24) + 24)))) rfl ?_
  show mx_WP (d + 0) 109 23 [some (mx_r (some (0, 9, x0)))] [mx_i (24 : Int32), mx_r (some (0, 9, x0))] ((rg_R (mx_alr r1 78 24) 9 x0 1 (some (0, 78, (r1.2.2.2.1 78)))), μ0, ς, (((K + 1) + 1), ((Z + 24) + 24))) Q
  generalize (rg_R (mx_alr r1 78 24) 9 x0 1 (some (0, 78, (r1.2.2.2.1 78)))) = r2 at hf ⊢
  rw [rg_let] at hf
  refine mx_WP.go 4 (pc' := 31) (L' := [some (mx_r (some (0, 9, x0)))]) (st' := [mx_i (24 : Int32), mx_r (some (0, 9, x0))]) (σ' := ((rg_R (mx_alr r2 79 24) 9 x0 2 (some (0, 79, (r2.2.2.2.1 79)))), μ0, ς, ((((K + 1) + 1) + 1), (((Z + 24) + 24) + 24)))) rfl ?_
  show mx_WP (d + 0) 109 31 [some (mx_r (some (0, 9, x0)))] [mx_i (24 : Int32), mx_r (some (0, 9, x0))] ((rg_R (mx_alr r2 79 24) 9 x0 2 (some (0, 79, (r2.2.2.2.1 79)))), μ0, ς, ((((K + 1) + 1) + 1), (((Z + 24) + 24) + 24))) Q
  generalize (rg_R (mx_alr r2 79 24) 9 x0 2 (some (0, 79, (r2.2.2.2.1 79)))) = r3 at hf ⊢
  rw [rg_let] at hf
  refine mx_WP.go 2 (pc' := 36) (L' := [some (mx_r (some (0, 9, x0)))]) (st' := []) (σ' := ((rg_R (mx_alr r3 80 24) 9 x0 3 (some (0, 80, (r3.2.2.2.1 80)))), μ0, ς, (((((K + 1) + 1) + 1) + 1), ((((Z + 24) + 24) + 24) + 24)))) rfl ?_
  rw [← Option.some.inj hf] at hk
  refine mx_WP.ret (v := none) rfl ?_
  exact hk
def f113_3232 (x0 : Nat) (r : mx_Rg) (K : Nat) (Z : Nat) : Option (mx_Rg × Nat × Nat) :=
  some ((rg_R (mx_alr r 81 32) 10 x0 0 (some (0, 81, (r.2.2.2.1 81)))), (K + 1), (Z + 32))
theorem T113_3232 {d : Nat} {x0 : Nat} {μ0 : mx_Rg} {ς : Nat × (Nat → Int32)} {r : mx_Rg} {K : Nat} {Z : Nat} {Q : Option mx_V → mx_Hp → Prop} {o : mx_Rg × Nat × Nat} (hf : f113_3232 x0 r K Z = some o) (hk : Q (none) (o.1, μ0, ς, (o.2.1, o.2.2))) : mx_WP (d + 0) 113 0 (mx_ent 113 [mx_r (some (0, 10, x0)), mx_i (32 : Int32)]) [] (r, μ0, ς, (K, Z)) Q := by
  unfold f113_3232 at hf
  refine mx_WP.go 6 (pc' := 11) (L' := [some (mx_r (some (0, 10, x0))), some (mx_i (32 : Int32))]) (st' := []) (σ' := ((rg_R (mx_alr r 81 32) 10 x0 0 (some (0, 81, (r.2.2.2.1 81)))), μ0, ς, ((K + 1), (Z + 32)))) rfl ?_
  rw [← Option.some.inj hf] at hk
  refine mx_WP.ret (v := none) rfl ?_
  exact hk
def f0 (x0 : Nat) (r : mx_Rg) (K : Nat) (Z : Nat) : Option (mx_Rg × Nat × Nat) :=
  (f29 (r.2.2.2.1 1) (mx_alr r 1 0) (K + 1) (Z + 3)).bind fun u1 =>
  rg_let (rg_R u1.1 0 x0 0 (some (0, 1, (r.2.2.2.1 1)))) fun r2 =>
  (f77 (r2.2.2.2.1 7) (mx_alr r2 7 0) (u1.2.1 + 1) (u1.2.2 + 3)).bind fun u3 =>
  rg_let (rg_R u3.1 0 x0 1 (some (0, 7, (r2.2.2.2.1 7)))) fun r4 =>
  (oget ((mx_alr r4 8 0).2.2.1 0 x0 1) 7).bind fun j5 =>
  (f96 (r4.2.2.2.1 8) j5 (mx_alr r4 8 0) (u3.2.1 + 1) (u3.2.2 + 4)).bind fun u7 =>
  rg_let (rg_R u7.1 0 x0 2 (some (0, 8, (r4.2.2.2.1 8)))) fun r8 =>
  (f109 (r8.2.2.2.1 9) (mx_alr r8 9 0) (u7.2.1 + 1) (u7.2.2 + 5)).bind fun u9 =>
  rg_let (rg_R u9.1 0 x0 3 (some (0, 9, (r8.2.2.2.1 9)))) fun r10 =>
  (f113_3232 (r10.2.2.2.1 10) (mx_alr r10 10 0) (u9.2.1 + 1) (u9.2.2 + 3)).bind fun u11 =>
  some ((rg_R u11.1 0 x0 4 (some (0, 10, (r10.2.2.2.1 10)))), u11.2.1, u11.2.2)
theorem T0 {d : Nat} {x0 : Nat} {μ0 : mx_Rg} {ς : Nat × (Nat → Int32)} {r : mx_Rg} {K : Nat} {Z : Nat} {Q : Option mx_V → mx_Hp → Prop} {o : mx_Rg × Nat × Nat} (hf : f0 x0 r K Z = some o) (hk : Q (none) (o.1, μ0, ς, (o.2.1, o.2.2))) : mx_WP (d + 4) 0 0 (mx_ent 0 [mx_r (some (0, 0, x0))]) [] (r, μ0, ς, (K, Z)) Q := by
  unfold f0 at hf
  refine mx_WP.go 5 (pc' := 9) (L' := [some (mx_r (some (0, 0, x0)))]) (st' := [mx_r (some (0, 1, (r.2.2.2.1 1))), mx_r (some (0, 1, (r.2.2.2.1 1))), mx_r (some (0, 0, x0))]) (σ' := ((mx_alr r 1 0), μ0, ς, ((K + 1), (Z + 3)))) rfl ?_
  obtain ⟨u1, e16, hf⟩ := Option.bind_eq_some_iff.mp hf
  refine mx_WP.call (d := d + 3) (y := 29) (as := [mx_r (some (0, 1, (r.2.2.2.1 1)))]) (pc' := 12) (r := [mx_r (some (0, 1, (r.2.2.2.1 1))), mx_r (some (0, 0, x0))]) rfl rfl (T29 (d := d + 2)  e16 ?_)
  show mx_WP (d + 4) 0 12 [some (mx_r (some (0, 0, x0)))] [mx_r (some (0, 1, (r.2.2.2.1 1))), mx_r (some (0, 0, x0))] (u1.1, μ0, ς, (u1.2.1, u1.2.2)) Q
  refine mx_WP.go 2 (pc' := 16) (L' := [some (mx_r (some (0, 0, x0)))]) (st' := [mx_r (some (0, 0, x0))]) (σ' := ((rg_R u1.1 0 x0 0 (some (0, 1, (r.2.2.2.1 1)))), μ0, ς, (u1.2.1, u1.2.2))) rfl ?_
  show mx_WP (d + 4) 0 16 [some (mx_r (some (0, 0, x0)))] [mx_r (some (0, 0, x0))] ((rg_R u1.1 0 x0 0 (some (0, 1, (r.2.2.2.1 1)))), μ0, ς, (u1.2.1, u1.2.2)) Q
  generalize (rg_R u1.1 0 x0 0 (some (0, 1, (r.2.2.2.1 1)))) = r2 at hf ⊢
  rw [rg_let] at hf
  refine mx_WP.go 2 (pc' := 20) (L' := [some (mx_r (some (0, 0, x0)))]) (st' := [mx_r (some (0, 7, (r2.2.2.2.1 7))), mx_r (some (0, 7, (r2.2.2.2.1 7))), mx_r (some (0, 0, x0))]) (σ' := ((mx_alr r2 7 0), μ0, ς, ((u1.2.1 + 1), (u1.2.2 + 3)))) rfl ?_
  obtain ⟨u3, e15, hf⟩ := Option.bind_eq_some_iff.mp hf
  refine mx_WP.call (d := d + 3) (y := 77) (as := [mx_r (some (0, 7, (r2.2.2.2.1 7)))]) (pc' := 23) (r := [mx_r (some (0, 7, (r2.2.2.2.1 7))), mx_r (some (0, 0, x0))]) rfl rfl (T77 (d := d + 0)  e15 ?_)
  show mx_WP (d + 4) 0 23 [some (mx_r (some (0, 0, x0)))] [mx_r (some (0, 7, (r2.2.2.2.1 7))), mx_r (some (0, 0, x0))] (u3.1, μ0, ς, (u3.2.1, u3.2.2)) Q
  refine mx_WP.go 2 (pc' := 27) (L' := [some (mx_r (some (0, 0, x0)))]) (st' := [mx_r (some (0, 0, x0))]) (σ' := ((rg_R u3.1 0 x0 1 (some (0, 7, (r2.2.2.2.1 7)))), μ0, ς, (u3.2.1, u3.2.2))) rfl ?_
  show mx_WP (d + 4) 0 27 [some (mx_r (some (0, 0, x0)))] [mx_r (some (0, 0, x0))] ((rg_R u3.1 0 x0 1 (some (0, 7, (r2.2.2.2.1 7)))), μ0, ς, (u3.2.1, u3.2.2)) Q
  generalize (rg_R u3.1 0 x0 1 (some (0, 7, (r2.2.2.2.1 7)))) = r4 at hf ⊢
  rw [rg_let] at hf
  refine mx_WP.go 3 (pc' := 32) (L' := [some (mx_r (some (0, 0, x0)))]) (st' := [mx_r (some (0, 0, x0)), mx_r (some (0, 8, (r4.2.2.2.1 8))), mx_r (some (0, 8, (r4.2.2.2.1 8))), mx_r (some (0, 0, x0))]) (σ' := ((mx_alr r4 8 0), μ0, ς, ((u3.2.1 + 1), (u3.2.2 + 4)))) rfl ?_
  obtain ⟨j5, e6, hf⟩ := Option.bind_eq_some_iff.mp hf
  refine mx_WP.gr (o := (mx_alr r4 8 0).2.2.1 0 x0 1) (pc' := 35) rfl (oget_ok e6) ?_
  show mx_WP (d + 4) 0 35 [some (mx_r (some (0, 0, x0)))] [mx_r (some (0, 7, j5)), mx_r (some (0, 8, (r4.2.2.2.1 8))), mx_r (some (0, 8, (r4.2.2.2.1 8))), mx_r (some (0, 0, x0))] ((mx_alr r4 8 0), μ0, ς, ((u3.2.1 + 1), (u3.2.2 + 4))) Q
  obtain ⟨u7, e14, hf⟩ := Option.bind_eq_some_iff.mp hf
  refine mx_WP.call (d := d + 3) (y := 96) (as := [mx_r (some (0, 8, (r4.2.2.2.1 8))), mx_r (some (0, 7, j5))]) (pc' := 38) (r := [mx_r (some (0, 8, (r4.2.2.2.1 8))), mx_r (some (0, 0, x0))]) rfl rfl (T96 (d := d + 3)  e14 ?_)
  show mx_WP (d + 4) 0 38 [some (mx_r (some (0, 0, x0)))] [mx_r (some (0, 8, (r4.2.2.2.1 8))), mx_r (some (0, 0, x0))] (u7.1, μ0, ς, (u7.2.1, u7.2.2)) Q
  refine mx_WP.go 2 (pc' := 42) (L' := [some (mx_r (some (0, 0, x0)))]) (st' := [mx_r (some (0, 0, x0))]) (σ' := ((rg_R u7.1 0 x0 2 (some (0, 8, (r4.2.2.2.1 8)))), μ0, ς, (u7.2.1, u7.2.2))) rfl ?_
  show mx_WP (d + 4) 0 42 [some (mx_r (some (0, 0, x0)))] [mx_r (some (0, 0, x0))] ((rg_R u7.1 0 x0 2 (some (0, 8, (r4.2.2.2.1 8)))), μ0, ς, (u7.2.1, u7.2.2)) Q
  generalize (rg_R u7.1 0 x0 2 (some (0, 8, (r4.2.2.2.1 8)))) = r8 at hf ⊢
  rw [rg_let] at hf
  refine mx_WP.go 2 (pc' := 46) (L' := [some (mx_r (some (0, 0, x0)))]) (st' := [mx_r (some (0, 9, (r8.2.2.2.1 9))), mx_r (some (0, 9, (r8.2.2.2.1 9))), mx_r (some (0, 0, x0))]) (σ' := ((mx_alr r8 9 0), μ0, ς, ((u7.2.1 + 1), (u7.2.2 + 5)))) rfl ?_
  obtain ⟨u9, e13, hf⟩ := Option.bind_eq_some_iff.mp hf
  refine mx_WP.call (d := d + 3) (y := 109) (as := [mx_r (some (0, 9, (r8.2.2.2.1 9)))]) (pc' := 49) (r := [mx_r (some (0, 9, (r8.2.2.2.1 9))), mx_r (some (0, 0, x0))]) rfl rfl (T109 (d := d + 3)  e13 ?_)
  show mx_WP (d + 4) 0 49 [some (mx_r (some (0, 0, x0)))] [mx_r (some (0, 9, (r8.2.2.2.1 9))), mx_r (some (0, 0, x0))] (u9.1, μ0, ς, (u9.2.1, u9.2.2)) Q
  refine mx_WP.go 2 (pc' := 53) (L' := [some (mx_r (some (0, 0, x0)))]) (st' := [mx_r (some (0, 0, x0))]) (σ' := ((rg_R u9.1 0 x0 3 (some (0, 9, (r8.2.2.2.1 9)))), μ0, ς, (u9.2.1, u9.2.2))) rfl ?_
  show mx_WP (d + 4) 0 53 [some (mx_r (some (0, 0, x0)))] [mx_r (some (0, 0, x0))] ((rg_R u9.1 0 x0 3 (some (0, 9, (r8.2.2.2.1 9)))), μ0, ς, (u9.2.1, u9.2.2)) Q
  generalize (rg_R u9.1 0 x0 3 (some (0, 9, (r8.2.2.2.1 9)))) = r10 at hf ⊢
  rw [rg_let] at hf
  refine mx_WP.go 3 (pc' := 59) (L' := [some (mx_r (some (0, 0, x0)))]) (st' := [mx_i (32 : Int32), mx_r (some (0, 10, (r10.2.2.2.1 10))), mx_r (some (0, 10, (r10.2.2.2.1 10))), mx_r (some (0, 0, x0))]) (σ' := ((mx_alr r10 10 0), μ0, ς, ((u9.2.1 + 1), (u9.2.2 + 3)))) rfl ?_
  obtain ⟨u11, e12, hf⟩ := Option.bind_eq_some_iff.mp hf
  refine mx_WP.call (d := d + 3) (y := 113) (as := [mx_r (some (0, 10, (r10.2.2.2.1 10))), mx_i (32 : Int32)]) (pc' := 62) (r := [mx_r (some (0, 10, (r10.2.2.2.1 10))), mx_r (some (0, 0, x0))]) rfl rfl (T113_3232 (d := d + 3)  e12 ?_)
  show mx_WP (d + 4) 0 62 [some (mx_r (some (0, 0, x0)))] [mx_r (some (0, 10, (r10.2.2.2.1 10))), mx_r (some (0, 0, x0))] (u11.1, μ0, ς, (u11.2.1, u11.2.2)) Q
  refine mx_WP.go 1 (pc' := 65) (L' := [some (mx_r (some (0, 0, x0)))]) (st' := []) (σ' := ((rg_R u11.1 0 x0 4 (some (0, 10, (r10.2.2.2.1 10)))), μ0, ς, (u11.2.1, u11.2.2))) rfl ?_
  rw [← Option.some.inj hf] at hk
  refine mx_WP.ret (v := none) rfl ?_
  exact hk
def f116 (x0 : Nat) (r : mx_Rg) (K : Nat) (Z : Nat) : Option (mx_Rg × Nat × Nat) :=
  rg_let (rg_R (mx_alr r 82 200) 11 x0 0 (some (1, 82, (r.2.2.2.1 82)))) fun r1 =>
  rg_let (rg_R (mx_alr r1 83 9) 11 x0 1 (some (1, 83, (r1.2.2.2.1 83)))) fun r2 =>
  rg_let (rg_R (mx_alr r2 84 27) 11 x0 2 (some (1, 84, (r2.2.2.2.1 84)))) fun r3 =>
  rg_let (rg_R (mx_alr r3 85 27) 11 x0 3 (some (1, 85, (r3.2.2.2.1 85)))) fun r4 =>
  rg_let (rg_R (mx_alr r4 86 27) 11 x0 4 (some (1, 86, (r4.2.2.2.1 86)))) fun r5 =>
  rg_let (rg_R (mx_alr r5 87 9) 11 x0 5 (some (1, 87, (r5.2.2.2.1 87)))) fun r6 =>
  rg_let (rg_R (mx_alr r6 88 36) 11 x0 6 (some (1, 88, (r6.2.2.2.1 88)))) fun r7 =>
  rg_let (rg_R (mx_alr r7 89 9) 11 x0 7 (some (1, 89, (r7.2.2.2.1 89)))) fun r8 =>
  rg_let (rg_R (mx_alr r8 90 36) 11 x0 8 (some (1, 90, (r8.2.2.2.1 90)))) fun r9 =>
  rg_let (rg_R (mx_alr r9 91 9) 11 x0 9 (some (1, 91, (r9.2.2.2.1 91)))) fun r10 =>
  rg_let (rg_R (mx_alr r10 92 8) 11 x0 15 (some (1, 92, (r10.2.2.2.1 92)))) fun r11 =>
  rg_let (rg_R (mx_alr r11 93 8) 11 x0 16 (some (1, 93, (r11.2.2.2.1 93)))) fun r12 =>
  rg_let (rg_R (mx_alr r12 94 8) 11 x0 17 (some (1, 94, (r12.2.2.2.1 94)))) fun r13 =>
  rg_let (rg_R (mx_alr r13 95 8) 11 x0 18 (some (1, 95, (r13.2.2.2.1 95)))) fun r14 =>
  rg_let (rg_R (mx_alr r14 96 8) 11 x0 19 (some (1, 96, (r14.2.2.2.1 96)))) fun r15 =>
  rg_let (rg_R (mx_alr r15 97 8) 11 x0 20 (some (1, 97, (r15.2.2.2.1 97)))) fun r16 =>
  rg_let (rg_R (mx_alr r16 98 8) 11 x0 21 (some (1, 98, (r16.2.2.2.1 98)))) fun r17 =>
  rg_let (rg_R (mx_alr r17 99 8) 11 x0 22 (some (1, 99, (r17.2.2.2.1 99)))) fun r18 =>
  rg_let (rg_R (mx_alr r18 100 8) 11 x0 23 (some (1, 100, (r18.2.2.2.1 100)))) fun r19 =>
  rg_let (rg_R (mx_alr r19 101 8) 11 x0 24 (some (1, 101, (r19.2.2.2.1 101)))) fun r20 =>
  rg_let (rg_R (mx_alr r20 102 128) 11 x0 25 (some (1, 102, (r20.2.2.2.1 102)))) fun r21 =>
  rg_let (rg_R (mx_alr r21 103 512) 11 x0 26 (some (1, 103, (r21.2.2.2.1 103)))) fun r22 =>
  rg_let (rg_R (mx_alr r22 104 512) 11 x0 27 (some (1, 104, (r22.2.2.2.1 104)))) fun r23 =>
  rg_let (rg_R (mx_alr r23 105 128) 11 x0 28 (some (1, 105, (r23.2.2.2.1 105)))) fun r24 =>
  rg_let (rg_R (mx_alr r24 106 128) 11 x0 29 (some (1, 106, (r24.2.2.2.1 106)))) fun r25 =>
  rg_let (rg_R (mx_alr r25 107 128) 11 x0 30 (some (1, 107, (r25.2.2.2.1 107)))) fun r26 =>
  rg_let (rg_R (mx_alr r26 108 128) 11 x0 31 (some (1, 108, (r26.2.2.2.1 108)))) fun r27 =>
  rg_let (rg_R (mx_alr r27 109 128) 11 x0 32 (some (1, 109, (r27.2.2.2.1 109)))) fun r28 =>
  rg_let (rg_R (mx_alr r28 110 24) 11 x0 33 (some (1, 110, (r28.2.2.2.1 110)))) fun r29 =>
  rg_let (rg_R (mx_alr r29 111 24) 11 x0 34 (some (1, 111, (r29.2.2.2.1 111)))) fun r30 =>
  rg_let (rg_R (mx_alr r30 112 24) 11 x0 35 (some (1, 112, (r30.2.2.2.1 112)))) fun r31 =>
  rg_let (rg_R (mx_alr r31 113 32) 11 x0 36 (some (1, 113, (r31.2.2.2.1 113)))) fun r32 =>
  rg_let (rg_R (mx_alr r32 114 16) 11 x0 37 (some (1, 114, (r32.2.2.2.1 114)))) fun r33 =>
  some ((rg_R (mx_alr r33 115 24) 11 x0 38 (some (1, 115, (r33.2.2.2.1 115)))), ((((((((((((((((((((((((((((((((((K + 1) + 1) + 1) + 1) + 1) + 1) + 1) + 1) + 1) + 1) + 1) + 1) + 1) + 1) + 1) + 1) + 1) + 1) + 1) + 1) + 1) + 1) + 1) + 1) + 1) + 1) + 1) + 1) + 1) + 1) + 1) + 1) + 1) + 1), ((((((((((((((((((((((((((((((((((Z + 200) + 9) + 27) + 27) + 27) + 9) + 36) + 9) + 36) + 9) + 8) + 8) + 8) + 8) + 8) + 8) + 8) + 8) + 8) + 8) + 128) + 512) + 512) + 128) + 128) + 128) + 128) + 128) + 24) + 24) + 24) + 32) + 16) + 24))
theorem T116 {d : Nat} {x0 : Nat} {γ : mx_Rg} {ς : Nat × (Nat → Int32)} {r : mx_Rg} {K : Nat} {Z : Nat} {Q : Option mx_V → mx_Hp → Prop} {o : mx_Rg × Nat × Nat} (hf : f116 x0 r K Z = some o) (hk : Q (none) (γ, o.1, ς, (o.2.1, o.2.2))) : mx_WP (d + 0) 116 0 (mx_ent 116 [mx_r (some (1, 11, x0))]) [] (γ, r, ς, (K, Z)) Q := by
  unfold f116 at hf
  refine mx_WP.go 8 (pc' := 16) (L' := [some (mx_r (some (1, 11, x0)))]) (st' := [mx_i (9 : Int32), mx_r (some (1, 11, x0))]) (σ' := (γ, (rg_R (mx_alr r 82 200) 11 x0 0 (some (1, 82, (r.2.2.2.1 82)))), ς, ((K + 1), (Z + 200)))) rfl ?_
  show mx_WP (d + 0) 116 16 [some (mx_r (some (1, 11, x0)))] [mx_i (9 : Int32), mx_r (some (1, 11, x0))] (γ, (rg_R (mx_alr r 82 200) 11 x0 0 (some (1, 82, (r.2.2.2.1 82)))), ς, ((K + 1), (Z + 200))) Q
  generalize (rg_R (mx_alr r 82 200) 11 x0 0 (some (1, 82, (r.2.2.2.1 82)))) = r1 at hf ⊢
  rw [rg_let] at hf
  refine mx_WP.go 4 (pc' := 24) (L' := [some (mx_r (some (1, 11, x0)))]) (st' := [mx_i (27 : Int32), mx_r (some (1, 11, x0))]) (σ' := (γ, (rg_R (mx_alr r1 83 9) 11 x0 1 (some (1, 83, (r1.2.2.2.1 83)))), ς, (((K + 1) + 1), ((Z + 200) + 9)))) rfl ?_
  show mx_WP (d + 0) 116 24 [some (mx_r (some (1, 11, x0)))] [mx_i (27 : Int32), mx_r (some (1, 11, x0))] (γ, (rg_R (mx_alr r1 83 9) 11 x0 1 (some (1, 83, (r1.2.2.2.1 83)))), ς, (((K + 1) + 1), ((Z + 200) + 9))) Q
  generalize (rg_R (mx_alr r1 83 9) 11 x0 1 (some (1, 83, (r1.2.2.2.1 83)))) = r2 at hf ⊢
  rw [rg_let] at hf
  refine mx_WP.go 4 (pc' := 32) (L' := [some (mx_r (some (1, 11, x0)))]) (st' := [mx_i (27 : Int32), mx_r (some (1, 11, x0))]) (σ' := (γ, (rg_R (mx_alr r2 84 27) 11 x0 2 (some (1, 84, (r2.2.2.2.1 84)))), ς, ((((K + 1) + 1) + 1), (((Z + 200) + 9) + 27)))) rfl ?_
  show mx_WP (d + 0) 116 32 [some (mx_r (some (1, 11, x0)))] [mx_i (27 : Int32), mx_r (some (1, 11, x0))] (γ, (rg_R (mx_alr r2 84 27) 11 x0 2 (some (1, 84, (r2.2.2.2.1 84)))), ς, ((((K + 1) + 1) + 1), (((Z + 200) + 9) + 27))) Q
  generalize (rg_R (mx_alr r2 84 27) 11 x0 2 (some (1, 84, (r2.2.2.2.1 84)))) = r3 at hf ⊢
  rw [rg_let] at hf
  refine mx_WP.go 4 (pc' := 40) (L' := [some (mx_r (some (1, 11, x0)))]) (st' := [mx_i (27 : Int32), mx_r (some (1, 11, x0))]) (σ' := (γ, (rg_R (mx_alr r3 85 27) 11 x0 3 (some (1, 85, (r3.2.2.2.1 85)))), ς, (((((K + 1) + 1) + 1) + 1), ((((Z + 200) + 9) + 27) + 27)))) rfl ?_
  show mx_WP (d + 0) 116 40 [some (mx_r (some (1, 11, x0)))] [mx_i (27 : Int32), mx_r (some (1, 11, x0))] (γ, (rg_R (mx_alr r3 85 27) 11 x0 3 (some (1, 85, (r3.2.2.2.1 85)))), ς, (((((K + 1) + 1) + 1) + 1), ((((Z + 200) + 9) + 27) + 27))) Q
  generalize (rg_R (mx_alr r3 85 27) 11 x0 3 (some (1, 85, (r3.2.2.2.1 85)))) = r4 at hf ⊢
  rw [rg_let] at hf
  refine mx_WP.go 4 (pc' := 48) (L' := [some (mx_r (some (1, 11, x0)))]) (st' := [mx_i (9 : Int32), mx_r (some (1, 11, x0))]) (σ' := (γ, (rg_R (mx_alr r4 86 27) 11 x0 4 (some (1, 86, (r4.2.2.2.1 86)))), ς, ((((((K + 1) + 1) + 1) + 1) + 1), (((((Z + 200) + 9) + 27) + 27) + 27)))) rfl ?_
  show mx_WP (d + 0) 116 48 [some (mx_r (some (1, 11, x0)))] [mx_i (9 : Int32), mx_r (some (1, 11, x0))] (γ, (rg_R (mx_alr r4 86 27) 11 x0 4 (some (1, 86, (r4.2.2.2.1 86)))), ς, ((((((K + 1) + 1) + 1) + 1) + 1), (((((Z + 200) + 9) + 27) + 27) + 27))) Q
  generalize (rg_R (mx_alr r4 86 27) 11 x0 4 (some (1, 86, (r4.2.2.2.1 86)))) = r5 at hf ⊢
  rw [rg_let] at hf
  refine mx_WP.go 4 (pc' := 56) (L' := [some (mx_r (some (1, 11, x0)))]) (st' := [mx_i (36 : Int32), mx_r (some (1, 11, x0))]) (σ' := (γ, (rg_R (mx_alr r5 87 9) 11 x0 5 (some (1, 87, (r5.2.2.2.1 87)))), ς, (((((((K + 1) + 1) + 1) + 1) + 1) + 1), ((((((Z + 200) + 9) + 27) + 27) + 27) + 9)))) rfl ?_
  show mx_WP (d + 0) 116 56 [some (mx_r (some (1, 11, x0)))] [mx_i (36 : Int32), mx_r (some (1, 11, x0))] (γ, (rg_R (mx_alr r5 87 9) 11 x0 5 (some (1, 87, (r5.2.2.2.1 87)))), ς, (((((((K + 1) + 1) + 1) + 1) + 1) + 1), ((((((Z + 200) + 9) + 27) + 27) + 27) + 9))) Q
  generalize (rg_R (mx_alr r5 87 9) 11 x0 5 (some (1, 87, (r5.2.2.2.1 87)))) = r6 at hf ⊢
  rw [rg_let] at hf
  refine mx_WP.go 4 (pc' := 64) (L' := [some (mx_r (some (1, 11, x0)))]) (st' := [mx_i (9 : Int32), mx_r (some (1, 11, x0))]) (σ' := (γ, (rg_R (mx_alr r6 88 36) 11 x0 6 (some (1, 88, (r6.2.2.2.1 88)))), ς, ((((((((K + 1) + 1) + 1) + 1) + 1) + 1) + 1), (((((((Z + 200) + 9) + 27) + 27) + 27) + 9) + 36)))) rfl ?_
  show mx_WP (d + 0) 116 64 [some (mx_r (some (1, 11, x0)))] [mx_i (9 : Int32), mx_r (some (1, 11, x0))] (γ, (rg_R (mx_alr r6 88 36) 11 x0 6 (some (1, 88, (r6.2.2.2.1 88)))), ς, ((((((((K + 1) + 1) + 1) + 1) + 1) + 1) + 1), (((((((Z + 200) + 9) + 27) + 27) + 27) + 9) + 36))) Q
  generalize (rg_R (mx_alr r6 88 36) 11 x0 6 (some (1, 88, (r6.2.2.2.1 88)))) = r7 at hf ⊢
  rw [rg_let] at hf
  refine mx_WP.go 4 (pc' := 72) (L' := [some (mx_r (some (1, 11, x0)))]) (st' := [mx_i (36 : Int32), mx_r (some (1, 11, x0))]) (σ' := (γ, (rg_R (mx_alr r7 89 9) 11 x0 7 (some (1, 89, (r7.2.2.2.1 89)))), ς, (((((((((K + 1) + 1) + 1) + 1) + 1) + 1) + 1) + 1), ((((((((Z + 200) + 9) + 27) + 27) + 27) + 9) + 36) + 9)))) rfl ?_
  show mx_WP (d + 0) 116 72 [some (mx_r (some (1, 11, x0)))] [mx_i (36 : Int32), mx_r (some (1, 11, x0))] (γ, (rg_R (mx_alr r7 89 9) 11 x0 7 (some (1, 89, (r7.2.2.2.1 89)))), ς, (((((((((K + 1) + 1) + 1) + 1) + 1) + 1) + 1) + 1), ((((((((Z + 200) + 9) + 27) + 27) + 27) + 9) + 36) + 9))) Q
  generalize (rg_R (mx_alr r7 89 9) 11 x0 7 (some (1, 89, (r7.2.2.2.1 89)))) = r8 at hf ⊢
  rw [rg_let] at hf
  refine mx_WP.go 4 (pc' := 80) (L' := [some (mx_r (some (1, 11, x0)))]) (st' := [mx_i (9 : Int32), mx_r (some (1, 11, x0))]) (σ' := (γ, (rg_R (mx_alr r8 90 36) 11 x0 8 (some (1, 90, (r8.2.2.2.1 90)))), ς, ((((((((((K + 1) + 1) + 1) + 1) + 1) + 1) + 1) + 1) + 1), (((((((((Z + 200) + 9) + 27) + 27) + 27) + 9) + 36) + 9) + 36)))) rfl ?_
  show mx_WP (d + 0) 116 80 [some (mx_r (some (1, 11, x0)))] [mx_i (9 : Int32), mx_r (some (1, 11, x0))] (γ, (rg_R (mx_alr r8 90 36) 11 x0 8 (some (1, 90, (r8.2.2.2.1 90)))), ς, ((((((((((K + 1) + 1) + 1) + 1) + 1) + 1) + 1) + 1) + 1), (((((((((Z + 200) + 9) + 27) + 27) + 27) + 9) + 36) + 9) + 36))) Q
  generalize (rg_R (mx_alr r8 90 36) 11 x0 8 (some (1, 90, (r8.2.2.2.1 90)))) = r9 at hf ⊢
  rw [rg_let] at hf
  refine mx_WP.go 4 (pc' := 88) (L' := [some (mx_r (some (1, 11, x0)))]) (st' := [mx_i (8 : Int32), mx_r (some (1, 11, x0))]) (σ' := (γ, (rg_R (mx_alr r9 91 9) 11 x0 9 (some (1, 91, (r9.2.2.2.1 91)))), ς, (((((((((((K + 1) + 1) + 1) + 1) + 1) + 1) + 1) + 1) + 1) + 1), ((((((((((Z + 200) + 9) + 27) + 27) + 27) + 9) + 36) + 9) + 36) + 9)))) rfl ?_
  show mx_WP (d + 0) 116 88 [some (mx_r (some (1, 11, x0)))] [mx_i (8 : Int32), mx_r (some (1, 11, x0))] (γ, (rg_R (mx_alr r9 91 9) 11 x0 9 (some (1, 91, (r9.2.2.2.1 91)))), ς, (((((((((((K + 1) + 1) + 1) + 1) + 1) + 1) + 1) + 1) + 1) + 1), ((((((((((Z + 200) + 9) + 27) + 27) + 27) + 9) + 36) + 9) + 36) + 9))) Q
  generalize (rg_R (mx_alr r9 91 9) 11 x0 9 (some (1, 91, (r9.2.2.2.1 91)))) = r10 at hf ⊢
  rw [rg_let] at hf
  refine mx_WP.go 4 (pc' := 96) (L' := [some (mx_r (some (1, 11, x0)))]) (st' := [mx_i (8 : Int32), mx_r (some (1, 11, x0))]) (σ' := (γ, (rg_R (mx_alr r10 92 8) 11 x0 15 (some (1, 92, (r10.2.2.2.1 92)))), ς, ((((((((((((K + 1) + 1) + 1) + 1) + 1) + 1) + 1) + 1) + 1) + 1) + 1), (((((((((((Z + 200) + 9) + 27) + 27) + 27) + 9) + 36) + 9) + 36) + 9) + 8)))) rfl ?_
  show mx_WP (d + 0) 116 96 [some (mx_r (some (1, 11, x0)))] [mx_i (8 : Int32), mx_r (some (1, 11, x0))] (γ, (rg_R (mx_alr r10 92 8) 11 x0 15 (some (1, 92, (r10.2.2.2.1 92)))), ς, ((((((((((((K + 1) + 1) + 1) + 1) + 1) + 1) + 1) + 1) + 1) + 1) + 1), (((((((((((Z + 200) + 9) + 27) + 27) + 27) + 9) + 36) + 9) + 36) + 9) + 8))) Q
  generalize (rg_R (mx_alr r10 92 8) 11 x0 15 (some (1, 92, (r10.2.2.2.1 92)))) = r11 at hf ⊢
  rw [rg_let] at hf
  refine mx_WP.go 4 (pc' := 104) (L' := [some (mx_r (some (1, 11, x0)))]) (st' := [mx_i (8 : Int32), mx_r (some (1, 11, x0))]) (σ' := (γ, (rg_R (mx_alr r11 93 8) 11 x0 16 (some (1, 93, (r11.2.2.2.1 93)))), ς, (((((((((((((K + 1) + 1) + 1) + 1) + 1) + 1) + 1) + 1) + 1) + 1) + 1) + 1), ((((((((((((Z + 200) + 9) + 27) + 27) + 27) + 9) + 36) + 9) + 36) + 9) + 8) + 8)))) rfl ?_
  show mx_WP (d + 0) 116 104 [some (mx_r (some (1, 11, x0)))] [mx_i (8 : Int32), mx_r (some (1, 11, x0))] (γ, (rg_R (mx_alr r11 93 8) 11 x0 16 (some (1, 93, (r11.2.2.2.1 93)))), ς, (((((((((((((K + 1) + 1) + 1) + 1) + 1) + 1) + 1) + 1) + 1) + 1) + 1) + 1), ((((((((((((Z + 200) + 9) + 27) + 27) + 27) + 9) + 36) + 9) + 36) + 9) + 8) + 8))) Q
  generalize (rg_R (mx_alr r11 93 8) 11 x0 16 (some (1, 93, (r11.2.2.2.1 93)))) = r12 at hf ⊢
  rw [rg_let] at hf
  refine mx_WP.go 4 (pc' := 112) (L' := [some (mx_r (some (1, 11, x0)))]) (st' := [mx_i (8 : Int32), mx_r (some (1, 11, x0))]) (σ' := (γ, (rg_R (mx_alr r12 94 8) 11 x0 17 (some (1, 94, (r12.2.2.2.1 94)))), ς, ((((((((((((((K + 1) + 1) + 1) + 1) + 1) + 1) + 1) + 1) + 1) + 1) + 1) + 1) + 1), (((((((((((((Z + 200) + 9) + 27) + 27) + 27) + 9) + 36) + 9) + 36) + 9) + 8) + 8) + 8)))) rfl ?_
  show mx_WP (d + 0) 116 112 [some (mx_r (some (1, 11, x0)))] [mx_i (8 : Int32), mx_r (some (1, 11, x0))] (γ, (rg_R (mx_alr r12 94 8) 11 x0 17 (some (1, 94, (r12.2.2.2.1 94)))), ς, ((((((((((((((K + 1) + 1) + 1) + 1) + 1) + 1) + 1) + 1) + 1) + 1) + 1) + 1) + 1), (((((((((((((Z + 200) + 9) + 27) + 27) + 27) + 9) + 36) + 9) + 36) + 9) + 8) + 8) + 8))) Q
  generalize (rg_R (mx_alr r12 94 8) 11 x0 17 (some (1, 94, (r12.2.2.2.1 94)))) = r13 at hf ⊢
  rw [rg_let] at hf
  refine mx_WP.go 4 (pc' := 120) (L' := [some (mx_r (some (1, 11, x0)))]) (st' := [mx_i (8 : Int32), mx_r (some (1, 11, x0))]) (σ' := (γ, (rg_R (mx_alr r13 95 8) 11 x0 18 (some (1, 95, (r13.2.2.2.1 95)))), ς, (((((((((((((((K + 1) + 1) + 1) + 1) + 1) + 1) + 1) + 1) + 1) + 1) + 1) + 1) + 1) + 1), ((((((((((((((Z + 200) + 9) + 27) + 27) + 27) + 9) + 36) + 9) + 36) + 9) + 8) + 8) + 8) + 8)))) rfl ?_
  show mx_WP (d + 0) 116 120 [some (mx_r (some (1, 11, x0)))] [mx_i (8 : Int32), mx_r (some (1, 11, x0))] (γ, (rg_R (mx_alr r13 95 8) 11 x0 18 (some (1, 95, (r13.2.2.2.1 95)))), ς, (((((((((((((((K + 1) + 1) + 1) + 1) + 1) + 1) + 1) + 1) + 1) + 1) + 1) + 1) + 1) + 1), ((((((((((((((Z + 200) + 9) + 27) + 27) + 27) + 9) + 36) + 9) + 36) + 9) + 8) + 8) + 8) + 8))) Q
  generalize (rg_R (mx_alr r13 95 8) 11 x0 18 (some (1, 95, (r13.2.2.2.1 95)))) = r14 at hf ⊢
  rw [rg_let] at hf
  refine mx_WP.go 4 (pc' := 128) (L' := [some (mx_r (some (1, 11, x0)))]) (st' := [mx_i (8 : Int32), mx_r (some (1, 11, x0))]) (σ' := (γ, (rg_R (mx_alr r14 96 8) 11 x0 19 (some (1, 96, (r14.2.2.2.1 96)))), ς, ((((((((((((((((K + 1) + 1) + 1) + 1) + 1) + 1) + 1) + 1) + 1) + 1) + 1) + 1) + 1) + 1) + 1), (((((((((((((((Z + 200) + 9) + 27) + 27) + 27) + 9) + 36) + 9) + 36) + 9) + 8) + 8) + 8) + 8) + 8)))) rfl ?_
  show mx_WP (d + 0) 116 128 [some (mx_r (some (1, 11, x0)))] [mx_i (8 : Int32), mx_r (some (1, 11, x0))] (γ, (rg_R (mx_alr r14 96 8) 11 x0 19 (some (1, 96, (r14.2.2.2.1 96)))), ς, ((((((((((((((((K + 1) + 1) + 1) + 1) + 1) + 1) + 1) + 1) + 1) + 1) + 1) + 1) + 1) + 1) + 1), (((((((((((((((Z + 200) + 9) + 27) + 27) + 27) + 9) + 36) + 9) + 36) + 9) + 8) + 8) + 8) + 8) + 8))) Q
  generalize (rg_R (mx_alr r14 96 8) 11 x0 19 (some (1, 96, (r14.2.2.2.1 96)))) = r15 at hf ⊢
  rw [rg_let] at hf
  refine mx_WP.go 4 (pc' := 136) (L' := [some (mx_r (some (1, 11, x0)))]) (st' := [mx_i (8 : Int32), mx_r (some (1, 11, x0))]) (σ' := (γ, (rg_R (mx_alr r15 97 8) 11 x0 20 (some (1, 97, (r15.2.2.2.1 97)))), ς, (((((((((((((((((K + 1) + 1) + 1) + 1) + 1) + 1) + 1) + 1) + 1) + 1) + 1) + 1) + 1) + 1) + 1) + 1), ((((((((((((((((Z + 200) + 9) + 27) + 27) + 27) + 9) + 36) + 9) + 36) + 9) + 8) + 8) + 8) + 8) + 8) + 8)))) rfl ?_
  show mx_WP (d + 0) 116 136 [some (mx_r (some (1, 11, x0)))] [mx_i (8 : Int32), mx_r (some (1, 11, x0))] (γ, (rg_R (mx_alr r15 97 8) 11 x0 20 (some (1, 97, (r15.2.2.2.1 97)))), ς, (((((((((((((((((K + 1) + 1) + 1) + 1) + 1) + 1) + 1) + 1) + 1) + 1) + 1) + 1) + 1) + 1) + 1) + 1), ((((((((((((((((Z + 200) + 9) + 27) + 27) + 27) + 9) + 36) + 9) + 36) + 9) + 8) + 8) + 8) + 8) + 8) + 8))) Q
  generalize (rg_R (mx_alr r15 97 8) 11 x0 20 (some (1, 97, (r15.2.2.2.1 97)))) = r16 at hf ⊢
  rw [rg_let] at hf
  refine mx_WP.go 4 (pc' := 144) (L' := [some (mx_r (some (1, 11, x0)))]) (st' := [mx_i (8 : Int32), mx_r (some (1, 11, x0))]) (σ' := (γ, (rg_R (mx_alr r16 98 8) 11 x0 21 (some (1, 98, (r16.2.2.2.1 98)))), ς, ((((((((((((((((((K + 1) + 1) + 1) + 1) + 1) + 1) + 1) + 1) + 1) + 1) + 1) + 1) + 1) + 1) + 1) + 1) + 1), (((((((((((((((((Z + 200) + 9) + 27) + 27) + 27) + 9) + 36) + 9) + 36) + 9) + 8) + 8) + 8) + 8) + 8) + 8) + 8)))) rfl ?_
  show mx_WP (d + 0) 116 144 [some (mx_r (some (1, 11, x0)))] [mx_i (8 : Int32), mx_r (some (1, 11, x0))] (γ, (rg_R (mx_alr r16 98 8) 11 x0 21 (some (1, 98, (r16.2.2.2.1 98)))), ς, ((((((((((((((((((K + 1) + 1) + 1) + 1) + 1) + 1) + 1) + 1) + 1) + 1) + 1) + 1) + 1) + 1) + 1) + 1) + 1), (((((((((((((((((Z + 200) + 9) + 27) + 27) + 27) + 9) + 36) + 9) + 36) + 9) + 8) + 8) + 8) + 8) + 8) + 8) + 8))) Q
  generalize (rg_R (mx_alr r16 98 8) 11 x0 21 (some (1, 98, (r16.2.2.2.1 98)))) = r17 at hf ⊢
  rw [rg_let] at hf
  refine mx_WP.go 4 (pc' := 152) (L' := [some (mx_r (some (1, 11, x0)))]) (st' := [mx_i (8 : Int32), mx_r (some (1, 11, x0))]) (σ' := (γ, (rg_R (mx_alr r17 99 8) 11 x0 22 (some (1, 99, (r17.2.2.2.1 99)))), ς, (((((((((((((((((((K + 1) + 1) + 1) + 1) + 1) + 1) + 1) + 1) + 1) + 1) + 1) + 1) + 1) + 1) + 1) + 1) + 1) + 1), ((((((((((((((((((Z + 200) + 9) + 27) + 27) + 27) + 9) + 36) + 9) + 36) + 9) + 8) + 8) + 8) + 8) + 8) + 8) + 8) + 8)))) rfl ?_
  show mx_WP (d + 0) 116 152 [some (mx_r (some (1, 11, x0)))] [mx_i (8 : Int32), mx_r (some (1, 11, x0))] (γ, (rg_R (mx_alr r17 99 8) 11 x0 22 (some (1, 99, (r17.2.2.2.1 99)))), ς, (((((((((((((((((((K + 1) + 1) + 1) + 1) + 1) + 1) + 1) + 1) + 1) + 1) + 1) + 1) + 1) + 1) + 1) + 1) + 1) + 1), ((((((((((((((((((Z + 200) + 9) + 27) + 27) + 27) + 9) + 36) + 9) + 36) + 9) + 8) + 8) + 8) + 8) + 8) + 8) + 8) + 8))) Q
  generalize (rg_R (mx_alr r17 99 8) 11 x0 22 (some (1, 99, (r17.2.2.2.1 99)))) = r18 at hf ⊢
  rw [rg_let] at hf
  refine mx_WP.go 4 (pc' := 160) (L' := [some (mx_r (some (1, 11, x0)))]) (st' := [mx_i (8 : Int32), mx_r (some (1, 11, x0))]) (σ' := (γ, (rg_R (mx_alr r18 100 8) 11 x0 23 (some (1, 100, (r18.2.2.2.1 100)))), ς, ((((((((((((((((((((K + 1) + 1) + 1) + 1) + 1) + 1) + 1) + 1) + 1) + 1) + 1) + 1) + 1) + 1) + 1) + 1) + 1) + 1) + 1), (((((((((((((((((((Z + 200) + 9) + 27) + 27) + 27) + 9) + 36) + 9) + 36) + 9) + 8) + 8) + 8) + 8) + 8) + 8) + 8) + 8) + 8)))) rfl ?_
  show mx_WP (d + 0) 116 160 [some (mx_r (some (1, 11, x0)))] [mx_i (8 : Int32), mx_r (some (1, 11, x0))] (γ, (rg_R (mx_alr r18 100 8) 11 x0 23 (some (1, 100, (r18.2.2.2.1 100)))), ς, ((((((((((((((((((((K + 1) + 1) + 1) + 1) + 1) + 1) + 1) + 1) + 1) + 1) + 1) + 1) + 1) + 1) + 1) + 1) + 1) + 1) + 1), (((((((((((((((((((Z + 200) + 9) + 27) + 27) + 27) + 9) + 36) + 9) + 36) + 9) + 8) + 8) + 8) + 8) + 8) + 8) + 8) + 8) + 8))) Q
  generalize (rg_R (mx_alr r18 100 8) 11 x0 23 (some (1, 100, (r18.2.2.2.1 100)))) = r19 at hf ⊢
  rw [rg_let] at hf
  refine mx_WP.go 4 (pc' := 169) (L' := [some (mx_r (some (1, 11, x0)))]) (st' := [mx_i (128 : Int32), mx_r (some (1, 11, x0))]) (σ' := (γ, (rg_R (mx_alr r19 101 8) 11 x0 24 (some (1, 101, (r19.2.2.2.1 101)))), ς, (((((((((((((((((((((K + 1) + 1) + 1) + 1) + 1) + 1) + 1) + 1) + 1) + 1) + 1) + 1) + 1) + 1) + 1) + 1) + 1) + 1) + 1) + 1), ((((((((((((((((((((Z + 200) + 9) + 27) + 27) + 27) + 9) + 36) + 9) + 36) + 9) + 8) + 8) + 8) + 8) + 8) + 8) + 8) + 8) + 8) + 8)))) rfl ?_
  show mx_WP (d + 0) 116 169 [some (mx_r (some (1, 11, x0)))] [mx_i (128 : Int32), mx_r (some (1, 11, x0))] (γ, (rg_R (mx_alr r19 101 8) 11 x0 24 (some (1, 101, (r19.2.2.2.1 101)))), ς, (((((((((((((((((((((K + 1) + 1) + 1) + 1) + 1) + 1) + 1) + 1) + 1) + 1) + 1) + 1) + 1) + 1) + 1) + 1) + 1) + 1) + 1) + 1), ((((((((((((((((((((Z + 200) + 9) + 27) + 27) + 27) + 9) + 36) + 9) + 36) + 9) + 8) + 8) + 8) + 8) + 8) + 8) + 8) + 8) + 8) + 8))) Q
  generalize (rg_R (mx_alr r19 101 8) 11 x0 24 (some (1, 101, (r19.2.2.2.1 101)))) = r20 at hf ⊢
  rw [rg_let] at hf
  refine mx_WP.go 4 (pc' := 178) (L' := [some (mx_r (some (1, 11, x0)))]) (st' := [mx_i (512 : Int32), mx_r (some (1, 11, x0))]) (σ' := (γ, (rg_R (mx_alr r20 102 128) 11 x0 25 (some (1, 102, (r20.2.2.2.1 102)))), ς, ((((((((((((((((((((((K + 1) + 1) + 1) + 1) + 1) + 1) + 1) + 1) + 1) + 1) + 1) + 1) + 1) + 1) + 1) + 1) + 1) + 1) + 1) + 1) + 1), (((((((((((((((((((((Z + 200) + 9) + 27) + 27) + 27) + 9) + 36) + 9) + 36) + 9) + 8) + 8) + 8) + 8) + 8) + 8) + 8) + 8) + 8) + 8) + 128)))) rfl ?_
  show mx_WP (d + 0) 116 178 [some (mx_r (some (1, 11, x0)))] [mx_i (512 : Int32), mx_r (some (1, 11, x0))] (γ, (rg_R (mx_alr r20 102 128) 11 x0 25 (some (1, 102, (r20.2.2.2.1 102)))), ς, ((((((((((((((((((((((K + 1) + 1) + 1) + 1) + 1) + 1) + 1) + 1) + 1) + 1) + 1) + 1) + 1) + 1) + 1) + 1) + 1) + 1) + 1) + 1) + 1), (((((((((((((((((((((Z + 200) + 9) + 27) + 27) + 27) + 9) + 36) + 9) + 36) + 9) + 8) + 8) + 8) + 8) + 8) + 8) + 8) + 8) + 8) + 8) + 128))) Q
  generalize (rg_R (mx_alr r20 102 128) 11 x0 25 (some (1, 102, (r20.2.2.2.1 102)))) = r21 at hf ⊢
  rw [rg_let] at hf
  refine mx_WP.go 4 (pc' := 187) (L' := [some (mx_r (some (1, 11, x0)))]) (st' := [mx_i (512 : Int32), mx_r (some (1, 11, x0))]) (σ' := (γ, (rg_R (mx_alr r21 103 512) 11 x0 26 (some (1, 103, (r21.2.2.2.1 103)))), ς, (((((((((((((((((((((((K + 1) + 1) + 1) + 1) + 1) + 1) + 1) + 1) + 1) + 1) + 1) + 1) + 1) + 1) + 1) + 1) + 1) + 1) + 1) + 1) + 1) + 1), ((((((((((((((((((((((Z + 200) + 9) + 27) + 27) + 27) + 9) + 36) + 9) + 36) + 9) + 8) + 8) + 8) + 8) + 8) + 8) + 8) + 8) + 8) + 8) + 128) + 512)))) rfl ?_
  show mx_WP (d + 0) 116 187 [some (mx_r (some (1, 11, x0)))] [mx_i (512 : Int32), mx_r (some (1, 11, x0))] (γ, (rg_R (mx_alr r21 103 512) 11 x0 26 (some (1, 103, (r21.2.2.2.1 103)))), ς, (((((((((((((((((((((((K + 1) + 1) + 1) + 1) + 1) + 1) + 1) + 1) + 1) + 1) + 1) + 1) + 1) + 1) + 1) + 1) + 1) + 1) + 1) + 1) + 1) + 1), ((((((((((((((((((((((Z + 200) + 9) + 27) + 27) + 27) + 9) + 36) + 9) + 36) + 9) + 8) + 8) + 8) + 8) + 8) + 8) + 8) + 8) + 8) + 8) + 128) + 512))) Q
  generalize (rg_R (mx_alr r21 103 512) 11 x0 26 (some (1, 103, (r21.2.2.2.1 103)))) = r22 at hf ⊢
  rw [rg_let] at hf
  refine mx_WP.go 4 (pc' := 196) (L' := [some (mx_r (some (1, 11, x0)))]) (st' := [mx_i (128 : Int32), mx_r (some (1, 11, x0))]) (σ' := (γ, (rg_R (mx_alr r22 104 512) 11 x0 27 (some (1, 104, (r22.2.2.2.1 104)))), ς, ((((((((((((((((((((((((K + 1) + 1) + 1) + 1) + 1) + 1) + 1) + 1) + 1) + 1) + 1) + 1) + 1) + 1) + 1) + 1) + 1) + 1) + 1) + 1) + 1) + 1) + 1), (((((((((((((((((((((((Z + 200) + 9) + 27) + 27) + 27) + 9) + 36) + 9) + 36) + 9) + 8) + 8) + 8) + 8) + 8) + 8) + 8) + 8) + 8) + 8) + 128) + 512) + 512)))) rfl ?_
  show mx_WP (d + 0) 116 196 [some (mx_r (some (1, 11, x0)))] [mx_i (128 : Int32), mx_r (some (1, 11, x0))] (γ, (rg_R (mx_alr r22 104 512) 11 x0 27 (some (1, 104, (r22.2.2.2.1 104)))), ς, ((((((((((((((((((((((((K + 1) + 1) + 1) + 1) + 1) + 1) + 1) + 1) + 1) + 1) + 1) + 1) + 1) + 1) + 1) + 1) + 1) + 1) + 1) + 1) + 1) + 1) + 1), (((((((((((((((((((((((Z + 200) + 9) + 27) + 27) + 27) + 9) + 36) + 9) + 36) + 9) + 8) + 8) + 8) + 8) + 8) + 8) + 8) + 8) + 8) + 8) + 128) + 512) + 512))) Q
  generalize (rg_R (mx_alr r22 104 512) 11 x0 27 (some (1, 104, (r22.2.2.2.1 104)))) = r23 at hf ⊢
  rw [rg_let] at hf
  refine mx_WP.go 4 (pc' := 205) (L' := [some (mx_r (some (1, 11, x0)))]) (st' := [mx_i (128 : Int32), mx_r (some (1, 11, x0))]) (σ' := (γ, (rg_R (mx_alr r23 105 128) 11 x0 28 (some (1, 105, (r23.2.2.2.1 105)))), ς, (((((((((((((((((((((((((K + 1) + 1) + 1) + 1) + 1) + 1) + 1) + 1) + 1) + 1) + 1) + 1) + 1) + 1) + 1) + 1) + 1) + 1) + 1) + 1) + 1) + 1) + 1) + 1), ((((((((((((((((((((((((Z + 200) + 9) + 27) + 27) + 27) + 9) + 36) + 9) + 36) + 9) + 8) + 8) + 8) + 8) + 8) + 8) + 8) + 8) + 8) + 8) + 128) + 512) + 512) + 128)))) rfl ?_
  show mx_WP (d + 0) 116 205 [some (mx_r (some (1, 11, x0)))] [mx_i (128 : Int32), mx_r (some (1, 11, x0))] (γ, (rg_R (mx_alr r23 105 128) 11 x0 28 (some (1, 105, (r23.2.2.2.1 105)))), ς, (((((((((((((((((((((((((K + 1) + 1) + 1) + 1) + 1) + 1) + 1) + 1) + 1) + 1) + 1) + 1) + 1) + 1) + 1) + 1) + 1) + 1) + 1) + 1) + 1) + 1) + 1) + 1), ((((((((((((((((((((((((Z + 200) + 9) + 27) + 27) + 27) + 9) + 36) + 9) + 36) + 9) + 8) + 8) + 8) + 8) + 8) + 8) + 8) + 8) + 8) + 8) + 128) + 512) + 512) + 128))) Q
  generalize (rg_R (mx_alr r23 105 128) 11 x0 28 (some (1, 105, (r23.2.2.2.1 105)))) = r24 at hf ⊢
  rw [rg_let] at hf
  refine mx_WP.go 4 (pc' := 214) (L' := [some (mx_r (some (1, 11, x0)))]) (st' := [mx_i (128 : Int32), mx_r (some (1, 11, x0))]) (σ' := (γ, (rg_R (mx_alr r24 106 128) 11 x0 29 (some (1, 106, (r24.2.2.2.1 106)))), ς, ((((((((((((((((((((((((((K + 1) + 1) + 1) + 1) + 1) + 1) + 1) + 1) + 1) + 1) + 1) + 1) + 1) + 1) + 1) + 1) + 1) + 1) + 1) + 1) + 1) + 1) + 1) + 1) + 1), (((((((((((((((((((((((((Z + 200) + 9) + 27) + 27) + 27) + 9) + 36) + 9) + 36) + 9) + 8) + 8) + 8) + 8) + 8) + 8) + 8) + 8) + 8) + 8) + 128) + 512) + 512) + 128) + 128)))) rfl ?_
  show mx_WP (d + 0) 116 214 [some (mx_r (some (1, 11, x0)))] [mx_i (128 : Int32), mx_r (some (1, 11, x0))] (γ, (rg_R (mx_alr r24 106 128) 11 x0 29 (some (1, 106, (r24.2.2.2.1 106)))), ς, ((((((((((((((((((((((((((K + 1) + 1) + 1) + 1) + 1) + 1) + 1) + 1) + 1) + 1) + 1) + 1) + 1) + 1) + 1) + 1) + 1) + 1) + 1) + 1) + 1) + 1) + 1) + 1) + 1), (((((((((((((((((((((((((Z + 200) + 9) + 27) + 27) + 27) + 9) + 36) + 9) + 36) + 9) + 8) + 8) + 8) + 8) + 8) + 8) + 8) + 8) + 8) + 8) + 128) + 512) + 512) + 128) + 128))) Q
  generalize (rg_R (mx_alr r24 106 128) 11 x0 29 (some (1, 106, (r24.2.2.2.1 106)))) = r25 at hf ⊢
  rw [rg_let] at hf
  refine mx_WP.go 4 (pc' := 223) (L' := [some (mx_r (some (1, 11, x0)))]) (st' := [mx_i (128 : Int32), mx_r (some (1, 11, x0))]) (σ' := (γ, (rg_R (mx_alr r25 107 128) 11 x0 30 (some (1, 107, (r25.2.2.2.1 107)))), ς, (((((((((((((((((((((((((((K + 1) + 1) + 1) + 1) + 1) + 1) + 1) + 1) + 1) + 1) + 1) + 1) + 1) + 1) + 1) + 1) + 1) + 1) + 1) + 1) + 1) + 1) + 1) + 1) + 1) + 1), ((((((((((((((((((((((((((Z + 200) + 9) + 27) + 27) + 27) + 9) + 36) + 9) + 36) + 9) + 8) + 8) + 8) + 8) + 8) + 8) + 8) + 8) + 8) + 8) + 128) + 512) + 512) + 128) + 128) + 128)))) rfl ?_
  show mx_WP (d + 0) 116 223 [some (mx_r (some (1, 11, x0)))] [mx_i (128 : Int32), mx_r (some (1, 11, x0))] (γ, (rg_R (mx_alr r25 107 128) 11 x0 30 (some (1, 107, (r25.2.2.2.1 107)))), ς, (((((((((((((((((((((((((((K + 1) + 1) + 1) + 1) + 1) + 1) + 1) + 1) + 1) + 1) + 1) + 1) + 1) + 1) + 1) + 1) + 1) + 1) + 1) + 1) + 1) + 1) + 1) + 1) + 1) + 1), ((((((((((((((((((((((((((Z + 200) + 9) + 27) + 27) + 27) + 9) + 36) + 9) + 36) + 9) + 8) + 8) + 8) + 8) + 8) + 8) + 8) + 8) + 8) + 8) + 128) + 512) + 512) + 128) + 128) + 128))) Q
  generalize (rg_R (mx_alr r25 107 128) 11 x0 30 (some (1, 107, (r25.2.2.2.1 107)))) = r26 at hf ⊢
  rw [rg_let] at hf
  refine mx_WP.go 4 (pc' := 232) (L' := [some (mx_r (some (1, 11, x0)))]) (st' := [mx_i (128 : Int32), mx_r (some (1, 11, x0))]) (σ' := (γ, (rg_R (mx_alr r26 108 128) 11 x0 31 (some (1, 108, (r26.2.2.2.1 108)))), ς, ((((((((((((((((((((((((((((K + 1) + 1) + 1) + 1) + 1) + 1) + 1) + 1) + 1) + 1) + 1) + 1) + 1) + 1) + 1) + 1) + 1) + 1) + 1) + 1) + 1) + 1) + 1) + 1) + 1) + 1) + 1), (((((((((((((((((((((((((((Z + 200) + 9) + 27) + 27) + 27) + 9) + 36) + 9) + 36) + 9) + 8) + 8) + 8) + 8) + 8) + 8) + 8) + 8) + 8) + 8) + 128) + 512) + 512) + 128) + 128) + 128) + 128)))) rfl ?_
  show mx_WP (d + 0) 116 232 [some (mx_r (some (1, 11, x0)))] [mx_i (128 : Int32), mx_r (some (1, 11, x0))] (γ, (rg_R (mx_alr r26 108 128) 11 x0 31 (some (1, 108, (r26.2.2.2.1 108)))), ς, ((((((((((((((((((((((((((((K + 1) + 1) + 1) + 1) + 1) + 1) + 1) + 1) + 1) + 1) + 1) + 1) + 1) + 1) + 1) + 1) + 1) + 1) + 1) + 1) + 1) + 1) + 1) + 1) + 1) + 1) + 1), (((((((((((((((((((((((((((Z + 200) + 9) + 27) + 27) + 27) + 9) + 36) + 9) + 36) + 9) + 8) + 8) + 8) + 8) + 8) + 8) + 8) + 8) + 8) + 8) + 128) + 512) + 512) + 128) + 128) + 128) + 128))) Q
  generalize (rg_R (mx_alr r26 108 128) 11 x0 31 (some (1, 108, (r26.2.2.2.1 108)))) = r27 at hf ⊢
  rw [rg_let] at hf
  refine mx_WP.go 4 (pc' := 240) (L' := [some (mx_r (some (1, 11, x0)))]) (st' := [mx_i (24 : Int32), mx_r (some (1, 11, x0))]) (σ' := (γ, (rg_R (mx_alr r27 109 128) 11 x0 32 (some (1, 109, (r27.2.2.2.1 109)))), ς, (((((((((((((((((((((((((((((K + 1) + 1) + 1) + 1) + 1) + 1) + 1) + 1) + 1) + 1) + 1) + 1) + 1) + 1) + 1) + 1) + 1) + 1) + 1) + 1) + 1) + 1) + 1) + 1) + 1) + 1) + 1) + 1), ((((((((((((((((((((((((((((Z + 200) + 9) + 27) + 27) + 27) + 9) + 36) + 9) + 36) + 9) + 8) + 8) + 8) + 8) + 8) + 8) + 8) + 8) + 8) + 8) + 128) + 512) + 512) + 128) + 128) + 128) + 128) + 128)))) rfl ?_
  show mx_WP (d + 0) 116 240 [some (mx_r (some (1, 11, x0)))] [mx_i (24 : Int32), mx_r (some (1, 11, x0))] (γ, (rg_R (mx_alr r27 109 128) 11 x0 32 (some (1, 109, (r27.2.2.2.1 109)))), ς, (((((((((((((((((((((((((((((K + 1) + 1) + 1) + 1) + 1) + 1) + 1) + 1) + 1) + 1) + 1) + 1) + 1) + 1) + 1) + 1) + 1) + 1) + 1) + 1) + 1) + 1) + 1) + 1) + 1) + 1) + 1) + 1), ((((((((((((((((((((((((((((Z + 200) + 9) + 27) + 27) + 27) + 9) + 36) + 9) + 36) + 9) + 8) + 8) + 8) + 8) + 8) + 8) + 8) + 8) + 8) + 8) + 128) + 512) + 512) + 128) + 128) + 128) + 128) + 128))) Q
  generalize (rg_R (mx_alr r27 109 128) 11 x0 32 (some (1, 109, (r27.2.2.2.1 109)))) = r28 at hf ⊢
  rw [rg_let] at hf
  refine mx_WP.go 4 (pc' := 248) (L' := [some (mx_r (some (1, 11, x0)))]) (st' := [mx_i (24 : Int32), mx_r (some (1, 11, x0))]) (σ' := (γ, (rg_R (mx_alr r28 110 24) 11 x0 33 (some (1, 110, (r28.2.2.2.1 110)))), ς, ((((((((((((((((((((((((((((((K + 1) + 1) + 1) + 1) + 1) + 1) + 1) + 1) + 1) + 1) + 1) + 1) + 1) + 1) + 1) + 1) + 1) + 1) + 1) + 1) + 1) + 1) + 1) + 1) + 1) + 1) + 1) + 1) + 1), (((((((((((((((((((((((((((((Z + 200) + 9) + 27) + 27) + 27) + 9) + 36) + 9) + 36) + 9) + 8) + 8) + 8) + 8) + 8) + 8) + 8) + 8) + 8) + 8) + 128) + 512) + 512) + 128) + 128) + 128) + 128) + 128) + 24)))) rfl ?_
  show mx_WP (d + 0) 116 248 [some (mx_r (some (1, 11, x0)))] [mx_i (24 : Int32), mx_r (some (1, 11, x0))] (γ, (rg_R (mx_alr r28 110 24) 11 x0 33 (some (1, 110, (r28.2.2.2.1 110)))), ς, ((((((((((((((((((((((((((((((K + 1) + 1) + 1) + 1) + 1) + 1) + 1) + 1) + 1) + 1) + 1) + 1) + 1) + 1) + 1) + 1) + 1) + 1) + 1) + 1) + 1) + 1) + 1) + 1) + 1) + 1) + 1) + 1) + 1), (((((((((((((((((((((((((((((Z + 200) + 9) + 27) + 27) + 27) + 9) + 36) + 9) + 36) + 9) + 8) + 8) + 8) + 8) + 8) + 8) + 8) + 8) + 8) + 8) + 128) + 512) + 512) + 128) + 128) + 128) + 128) + 128) + 24))) Q
  generalize (rg_R (mx_alr r28 110 24) 11 x0 33 (some (1, 110, (r28.2.2.2.1 110)))) = r29 at hf ⊢
  rw [rg_let] at hf
  refine mx_WP.go 4 (pc' := 256) (L' := [some (mx_r (some (1, 11, x0)))]) (st' := [mx_i (24 : Int32), mx_r (some (1, 11, x0))]) (σ' := (γ, (rg_R (mx_alr r29 111 24) 11 x0 34 (some (1, 111, (r29.2.2.2.1 111)))), ς, (((((((((((((((((((((((((((((((K + 1) + 1) + 1) + 1) + 1) + 1) + 1) + 1) + 1) + 1) + 1) + 1) + 1) + 1) + 1) + 1) + 1) + 1) + 1) + 1) + 1) + 1) + 1) + 1) + 1) + 1) + 1) + 1) + 1) + 1), ((((((((((((((((((((((((((((((Z + 200) + 9) + 27) + 27) + 27) + 9) + 36) + 9) + 36) + 9) + 8) + 8) + 8) + 8) + 8) + 8) + 8) + 8) + 8) + 8) + 128) + 512) + 512) + 128) + 128) + 128) + 128) + 128) + 24) + 24)))) rfl ?_
  show mx_WP (d + 0) 116 256 [some (mx_r (some (1, 11, x0)))] [mx_i (24 : Int32), mx_r (some (1, 11, x0))] (γ, (rg_R (mx_alr r29 111 24) 11 x0 34 (some (1, 111, (r29.2.2.2.1 111)))), ς, (((((((((((((((((((((((((((((((K + 1) + 1) + 1) + 1) + 1) + 1) + 1) + 1) + 1) + 1) + 1) + 1) + 1) + 1) + 1) + 1) + 1) + 1) + 1) + 1) + 1) + 1) + 1) + 1) + 1) + 1) + 1) + 1) + 1) + 1), ((((((((((((((((((((((((((((((Z + 200) + 9) + 27) + 27) + 27) + 9) + 36) + 9) + 36) + 9) + 8) + 8) + 8) + 8) + 8) + 8) + 8) + 8) + 8) + 8) + 128) + 512) + 512) + 128) + 128) + 128) + 128) + 128) + 24) + 24))) Q
  generalize (rg_R (mx_alr r29 111 24) 11 x0 34 (some (1, 111, (r29.2.2.2.1 111)))) = r30 at hf ⊢
  rw [rg_let] at hf
  refine mx_WP.go 4 (pc' := 264) (L' := [some (mx_r (some (1, 11, x0)))]) (st' := [mx_i (32 : Int32), mx_r (some (1, 11, x0))]) (σ' := (γ, (rg_R (mx_alr r30 112 24) 11 x0 35 (some (1, 112, (r30.2.2.2.1 112)))), ς, ((((((((((((((((((((((((((((((((K + 1) + 1) + 1) + 1) + 1) + 1) + 1) + 1) + 1) + 1) + 1) + 1) + 1) + 1) + 1) + 1) + 1) + 1) + 1) + 1) + 1) + 1) + 1) + 1) + 1) + 1) + 1) + 1) + 1) + 1) + 1), (((((((((((((((((((((((((((((((Z + 200) + 9) + 27) + 27) + 27) + 9) + 36) + 9) + 36) + 9) + 8) + 8) + 8) + 8) + 8) + 8) + 8) + 8) + 8) + 8) + 128) + 512) + 512) + 128) + 128) + 128) + 128) + 128) + 24) + 24) + 24)))) rfl ?_
  show mx_WP (d + 0) 116 264 [some (mx_r (some (1, 11, x0)))] [mx_i (32 : Int32), mx_r (some (1, 11, x0))] (γ, (rg_R (mx_alr r30 112 24) 11 x0 35 (some (1, 112, (r30.2.2.2.1 112)))), ς, ((((((((((((((((((((((((((((((((K + 1) + 1) + 1) + 1) + 1) + 1) + 1) + 1) + 1) + 1) + 1) + 1) + 1) + 1) + 1) + 1) + 1) + 1) + 1) + 1) + 1) + 1) + 1) + 1) + 1) + 1) + 1) + 1) + 1) + 1) + 1), (((((((((((((((((((((((((((((((Z + 200) + 9) + 27) + 27) + 27) + 9) + 36) + 9) + 36) + 9) + 8) + 8) + 8) + 8) + 8) + 8) + 8) + 8) + 8) + 8) + 128) + 512) + 512) + 128) + 128) + 128) + 128) + 128) + 24) + 24) + 24))) Q
  generalize (rg_R (mx_alr r30 112 24) 11 x0 35 (some (1, 112, (r30.2.2.2.1 112)))) = r31 at hf ⊢
  rw [rg_let] at hf
  refine mx_WP.go 4 (pc' := 272) (L' := [some (mx_r (some (1, 11, x0)))]) (st' := [mx_i (16 : Int32), mx_r (some (1, 11, x0))]) (σ' := (γ, (rg_R (mx_alr r31 113 32) 11 x0 36 (some (1, 113, (r31.2.2.2.1 113)))), ς, (((((((((((((((((((((((((((((((((K + 1) + 1) + 1) + 1) + 1) + 1) + 1) + 1) + 1) + 1) + 1) + 1) + 1) + 1) + 1) + 1) + 1) + 1) + 1) + 1) + 1) + 1) + 1) + 1) + 1) + 1) + 1) + 1) + 1) + 1) + 1) + 1), ((((((((((((((((((((((((((((((((Z + 200) + 9) + 27) + 27) + 27) + 9) + 36) + 9) + 36) + 9) + 8) + 8) + 8) + 8) + 8) + 8) + 8) + 8) + 8) + 8) + 128) + 512) + 512) + 128) + 128) + 128) + 128) + 128) + 24) + 24) + 24) + 32)))) rfl ?_
  show mx_WP (d + 0) 116 272 [some (mx_r (some (1, 11, x0)))] [mx_i (16 : Int32), mx_r (some (1, 11, x0))] (γ, (rg_R (mx_alr r31 113 32) 11 x0 36 (some (1, 113, (r31.2.2.2.1 113)))), ς, (((((((((((((((((((((((((((((((((K + 1) + 1) + 1) + 1) + 1) + 1) + 1) + 1) + 1) + 1) + 1) + 1) + 1) + 1) + 1) + 1) + 1) + 1) + 1) + 1) + 1) + 1) + 1) + 1) + 1) + 1) + 1) + 1) + 1) + 1) + 1) + 1), ((((((((((((((((((((((((((((((((Z + 200) + 9) + 27) + 27) + 27) + 9) + 36) + 9) + 36) + 9) + 8) + 8) + 8) + 8) + 8) + 8) + 8) + 8) + 8) + 8) + 128) + 512) + 512) + 128) + 128) + 128) + 128) + 128) + 24) + 24) + 24) + 32))) Q
  generalize (rg_R (mx_alr r31 113 32) 11 x0 36 (some (1, 113, (r31.2.2.2.1 113)))) = r32 at hf ⊢
  rw [rg_let] at hf
  refine mx_WP.go 4 (pc' := 280) (L' := [some (mx_r (some (1, 11, x0)))]) (st' := [mx_i (24 : Int32), mx_r (some (1, 11, x0))]) (σ' := (γ, (rg_R (mx_alr r32 114 16) 11 x0 37 (some (1, 114, (r32.2.2.2.1 114)))), ς, ((((((((((((((((((((((((((((((((((K + 1) + 1) + 1) + 1) + 1) + 1) + 1) + 1) + 1) + 1) + 1) + 1) + 1) + 1) + 1) + 1) + 1) + 1) + 1) + 1) + 1) + 1) + 1) + 1) + 1) + 1) + 1) + 1) + 1) + 1) + 1) + 1) + 1), (((((((((((((((((((((((((((((((((Z + 200) + 9) + 27) + 27) + 27) + 9) + 36) + 9) + 36) + 9) + 8) + 8) + 8) + 8) + 8) + 8) + 8) + 8) + 8) + 8) + 128) + 512) + 512) + 128) + 128) + 128) + 128) + 128) + 24) + 24) + 24) + 32) + 16)))) rfl ?_
  show mx_WP (d + 0) 116 280 [some (mx_r (some (1, 11, x0)))] [mx_i (24 : Int32), mx_r (some (1, 11, x0))] (γ, (rg_R (mx_alr r32 114 16) 11 x0 37 (some (1, 114, (r32.2.2.2.1 114)))), ς, ((((((((((((((((((((((((((((((((((K + 1) + 1) + 1) + 1) + 1) + 1) + 1) + 1) + 1) + 1) + 1) + 1) + 1) + 1) + 1) + 1) + 1) + 1) + 1) + 1) + 1) + 1) + 1) + 1) + 1) + 1) + 1) + 1) + 1) + 1) + 1) + 1) + 1), (((((((((((((((((((((((((((((((((Z + 200) + 9) + 27) + 27) + 27) + 9) + 36) + 9) + 36) + 9) + 8) + 8) + 8) + 8) + 8) + 8) + 8) + 8) + 8) + 8) + 128) + 512) + 512) + 128) + 128) + 128) + 128) + 128) + 24) + 24) + 24) + 32) + 16))) Q
  generalize (rg_R (mx_alr r32 114 16) 11 x0 37 (some (1, 114, (r32.2.2.2.1 114)))) = r33 at hf ⊢
  rw [rg_let] at hf
  refine mx_WP.go 2 (pc' := 285) (L' := [some (mx_r (some (1, 11, x0)))]) (st' := []) (σ' := (γ, (rg_R (mx_alr r33 115 24) 11 x0 38 (some (1, 115, (r33.2.2.2.1 115)))), ς, (((((((((((((((((((((((((((((((((((K + 1) + 1) + 1) + 1) + 1) + 1) + 1) + 1) + 1) + 1) + 1) + 1) + 1) + 1) + 1) + 1) + 1) + 1) + 1) + 1) + 1) + 1) + 1) + 1) + 1) + 1) + 1) + 1) + 1) + 1) + 1) + 1) + 1) + 1), ((((((((((((((((((((((((((((((((((Z + 200) + 9) + 27) + 27) + 27) + 9) + 36) + 9) + 36) + 9) + 8) + 8) + 8) + 8) + 8) + 8) + 8) + 8) + 8) + 8) + 128) + 512) + 512) + 128) + 128) + 128) + 128) + 128) + 24) + 24) + 24) + 32) + 16) + 24)))) rfl ?_
  rw [← Option.some.inj hf] at hk
  refine mx_WP.ret (v := none) rfl ?_
  exact hk
