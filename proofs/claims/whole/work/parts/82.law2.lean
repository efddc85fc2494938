/-! the law's loop -/
section
variable {I A : mI} {J B : mJ} {h : Nat → Nat} {i : Int32}
abbrev lS := Int32 × mI × mJ × (Nat → Nat) × mI × mJ
def goes (o : Option (lS ⊕ (lS ⊕ Bool))) (i : Int32) : Prop := ∃ I J h A B, o = some (.inl (i + 4, I, J, h, A, B)) ∧ Sim I J A B
theorem lwo_i {f g : Option (Int32 × mI)} (r : Rl f g (fun u v => u.1 = v.1 ∧ Sim u.2 J v.2 B)) : goes (f.bind fun u => g.bind fun v => if u.1 = v.1 then some (.inl (i + 4, u.2, J, h, v.2, B)) else some (.inr (.inr false))) i := by
  obtain ⟨u, v, rfl, rfl, h1, h2⟩ := r
  rw [Option.bind_some, Option.bind_some, if_pos h1]
  exact ⟨_, _, _, _, _, rfl, h2⟩
theorem lwo_j {f g : Option Int32} (hs : Sim I J A B) (r : Rl f g (fun u v => u = v)) : goes (f.bind fun u => g.bind fun v => if u = v then some (.inl (i + 4, I, J, h, A, B)) else some (.inr (.inr false))) i := by
  obtain ⟨u, v, rfl, rfl, h1⟩ := r
  rw [Option.bind_some, Option.bind_some, if_pos h1]
  exact ⟨_, _, _, _, _, rfl, hs⟩
theorem lwo_l {f g : Option Int64} (hs : Sim I J A B) (r : Rl f g (fun u v => u = v)) : goes (f.bind fun u => g.bind fun v => if lg_cmp u v = 0 then some (.inl (i + 4, I, J, h, A, B)) else some (.inr (.inr false))) i := by
  obtain ⟨u, v, rfl, rfl, h1⟩ := r
  rw [Option.bind_some, Option.bind_some, if_pos ((c_cmp _ _).mpr h1)]
  exact ⟨_, _, _, _, _, rfl, hs⟩
theorem lwo_c {f g : Option (Int32 × mI × mJ)} (r : Rl f g (fun u v => u.1 = v.1 ∧ Sim u.2.1 u.2.2 v.2.1 v.2.2)) : goes (f.bind fun u => g.bind fun v => if u.1 = v.1 then some (.inl (i + 4, u.2.1, u.2.2, h, v.2.1, v.2.2)) else some (.inr (.inr false))) i := by
  obtain ⟨u, v, rfl, rfl, h1, h2⟩ := r
  rw [Option.bind_some, Option.bind_some, if_pos h1]
  exact ⟨_, _, _, _, _, rfl, h2⟩
theorem lwo_s {f g : Option (Bool × mI × mJ)} (r : Rl f g (fun u v => b2i u.1 = b2i v.1 ∧ Sim u.2.1 u.2.2 v.2.1 v.2.2)) : goes (f.bind fun u => g.bind fun v => if b2i u.1 = b2i v.1 then some (.inl (i + 4, u.2.1, u.2.2, h, v.2.1, v.2.2)) else some (.inr (.inr false))) i := by
  obtain ⟨u, v, rfl, rfl, h1, h2⟩ := r
  rw [Option.bind_some, Option.bind_some, if_pos h1]
  exact ⟨_, _, _, _, _, rfl, h2⟩
theorem lwo_a {f : Option (Int32 × mI × mJ × (Nat → Nat))} {g : Option (Int32 × mI × mJ)} (r : Rl f g (fun u v => u.1 = v.1 ∧ Sim u.2.1 u.2.2.1 v.2.1 v.2.2)) : goes (f.bind fun u => g.bind fun v => if u.1 = v.1 then some (.inl (i + 4, u.2.1, u.2.2.1, u.2.2.2, v.2.1, v.2.2)) else some (.inr (.inr false))) i := by
  obtain ⟨u, v, rfl, rfl, h1, h2⟩ := r
  rw [Option.bind_some, Option.bind_some, if_pos h1]
  exact ⟨_, _, _, _, _, rfl, h2⟩
end
theorem law_go {L : Nat} (xs : Nat → Int32) {I A : mI} {J B : mJ} {h : Nat → Nat} (I0 : mI) (J0 : mJ) (h0 : Nat → Nat) (A0 : mI) (B0 : mJ) {k : Nat} (hL : L ≤ 2048) (hk : k + 4 ≤ L) (hs : Sim I J A B) : goes (b168_18 L xs I0 J0 h0 A0 B0 (Int32.ofNat k, I, J, h, A, B)) (Int32.ofNat k) := by
  unfold b168_18
  simp only
  have e4 : Int32.ofNat L - 4 = Int32.ofNat (L - 4) := n_subR (by show 4 ≤ L; omega)
  have e1 : Int32.ofNat k + 1 = Int32.ofNat (k + 1) := n_addR k 1
  have e2 : Int32.ofNat k + 2 = Int32.ofNat (k + 2) := n_addR k 2
  have e3 : Int32.ofNat k + 3 = Int32.ofNat (k + 3) := n_addR k 3
  rw [e4, if_neg (fun z => by have := (i_lt (by omega) (by omega)).mp z; omega)]
  have g0 := i_g (show k < L by omega) (show L ≤ 2147483648 by omega)
  have g1 := i_g (show k + 1 < L by omega) (show L ≤ 2147483648 by omega)
  have g2 := i_g (show k + 2 < L by omega) (show L ≤ 2147483648 by omega)
  have g3 := i_g (show k + 3 < L by omega) (show L ≤ 2147483648 by omega)
  rw [if_neg g0]
  simp only [e1, e2, e3]
  simp only [if_neg g1, if_neg g2, if_neg g3]
  by_cases c0 : (xs (Int32.ofNat k).toNatClampNeg) &&& 31 = 0
  · rw [if_pos c0]
    exact lwo_i (S_text _ hs)
  rw [if_neg c0]
  by_cases c1 : (xs (Int32.ofNat k).toNatClampNeg) &&& 31 = 1
  · rw [if_pos c1]
    exact lwo_i (S_need _ _ _ hs)
  rw [if_neg c1]
  by_cases c2 : (xs (Int32.ofNat k).toNatClampNeg) &&& 31 = 2
  · rw [if_pos c2]
    exact lwo_c (S_provide _ _ hs)
  rw [if_neg c2]
  by_cases c3 : (xs (Int32.ofNat k).toNatClampNeg) &&& 31 = 3
  · rw [if_pos c3]
    exact lwo_s (S_starter _ _ hs)
  rw [if_neg c3]
  by_cases c4 : (xs (Int32.ofNat k).toNatClampNeg) &&& 31 = 4
  · rw [if_pos c4]
    exact lwo_c (S_clear hs)
  rw [if_neg c4]
  by_cases c5 : (xs (Int32.ofNat k).toNatClampNeg) &&& 31 = 5
  · rw [if_pos c5]
    exact lwo_a (S_add _ _ _ hs)
  rw [if_neg c5]
  by_cases c6 : (xs (Int32.ofNat k).toNatClampNeg) &&& 31 = 6
  · rw [if_pos c6]
    exact lwo_i (S_remove _ hs)
  rw [if_neg c6]
  by_cases c7 : (xs (Int32.ofNat k).toNatClampNeg) &&& 31 = 7
  · rw [if_pos c7]
    exact lwo_j hs (S_plugin _ _ hs)
  rw [if_neg c7]
  by_cases c8 : (xs (Int32.ofNat k).toNatClampNeg) &&& 31 = 8
  · rw [if_pos c8]
    exact lwo_j hs (S_extensions _ hs)
  rw [if_neg c8]
  by_cases c9 : (xs (Int32.ofNat k).toNatClampNeg) &&& 31 = 9
  · rw [if_pos c9]
    exact lwo_j hs (S_extension _ _ hs)
  rw [if_neg c9]
  by_cases c10 : (xs (Int32.ofNat k).toNatClampNeg) &&& 31 = 10
  · rw [if_pos c10]
    exact lwo_j hs (S_element _ _ hs)
  rw [if_neg c10]
  by_cases c11 : (xs (Int32.ofNat k).toNatClampNeg) &&& 31 = 11
  · rw [if_pos c11]
    exact lwo_l hs (S_name _ hs)
  rw [if_neg c11]
  by_cases c12 : (xs (Int32.ofNat k).toNatClampNeg) &&& 31 = 12
  · rw [if_pos c12]
    exact lwo_j hs (S_child _ _ hs)
  rw [if_neg c12]
  by_cases c13 : (xs (Int32.ofNat k).toNatClampNeg) &&& 31 = 13
  · rw [if_pos c13]
    exact lwo_l hs (S_attribute _ _ hs)
  rw [if_neg c13]
  by_cases c14 : (xs (Int32.ofNat k).toNatClampNeg) &&& 31 = 14
  · rw [if_pos c14]
    exact lwo_i (S_create _ _ hs)
  rw [if_neg c14]
  by_cases c15 : (xs (Int32.ofNat k).toNatClampNeg) &&& 31 = 15
  · rw [if_pos c15]
    exact lwo_j hs (S_object _ _ hs)
  rw [if_neg c15]
  by_cases c16 : (xs (Int32.ofNat k).toNatClampNeg) &&& 31 = 16
  · rw [if_pos c16]
    exact lwo_j hs (S_event _ hs)
  rw [if_neg c16]
  by_cases c17 : (xs (Int32.ofNat k).toNatClampNeg) &&& 31 = 17
  · rw [if_pos c17]
    exact lwo_i (S_shutdown hs)
  rw [if_neg c17]
  by_cases c18 : (xs (Int32.ofNat k).toNatClampNeg) &&& 31 = 18
  · rw [if_pos c18]
    exact lwo_j hs (S_stopped _ hs)
  rw [if_neg c18]
  by_cases c19 : (xs (Int32.ofNat k).toNatClampNeg) &&& 31 = 19
  · rw [if_pos c19]
    exact lwo_j hs (S_count _ hs)
  rw [if_neg c19]
  exact ⟨_, _, _, _, _, rfl, hs⟩
theorem law_s {L : Nat} (xs : Nat → Int32) (hL : L ≤ 2048) {I A : mI} {J B : mJ} {h : Nat → Nat} (hs : Sim I J A B) : f168 L xs I J h A B = some true := by
  have hl : Sm (mx_lp (b168_18 L xs I J h A B) mx_fu ((0 : Int32), I, J, h, A, B)) (fun r : lS ⊕ Bool => ∃ s, r = Sum.inl s) := by
    refine Sm.lp (P := fun r : lS ⊕ Bool => ∃ s, r = Sum.inl s) (fun s : lS => ∃ k, k ≤ L ∧ s.1 = Int32.ofNat k ∧ 4 ∣ k ∧ Sim s.2.1 s.2.2.1 s.2.2.2.2.1 s.2.2.2.2.2) (fun s => (2052 - s.1.toNatClampNeg) / 4) ?_ mx_fu ⟨0, by omega, rfl, ⟨0, rfl⟩, hs⟩ (by show (2052 - 0) / 4 < 1000; decide)
    rintro ⟨_, I', J', h', A', B'⟩ ⟨k, hk, rfl, hd, hs'⟩
    simp only at hs'
    by_cases c : k + 4 ≤ L
    · obtain ⟨I2, J2, h2, A2, B2, e, hs2⟩ := law_go xs (h := h') I J h A B hL c hs'
      rw [e]
      have e4 : Int32.ofNat k + 4 = Int32.ofNat (k + 4) := n_addR k 4
      refine Sm.ret ⟨⟨k + 4, c, e4, by omega, hs2⟩, ?_⟩
      simp only
      rw [e4, i_cl (by omega), i_cl (by omega)]
      omega
    · have e : b168_18 L xs I J h A B (Int32.ofNat k, I', J', h', A', B') = some (.inr (.inl (Int32.ofNat k, I', J', h', A', B'))) := by
        unfold b168_18
        simp only
        rw [if_pos]
        rw [Int32.lt_iff_toInt_lt, i_ti (by omega), Int32.toInt_sub, i_ti (by omega)]
        show Int.bmod ((L : Int) - 4) (2 ^ 32) < (k : Int)
        rw [Int.bmod_eq_of_le (by omega) (by omega)]
        omega
      rw [e]
      exact Sm.ret ⟨_, rfl⟩
  obtain ⟨r, e, s, rfl⟩ := hl
  unfold f168
  rw [e]
  rfl
theorem law_t (L : Nat) (xs : Nat → Int32) (hL : L ≤ 2048) : f168 L xs (fun t _ k => ini_i t k) (fun _ _ _ => 0) ini_h (fun t _ k => ini_i t k) (fun _ _ _ => 0) = some true := law_s xs hL Sim.ini
