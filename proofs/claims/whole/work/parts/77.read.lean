/-! a text is read -/
section
variable {I1 A1 : mI} {J1 B1 : mJ} {p : Nat}
theorem step_s {I A : mI} {J B : mJ} {h : Nat → Nat} {n : Nat} (hp : p < 8) (h5 : g_non I1 J1) (F : PF p I1 J1 A1 B1 I J A B) (r : PR p n I J h A B) (c : Int32) : Rl (f56 p c I J h) (f128 (Int32.ofNat p) c A B) (PS p I1 J1 A1 B1) := by
  obtain ⟨e, r⟩ := r
  rcases r with ⟨s, ha, hi⟩ | ⟨k, hk, hh, hl, ha, s⟩ | ⟨k, hk, hh, hl, ha, s⟩ | ⟨k, a, hk, hh, hl, ha4, ha, hat, h107, s⟩
  · rcases s with ⟨hs, hm⟩ | ⟨hs, hm⟩
    · exact st_0 hp F h5 e hs hm ha hi c
    · exact st_1 hp F h5 e hs hm ha hi c
  · rcases s with ⟨hs, hm, L, M, q1, q2, q3, q4, q5⟩ | ⟨hs, hm, q⟩ | ⟨hs, hm⟩
    · exact st_9 hp F e hk hh hl ha hs hm q1 q2 q3 q4 q5 c
    · exact st_9a hp F e hk hh hl ha hs hm q c
    · exact st_10 hp F e hk hh hl ha hs hm c
  · rcases s with ⟨hs, hm, L, q1, q2, q3, q4, q5⟩ | ⟨hs, hm⟩ | ⟨hs, hm⟩ | ⟨hs, hm⟩
    · exact st_2 hp F e hk hh hl ha hs hm q1 q2 q3 q4 q5 c
    · exact st_3 hp F e hk hh hl ha hs hm c
    · exact st_7 F e hk hh hl ha hs hm c
    · exact st_8 hp F e hk hh hl ha hs hm c
  · rcases s with ⟨hs, hm, L, q1, q2, q3, q4, q5⟩ | ⟨hs, hm, q1, q2⟩ | ⟨hs, hm, L, q1, q2, q3, q4, q5⟩
    · exact st_4 hp F e hk hh hl ha4 ha hat h107 hs hm q1 q2 q3 q4 q5 c
    · exact st_5 F e hk hh hl ha4 ha hat h107 hs hm q1 q2 c
    · exact st_6 hp F e hk hh hl ha4 ha hat h107 hs hm q1 q2 q3 q4 q5 c
/-- how a reading ends, letter by letter -/
def RE (p N : Nat) (I1 : mI) (J1 : mJ) (A1 : mI) (B1 : mJ) (u : (Int32 × mI × mJ × (Nat → Nat)) ⊕ (Int32 × mI × mJ × (Nat → Nat))) (v : (Int32 × mI × mJ) ⊕ (Int32 × mI × mJ)) : Prop := (∃ x y, u = .inl x ∧ v = .inl y ∧ PF p I1 J1 A1 B1 x.2.1 x.2.2.1 y.2.1 y.2.2 ∧ ∃ n, PR p n x.2.1 x.2.2.1 x.2.2.2 y.2.1 y.2.2) ∨ ∃ x y i, u = .inr x ∧ v = .inr y ∧ i < N ∧ x.1 = Int32.ofNat i ∧ y.1 = Int32.ofNat i ∧ PF p I1 J1 A1 B1 x.2.1 x.2.2.1 y.2.1 y.2.2
theorem rd_lp {N : Nat} (hp : p < 8) (hN : N ≤ 200) (h5 : g_non I1 J1) (t1 : A1 11 0 10 = Int32.ofNat N) (t2 : ∀ k, k < N → I1 64 0 k = A1 82 0 k) {I A : mI} {J B : mJ} {h : Nat → Nat} {n : Nat} (F : PF p I1 J1 A1 B1 I J A B) (r : PR p n I J h A B) (I0 : mI) (J0 : mJ) (h0 : Nat → Nat) (A0 : mI) (B0 : mJ) : Rl (mx_lp (b55_64_25 p (Int32.ofNat N) I0 J0 h0) mx_fu ((0 : Int32), I, J, h)) (mx_lp (b127_19 (Int32.ofNat p) A0 B0) mx_fu ((0 : Int32), A, B)) (RE p N I1 J1 A1 B1) := by
  refine Rl.lp (fun u v => ∃ i n, i ≤ N ∧ u.1 = Int32.ofNat i ∧ v.1 = Int32.ofNat i ∧ PF p I1 J1 A1 B1 u.2.1 u.2.2.1 v.2.1 v.2.2 ∧ PR p n u.2.1 u.2.2.1 u.2.2.2 v.2.1 v.2.2) (fun u => 200 - u.1.toNatClampNeg) ?_ mx_fu ⟨0, n, by omega, rfl, rfl, F, r⟩ (by show 200 - 0 < 1000; decide)
  rintro ⟨_, I', J', h'⟩ ⟨_, A', B'⟩ ⟨i, n', hi, rfl, rfl, F', r'⟩
  simp only at F' r'
  unfold b55_64_25 b127_19
  simp only
  have e10 : A' 11 0 10 = Int32.ofNat N := (F'.2.2.1 11 0 10 (by unfold oA; omega)).trans t1
  rw [e10]
  rcases Nat.lt_or_ge i N with c | c
  · have q1 : ¬ Int32.ofNat N ≤ Int32.ofNat i := fun z => by have := (i_le (by omega) (by omega)).mp z; omega
    have q2 : ¬ Int32.ofNat 200 ≤ Int32.ofNat i := fun z => by have := (i_le (by omega) (by omega)).mp z; omega
    have g := i_g (show i < 200 by omega) (show 200 ≤ 2147483648 by decide)
    have ei : (Int32.ofNat i).toNatClampNeg = i := i_cl (by omega)
    have ec : I' 64 0 i = A' 82 0 i := by
      rw [F'.1 64 0 i (by unfold oI; omega), F'.2.2.1 82 0 i (by unfold oA; omega)]
      exact t2 i c
    rw [if_neg q1, if_neg q2, if_neg g, if_neg q1, if_neg g, ei, ec]
    refine Rl.bind (step_s hp h5 F' r' (A' 82 0 i)) ?_
    rintro ⟨b, I2, J2, h2⟩ ⟨b', A2, B2⟩ ⟨w1, w2, w3⟩
    simp only at w1 w2 w3 ⊢
    subst w1
    cases b with
    | true =>
      obtain ⟨n2, w4⟩ := w3 rfl
      rw [if_pos rfl, if_pos rfl]
      exact Rl.next ⟨i + 1, n2, by omega, n_addR i 1, n_addR i 1, w2, w4⟩ (m_dc (by omega) (by omega))
    | false =>
      rw [if_neg (by decide), if_neg (by decide)]
      exact Rl.stop (.inr ⟨_, _, i, rfl, rfl, c, rfl, rfl, w2⟩)
  · have q1 : Int32.ofNat N ≤ Int32.ofNat i := (i_le (by omega) (by omega)).mpr c
    rw [if_pos q1, if_pos q1]
    exact Rl.stop (.inl ⟨_, _, rfl, rfl, F', n', r'⟩)
end
theorem PF.tr {p : Nat} {I0 I1 I2 A0 A1 A2 : mI} {J0 J1 J2 B0 B1 B2 : mJ} (h : PF p I0 J0 A0 B0 I1 J1 A1 B1) (h2 : PF p I1 J1 A1 B1 I2 J2 A2 B2) : PF p I0 J0 A0 B0 I2 J2 A2 B2 := ⟨fun t i k z => (h2.1 t i k z).trans (h.1 t i k z), fun t i k z => (h2.2.1 t i k z).trans (h.2.1 t i k z), fun t i k z => (h2.2.2.1 t i k z).trans (h.2.2.1 t i k z), fun t i k z => (h2.2.2.2 t i k z).trans (h.2.2.2 t i k z)⟩
theorem read_s {I A : mI} {J B : mJ} {p N : Nat} (h : Nat → Nat) (hp : p < 8) (hN : N ≤ 200) (h5 : g_non I J) (t1 : A 11 0 10 = Int32.ofNat N) (t2 : ∀ k, k < N → I 64 0 k = A 82 0 k) : Rl (f55_64 p (Int32.ofNat N) I J h) (f127 (Int32.ofNat p) A B) (fun u v => u.1 = v.1 ∧ PF p I J A B u.2.1 u.2.2.1 v.2.1 v.2.2 ∧ ((u.1 = -1 ∧ ∃ n, el u.2.1 v.2.1 u.2.2.1 v.2.2 p n ∧ ata u.2.1 v.2.1 u.2.2.1 v.2.2 p n) ∨ ∃ i, i ≤ N ∧ u.1 = Int32.ofNat i)) := by
  unfold f55_64 f48 f127
  rw [Option.bind_some, if_neg (i_g hp (by decide)), i_cl (by omega)]
  have F0 : PF p I J A B (mx_u3 (mx_u3 I 4 p 2 0) 5 p 2 0) J (mx_u3 (mx_u3 (mx_u3 A 11 0 11 0) 11 0 12 (-1)) 100 0 p 0) B := ⟨((only.rf I _).up (.inr (.inl ⟨rfl, rfl⟩)) _).up (o5 _ _ _) _, only.rf J _, (((only.rf A _).up (o11 _ _ (by decide)) _).up (o11 _ _ (by decide)) _).up (.inr (.inl ⟨rfl, rfl⟩)) _, only.rf B _⟩
  have R0 : PR p 0 (mx_u3 (mx_u3 I 4 p 2 0) 5 p 2 0) J (mx_u1 h p 0) (mx_u3 (mx_u3 (mx_u3 A 11 0 11 0) 11 0 12 (-1)) 100 0 p 0) B := by
    refine ⟨⟨by omega, ?_, ?_, fun k hk => absurd hk (by omega)⟩, .inl ⟨.inl ⟨?_, ?_⟩, fun k hk => absurd hk (by omega), .inl ⟨?_, ?_⟩⟩⟩
    · rw [u3_ne (by decide), u3_eq]
      rfl
    · rw [u3_eq]
      rfl
    · rw [u3_eq]
    · rw [u3_ne (by decide), u3_at, if_neg (fun z => absurd z.2 (by decide)), u3_eq]
    · unfold mx_u1
      rw [if_pos rfl]
    · rw [u3_ne (by decide), u3_eq]
  refine Rl.bind (rd_lp hp hN h5 t1 t2 F0 R0 (mx_u3 (mx_u3 I 4 p 2 0) 5 p 2 0) J (mx_u1 h p 0) (mx_u3 (mx_u3 (mx_u3 A 11 0 11 0) 11 0 12 (-1)) 100 0 p 0) B) ?_
  rintro u v (⟨⟨x1, I', J', h'⟩, ⟨y1, A', B'⟩, rfl, rfl, F, n, e, r⟩ | ⟨⟨x1, I', J', h'⟩, ⟨y1, A', B'⟩, i, rfl, rfl, hi, x2, y2, F⟩)
  · simp only [Sum.elim_inl] at F e r ⊢
    unfold j55_64_54
    have e10 : A' 11 0 10 = Int32.ofNat N := (F.2.2.1 11 0 10 (by unfold oA; omega)).trans t1
    rw [e10]
    have notw : ¬ A' 11 0 11 = 0 → ¬ I' 5 p 2 = 0 → Rl (if I' 5 p 2 = 0 then if I' 3 (h' p) 6 = 0 then some ((-1 : Int32), I', J', h') else some (Int32.ofNat N, I', J', h') else some (Int32.ofNat N, I', J', h')) (if A' 11 0 11 = 0 then if 0 ≤ A' 11 0 12 then some (Int32.ofNat N, A', B') else some ((-1 : Int32), A', B') else some (Int32.ofNat N, A', B')) (fun u v => u.1 = v.1 ∧ PF p I J A B u.2.1 u.2.2.1 v.2.1 v.2.2 ∧ ((u.1 = -1 ∧ ∃ n, el u.2.1 v.2.1 u.2.2.1 v.2.2 p n ∧ ata u.2.1 v.2.1 u.2.2.1 v.2.2 p n) ∨ ∃ i, i ≤ N ∧ u.1 = Int32.ofNat i)) := fun z1 z2 => by
      rw [if_neg z1, if_neg z2]
      exact Rl.ret ⟨rfl, F, .inr ⟨N, Nat.le_refl N, rfl⟩⟩
    rcases r with ⟨s, ha, hi⟩ | ⟨k, hk, hh, hl, ha, s⟩ | ⟨k, hk, hh, hl, ha, s⟩ | ⟨k, a, hk, hh, hl, ha4, ha, hat, h107, s⟩
    · rcases s with ⟨hs, hm⟩ | ⟨hs, hm⟩
      · rw [if_pos hs, if_pos hm]
        rcases hi with ⟨i1, i2⟩ | ⟨k, hk, i1, i2⟩
        · rw [i1, i2, (non_0 F h5).1, if_pos rfl, if_neg (by decide)]
          exact Rl.ret ⟨rfl, F, .inl ⟨rfl, n, e, ha⟩⟩
        · obtain ⟨d, d1, d2, d3, -⟩ := dep e hk
          have hn := e.1
          rw [i1, i2, d3, if_neg (fun z => by have := (n_eqR (by omega) (by decide)).mp z; omega), if_pos (i_ps (by omega))]
          exact Rl.ret ⟨rfl, F, .inr ⟨N, Nat.le_refl N, rfl⟩⟩
      · exact notw (by rw [hm]; decide) (by rw [hs]; decide)
    · rcases s with ⟨hs, hm, -⟩ | ⟨hs, hm, -⟩ | ⟨hs, hm⟩ <;> exact notw (by rw [hm]; decide) (by rw [hs]; decide)
    · rcases s with ⟨hs, hm, -⟩ | ⟨hs, hm⟩ | ⟨hs, hm⟩ | ⟨hs, hm⟩ <;> exact notw (by rw [hm]; decide) (by rw [hs]; decide)
    · rcases s with ⟨hs, hm, -⟩ | ⟨hs, hm, -⟩ | ⟨hs, hm, -⟩ <;> exact notw (by rw [hm]; decide) (by rw [hs]; decide)
  · simp only [Sum.elim_inr]
    exact Rl.ret ⟨x2.trans y2.symm, F, .inr ⟨i, by omega, x2⟩⟩
