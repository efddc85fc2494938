/-! count -/
theorem f95_s {I : mI} {P : Nat → Bool} {x : Int32} (h : ∀ p, p < 8 → ∃ v, f76 p I = some v ∧ (v < x ↔ ¬ P p = true)) : f95 x I = some (Int32.ofNat (cn P 8)) := by
  have hC : mx_lp (b95_14 x (Int32.ofNat 8) I) mx_fu ((0 : Int32), (0 : Int32)) = some (Int32.ofNat (cn P 8), Int32.ofNat 8) := by
    refine cnt_lp 8 P (by decide) (fun c i hi => ?_) (fun c => ?_)
    · unfold b95_14
      obtain ⟨v, e1, e2⟩ := h i hi
      simp only
      rw [if_neg (fun q => absurd ((i_le (by omega) (by omega)).mp q) (by omega)), if_neg (i_g hi (by decide)), i_cl (by omega), e1, Option.bind_some]
      by_cases c1 : v < x
      · rw [if_pos c1, if_neg (e2.mp c1)]
      · rw [if_neg c1, if_pos (by
          cases hP : P i with
          | true => rfl
          | false => exact absurd (e2.mpr (by rw [hP]; decide)) c1)]
    · unfold b95_14
      simp only
      rw [if_pos (show Int32.ofNat 8 ≤ Int32.ofNat 8 by decide)]
  unfold f95
  rw [hC]
  rfl
theorem f76_s {I A : mI} (a3 : g_plug I A) {p : Nat} (hp : p < 8) : f76 p I = some (if A 92 0 p = 0 then 0 else if A 93 0 p = 0 then 1 else if A 94 0 p = 0 then 2 else 3) := by
  obtain ⟨b1, b2, b3, b4, b5, b6, -⟩ := a3 p hp
  unfold f76
  rw [b1, b3, b5]
  split
  · rfl
  · split
    · rfl
    · split
      · rfl
      · rfl
theorem cn_fl {P : Nat → Bool} : ∀ i, i - cn P i = cn (fun k => !P k) i := by
  intro i
  induction i with
  | zero => rfl
  | succ i ih =>
    have := cn_le P i
    simp only [cn]
    by_cases hP : P i = true <;> simp [hP] <;> omega
theorem cn_hi {P : Nat → Bool} {n : Nat} : ∀ m, n ≤ m → (∀ k, n ≤ k → k < m → P k = false) → cn P m = cn P n := by
  intro m
  induction m with
  | zero =>
    intro h _
    have e : n = 0 := by omega
    rw [e]
  | succ m ih =>
    intro h hz
    by_cases c : n = m + 1
    · rw [c]
    · rw [cn_f (hz m (by omega) (by omega))]
      exact ih (by omega) (fun k h1 h2 => hz k h1 (by omega))
theorem S_count {I A : mI} {J B : mJ} (x : Int32) (h : Sim I J A B) : Rl (f27 x I) (f165 x A B) (fun u v => u = v) := by
  obtain ⟨a1, a2, a3, a4, a5, a6, a7, a8, a9, a10, a11⟩ := h
  unfold f27 f165
  by_cases c0 : x = 0
  · rw [if_pos c0, if_pos c0]
    rw [f95_s (P := fun p => decide (¬ A 92 0 p = 0)) (fun p hp => ⟨_, f76_s a3 hp, by
      by_cases d1 : A 92 0 p = 0
      · simp [d1]
      · by_cases d2 : A 93 0 p = 0 <;> by_cases d3 : A 94 0 p = 0 <;> simp [d1, d2, d3] <;> decide⟩)]
    rw [cnt_lp (body := b165_58 A B) 8 (fun p => decide (¬ A 92 0 p = 0)) (by decide) (fun c i hi => by
      unfold b165_58
      simp only
      rw [if_neg (fun q => absurd ((n_leL (by decide) (by omega)).mp q) (by omega)), if_neg (i_g hi (by decide)), i_cl (by omega)]
      by_cases d1 : A 92 0 i = 0
      · rw [if_pos d1, if_neg (by simp [d1])]
      · rw [if_neg d1, if_pos (by simp [d1])]) (fun c => by
      unfold b165_58
      simp only
      rw [if_pos (show (8 : Int32) ≤ Int32.ofNat 8 by decide)])]
    exact Rl.ret rfl
  rw [if_neg c0, if_neg c0]
  by_cases c1 : x = 1
  · rw [if_pos c1, if_pos c1]
    rw [f95_s (P := fun p => decide (¬ A 92 0 p = 0 ∧ ¬ A 93 0 p = 0)) (fun p hp => ⟨_, f76_s a3 hp, by
      by_cases d1 : A 92 0 p = 0
      · simp [d1]
      · by_cases d2 : A 93 0 p = 0 <;> by_cases d3 : A 94 0 p = 0 <;> simp [d1, d2, d3] <;> decide⟩)]
    rw [cnt_lp (body := b165_86 A B) 8 (fun p => decide (¬ A 92 0 p = 0 ∧ ¬ A 93 0 p = 0)) (by decide) (fun c i hi => by
      unfold b165_86
      simp only
      rw [if_neg (fun q => absurd ((n_leL (by decide) (by omega)).mp q) (by omega)), if_neg (i_g hi (by decide)), if_neg (i_g hi (by decide)), i_cl (by omega)]
      by_cases d1 : A 92 0 i = 0
      · rw [if_pos d1, if_neg (by simp [d1])]
      · rw [if_neg d1]
        by_cases d2 : A 93 0 i = 0
        · rw [if_pos d2, if_neg (by simp [d2])]
        · rw [if_neg d2, if_pos (by simp [d1, d2])]) (fun c => by
      unfold b165_86
      simp only
      rw [if_pos (show (8 : Int32) ≤ Int32.ofNat 8 by decide)])]
    exact Rl.ret rfl
  rw [if_neg c1, if_neg c1]
  by_cases c2 : x = 2
  · rw [if_pos c2, if_pos c2]
    rw [f95_s (P := fun p => decide (¬ A 92 0 p = 0 ∧ ¬ A 93 0 p = 0 ∧ ¬ A 94 0 p = 0)) (fun p hp => ⟨_, f76_s a3 hp, by
      by_cases d1 : A 92 0 p = 0
      · simp [d1]
      · by_cases d2 : A 93 0 p = 0 <;> by_cases d3 : A 94 0 p = 0 <;> simp [d1, d2, d3] <;> decide⟩)]
    rw [cnt_lp (body := b165_123 A B) 8 (fun p => decide (¬ A 92 0 p = 0 ∧ ¬ A 94 0 p = 0)) (by decide) (fun c i hi => by
      unfold b165_123
      simp only
      rw [if_neg (fun q => absurd ((n_leL (by decide) (by omega)).mp q) (by omega)), if_neg (i_g hi (by decide)), if_neg (i_g hi (by decide)), i_cl (by omega)]
      by_cases d1 : A 92 0 i = 0
      · rw [if_pos d1, if_neg (by simp [d1])]
      · rw [if_neg d1]
        by_cases d2 : A 94 0 i = 0
        · rw [if_pos d2, if_neg (by simp [d2])]
        · rw [if_neg d2, if_pos (by simp [d1, d2])]) (fun c => by
      unfold b165_123
      simp only
      rw [if_pos (show (8 : Int32) ≤ Int32.ofNat 8 by decide)])]
    refine Rl.ret ?_
    simp only
    rw [cn_cg (n := 8) (fun p hp => ?_) 8 (by decide)]
    have h2 := (a6 p hp).2
    by_cases d1 : A 92 0 p = 0 <;> by_cases d3 : A 94 0 p = 0 <;> simp [d1, d3]
    exact h2 d3
  rw [if_neg c2, if_neg c2]
  by_cases c3 : x = 3
  · rw [if_pos c3, if_pos c3]
    unfold f28_75
    rw [cnt_lp (body := b28_75_10 (Int32.ofNat 128) I) 128 (fun p => decide (¬ A 108 0 p = 0)) (by decide) (fun c i hi => by
      unfold b28_75_10
      simp only
      rw [if_neg (fun q => absurd ((i_le (by omega) (by omega)).mp q) (by omega)), if_neg (i_g hi (by decide)), i_cl (by omega), (a8 i hi).1]
      by_cases d1 : A 108 0 i = 0
      · rw [if_pos d1, if_neg (by simp [d1])]
      · rw [if_neg d1, if_pos (by simp [d1])]) (fun c => by
      unfold b28_75_10
      simp only
      rw [if_pos (show Int32.ofNat 128 ≤ Int32.ofNat 128 by decide)])]
    rw [cnt_lp (body := b165_160 A B) 128 (fun p => decide (¬ A 108 0 p = 0)) (by decide) (fun c i hi => by
      unfold b165_160
      simp only
      rw [if_neg (fun q => absurd ((n_leL (by decide) (by omega)).mp q) (by omega)), if_neg (i_g hi (by decide)), i_cl (by omega)]
      by_cases d1 : A 108 0 i = 0
      · rw [if_pos d1, if_neg (by simp [d1])]
      · rw [if_neg d1, if_pos (by simp [d1])]) (fun c => by
      unfold b165_160
      simp only
      rw [if_pos (show (128 : Int32) ≤ Int32.ofNat 128 by decide)])]
    exact Rl.ret rfl
  rw [if_neg c3, if_neg c3]
  by_cases c4 : x = 4
  · rw [if_pos c4, if_pos c4]
    unfold f28_74
    rw [cnt_lp (body := b28_74_10 (Int32.ofNat 128) I) 128 (fun p => decide (¬ I 74 0 p = 0)) (by decide) (fun c i hi => by
      unfold b28_74_10
      simp only
      rw [if_neg (fun q => absurd ((i_le (by omega) (by omega)).mp q) (by omega)), if_neg (i_g hi (by decide)), i_cl (by omega)]
      by_cases d1 : I 74 0 i = 0
      · rw [if_pos d1, if_neg (by simp [d1])]
      · rw [if_neg d1, if_pos (by simp [d1])]) (fun c => by
      unfold b28_74_10
      simp only
      rw [if_pos (show Int32.ofNat 128 ≤ Int32.ofNat 128 by decide)])]
    rw [cnt_lp (body := b165_189 A B) 128 (fun p => decide (¬ I 74 0 p = 0)) (by decide) (fun c i hi => by
      unfold b165_189
      simp only
      obtain ⟨b, e1, e2⟩ := f139_s (A := A) (B := B) hi 500068609904
      rw [if_neg (fun q => absurd ((n_leL (by decide) (by omega)).mp q) (by omega)), e1]
      cases b with
      | false =>
        rw [bF, if_neg (fun q => absurd (e2.mpr ((a7 i hi).2.mp (of_decide_eq_true q)).2.1) (by decide))]
      | true =>
        have htp := e2.mp rfl
        obtain ⟨-, e3⟩ := ee_at a4 hi htp.1
        obtain ⟨-, v2⟩ := e3.2.2.2.2.2.2 25705
        obtain ⟨r, e4, e5⟩ := f142_s a4 (vl A B i 25705)
        rw [bT, v2, Option.bind_some, e4, Option.bind_some]
        by_cases d : r = Int32.ofNat i
        · rw [if_pos d, if_pos]
          refine decide_eq_true ((a7 i hi).2.mpr ?_)
          rcases e5 with ⟨rfl, -⟩ | ⟨s, hs, rfl, z1, z2⟩
          · exact absurd d.symm (i_m1 (by omega))
          · rw [i_eq (by omega) (by omega)] at d
            subst d
            exact ⟨z1.1, htp, z2⟩
        · rw [if_neg d, if_neg]
          intro q
          apply d
          obtain ⟨z1, z2, z3⟩ := (a7 i hi).2.mp (of_decide_eq_true q)
          exact Fi_eq e5 (.inr ⟨i, hi, rfl, ⟨z1, z2, rfl⟩, z3⟩) (fun t _ => Iff.rfl)) (fun c => by
      unfold b165_189
      simp only
      rw [if_pos (show (128 : Int32) ≤ Int32.ofNat 128 by decide)])]
    exact Rl.ret rfl
  rw [if_neg c4, if_neg c4]
  obtain ⟨n, hn, h1, h2, h3, h4⟩ := a9
  by_cases c5 : x = 5
  · rw [if_pos c5, if_pos c5]
    exact Rl.ret (h1.trans h2.symm)
  rw [if_neg c5, if_neg c5]
  by_cases c6 : x = 6
  · rw [if_pos c6, if_pos c6]
    unfold f112 f28_80
    rw [cnt_lp (body := b28_80_10 (Int32.ofNat 24) I) 24 (fun p => decide (¬ I 80 0 p = 0)) (by decide) (fun c i hi => by
      unfold b28_80_10
      simp only
      rw [if_neg (fun q => absurd ((i_le (by omega) (by omega)).mp q) (by omega)), if_neg (i_g hi (by decide)), i_cl (by omega)]
      by_cases d1 : I 80 0 i = 0
      · rw [if_pos d1, if_neg (by simp [d1])]
      · rw [if_neg d1, if_pos (by simp [d1])]) (fun c => by
      unfold b28_80_10
      simp only
      rw [if_pos (show Int32.ofNat 24 ≤ Int32.ofNat 24 by decide)])]
    rw [cnt_lp (body := b165_241 A B) n (fun p => !decide (¬ I 80 0 p = 0)) (by omega) (fun c i hi => by
      unfold b165_241
      simp only
      rw [h2, if_neg (fun q => absurd ((i_le (by omega) (by omega)).mp q) (by omega)), if_neg (i_g (n := i) (N := 24) (by omega) (by decide)), i_cl (by omega), ← (h3 i hi).2.2.2.1]
      by_cases d1 : I 80 0 i = 0
      · rw [if_pos d1, if_pos (by simp [d1])]
      · rw [if_neg d1, if_neg (by simp [d1])]) (fun c => by
      unfold b165_241
      simp only
      rw [h2, if_pos ((i_le (by omega) (by omega)).mpr (by omega))])]
    refine Rl.ret ?_
    simp only
    rw [h1, cn_hi (n := n) 24 hn (fun k k1 k2 => by simp [h4 k k1 k2]), i_sub (cn_le _ _), cn_fl]
  rw [if_neg c6, if_neg c6]
  by_cases c7 : x = 7
  · rw [if_pos c7, if_pos c7]
    exact Rl.ret a10.1
  rw [if_neg c7, if_neg c7]
  by_cases c8 : x = 8
  · rw [if_pos c8, if_pos c8]
    exact Rl.ret a11.1
  rw [if_neg c8, if_neg c8]
  by_cases c9 : x = 9
  · rw [if_pos c9, if_pos c9]
    obtain ⟨m, hm, d1, d2, -⟩ := a1
    exact Rl.ret (d1.trans d2.symm)
  rw [if_neg c9, if_neg c9]
  exact Rl.ret rfl
