/-! looking for a class -/
theorem cf_s {I A : mI} {J B : mJ} {q : Nat} (a2 : g_wir I A J B) (hq : q < 8) (hi : ¬ A 92 0 q = 0) (x1 x4 : Int32) (w : Int64) : ∃ n, n ≤ 4 ∧ A 87 0 q = Int32.ofNat n ∧ ((f86 (Int32.ofNat q) w I J = some (-1) ∧ ∃ z, mx_lp (b152_45 x1 w x4 (Int32.ofNat q) A B) mx_fu (0 : Int32) = some (.inl z)) ∨ ∃ k, k < n ∧ f86 (Int32.ofNat q) w I J = some (Int32.ofNat (4 * q + k)) ∧ mx_lp (b152_45 x1 w x4 (Int32.ofNat q) A B) mx_fu (0 : Int32) = some (.inr (Int32.ofNat (4 * q + k)))) := by
  obtain ⟨n, hn, h1, h2, h3⟩ := cl_of a2 hq
  refine ⟨n, hn, h2, ?_⟩
  have hC := fst_lp (body := b39_2 (q + 1) w I J) 0 0 n (fun k => decide (B 90 0 (4 * q + k) = w)) (fun k => .inr (Int32.ofNat k)) (.inl (Int32.ofNat n)) (by omega) (by omega) (by omega) (fun i _ hi => by
      unfold b39_2
      rw [Nat.zero_add, h1, if_neg (fun q => absurd ((i_le (by omega) (by omega)).mp q) (by omega)), if_neg (i_g (show i < 4 by omega) (by decide)), i_cl (by omega), (h3 i hi).1]
      by_cases c : B 90 0 (4 * q + i) = w
      · rw [if_pos ((c_cmp _ _).mpr c), decide_eq_true c, if_pos rfl]
      · rw [if_neg (fun z => c ((c_cmp _ _).mp z)), decide_eq_false c, if_neg (by decide)]) (by
      unfold b39_2
      rw [Nat.zero_add, h1, if_pos ((i_le (by omega) (by omega)).mpr (Nat.le_refl n))])
  have hM := fst_lp (body := b152_45 x1 w x4 (Int32.ofNat q) A B) 0 0 n (fun k => decide (B 90 0 (4 * q + k) = w)) (fun k => .inr (Int32.ofNat (4 * q + k))) (.inl (Int32.ofNat n)) (by omega) (by omega) (by omega) (fun i _ hi2 => by
      unfold b152_45
      have e4 : (4 : Int32) * Int32.ofNat q + Int32.ofNat i = Int32.ofNat (4 * q + i) := by
        rw [n_mulL 4 q, i_add]
      rw [Nat.zero_add, e4, i_cl (n := q) (by omega), if_neg (fun z => absurd (show q < 9 by omega) (by rcases z with z | z; exact absurd z (i_nn (by omega)); omega)), h2, if_neg (fun q => absurd ((i_le (by omega) (by omega)).mp q) (by omega)), if_neg (fun z => absurd hq (by rcases z with z | z; exact absurd z (i_nn (by omega)); omega)), if_neg hi, if_neg (i_g (show 4 * q + i < 36 by omega) (by decide)), i_cl (by omega)]
      by_cases c : B 90 0 (4 * q + i) = w
      · rw [if_pos ((c_cmp _ _).mpr c), decide_eq_true c, if_pos rfl]
      · rw [if_neg (fun z => c ((c_cmp _ _).mp z)), decide_eq_false c, if_neg (by decide)]) (by
      unfold b152_45
      rw [Nat.zero_add, i_cl (n := q) (by omega), if_neg (fun z => absurd (show q < 9 by omega) (by rcases z with z | z; exact absurd z (i_nn (by omega)); omega)), h2, if_pos ((i_le (by omega) (by omega)).mpr (Nat.le_refl n))])
  have e86 : ∀ v, mx_lp (b39_2 (q + 1) w I J) mx_fu (0 : Int32) = some v → f86 (Int32.ofNat q) w I J = if Sum.elim (fun _ => (-1 : Int32)) id v = -1 then some (-1) else some (Int32.ofNat q * 4 + Sum.elim (fun _ => (-1 : Int32)) id v) := fun v hv => by
    unfold f86 f39
    rw [if_neg (i_g hq (by decide)), i_cl (by omega), hv]
    cases v <;> rfl
  rcases hC with ⟨g1, g2⟩ | ⟨i, -, hi1, g1, g2, g3⟩
  · left
    rcases hM with ⟨k1, -⟩ | ⟨j, -, hj, k1, k2, -⟩
    · refine ⟨?_, _, k1⟩
      rw [e86 _ g1]
      rfl
    · rw [g2 j (by omega) hj] at k2
      exact absurd k2 (by decide)
  · right
    rcases hM with ⟨k1, k2⟩ | ⟨j, -, hj, k1, k2, k3⟩
    · rw [k2 i (by omega) hi1] at g2
      exact absurd g2 (by decide)
    · have e : i = j := by
        rcases Nat.lt_trichotomy i j with z | z | z
        · rw [k3 i (by omega) z] at g2
          exact absurd g2 (by decide)
        · exact z
        · rw [g3 j (by omega) z] at k2
          exact absurd k2 (by decide)
      subst e
      refine ⟨i, hi1, ?_, k1⟩
      rw [e86 _ g1]
      have e1 : Int32.ofNat q * 4 = Int32.ofNat (q * 4) := n_mulR q 4
      show (if Int32.ofNat i = -1 then some (-1) else some (Int32.ofNat q * 4 + Int32.ofNat i)) = _
      rw [if_neg (i_m1 (by omega)), e1, i_add, Nat.mul_comm]
/-- a class that was found, in a plugin that is resolved -/
def fnd (A : mI) (r : Int32) : Prop := r = -1 ∨ ∃ q k n, q < 8 ∧ n ≤ 4 ∧ A 87 0 q = Int32.ofNat n ∧ k < n ∧ r = Int32.ofNat (4 * q + k) ∧ ¬ A 93 0 q = 0
theorem f85_s {I A : mI} {J B : mJ} {p : Nat} (a2 : g_wir I A J B) (a6 : ∀ p, p < 8 → ¬ A 93 0 p = 0 → ¬ A 92 0 p = 0 ∧ ∀ n k, n ≤ 3 → A 83 0 p = Int32.ofNat n → k < n → g_mt A p k) (hp : p < 8) (hr : ¬ A 93 0 p = 0) (w : Int64) : ∃ r, f85 (Int32.ofNat p) w I J = some r ∧ f152 (Int32.ofNat p) w A B = some r ∧ fnd A r := by
  obtain ⟨n, hn, h1, h2, h3⟩ := nd_of a2 hp
  obtain ⟨r1, r2⟩ := a6 p hp hr
  -- what is found in the plugin of a place
  have hq : ∀ i, i < n → ∃ q, q < 8 ∧ I 65 (p + 1) i = Int32.ofNat q ∧ A 84 0 (3 * p + i) = Int32.ofNat q ∧ ¬ A 93 0 q = 0 ∧ ¬ A 92 0 q = 0 := fun i hi => by
    obtain ⟨⟨q, q1, q2, q3⟩, -, -⟩ := h3 i hi
    have z := (r2 n i hn h2 hi q q1 q3).1
    exact ⟨q, q1, q2, q3, z, (a6 q q1 z).1⟩
  have e9 : ∀ q, q < 8 → ¬ (Int32.ofNat q < 0 ∨ 9 ≤ (Int32.ofNat q).toNatClampNeg) := fun q hq z => by
    rw [i_cl (by omega)] at z
    rcases z with z | z
    · exact absurd z (i_nn (by omega))
    · omega
  have hC := fst_lp (body := b85_14 (Int32.ofNat p) w (p + 1) I J) 0 0 n (fun i => decide (¬ (f86 (I 65 (p + 1) i) w I J).getD (-1) = -1)) (fun i => .inr ((f86 (I 65 (p + 1) i) w I J).getD (-1))) (.inl (Int32.ofNat n)) (by omega) (by omega) (by omega) (fun i _ hi => by
      obtain ⟨q, q1, q2, q3, q4, q5⟩ := hq i hi
      unfold b85_14
      rw [Nat.zero_add, h1, if_neg (fun q => absurd ((i_le (by omega) (by omega)).mp q) (by omega)), if_neg (i_g (show i < 3 by omega) (by decide)), i_cl (by omega), q2]
      obtain ⟨m, hm, m1, ⟨m2, -⟩ | ⟨k, hk, m2, -⟩⟩ := cf_s a2 q1 q5 0 0 w
      · rw [m2, Option.bind_some, if_pos rfl]
        rfl
      · rw [m2, Option.bind_some, if_neg (i_m1 (by omega))]
        have z : ¬ Int32.ofNat (4 * q + k) = -1 := i_m1 (by omega)
        simp only [Option.getD_some]
        rw [decide_eq_true z, if_pos rfl]) (by
      unfold b85_14
      rw [Nat.zero_add, h1, if_pos ((i_le (by omega) (by omega)).mpr (Nat.le_refl n))])
  have hM := fst_lp (body := b152_3 (Int32.ofNat p) w A B) 0 0 (n + 1) (fun i => decide (¬ (f86 (if i < n then I 65 (p + 1) i else Int32.ofNat p) w I J).getD (-1) = -1)) (fun i => .inr ((f86 (if i < n then I 65 (p + 1) i else Int32.ofNat p) w I J).getD (-1))) (.inl (Int32.ofNat (n + 1))) (by omega) (by omega) (by omega) (fun i _ hi => by
      have key : ∀ q, q < 8 → ¬ A 92 0 q = 0 → j152_40 (Int32.ofNat p) w (Int32.ofNat i) (Int32.ofNat q) A B = if decide (¬ (f86 (Int32.ofNat q) w I J).getD (-1) = -1) = true then some (.inr (.inr ((f86 (Int32.ofNat q) w I J).getD (-1)))) else some (.inl (Int32.ofNat i + 1)) := fun q q1 q5 => by
        unfold j152_40
        obtain ⟨m, hm, m1, ⟨m2, z, m3⟩ | ⟨k, hk, m2, m3⟩⟩ := cf_s a2 q1 q5 (Int32.ofNat p) (Int32.ofNat i) w
        · rw [m2, m3]
          rfl
        · have z : ¬ Int32.ofNat (4 * q + k) = -1 := i_m1 (by omega)
          rw [m2, m3]
          simp only [Option.getD_some]
          rw [decide_eq_true z, if_pos rfl]
          rfl
      unfold b152_3
      rw [Nat.zero_add]
      simp only [if_neg (e9 p hp)]
      rw [i_cl (by omega), h2, if_neg (fun q => absurd ((i_lt (by omega) (by omega)).mp q) (by omega))]
      by_cases c : i < n
      · obtain ⟨q, q1, q2, q3, q4, q5⟩ := hq i c
        have e3 : (3 : Int32) * Int32.ofNat p + Int32.ofNat i = Int32.ofNat (3 * p + i) := by
          rw [n_mulL 3 p, i_add]
        rw [if_neg (fun q => absurd ((i_le (by omega) (by omega)).mp q) (by omega)), e3, if_neg (i_g (show 3 * p + i < 27 by omega) (by decide)), i_cl (by omega), q3, key q q1 q5]
        simp only [if_pos c, q2]
      · rw [if_pos ((i_le (by omega) (by omega)).mpr (by omega)), key p hp r1]
        simp only [if_neg c]) (by
      unfold b152_3
      rw [Nat.zero_add, if_neg (e9 p hp), i_cl (by omega), h2, if_pos ((i_lt (by omega) (by omega)).mpr (by omega))])
  have fin : ∀ q v, q < 8 → ¬ A 93 0 q = 0 → f86 (Int32.ofNat q) w I J = some v → fnd A v := fun q v q1 q4 hv => by
    obtain ⟨m, hm, m1, ⟨m2, -⟩ | ⟨k, hk, m2, -⟩⟩ := cf_s a2 q1 (a6 q q1 q4).1 0 0 w
    · rw [m2] at hv
      exact .inl (Option.some.inj hv).symm
    · rw [m2] at hv
      exact .inr ⟨q, k, m, q1, hm, m1, hk, (Option.some.inj hv).symm, q4⟩
  have tot : ∀ q, q < 8 → ¬ A 92 0 q = 0 → ∃ v, f86 (Int32.ofNat q) w I J = some v := fun q q1 q5 => by
    obtain ⟨m, hm, m1, ⟨m2, -⟩ | ⟨k, hk, m2, -⟩⟩ := cf_s a2 q1 q5 0 0 w
    · exact ⟨_, m2⟩
    · exact ⟨_, m2⟩
  unfold f85 f152
  rw [if_neg (i_g hp (by decide)), i_cl (by omega)]
  rcases hC with ⟨g1, g2⟩ | ⟨i, -, hi1, g1, g2, g3⟩
  · obtain ⟨v, hv⟩ := tot p hp r1
    have gC : mx_lp (b85_14 (Int32.ofNat p) w (p + 1) I J) mx_fu (0 : Int32) = some (.inl (Int32.ofNat n)) := g1
    rw [gC, Option.bind_some]
    refine ⟨v, ?_, ?_, fin p v hp hr hv⟩
    · simp only [Sum.elim_inl]
      rw [hv]
      rfl
    · rcases hM with ⟨k1, k2⟩ | ⟨j, -, hj, k1, k2, -⟩
      · have z := k2 n (by omega) (by omega)
        simp only [if_neg (Nat.lt_irrefl n), hv, Option.getD_some] at z
        have k3 : mx_lp (b152_3 (Int32.ofNat p) w A B) mx_fu (0 : Int32) = some (.inl (Int32.ofNat (n + 1))) := k1
        rw [k3]
        have z2 : v = -1 := by
          by_cases c : v = -1
          · exact c
          · rw [decide_eq_true c] at z
            exact absurd z (by decide)
        rw [z2]
        rfl
      · by_cases c : j < n
        · simp only [if_pos c] at k2
          rw [g2 j (by omega) c] at k2
          exact absurd k2 (by decide)
        · have k3 : mx_lp (b152_3 (Int32.ofNat p) w A B) mx_fu (0 : Int32) = some (.inr ((f86 (if j < n then I 65 (p + 1) j else Int32.ofNat p) w I J).getD (-1))) := k1
          rw [k3, if_neg c, hv]
          rfl
  · obtain ⟨q, q1, q2, q3, q4, q5⟩ := hq i hi1
    obtain ⟨v, hv⟩ := tot q q1 q5
    have gC : mx_lp (b85_14 (Int32.ofNat p) w (p + 1) I J) mx_fu (0 : Int32) = some (.inr ((f86 (I 65 (p + 1) i) w I J).getD (-1))) := g1
    rw [gC, Option.bind_some, q2, hv]
    refine ⟨v, rfl, ?_, fin q v q1 q4 hv⟩
    rcases hM with ⟨k1, k2⟩ | ⟨j, -, hj, k1, k2, k4⟩
    · have z := k2 i (by omega) (by omega)
      simp only [if_pos hi1] at z
      rw [z] at g2
      exact absurd g2 (by decide)
    · have e : j = i := by
        rcases Nat.lt_trichotomy j i with z | z | z
        · simp only [if_pos (show j < n by omega)] at k2
          rw [g3 j (by omega) z] at k2
          exact absurd k2 (by decide)
        · exact z
        · have y := k4 i (by omega) z
          simp only [if_pos hi1] at y
          rw [y] at g2
          exact absurd g2 (by decide)
      subst e
      have k3 : mx_lp (b152_3 (Int32.ofNat p) w A B) mx_fu (0 : Int32) = some (.inr ((f86 (if j < n then I 65 (p + 1) j else Int32.ofNat p) w I J).getD (-1))) := k1
      rw [k3, if_pos hi1, q2, hv]
      rfl
