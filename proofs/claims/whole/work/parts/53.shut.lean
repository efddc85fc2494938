/-! shutdown -/
/-- another active one needs it -/
def ned (A : mI) (p : Nat) : Prop := ∃ q, q < 8 ∧ q ≠ p ∧ ¬ A 94 0 q = 0 ∧ ∃ n k, n ≤ 3 ∧ A 83 0 q = Int32.ofNat n ∧ k < n ∧ A 84 0 (3 * q + k) = Int32.ofNat p
theorem f40_s {I A : mI} {q p : Nat} (hq : q < 8) (hp : p < 8) (h : g_nd I A (q + 1) q) : ∃ b, f40 (q + 1) (Int32.ofNat p) I = some b ∧ (b = true ↔ ∃ n k, n ≤ 3 ∧ A 83 0 q = Int32.ofNat n ∧ k < n ∧ A 84 0 (3 * q + k) = Int32.ofNat p) := by
  obtain ⟨n, hn, h1, h2, h3⟩ := h
  have hl : Sm (mx_lp (b40_2 (q + 1) (Int32.ofNat p) I) mx_fu (0 : Int32)) (fun r => Sum.elim (fun _ => false) id r = true ↔ ∃ k, k < n ∧ A 84 0 (3 * q + k) = Int32.ofNat p) := by
    refine Sm.lp (fun s => ∃ k, k ≤ n ∧ s = Int32.ofNat k ∧ ∀ j, j < k → ¬ A 84 0 (3 * q + j) = Int32.ofNat p) (fun s => 3 - s.toNatClampNeg) ?_ mx_fu ⟨0, by omega, rfl, fun j hj => absurd hj (by omega)⟩ (by decide)
    rintro _ ⟨k, hk, rfl, hm⟩
    unfold b40_2
    rw [h1]
    rcases Nat.lt_or_ge k n with c | c
    · obtain ⟨⟨q2, hq8, d1, d2⟩, d3, d4⟩ := h3 k c
      rw [if_neg (fun q => absurd ((i_le (by omega) (by omega)).mp q) (by omega)), if_neg (i_g (n := k) (N := 3) (by omega) (by decide)), i_cl (by omega), d1, ← d2]
      by_cases c2 : A 84 0 (3 * q + k) = Int32.ofNat p
      · rw [if_pos c2]
        exact Sm.ret ⟨fun _ => ⟨k, c, c2⟩, fun _ => rfl⟩
      · rw [if_neg c2]
        refine Sm.ret ⟨⟨k + 1, by omega, n_addR k 1, fun j hj => ?_⟩, ?_⟩
        · by_cases hjk : j = k
          · subst hjk
            exact c2
          · exact hm j (by omega)
        · first | exact m_dc (by omega) (by omega) | exact m_dd (by omega) (by omega)
    · have e : k = n := by omega
      subst e
      rw [if_pos ((i_le (by omega) (by omega)).mpr (by omega))]
      exact Sm.ret ⟨fun q => absurd (show false = true from q) (by decide), fun ⟨j, hj, q⟩ => absurd q (hm j hj)⟩
  obtain ⟨r, e1, e2⟩ := hl
  refine ⟨_, ?_, e2.trans ⟨fun ⟨k, hk, z⟩ => ⟨n, k, hn, h2, hk, z⟩, fun ⟨n2, k, hn2, z1, hk, z⟩ => ⟨k, ?_, z⟩⟩⟩
  · unfold f40
    rw [e1, Option.bind_some]
    cases r <;> rfl
  · rw [h2, i_eq (by omega) (by omega)] at z1
    omega
theorem f94_s {I A : mI} {J B : mJ} {p : Nat} (hp : p < 8) (a2 : g_wir I A J B) (a3 : g_plug I A) : ∃ b, f94 (Int32.ofNat p) I = some b ∧ (b = true ↔ ned A p) := by
  have hl : Sm (mx_lp (b94_2 (Int32.ofNat p) I) mx_fu (0 : Int32)) (fun r => Sum.elim (fun _ => false) id r = true ↔ ned A p) := by
    refine Sm.lp (fun s => ∃ k, k ≤ 8 ∧ s = Int32.ofNat k ∧ ∀ q, q < k → ¬ (q ≠ p ∧ ¬ A 94 0 q = 0 ∧ ∃ n k, n ≤ 3 ∧ A 83 0 q = Int32.ofNat n ∧ k < n ∧ A 84 0 (3 * q + k) = Int32.ofNat p)) (fun s => 8 - s.toNatClampNeg) ?_ mx_fu ⟨0, by omega, rfl, fun j hj => absurd hj (by omega)⟩ (by decide)
    rintro _ ⟨k, hk, rfl, hm⟩
    have nx : ¬ (k ≠ p ∧ ¬ A 94 0 k = 0 ∧ ∃ n k1, n ≤ 3 ∧ A 83 0 k = Int32.ofNat n ∧ k1 < n ∧ A 84 0 (3 * k + k1) = Int32.ofNat p) → k < 8 → Sm (some (Sum.inl (Int32.ofNat k + 1) : Int32 ⊕ (Int32 ⊕ Bool))) (fun r => Sum.elim (fun s' => (∃ k, k ≤ 8 ∧ s' = Int32.ofNat k ∧ ∀ q, q < k → ¬ (q ≠ p ∧ ¬ A 94 0 q = 0 ∧ ∃ n k, n ≤ 3 ∧ A 83 0 q = Int32.ofNat n ∧ k < n ∧ A 84 0 (3 * q + k) = Int32.ofNat p)) ∧ 8 - s'.toNatClampNeg < 8 - (Int32.ofNat k).toNatClampNeg) (fun r => Sum.elim (fun _ => false) id r = true ↔ ned A p) r) := fun z c => by
      refine Sm.ret ⟨⟨k + 1, by omega, n_addR k 1, fun j hj => ?_⟩, m_dd c (by omega)⟩
      by_cases hjk : j = k
      · subst hjk
        exact z
      · exact hm j (by omega)
    rcases Nat.lt_or_ge k 8 with c | c
    · have e0 : b94_2 (Int32.ofNat p) I (Int32.ofNat k) = if k = p then some (.inl (Int32.ofNat k + 1)) else if A 94 0 k = 0 then some (.inl (Int32.ofNat k + 1)) else (f40 (k + 1) (Int32.ofNat p) I).bind fun u => if u = true then some (.inr (.inr true)) else some (.inl (Int32.ofNat k + 1)) := by
        unfold b94_2
        rw [if_neg (fun q => absurd ((n_leL (by decide) (by omega)).mp q) (by omega))]
        by_cases ckp : k = p
        · rw [if_pos (by rw [ckp]), if_pos ckp]
        · rw [if_neg (fun q => ckp ((i_eq (by omega) (by omega)).mp q)), if_neg ckp, if_neg (i_g c (by decide)), if_neg (i_g c (by decide)), i_cl (by omega), (a3 k c).2.2.2.2.1]
      rw [e0]
      by_cases ckp : k = p
      · rw [if_pos ckp]
        exact nx (fun z => z.1 ckp) c
      · rw [if_neg ckp]
        by_cases c3 : A 94 0 k = 0
        · rw [if_pos c3]
          exact nx (fun z => z.2.1 c3) c
        · obtain ⟨b, e1, e2⟩ := f40_s c hp (nd_of a2 c)
          rw [if_neg c3, e1]
          cases b with
          | true =>
            rw [bT]
            exact Sm.ret ⟨fun _ => ⟨k, c, ckp, c3, e2.mp rfl⟩, fun _ => rfl⟩
          | false =>
            rw [bF]
            exact nx (fun z => absurd (e2.mpr z.2.2) (by decide)) c
    · have e : k = 8 := by omega
      subst e
      unfold b94_2
      rw [if_pos (by decide)]
      exact Sm.ret ⟨fun q => absurd q (by decide), fun ⟨q, hq, z⟩ => absurd z (hm q hq)⟩
  obtain ⟨r, e1, e2⟩ := hl
  refine ⟨_, ?_, e2⟩
  unfold f94
  rw [e1, Option.bind_some]
  cases r <;> rfl
/-- the greatest, from p on -/
def gr8 (P : Nat → Prop) (lo hi : Nat) (r : Int32) : Prop := (r = -1 ∧ ∀ q, lo ≤ q → q < hi → ¬ P q) ∨ ∃ g, lo ≤ g ∧ g < hi ∧ r = Int32.ofNat g ∧ P g ∧ ∀ q, g < q → q < hi → ¬ P q
theorem gr8_eq {P : Nat → Prop} {r s : Int32} (h : gr8 P 0 8 r) (h2 : gr8 P 0 8 s) : r = s := by
  rcases h with ⟨rfl, h⟩ | ⟨g, -, hg, rfl, h3, h4⟩ <;> rcases h2 with ⟨rfl, h2⟩ | ⟨g2, -, hg2, rfl, h5, h6⟩
  · rfl
  · exact absurd h5 (h g2 (by omega) hg2)
  · exact absurd h3 (h2 g (by omega) hg)
  · have q1 : ¬ g < g2 := fun q => h4 g2 q hg2 h5
    have q2 : ¬ g2 < g := fun q => h6 g q hg h3
    have q3 : g = g2 := by omega
    rw [q3]
/-- the next one to stop -/
def nxs (A : mI) (r : Int32) : Prop := (∃ g, g < 8 ∧ r = Int32.ofNat g ∧ gr8 (fun q => ¬ A 94 0 q = 0 ∧ ¬ ned A q) 0 8 r) ∨ ((∀ q, q < 8 → ¬ (¬ A 94 0 q = 0 ∧ ¬ ned A q)) ∧ gr8 (fun q => ¬ A 94 0 q = 0) 0 8 r)
theorem nxs_eq {A : mI} {r s : Int32} (h : nxs A r) (h2 : nxs A s) : r = s := by
  rcases h with ⟨g, hg, e, h⟩ | ⟨h0, h⟩ <;> rcases h2 with ⟨g2, hg2, e2, h2⟩ | ⟨h02, h2⟩
  · exact gr8_eq h h2
  · rcases h with ⟨h, -⟩ | ⟨g', -, hg', -, h3, -⟩
    · rw [e] at h
      exact absurd h (i_m1 (by omega))
    · exact absurd h3 (h02 g' hg')
  · rcases h2 with ⟨h2, -⟩ | ⟨g', -, hg', -, h3, -⟩
    · rw [e2] at h2
      exact absurd h2 (i_m1 (by omega))
    · exact absurd h3 (h0 g' hg')
  · exact gr8_eq h h2
theorem f93_s {I A : mI} {J B : mJ} (a2 : g_wir I A J B) (a3 : g_plug I A) : Sm (f93 I) (nxs A) := by
  have hl : Sm (mx_lp (b93_5 I) mx_fu ((-1 : Int32), (7 : Int32))) (fun r => nxs A (Sum.elim (fun w => w.1) id r)) := by
    refine Sm.lp (fun s => ∃ j, j ≤ 8 ∧ s.2 = Int32.ofNat j + -1 ∧ (∀ q, j ≤ q → q < 8 → ¬ (¬ A 94 0 q = 0 ∧ ¬ ned A q)) ∧ gr8 (fun q => ¬ A 94 0 q = 0) j 8 s.1) (fun s => (s.2 + 1).toNatClampNeg) ?_ mx_fu ⟨8, by decide, rfl, fun q h1 h2 => absurd h1 (by omega), .inl ⟨rfl, fun q h1 h2 => absurd h1 (by omega)⟩⟩ (by decide)
    rintro ⟨g0, _⟩ ⟨j, hj, rfl, h1, h2⟩
    simp only at h1 h2
    have e1 : Int32.ofNat j + -1 + 1 = Int32.ofNat j := by rw [Int32.add_assoc, show (-1 : Int32) + 1 = 0 from rfl, Int32.add_zero]
    unfold b93_5
    simp only
    rw [e1, i_cl (by omega)]
    by_cases c0 : j = 0
    · subst c0
      rw [if_pos (by decide)]
      exact Sm.ret (.inr ⟨fun q hq => h1 q (by omega) hq, h2⟩)
    · have e2 : Int32.ofNat j + -1 = Int32.ofNat (j - 1) := i_dec (by omega)
      have hjl : j - 1 < 8 := by omega
      have e3 : Int32.ofNat (j - 1) + -1 + 1 = Int32.ofNat (j - 1) := by rw [Int32.add_assoc, show (-1 : Int32) + 1 = 0 from rfl, Int32.add_zero]
      rw [e2, if_neg (i_nn (by omega)), if_neg (i_g hjl (by decide)), i_cl (by omega), (a3 _ hjl).2.2.2.2.1]
      by_cases c1 : A 94 0 (j - 1) = 0
      · rw [if_pos c1]
        refine Sm.ret ⟨⟨j - 1, by omega, rfl, fun q q1 q2 => ?_, ?_⟩, ?_⟩
        · by_cases cq : q = j - 1
          · subst cq
            exact fun z => z.1 c1
          · exact h1 q (by omega) q2
        · rcases h2 with ⟨z1, z2⟩ | ⟨g, g1, g2, g3, g4, g5⟩
          · refine .inl ⟨z1, fun q q1 q2 => ?_⟩
            by_cases cq : q = j - 1
            · subst cq
              exact fun z => z c1
            · exact z2 q (by omega) q2
          · exact .inr ⟨g, by omega, g2, g3, g4, g5⟩
        · simp only
          rw [e3, i_cl (by omega)]
          omega
      · obtain ⟨b, f1, f2⟩ := f94_s hjl a2 a3
        rw [if_neg c1, f1]
        cases b with
        | true =>
          have hned := f2.mp rfl
          rw [bT]
          have hmx : ∃ r, f167 g0 (Int32.ofNat (j - 1)) = some r ∧ gr8 (fun q => ¬ A 94 0 q = 0) (j - 1) 8 r := by
            unfold f167
            rcases h2 with ⟨z1, z2⟩ | ⟨g, g1, g2, g3, g4, g5⟩
            · rw [z1, if_pos (by
                rw [Int32.lt_iff_toInt_lt, i_ti (by omega)]
                have : (-1 : Int32).toInt = -1 := rfl
                omega)]
              refine ⟨_, rfl, .inr ⟨j - 1, by omega, hjl, rfl, c1, fun q q1 q2 => z2 q (by omega) q2⟩⟩
            · rw [g3, if_neg (fun q => by have := (i_lt (by omega) (by omega)).mp q; omega)]
              exact ⟨_, rfl, .inr ⟨g, by omega, g2, rfl, g4, g5⟩⟩
          obtain ⟨r, r1, r2⟩ := hmx
          rw [r1, Option.bind_some]
          refine Sm.ret ⟨⟨j - 1, by omega, rfl, fun q q1 q2 => ?_, r2⟩, ?_⟩
          · by_cases cq : q = j - 1
            · subst cq
              exact fun z => z.2 hned
            · exact h1 q (by omega) q2
          · simp only
            rw [e3, i_cl (by omega)]
            omega
        | false =>
          have hned : ¬ ned A (j - 1) := fun z => absurd (f2.mpr z) (by decide)
          rw [bF]
          exact Sm.ret (.inl ⟨j - 1, hjl, rfl, .inr ⟨j - 1, by omega, hjl, rfl, ⟨c1, hned⟩, fun q q1 q2 => h1 q (by omega) q2⟩⟩)
  obtain ⟨r, e1, e2⟩ := hl
  refine ⟨_, ?_, e2⟩
  unfold f93
  rw [e1, Option.bind_some]
  cases r <;> rfl
