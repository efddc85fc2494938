/-! the same, in the reference -/
theorem rc1 {A : mI} {p : Nat} (hp : p < 8) (A0 : mI) (B0 : mJ) : Sm (mx_lp (b126_117 (Int32.ofNat p) A0 B0) mx_fu ((0 : Int32), A)) (fun r => fr r.2 A [84, 85, 86] ∧ ∀ t, (t = 84 ∨ t = 85 ∨ t = 86) → (∀ i, i < 3 → r.2 t 0 (3 * p + i) = A t 0 (24 + i)) ∧ ∀ k, (k < 3 * p ∨ 3 * p + 3 ≤ k) → r.2 t 0 k = A t 0 k) := by
  refine Sm.lp (fun s => ∃ i, i ≤ 3 ∧ s.1 = Int32.ofNat i ∧ fr s.2 A [84, 85, 86] ∧ ∀ t, (t = 84 ∨ t = 85 ∨ t = 86) → (∀ j, j < i → s.2 t 0 (3 * p + j) = A t 0 (24 + j)) ∧ ∀ k, (k < 3 * p ∨ 3 * p + 3 ≤ k) → s.2 t 0 k = A t 0 k) (fun s => 3 - s.1.toNatClampNeg) ?_ mx_fu ⟨0, by omega, rfl, fr.rf _ _, fun t _ => ⟨fun j hj => absurd hj (by omega), fun _ _ => rfl⟩⟩ (by show 3 - 0 < 1000; decide)
  rintro ⟨_, A'⟩ ⟨i, hi, rfl, f, hm⟩
  simp only at f hm
  unfold b126_117
  simp only
  rcases Nat.lt_or_ge i 3 with c | c
  · have e3 : (3 : Int32) * Int32.ofNat p + Int32.ofNat i = Int32.ofNat (3 * p + i) := by
      rw [n_mulL 3 p, i_add]
    have e24 : (24 : Int32) + Int32.ofNat i = Int32.ofNat (24 + i) := n_addL 24 i
    have g1 := i_g (show 24 + i < 27 by omega) (show 27 ≤ 2147483648 by decide)
    have g2 := i_g (show 3 * p + i < 27 by omega) (show 27 ≤ 2147483648 by decide)
    have k1 : (Int32.ofNat (24 + i)).toNatClampNeg = 24 + i := i_cl (by omega)
    have k2 : (Int32.ofNat (3 * p + i)).toNatClampNeg = 3 * p + i := i_cl (by omega)
    rw [if_neg (fun z => by have := (n_leL (by decide) (by omega)).mp z; omega)]
    simp only [e3, e24]
    simp only [if_neg g1, if_neg g2]
    simp only [k1, k2]
    refine Sm.ret ⟨⟨i + 1, by omega, n_addR i 1, ((f.up (by decide)).up (by decide)).up (by decide), fun t ht => ?_⟩, m_dd (by omega) (by omega)⟩
    simp only
    have r85 : ∀ v k, (mx_u3 A' 84 0 (3 * p + i) v) 85 0 k = A' 85 0 k := fun v k => by rw [u3_ne (by decide)]
    have val : ∀ k, (mx_u3 (mx_u3 (mx_u3 A' 84 0 (3 * p + i) (A' 84 0 (24 + i))) 85 0 (3 * p + i) (A' 85 0 (24 + i))) 86 0 (3 * p + i) (A' 86 0 (24 + i))) t 0 k = if k = 3 * p + i then A' t 0 (24 + i) else A' t 0 k := fun k => by
      rcases ht with rfl | rfl | rfl
      · rw [u3_ne (by decide), u3_ne (by decide), u3_at]
        simp only [true_and]
      · rw [u3_ne (by decide), u3_at, u3_ne (by decide)]
        simp only [true_and]
      · rw [u3_at, u3_ne (by decide), u3_ne (by decide)]
        simp only [true_and]
    obtain ⟨m1, m2⟩ := hm t ht
    refine ⟨fun j hj => ?_, fun k hk => ?_⟩
    · rw [val]
      by_cases q : j = i
      · rw [if_pos (by omega), q]
        exact m2 (24 + i) (by omega)
      · rw [if_neg (by omega)]
        exact m1 j (by omega)
    · rw [val, if_neg (by omega)]
      exact m2 k hk
  · have e : i = 3 := by omega
    subst e
    rw [if_pos (by decide)]
    exact Sm.ret ⟨f, hm⟩
theorem rc2 {A : mI} {B : mJ} {p : Nat} (hp : p < 8) (A0 : mI) (B0 : mJ) : Sm (mx_lp (b126_187 (Int32.ofNat p) A0 B0) mx_fu ((0 : Int32), A, B)) (fun r => fr r.2.1 A [88] ∧ fr r.2.2 B [90] ∧ (∀ i, i < 4 → r.2.1 88 0 (4 * p + i) = A 88 0 (32 + i) ∧ r.2.2 90 0 (4 * p + i) = B 90 0 (32 + i)) ∧ ∀ k, (k < 4 * p ∨ 4 * p + 4 ≤ k) → r.2.1 88 0 k = A 88 0 k ∧ r.2.2 90 0 k = B 90 0 k) := by
  refine Sm.lp (fun s => ∃ i, i ≤ 4 ∧ s.1 = Int32.ofNat i ∧ fr s.2.1 A [88] ∧ fr s.2.2 B [90] ∧ (∀ j, j < i → s.2.1 88 0 (4 * p + j) = A 88 0 (32 + j) ∧ s.2.2 90 0 (4 * p + j) = B 90 0 (32 + j)) ∧ ∀ k, (k < 4 * p ∨ 4 * p + 4 ≤ k) → s.2.1 88 0 k = A 88 0 k ∧ s.2.2 90 0 k = B 90 0 k) (fun s => 4 - s.1.toNatClampNeg) ?_ mx_fu ⟨0, by omega, rfl, fr.rf _ _, fr.rf _ _, fun j hj => absurd hj (by omega), fun _ _ => ⟨rfl, rfl⟩⟩ (by show 4 - 0 < 1000; decide)
  rintro ⟨_, A', B'⟩ ⟨i, hi, rfl, f, fb, m1, m2⟩
  simp only at f fb m1 m2
  unfold b126_187
  simp only
  rcases Nat.lt_or_ge i 4 with c | c
  · have e3 : (4 : Int32) * Int32.ofNat p + Int32.ofNat i = Int32.ofNat (4 * p + i) := by
      rw [n_mulL 4 p, i_add]
    have e24 : (32 : Int32) + Int32.ofNat i = Int32.ofNat (32 + i) := n_addL 32 i
    have g1 := i_g (show 32 + i < 36 by omega) (show 36 ≤ 2147483648 by decide)
    have g2 := i_g (show 4 * p + i < 36 by omega) (show 36 ≤ 2147483648 by decide)
    have k1 : (Int32.ofNat (32 + i)).toNatClampNeg = 32 + i := i_cl (by omega)
    have k2 : (Int32.ofNat (4 * p + i)).toNatClampNeg = 4 * p + i := i_cl (by omega)
    rw [if_neg (fun z => by have := (n_leL (by decide) (by omega)).mp z; omega)]
    simp only [e3, e24]
    simp only [if_neg g1, if_neg g2]
    simp only [k1, k2]
    refine Sm.ret ⟨⟨i + 1, by omega, n_addR i 1, f.up (by decide), fb.up (by decide), fun j hj => ?_, fun k hk => ?_⟩, m_dd (by omega) (by omega)⟩
    · simp only
      rw [u3_at, u3_at]
      by_cases q : j = i
      · rw [if_pos ⟨rfl, by omega⟩, if_pos ⟨rfl, by omega⟩, q]
        exact m2 (32 + i) (by omega)
      · rw [if_neg (fun z => by have := z.2; omega), if_neg (fun z => by have := z.2; omega)]
        exact m1 j (by omega)
    · simp only
      rw [u3_at, u3_at, if_neg (fun z => by have := z.2; omega), if_neg (fun z => by have := z.2; omega)]
      exact m2 k hk
  · have e : i = 4 := by omega
    subst e
    rw [if_pos (by decide)]
    exact Sm.ret ⟨f, fb, m1, m2⟩
/-- the wiring of both, after it -/
theorem wir_up {I I' A A' : mI} {J J' B B' : mJ} {p : Nat} (hp : p < 8) (h : g_wir I A J B) (o1 : only I' I (rw_ (p + 1))) (o2 : only J' J (rw_ (p + 1))) (c1 : I' 2 (p + 1) 5 = I 2 0 5) (c2 : I' 2 (p + 1) 6 = I 2 0 6) (c3 : I' 2 (p + 1) 7 = I 2 0 7) (c4 : J' 2 (p + 1) 8 = (if I 2 0 7 = 0 then 0 else J 2 0 8)) (c5 : ∀ n k, n ≤ 3 → I 2 0 5 = Int32.ofNat n → k < n → I' 65 (p + 1) k = I 65 0 k ∧ I' 66 (p + 1) k = I 66 0 k ∧ I' 67 (p + 1) k = I 67 0 k) (c6 : ∀ n k, n ≤ 4 → I 2 0 6 = Int32.ofNat n → k < n → J' 68 (p + 1) k = J 68 0 k ∧ I' 69 (p + 1) k = I 69 0 k)
    (d1 : ∀ t, (t = 83 ∨ t = 87 ∨ t = 89) → A' t 0 p = A t 0 8 ∧ ∀ q, q ≠ p → A' t 0 q = A t 0 q) (d2 : B' 91 0 p = B 91 0 8 ∧ ∀ q, q ≠ p → B' 91 0 q = B 91 0 q) (d3 : ∀ t, (t = 84 ∨ t = 85 ∨ t = 86) → (∀ i, i < 3 → A' t 0 (3 * p + i) = A t 0 (24 + i)) ∧ ∀ k, (k < 3 * p ∨ 3 * p + 3 ≤ k) → A' t 0 k = A t 0 k) (d4 : (∀ i, i < 4 → A' 88 0 (4 * p + i) = A 88 0 (32 + i) ∧ B' 90 0 (4 * p + i) = B 90 0 (32 + i)) ∧ ∀ k, (k < 4 * p ∨ 4 * p + 4 ≤ k) → A' 88 0 k = A 88 0 k ∧ B' 90 0 k = B 90 0 k) : g_wir I' A' J' B' := by
  intro w hw
  by_cases e : w = p + 1
  · subst e
    have er : rx (p + 1) = p := rfl
    rw [er]
    obtain ⟨⟨n, n1, n2, n3, n4⟩, ⟨m, m1, m2, m3, m4⟩, s1, s2, s3⟩ := h 0 (by omega)
    have e8 : rx 0 = 8 := rfl
    rw [e8] at n3 n4 m3 m4 s1 s2 s3
    refine ⟨⟨n, n1, c1.trans n2, (d1 83 (by decide)).1.trans n3, fun k hk => ?_⟩, ⟨m, m1, c2.trans m2, (d1 87 (by decide)).1.trans m3, fun k hk => ?_⟩, ?_, ?_, ?_⟩
    · obtain ⟨q1, q2, q3⟩ := c5 n k n1 n2 hk
      rw [q1, q2, q3, (d3 84 (by decide)).1 k (by omega), (d3 85 (by decide)).1 k (by omega), (d3 86 (by decide)).1 k (by omega)]
      exact n4 k hk
    · obtain ⟨q1, q2⟩ := c6 m k m1 m2 hk
      rw [q1, q2, (d4.1 k (by omega)).1, (d4.1 k (by omega)).2]
      exact m4 k hk
    · rw [c3, (d1 89 (by decide)).1]
      exact s1
    · rw [(d1 89 (by decide)).1]
      exact s2
    · rw [c4, (d1 89 (by decide)).1, d2.1, s1, s3]
      by_cases z : A 89 0 8 = 0
      · rw [if_pos z, if_pos z]
      · rw [if_neg z, if_neg z]
  · have hr : rx w ≠ p := by
      unfold rx
      split
      · omega
      · omega
    obtain ⟨g1, g2, g3⟩ := h w hw
    refine ⟨g1.kp (o1 2 w 5 e) ((d1 83 (by decide)).2 _ hr) (fun k hk => ⟨o1 65 w k e, o1 66 w k e, o1 67 w k e, (d3 84 (by decide)).2 _ (by omega), (d3 85 (by decide)).2 _ (by omega), (d3 86 (by decide)).2 _ (by omega)⟩), g2.kp (o1 2 w 6 e) ((d1 87 (by decide)).2 _ hr) (fun k hk => ⟨o2 68 w k e, o1 69 w k e, (d4.2 _ (by omega)).2, (d4.2 _ (by omega)).1⟩), g3.kp (o1 2 w 7 e) ((d1 89 (by decide)).2 _ hr) (o2 2 w 8 e) (d2.2 _ hr)⟩
/-- the line of a fault -/
theorem line_s {I A : mI} {p m : Nat} (hp : p < 8) (hm : m ≤ 200) (h97 : A 97 0 p = Int32.ofNat m) (h98 : A 98 0 p = 1) (ht : ∀ k, k < m → I 64 0 k = A 82 0 k) (A0 : mI) (B0 : mJ) : Rl (mx_lp (b73_64_4 (Int32.ofNat m) I) mx_fu ((1 : Int32), (0 : Int32))) (mx_lp (b126_269 (Int32.ofNat p) A0 B0) mx_fu ((0 : Int32), A)) (fun u v => v.2 98 0 p = u.1 ∧ fr v.2 A [98] ∧ ∀ q, q ≠ p → v.2 98 0 q = A 98 0 q) := by
  refine Rl.lp (fun u v => ∃ i, i ≤ m ∧ u.2 = Int32.ofNat i ∧ v.1 = Int32.ofNat i ∧ v.2 98 0 p = u.1 ∧ fr v.2 A [98] ∧ ∀ q, q ≠ p → v.2 98 0 q = A 98 0 q) (fun s => 200 - s.2.toNatClampNeg) ?_ mx_fu ⟨0, by omega, rfl, rfl, h98, fr.rf _ _, fun _ _ => rfl⟩ (by show 200 - 0 < 1000; decide)
  rintro ⟨y, _⟩ ⟨_, A'⟩ ⟨i, hi, rfl, rfl, e1, f, e2⟩
  simp only at e1 f e2
  have g8 := i_g hp (show 8 ≤ 2147483648 by decide)
  have ep : (Int32.ofNat p).toNatClampNeg = p := i_cl (by omega)
  unfold b73_64_4 b126_269
  simp only
  simp only [if_neg g8]
  simp only [ep]
  rw [f.c (t := 97) (by decide), h97]
  rcases Nat.lt_or_ge i m with c | c
  · have q1 : ¬ Int32.ofNat m ≤ Int32.ofNat i := fun z => by have := (i_le (by omega) (by omega)).mp z; omega
    have q2 : ¬ Int32.ofNat 200 ≤ Int32.ofNat i := fun z => by have := (i_le (by omega) (by omega)).mp z; omega
    have g := i_g (show i < 200 by omega) (show 200 ≤ 2147483648 by decide)
    have ei : (Int32.ofNat i).toNatClampNeg = i := i_cl (by omega)
    rw [if_neg q1, if_neg q2, if_neg g, if_neg q1, if_neg g, ei, f.c (t := 82) (by decide), ht i c]
    by_cases z : A 82 0 i = 10
    · rw [if_pos z, if_pos z]
      refine Rl.next ⟨i + 1, by omega, n_addR i 1, n_addR i 1, ?_, f.up (by decide), fun q hq => ?_⟩ (m_dc (by omega) (by omega))
      · simp only
        rw [u3_eq, e1]
      · simp only
        rw [u3_at, if_neg (fun z => hq z.2)]
        exact e2 q hq
    · rw [if_neg z, if_neg z]
      exact Rl.next ⟨i + 1, by omega, n_addR i 1, n_addR i 1, e1, f, e2⟩ (m_dc (by omega) (by omega))
  · have q1 : Int32.ofNat m ≤ Int32.ofNat i := (i_le (by omega) (by omega)).mpr c
    rw [if_pos q1, if_pos q1]
    exact Rl.stop ⟨e1, f, e2⟩
