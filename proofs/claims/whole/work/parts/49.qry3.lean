/-! objects, histories, plugins -/
theorem i_nlt (x y : Int32) : ¬ x < y ↔ y ≤ x := by
  rw [Int32.le_iff_toInt_le, Int32.lt_iff_toInt_lt]
  omega
theorem fm_32 (y k : Nat) (hy : y < 32) (hk : k < 32) : f166 (Int32.ofNat y - 1 - Int32.ofNat k) (Int32.ofNat 32) = some (Int32.ofNat ((y + (32 - 1) - k) % 32)) := by
  have hd : ∀ y k : Fin 32, f166 (Int32.ofNat y.val - 1 - Int32.ofNat k.val) (Int32.ofNat 32) = some (Int32.ofNat ((y.val + (32 - 1) - k.val) % 32)) := by decide +kernel
  exact hd ⟨y, hy⟩ ⟨k, hk⟩
theorem fm_16 (y k : Nat) (hy : y < 16) (hk : k < 16) : f166 (Int32.ofNat y - 1 - Int32.ofNat k) (Int32.ofNat 16) = some (Int32.ofNat ((y + (16 - 1) - k) % 16)) := by
  have hd : ∀ y k : Fin 16, f166 (Int32.ofNat y.val - 1 - Int32.ofNat k.val) (Int32.ofNat 16) = some (Int32.ofNat ((y.val + (16 - 1) - k.val) % 16)) := by decide +kernel
  exact hd ⟨y, hy⟩ ⟨k, hk⟩
theorem S_event {I A : mI} {J B : mJ} (x : Int32) (h : Sim I J A B) : Rl (f24 x I) (f163 x A) (fun u v => u = v) := by
  obtain ⟨a1, a2, a3, a4, a5, a6, a7, a8, a9, ⟨h1, y, hy, h2, h3⟩, a11⟩ := h
  unfold f24 f115 f163 f120
  show Rl (Option.bind (if x < 0 then some (-1) else if Int32.ofNat 32 ≤ x then some (-1) else if x < I 10 1 2 then (f166 (I 10 1 1 - 1 - x) (Int32.ofNat 32)).bind (fun u4 => if u4 < 0 ∨ 32 ≤ u4.toNatClampNeg then none else some (I 81 1 u4.toNatClampNeg)) else some (-1)) _) _ _
  by_cases c1 : x < 0
  · rw [if_pos c1, if_pos c1]
    exact Rl.ret rfl
  rw [if_neg c1, if_neg c1]
  obtain ⟨k, hk, rfl⟩ := i_ofn c1
  by_cases c2 : 32 ≤ k
  · rw [if_pos ((i_le (by decide) hk).mpr c2), if_pos (show (31 : Int32) < Int32.ofNat k from (n_ltL (by decide) hk).mpr (by omega))]
    exact Rl.ret rfl
  have hk2 : k < 32 := by omega
  rw [if_neg (fun q => c2 ((i_le (by decide) hk).mp q)), if_neg (show ¬ (31 : Int32) < Int32.ofNat k from fun q => by have := (n_ltL (by decide) hk).mp q; omega), bT, h1]
  by_cases c3 : Int32.ofNat k < A 11 0 40
  · have g := i_g (n := (y + (32 - 1) - k) % 32) (N := 32) (by omega) (by decide)
    rw [if_pos c3, if_neg (fun q => ((i_nlt _ _).mpr q) c3), if_neg (i_g hk2 (by decide)), h2, fm_32 y k hy hk2, Option.bind_some, if_neg g, i_cl (by omega), i_cl hk]
    exact Rl.ret (h3 k hk2)
  · rw [if_neg c3, if_pos ((i_nlt _ _).mp c3)]
    exact Rl.ret rfl
theorem S_stopped {I A : mI} {J B : mJ} (x : Int32) (h : Sim I J A B) : Rl (f26 x I) (f164 x A) (fun u v => u = v) := by
  obtain ⟨a1, a2, a3, a4, a5, a6, a7, a8, a9, a10, h1, y, hy, h2, h3⟩ := h
  unfold f26 f115 f164 f120
  show Rl (Option.bind (if x < 0 then some (-1) else if Int32.ofNat 16 ≤ x then some (-1) else if x < I 10 0 2 then (f166 (I 10 0 1 - 1 - x) (Int32.ofNat 16)).bind (fun u4 => if u4 < 0 ∨ 16 ≤ u4.toNatClampNeg then none else some (I 81 0 u4.toNatClampNeg)) else some (-1)) _) _ _
  by_cases c1 : x < 0
  · rw [if_pos c1, if_pos c1]
    exact Rl.ret rfl
  rw [if_neg c1, if_neg c1]
  obtain ⟨k, hk, rfl⟩ := i_ofn c1
  by_cases c2 : 16 ≤ k
  · rw [if_pos ((i_le (by decide) hk).mpr c2), if_pos (show (15 : Int32) < Int32.ofNat k from (n_ltL (by decide) hk).mpr (by omega))]
    exact Rl.ret rfl
  have hk2 : k < 16 := by omega
  rw [if_neg (fun q => c2 ((i_le (by decide) hk).mp q)), if_neg (show ¬ (15 : Int32) < Int32.ofNat k from fun q => by have := (n_ltL (by decide) hk).mp q; omega), bT, h1]
  by_cases c3 : Int32.ofNat k < A 11 0 41
  · have g := i_g (n := (y + (16 - 1) - k) % 16) (N := 16) (by omega) (by decide)
    rw [if_pos c3, if_neg (fun q => ((i_nlt _ _).mpr q) c3), if_neg (i_g hk2 (by decide)), h2, fm_16 y k hy hk2, Option.bind_some, if_neg g, i_cl (by omega), i_cl hk]
    exact Rl.ret (h3 k hk2)
  · rw [if_neg c3, if_pos ((i_nlt _ _).mp c3)]
    exact Rl.ret rfl
theorem S_object {I A : mI} {J B : mJ} (x y : Int32) (h : Sim I J A B) : Rl (f23 x y I) (f162 x y A) (fun u v => u = v) := by
  obtain ⟨a1, a2, a3, a4, a5, a6, a7, a8, ⟨n, hn, h1, h2, h3, h4⟩, a10, a11⟩ := h
  unfold f23 f162 f120
  rw [h1, h2]
  by_cases c1 : x < 0
  · rw [if_pos c1, if_pos c1]
    exact Rl.ret rfl
  rw [if_neg c1, if_neg c1]
  obtain ⟨k, hk, rfl⟩ := i_ofn c1
  have e1 : Int32.ofNat n - 1 < Int32.ofNat k ↔ ¬ k < n := by
    by_cases c0 : n = 0
    · subst c0
      rw [show Int32.ofNat 0 - 1 = (-1 : Int32) from by decide, Int32.lt_iff_toInt_lt, i_ti hk]
      have : (-1 : Int32).toInt = -1 := rfl
      omega
    · rw [show Int32.ofNat n - 1 = Int32.ofNat (n - 1) from n_subR (by show 1 ≤ n; omega), i_lt (by omega) hk]
      omega
  by_cases c2 : k < n
  · have g := i_g (n := k) (N := 24) (by omega) (by decide)
    obtain ⟨b1, b2, b3, b4, b5, -⟩ := h3 k c2
    rw [if_pos ((i_lt hk (by omega)).mpr c2), if_neg (fun q => (e1.mp q) c2), bT]
    simp only [if_neg g]
    simp only [i_cl hk]
    rw [b1, b2, b4]
    by_cases y0 : y = 0
    · simp only [if_pos y0]
      exact Rl.ret rfl
    simp only [if_neg y0]
    by_cases y1 : y = 1
    · simp only [if_pos y1]
      exact Rl.ret rfl
    simp only [if_neg y1]
    by_cases y2 : y = 2
    · simp only [if_pos y2]
      by_cases z : A 115 0 k = 0
      · rw [if_pos z]
        exact Rl.ret rfl
      · rw [if_neg z]
        exact Rl.ret rfl
    · simp only [if_neg y2]
      exact Rl.ret rfl
  · rw [if_neg (fun q => c2 ((i_lt hk (by omega)).mp q)), if_pos (e1.mpr c2)]
    exact Rl.ret rfl
/-- the first need that isn't met, as both see it -/
theorem um {I A : mI} {p : Nat} (hp : p < 8) (hnd : g_nd I A (p + 1) p) (hq : ∀ q, q < 8 → I 6 q 4 = A 93 0 q ∧ I 6 q 7 = A 96 0 q) : ∃ m, m ≤ 3 ∧ f79 (Int32.ofNat p) I = some (Int32.ofNat m) ∧ f136 (Int32.ofNat p) A = some (Int32.ofNat m) ∧ (m = 0 ↔ ∀ n k, n ≤ 3 → A 83 0 p = Int32.ofNat n → k < n → g_mt A p k) := by
  obtain ⟨n, hn, h1, h2, h3⟩ := hnd
  have hl : Rl (mx_lp (b79_12 (p + 1) I) mx_fu (0 : Int32)) (mx_lp (b136_2 (Int32.ofNat p) A) mx_fu (0 : Int32)) (fun x y => ∃ m, m ≤ n ∧ Sum.elim (fun _ => (0 : Int32)) id x = Int32.ofNat m ∧ Sum.elim (fun _ => (0 : Int32)) id y = Int32.ofNat m ∧ (m = 0 ↔ ∀ k, k < n → g_mt A p k)) := by
    refine Rl.lp (fun s t => ∃ k, k ≤ n ∧ s = Int32.ofNat k ∧ t = Int32.ofNat k ∧ ∀ j, j < k → g_mt A p j) (fun s => 3 - s.toNatClampNeg) ?_ mx_fu ⟨0, by omega, rfl, rfl, fun j hj => absurd hj (by omega)⟩ (by decide)
    rintro s t ⟨k, hk, rfl, rfl, hm⟩
    unfold b79_12 b136_2
    rw [if_neg (i_g (n := p) (N := 9) (by omega) (by decide)), i_cl (n := p) (by omega), h1, h2]
    rcases Nat.lt_or_ge k n with c | c
    · have n1 : ¬ Int32.ofNat n ≤ Int32.ofNat k := fun q => absurd ((i_le (by omega) (by omega)).mp q) (by omega)
      obtain ⟨⟨q, hq8, d1, d2⟩, d3, d4⟩ := h3 k c
      obtain ⟨e4, e5⟩ := hq q hq8
      have g1 := i_g (n := k) (N := 3) (by omega) (by decide)
      have g2 := i_g (n := q) (N := 8) (by omega) (by decide)
      have e3 : (3 : Int32) * Int32.ofNat p + Int32.ofNat k = Int32.ofNat (3 * p + k) := by
        rw [show (3 : Int32) * Int32.ofNat p = Int32.ofNat (3 * p) from n_mulL 3 p, i_add]
      have g3 := i_g (n := 3 * p + k) (N := 27) (by omega) (by decide)
      unfold f137 f120
      rw [e3, if_neg n1, if_neg n1, if_neg g1, if_neg g1, if_neg g1, if_neg g3, if_neg g3, if_neg g3, i_cl (n := k) (by omega), i_cl (n := 3 * p + k) (by omega), d1, d2, if_neg g2, if_neg g2, if_neg g2, i_cl (n := q) (by omega), e4, e5, d3, d4]
      have hmt : g_mt A p k ↔ ¬ A 93 0 q = 0 ∧ ¬ A 96 0 q < A 85 0 (3 * p + k) ∧ ¬ A 86 0 (3 * p + k) < A 96 0 q := by
        unfold g_mt
        constructor
        · intro z
          exact z q hq8 d2
        · intro z q2 hq2 z2
          rw [d2, i_eq (by omega) (by omega)] at z2
          subst z2
          exact z
      have st : ¬ g_mt A p k → ∃ m, m ≤ n ∧ Sum.elim (fun _ : Int32 => (0 : Int32)) id (Sum.inr (Int32.ofNat k + 1) : Int32 ⊕ Int32) = Int32.ofNat m ∧ Sum.elim (fun _ : Int32 => (0 : Int32)) id (Sum.inr (Int32.ofNat k + 1) : Int32 ⊕ Int32) = Int32.ofNat m ∧ (m = 0 ↔ ∀ k, k < n → g_mt A p k) := fun z => ⟨k + 1, by omega, n_addR k 1, n_addR k 1, fun q => by omega, fun q => absurd (q k c) z⟩
      by_cases c1 : A 93 0 q = 0
      · rw [if_pos c1, if_pos c1, bF]
        exact Rl.stop (st (fun z => (hmt.mp z).1 c1))
      rw [if_neg c1, if_neg c1]
      by_cases c2 : A 96 0 q < A 85 0 (3 * p + k)
      · rw [if_pos c2, if_pos c2, bF, bF]
        exact Rl.stop (st (fun z => (hmt.mp z).2.1 c2))
      rw [if_neg c2, if_neg c2]
      by_cases c3 : A 86 0 (3 * p + k) < A 96 0 q
      · rw [if_neg (fun z => ((i_nlt _ _).mpr z) c3), if_pos c3, bF, bF]
        exact Rl.stop (st (fun z => (hmt.mp z).2.2 c3))
      · rw [if_pos ((i_nlt _ _).mp c3), if_neg c3, bT, bT]
        refine Rl.next ⟨k + 1, by omega, n_addR k 1, n_addR k 1, fun j hj => ?_⟩ ?_
        · by_cases hjk : j = k
          · subst hjk
            exact hmt.mpr ⟨c1, c2, c3⟩
          · exact hm j (by omega)
        · first | exact m_dc (by omega) (by omega) | exact m_dd (by omega) (by omega)
    · have e : k = n := by omega
      subst e
      have q := (i_le (a := k) (b := k) (by omega) (by omega)).mpr (by omega)
      rw [if_pos q, if_pos q]
      exact Rl.stop ⟨0, by omega, rfl, rfl, fun _ => hm, fun _ => rfl⟩
  obtain ⟨x, y, e1, e2, m, hm, e3, e4, e5⟩ := hl
  refine ⟨m, by omega, ?_, ?_, e5.trans ⟨fun z n2 k hn2 hA hk => ?_, fun z k hk => z n k hn h2 hk⟩⟩
  · unfold f79
    rw [if_neg (i_g (n := p) (N := 8) (by omega) (by decide)), i_cl (by omega), e1, Option.bind_some, ← e3]
    cases x <;> rfl
  · unfold f136
    rw [e2, Option.bind_some, ← e4]
    cases y <;> rfl
  · rw [h2, i_eq (by omega) (by omega)] at hA
    exact z k (by omega)
theorem nd_of {I A : mI} {J B : mJ} (h : g_wir I A J B) {p : Nat} (hp : p < 8) : g_nd I A (p + 1) p := (h (p + 1) (by omega)).1
theorem cl_of {I A : mI} {J B : mJ} (h : g_wir I A J B) {p : Nat} (hp : p < 8) : g_cl I A J B (p + 1) p := (h (p + 1) (by omega)).2.1
theorem st_of {I A : mI} {J B : mJ} (h : g_wir I A J B) {p : Nat} (hp : p < 8) : g_st I A J B (p + 1) p := (h (p + 1) (by omega)).2.2
theorem S_plugin {I A : mI} {J B : mJ} (x y : Int32) (h : Sim I J A B) : Rl (f14 x y I) (f154 x y A) (fun u v => u = v) := by
  obtain ⟨a1, a2, a3, a4, a5, a6, a7, a8, a9, a10, a11⟩ := h
  unfold f14 f154
  rcases pl_cases x with ⟨e1, e2⟩ | ⟨p, hp, rfl, e1, e2⟩
  · rw [e1, e2]
    exact Rl.ret rfl
  rw [e1, e2, bT, bT]
  unfold f120
  by_cases c1 : y < 0
  · rw [if_pos c1, if_pos c1]
    exact Rl.ret rfl
  rw [if_neg c1, if_neg c1]
  by_cases c2 : (7 : Int32) < y
  · rw [if_pos c2, if_neg (fun q => ((i_nlt _ _).mpr q) c2)]
    exact Rl.ret rfl
  have g := i_g (n := p) (N := 8) hp (by decide)
  obtain ⟨b1, b2, b3, b4, b5, b6, b7, b8, b9, b10, b11, b12, b13⟩ := a3 p hp
  rw [if_neg c2, if_pos ((i_nlt _ _).mp c2), bT]
  simp only [if_neg g]
  simp only [i_cl (show p < 2147483648 by omega)]
  rw [b1]
  by_cases c3 : A 92 0 p = 0
  · rw [if_pos c3, if_pos c3]
    exact Rl.ret rfl
  rw [if_neg c3, if_neg c3]
  by_cases y0 : y = 0
  · rw [if_pos y0, if_pos y0]
    unfold f76
    rw [b1, if_neg c3, b3, b5]
    by_cases d1 : A 94 0 p = 0
    · rw [if_pos d1]
      by_cases d2 : A 93 0 p = 0
      · simp only [if_pos d2, if_pos d1]
        exact Rl.ret rfl
      · simp only [if_neg d2, if_pos d1]
        exact Rl.ret rfl
    · rw [if_neg d1, if_neg ((a6 p hp).2 d1), if_neg d1]
      exact Rl.ret rfl
  rw [if_neg y0, if_neg y0]
  by_cases y1 : y = 1
  · rw [if_pos y1, if_pos y1]
    exact Rl.ret b9
  rw [if_neg y1, if_neg y1]
  by_cases y2 : y = 2
  · rw [if_pos y2, if_pos y2]
    unfold f74
    rw [b11]
    rcases b13 with d | d
    · rw [d, if_pos rfl, if_neg (by decide)]
      exact Rl.ret rfl
    · rw [if_pos d, if_neg (fun q => by rw [q] at d; exact absurd d (by decide))]
      exact Rl.ret rfl
  rw [if_neg y2, if_neg y2]
  by_cases y3 : y = 3
  · rw [if_pos y3, if_pos y3]
    exact Rl.ret b11
  rw [if_neg y3, if_neg y3]
  by_cases y4 : y = 4
  · rw [if_pos y4, if_pos y4]
    exact Rl.ret b12
  rw [if_neg y4, if_neg y4]
  by_cases y5 : y = 5
  · rw [if_pos y5, if_pos y5]
    exact Rl.ret b10
  rw [if_neg y5, if_neg y5]
  by_cases y6 : y = 6
  · rw [if_pos y6, if_pos y6]
    obtain ⟨n, hn, d1, d2, d3, d4⟩ := a4 p hp
    exact Rl.ret (d1.trans (d3 c3).symm)
  rw [if_neg y6, if_neg y6]
  obtain ⟨m, hm, d1, d2, -⟩ := um hp (nd_of a2 hp) (fun q hq => ⟨(a3 q hq).2.2.1, (a3 q hq).2.2.2.2.2.2.2.2.1⟩)
  rw [d1, d2]
  exact Rl.ret rfl
