/-! histories, stopping -/
theorem i_dec {j : Nat} (h : 1 ≤ j) : Int32.ofNat j + -1 = Int32.ofNat (j - 1) := by
  have e : Int32.ofNat j = Int32.ofNat (j - 1) + 1 := by
    rw [show Int32.ofNat (j - 1) + 1 = Int32.ofNat (j - 1 + 1) from n_addR _ 1]
    congr 1
    omega
  rw [e, Int32.add_assoc, show (1 : Int32) + -1 = 0 from rfl, Int32.add_zero]
theorem note_s {I : mI} {i N y : Nat} (hN : hC_n 81 i = N) (hN2 : N = 16 ∨ N = 32) (hy : y < N) (h1 : I 10 i 1 = Int32.ofNat y) (x : Int32) : ∃ I', f114 i x I = some I' ∧ fr I' I [10, 81] ∧ I' 10 i 1 = Int32.ofNat ((y + 1) % N) ∧ I' 10 i 2 = I 10 i 2 + 1 ∧ (∀ k, I' 81 i k = if k = y then x else I 81 i k) ∧ ∀ j, j ≠ i → (∀ k, I' 10 j k = I 10 j k) ∧ ∀ k, I' 81 j k = I 81 j k := by
  have hN3 : N ≤ 32 := by omega
  have fin : ∀ z, z = Int32.ofNat ((y + 1) % N) → fr (mx_u3 (mx_u3 (mx_u3 I 81 i y x) 10 i 1 z) 10 i 2 ((mx_u3 (mx_u3 I 81 i y x) 10 i 1 z) 10 i 2 + 1)) I [10, 81] ∧ (mx_u3 (mx_u3 (mx_u3 I 81 i y x) 10 i 1 z) 10 i 2 ((mx_u3 (mx_u3 I 81 i y x) 10 i 1 z) 10 i 2 + 1)) 10 i 1 = Int32.ofNat ((y + 1) % N) ∧ (mx_u3 (mx_u3 (mx_u3 I 81 i y x) 10 i 1 z) 10 i 2 ((mx_u3 (mx_u3 I 81 i y x) 10 i 1 z) 10 i 2 + 1)) 10 i 2 = I 10 i 2 + 1 ∧ (∀ k, (mx_u3 (mx_u3 (mx_u3 I 81 i y x) 10 i 1 z) 10 i 2 ((mx_u3 (mx_u3 I 81 i y x) 10 i 1 z) 10 i 2 + 1)) 81 i k = if k = y then x else I 81 i k) ∧ ∀ j, j ≠ i → (∀ k, (mx_u3 (mx_u3 (mx_u3 I 81 i y x) 10 i 1 z) 10 i 2 ((mx_u3 (mx_u3 I 81 i y x) 10 i 1 z) 10 i 2 + 1)) 10 j k = I 10 j k) ∧ ∀ k, (mx_u3 (mx_u3 (mx_u3 I 81 i y x) 10 i 1 z) 10 i 2 ((mx_u3 (mx_u3 I 81 i y x) 10 i 1 z) 10 i 2 + 1)) 81 j k = I 81 j k := by
    intro z hz
    refine ⟨(((fr.rf I _).up (by decide)).up (by decide)).up (by decide), ?_, ?_, fun k => ?_, fun j hj => ⟨fun k => ?_, fun k => ?_⟩⟩
    · rw [u3_at, if_neg (fun q => absurd q.2 (by decide)), u3_eq, hz]
    · rw [u3_eq, u3_at, if_neg (fun q => absurd q.2 (by decide)), u3_ne (by decide)]
    · rw [u3_ne (by decide), u3_ne (by decide), u3_at]
      by_cases c : k = y
      · rw [if_pos ⟨rfl, c⟩, if_pos c]
      · rw [if_neg (fun q => c q.2), if_neg c]
    · rw [u3_at, if_neg (fun q => hj q.1), u3_at, if_neg (fun q => hj q.1), u3_ne (by decide)]
    · rw [u3_ne (by decide), u3_ne (by decide), u3_at, if_neg (fun q => hj q.1)]
  unfold f114
  rw [hN, h1, if_neg (i_g hy (by omega)), i_cl (by omega), show Int32.ofNat y + 1 = Int32.ofNat (y + 1) from n_addR y 1]
  by_cases c : N ≤ y + 1
  · rw [if_pos ((i_le (by omega) (by omega)).mpr c)]
    refine ⟨_, rfl, fin 0 ?_⟩
    rw [show y + 1 = N by omega, Nat.mod_self]
    rfl
  · rw [if_neg (fun q => c ((i_le (by omega) (by omega)).mp q))]
    refine ⟨_, rfl, fin _ ?_⟩
    rw [Nat.mod_eq_of_lt (by omega)]
/-- what is told goes to the front in both -/
theorem his_st {I I' A A' : mI} {i N a c y : Nat} {x : Int32} (hN2 : N = 16 ∨ N = 32) (h : g_his I A i N a c) (hy : I 10 i 1 = Int32.ofNat y) (hy2 : y < N) (b1 : I' 10 i 1 = Int32.ofNat ((y + 1) % N)) (b2 : I' 10 i 2 = I 10 i 2 + 1) (b3 : ∀ k, I' 81 i k = if k = y then x else I 81 i k) (d1 : A' a 0 0 = x) (d2 : ∀ k, 1 ≤ k → k < N → A' a 0 k = A a 0 (k - 1)) (d3 : A' 11 0 c = A 11 0 c + 1) : g_his I' A' i N a c := by
  obtain ⟨h1, y2, h2, h3, h4⟩ := h
  have e : y2 = y := by
    rw [hy, i_eq (by omega) (by omega)] at h3
    exact h3.symm
  subst e
  refine ⟨by rw [b2, d3, h1], (y2 + 1) % N, Nat.mod_lt _ (by omega), b1, fun k hk => ?_⟩
  rw [b3]
  rcases hN2 with rfl | rfl
  · by_cases c0 : k = 0
    · subst c0
      rw [if_pos (by omega), d1]
    · rw [if_neg (by omega), d2 k (by omega) hk, ← h4 (k - 1) (by omega)]
      congr 1
      omega
  · by_cases c0 : k = 0
    · subst c0
      rw [if_pos (by omega), d1]
    · rw [if_neg (by omega), d2 k (by omega) hk, ← h4 (k - 1) (by omega)]
      congr 1
      omega
theorem sh_147 (x : Int32) (A0 A : mI) : Sm (mx_lp (b147_10 x A0) mx_fu ((15 : Int32), A)) (fun r => fr r.2 A [114] ∧ ∀ k, 1 ≤ k → k < 16 → r.2 114 0 k = A 114 0 (k - 1)) := by
  refine Sm.lp (fun s => ∃ j, j ≤ 15 ∧ s.1 = Int32.ofNat j ∧ fr s.2 A [114] ∧ (∀ k, j < k → k < 16 → s.2 114 0 k = A 114 0 (k - 1)) ∧ ∀ k, k ≤ j → s.2 114 0 k = A 114 0 k) (fun s => s.1.toNatClampNeg) ?_ mx_fu ⟨15, by decide, rfl, fr.rf _ _, fun k h1 h2 => absurd h1 (by omega), fun _ _ => rfl⟩ (by show 15 < 1000; decide)
  rintro ⟨_, A'⟩ ⟨j, hj, rfl, f, h1, h2⟩
  simp only at f h1 h2
  unfold b147_10
  simp only
  by_cases c : j = 0
  · subst c
    rw [if_pos (by decide)]
    exact Sm.ret ⟨f, fun k hk hk2 => h1 k (by omega) hk2⟩
  · have q : ¬ Int32.ofNat j ≤ 0 := fun q => by have := (n_leR (by omega) (by decide)).mp q; omega
    have e1 : Int32.ofNat j - 1 = Int32.ofNat (j - 1) := n_subR (by show 1 ≤ j; omega)
    rw [if_neg q, e1, if_neg (i_g (n := j - 1) (N := 16) (by omega) (by decide)), if_neg (i_g (n := j) (N := 16) (by omega) (by decide)), i_cl (n := j - 1) (by omega), i_cl (n := j) (by omega)]
    refine Sm.ret ⟨⟨j - 1, by omega, i_dec (by omega), f.up (by decide), fun k hk hk2 => ?_, fun k hk => ?_⟩, ?_⟩
    · simp only
      rw [u3_at]
      by_cases ck : k = j
      · rw [if_pos ⟨rfl, ck⟩, ck, h2 (j - 1) (by omega)]
      · rw [if_neg (fun z => ck z.2), h1 k (by omega) hk2]
    · simp only
      rw [u3_at, if_neg (fun z => by have := z.2; omega), h2 k (by omega)]
    · simp only
      rw [i_dec (by omega), i_cl (by omega)]
      first | omega | (rw [i_cl (by omega)]; omega)
theorem sh_145 (x : Int32) (A0 A : mI) : Sm (mx_lp (b145_3 x A0) mx_fu ((31 : Int32), A)) (fun r => fr r.2 A [113] ∧ ∀ k, 1 ≤ k → k < 32 → r.2 113 0 k = A 113 0 (k - 1)) := by
  refine Sm.lp (fun s => ∃ j, j ≤ 31 ∧ s.1 = Int32.ofNat j ∧ fr s.2 A [113] ∧ (∀ k, j < k → k < 32 → s.2 113 0 k = A 113 0 (k - 1)) ∧ ∀ k, k ≤ j → s.2 113 0 k = A 113 0 k) (fun s => s.1.toNatClampNeg) ?_ mx_fu ⟨31, by decide, rfl, fr.rf _ _, fun k h1 h2 => absurd h1 (by omega), fun _ _ => rfl⟩ (by show 31 < 1000; decide)
  rintro ⟨_, A'⟩ ⟨j, hj, rfl, f, h1, h2⟩
  simp only at f h1 h2
  unfold b145_3
  simp only
  by_cases c : j = 0
  · subst c
    rw [if_pos (by decide)]
    exact Sm.ret ⟨f, fun k hk hk2 => h1 k (by omega) hk2⟩
  · have q : ¬ Int32.ofNat j ≤ 0 := fun q => by have := (n_leR (by omega) (by decide)).mp q; omega
    have e1 : Int32.ofNat j - 1 = Int32.ofNat (j - 1) := n_subR (by show 1 ≤ j; omega)
    rw [if_neg q, e1, if_neg (i_g (n := j - 1) (N := 32) (by omega) (by decide)), if_neg (i_g (n := j) (N := 32) (by omega) (by decide)), i_cl (n := j - 1) (by omega), i_cl (n := j) (by omega)]
    refine Sm.ret ⟨⟨j - 1, by omega, i_dec (by omega), f.up (by decide), fun k hk hk2 => ?_, fun k hk => ?_⟩, ?_⟩
    · simp only
      rw [u3_at]
      by_cases ck : k = j
      · rw [if_pos ⟨rfl, ck⟩, ck, h2 (j - 1) (by omega)]
      · rw [if_neg (fun z => ck z.2), h1 k (by omega) hk2]
    · simp only
      rw [u3_at, if_neg (fun z => by have := z.2; omega), h2 k (by omega)]
    · simp only
      rw [i_dec (by omega), i_cl (by omega)]
      first | omega | (rw [i_cl (by omega)]; omega)
/-- what stopping keeps -/
def g_stp (I A I' A' : mI) : Prop := fr I' I [6, 10, 81] ∧ fr A' A [11, 94, 114] ∧ (∀ c, c ≠ 41 → A' 11 0 c = A 11 0 c) ∧ (∀ k, I' 10 1 k = I 10 1 k) ∧ (∀ k, I' 81 1 k = I 81 1 k) ∧ (∀ q k, k ≠ 6 → I' 6 q k = I 6 q k) ∧ (∀ q, A 94 0 q = 0 → A' 94 0 q = 0)
theorem g_stp.rf (I A : mI) : g_stp I A I A := ⟨fr.rf _ _, fr.rf _ _, fun _ _ => rfl, fun _ => rfl, fun _ => rfl, fun _ _ _ => rfl, fun _ h => h⟩
theorem g_stp.tr {I A I' A' I2 A2 : mI} (h : g_stp I A I' A') (h2 : g_stp I' A' I2 A2) : g_stp I A I2 A2 := by
  obtain ⟨a1, a2, a3, a4, a5, a6, a7⟩ := h
  obtain ⟨b1, b2, b3, b4, b5, b6, b7⟩ := h2
  exact ⟨b1.tr a1, b2.tr a2, fun c hc => (b3 c hc).trans (a3 c hc), fun k => (b4 k).trans (a4 k), fun k => (b5 k).trans (a5 k), fun q k hk => (b6 q k hk).trans (a6 q k hk), fun q hq => b7 q (a7 q hq)⟩
theorem bl0 : bl 0 := .inl rfl
theorem bl1 : bl 1 := .inr rfl
theorem nar0 : vp_nar .boolean (0 : Int32) = 0 := by decide
theorem nar1 : vp_nar .boolean (1 : Int32) = 1 := by decide
theorem g_pl.k6 {I A I' A' : mI} {q : Nat} (h : g_pl I A q) (hI : ∀ k, k ≠ 6 → I' 6 q k = I 6 q k) (hA : ∀ t, t ∈ [92, 93, 95, 96, 97, 98, 99] → A' t 0 q = A t 0 q) (e : I' 6 q 6 = A' 94 0 q) (b : bl (A' 94 0 q)) : g_pl I' A' q := by
  obtain ⟨b1, b2, b3, b4, b5, b6, b7, b8, b9, b10, b11, b12, b13⟩ := h
  unfold g_pl
  rw [hI 3 (by decide), hI 4 (by decide), hI 5 (by decide), hI 7 (by decide), hI 8 (by decide), hI 9 (by decide), hI 10 (by decide), hA 92 (by decide), hA 93 (by decide), hA 95 (by decide), hA 96 (by decide), hA 97 (by decide), hA 98 (by decide), hA 99 (by decide)]
  exact ⟨b1, b2, b3, b4, e, b, b7, b8, b9, b10, b11, b12, b13⟩
theorem stop1 {I A : mI} {p : Nat} (a3 : g_plug I A) (hh : g_his I A 0 16 114 41) (hp : p < 8) (act : ¬ A 94 0 p = 0) : Rl (f82 (Int32.ofNat p) I) (f147 (Int32.ofNat p) A) (fun I' A' => g_plug I' A' ∧ g_his I' A' 0 16 114 41 ∧ g_stp I A I' A' ∧ A' 94 0 p = 0 ∧ (∀ q, q ≠ p → A' 94 0 q = A 94 0 q) ∧ A' 11 0 41 = A 11 0 41 + 1) := by
  have hI6 : I 6 p 6 = A 94 0 p := (a3 p hp).2.2.2.2.1
  obtain ⟨hh1, y, hy, hy1, hy2⟩ := id hh
  unfold f82 f147
  have g := i_g (n := p) (N := 8) hp (by decide)
  rw [if_neg g, if_neg g, if_neg g, i_cl (by omega), hI6, if_neg act, nar0]
  obtain ⟨I', e1, n1, n2, n3, n4, n5⟩ := note_s (I := mx_u3 I 6 p 6 0) (i := 0) (N := 16) (y := y) rfl (.inl rfl) hy (by rw [u3_ne (by decide)]; exact hy1) (Int32.ofNat p)
  obtain ⟨r, e2, m1, m2⟩ := sh_147 (Int32.ofNat p) (mx_u3 A 94 0 p 0) (mx_u3 A 94 0 p 0)
  rw [e1, e2, Option.bind_some, Option.bind_some]
  have fI : fr I' I [6, 10, 81] := (n1.wd (by decide)).tr ((fr.rf I _).up (by decide))
  have fA0 : fr r.2 A [11, 94, 114] := (m1.wd (by decide)).tr ((fr.rf A _).up (by decide))
  have fA : fr (mx_u3 (mx_u3 r.2 114 0 0 (Int32.ofNat p)) 11 0 41 (r.2 11 0 41 + 1)) A [11, 94, 114] := (fA0.up (by decide)).up (by decide)
  have r11 : ∀ c, r.2 11 0 c = A 11 0 c := fun c => by rw [m1 11 (by decide), u3_ne (by decide)]
  have i6 : ∀ q k, I' 6 q k = if q = p ∧ k = 6 then 0 else I 6 q k := fun q k => by rw [n1 6 (by decide), u3_at]
  have a94 : ∀ q, (mx_u3 (mx_u3 r.2 114 0 0 (Int32.ofNat p)) 11 0 41 (r.2 11 0 41 + 1)) 94 0 q = if q = p then 0 else A 94 0 q := fun q => by
    rw [u3_ne (by decide), u3_ne (by decide), m1 94 (by decide), u3_at]
    by_cases c : q = p
    · rw [if_pos ⟨rfl, c⟩, if_pos c]
    · rw [if_neg (fun z => c z.2), if_neg c]
  refine Rl.ret ⟨fun q hq => ?_, ?_, ⟨fI, fA, fun c hc => ?_, fun k => ?_, fun k => ?_, fun q k hk => ?_, fun q hq => ?_⟩, ?_, fun q hq => ?_, ?_⟩
  · refine (a3 q hq).k6 (fun k hk => by rw [i6, if_neg (fun z => hk z.2)]) (fun t ht => ?_) ?_ ?_
    · exact fA.c (t := t) (by simp at ht ⊢; omega)
    · rw [i6, a94]
      by_cases c : q = p
      · rw [if_pos ⟨c, rfl⟩, if_pos c]
      · rw [if_neg (fun z => c z.1), if_neg c]
        exact (a3 q hq).2.2.2.2.1
    · rw [a94]
      by_cases c : q = p
      · rw [if_pos c]
        exact bl0
      · rw [if_neg c]
        exact (a3 q hq).2.2.2.2.2.1
  · refine his_st (.inl rfl) hh hy1 hy n2 ?_ (fun k => ?_) ?_ (fun k k1 k2 => ?_) ?_ (x := Int32.ofNat p)
    · rw [n3, u3_ne (by decide)]
    · rw [n4, u3_ne (by decide)]
    · rw [u3_ne (by decide), u3_eq]
    · rw [u3_ne (by decide), u3_at, if_neg (fun z => by have := z.2; omega), m2 k k1 k2, u3_ne (by decide)]
    · rw [u3_eq, r11]
  · rw [u3_at, if_neg (fun z => hc z.2), u3_ne (by decide), r11]
  · rw [(n5 1 (by decide)).1, u3_ne (by decide)]
  · rw [(n5 1 (by decide)).2, u3_ne (by decide)]
  · rw [i6, if_neg (fun z => hk z.2)]
  · rw [a94, hq]
    split <;> rfl
  · rw [a94, if_pos rfl]
  · rw [a94, if_neg hq]
  · rw [u3_eq, r11]
