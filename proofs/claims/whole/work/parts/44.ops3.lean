/-! need, provide, starter, clear -/
theorem i_lt0 (x : Int32) (h : x < 0) : x.toInt < 0 := by
  rw [Int32.lt_iff_toInt_lt] at h
  exact h
/-- a plugin's number, as both see it -/
theorem pl_cases (x : Int32) : (f4 x = some false ∧ f120 x 0 7 = some false) ∨ ∃ p, p < 8 ∧ x = Int32.ofNat p ∧ f4 x = some true ∧ f120 x 0 7 = some true := by
  unfold f4 f120
  by_cases c1 : x < 0
  · rw [if_pos c1, if_pos c1]
    exact .inl ⟨rfl, rfl⟩
  · rw [if_neg c1, if_neg c1]
    obtain ⟨n, hn, rfl⟩ := i_ofn c1
    by_cases c2 : 8 ≤ n
    · have q1 : (8 : Int32) ≤ Int32.ofNat n := (n_leL (by decide) hn).mpr c2
      have q2 : (7 : Int32) < Int32.ofNat n := (n_ltL (by decide) hn).mpr c2
      rw [if_pos q1, if_pos q2]
      exact .inl ⟨rfl, rfl⟩
    · have q1 : ¬ (8 : Int32) ≤ Int32.ofNat n := fun q => c2 ((n_leL (by decide) hn).mp q)
      have q2 : ¬ (7 : Int32) < Int32.ofNat n := fun q => c2 ((n_ltL (by decide) hn).mp q)
      rw [if_neg q1, if_neg q2]
      exact .inr ⟨n, by omega, rfl, rfl, rfl⟩
theorem g_nd.kp {I I' A A' : mI} {w m : Nat} (e1 : I' 2 w 5 = I 2 w 5) (e2 : A' 83 0 m = A 83 0 m) (e : ∀ k, k < 3 → I' 65 w k = I 65 w k ∧ I' 66 w k = I 66 w k ∧ I' 67 w k = I 67 w k ∧ A' 84 0 (3 * m + k) = A 84 0 (3 * m + k) ∧ A' 85 0 (3 * m + k) = A 85 0 (3 * m + k) ∧ A' 86 0 (3 * m + k) = A 86 0 (3 * m + k)) (h : g_nd I A w m) : g_nd I' A' w m := by
  obtain ⟨n, hn, h1, h2, h3⟩ := h
  refine ⟨n, hn, e1.trans h1, e2.trans h2, fun k hk => ?_⟩
  obtain ⟨b1, b2, b3, b4, b5, b6⟩ := e k (by omega)
  rw [b1, b2, b3, b4, b5, b6]
  exact h3 k hk
theorem g_cl.kp {I I' A A' : mI} {J J' B B' : mJ} {w m : Nat} (e1 : I' 2 w 6 = I 2 w 6) (e2 : A' 87 0 m = A 87 0 m) (e : ∀ k, k < 4 → J' 68 w k = J 68 w k ∧ I' 69 w k = I 69 w k ∧ B' 90 0 (4 * m + k) = B 90 0 (4 * m + k) ∧ A' 88 0 (4 * m + k) = A 88 0 (4 * m + k)) (h : g_cl I A J B w m) : g_cl I' A' J' B' w m := by
  obtain ⟨n, hn, h1, h2, h3⟩ := h
  refine ⟨n, hn, e1.trans h1, e2.trans h2, fun k hk => ?_⟩
  obtain ⟨b1, b2, b3, b4⟩ := e k (by omega)
  rw [b1, b2, b3, b4]
  exact h3 k hk
theorem g_st.kp {I I' A A' : mI} {J J' B B' : mJ} {w m : Nat} (e1 : I' 2 w 7 = I 2 w 7) (e2 : A' 89 0 m = A 89 0 m) (e3 : J' 2 w 8 = J 2 w 8) (e4 : B' 91 0 m = B 91 0 m) (h : g_st I A J B w m) : g_st I' A' J' B' w m := by
  unfold g_st at h ⊢
  rw [e1, e2, e3, e4]
  exact h
theorem rx_lt {w : Nat} (h : w < 9) (h0 : w ≠ 0) : rx w < 8 := by
  unfold rx
  rw [if_neg h0]
  omega
theorem bT {α : Type} {X Y : Bool → Option α} : ((some true).bind fun u => if u = true then X u else Y u) = X true := rfl
theorem bF {α : Type} {X Y : Bool → Option α} : ((some false).bind fun u => if u = true then X u else Y u) = Y false := rfl
theorem g_res.kp {A A' : mI} (e1 : ∀ p, p < 8 → A' 83 0 p = A 83 0 p) (e2 : ∀ j, j < 24 → A' 84 0 j = A 84 0 j ∧ A' 85 0 j = A 85 0 j ∧ A' 86 0 j = A 86 0 j) (e3 : A' 92 = A 92) (e4 : A' 93 = A 93) (e5 : A' 94 = A 94) (e6 : A' 96 = A 96) (h : g_res A) : g_res A' := by
  intro p hp
  have h2 := h p hp
  unfold g_re at h2 ⊢
  rw [e1 p hp, e3, e4, e5]
  refine ⟨fun c => ⟨(h2.1 c).1, fun n k hn hA hk => ?_⟩, h2.2⟩
  have h3 := (h2.1 c).2 n k hn hA hk
  unfold g_mt at h3 ⊢
  obtain ⟨b1, b2, b3⟩ := e2 (3 * p + k) (by omega)
  rw [b1, b2, b3, e4, e6]
  exact h3
theorem S_need {I A : mI} {J B : mJ} (x1 x2 x3 : Int32) (h : Sim I J A B) : Rl (f3 x1 x2 x3 I) (f119 x1 x2 x3 A) (fun u v => u.1 = v.1 ∧ Sim u.2 J v.2 B) := by
  obtain ⟨a1, a2, a3, a4, a5, a6, a7, a8, a9, a10, a11⟩ := id h
  unfold f3 f119
  rcases pl_cases x1 with ⟨e1, e2⟩ | ⟨q, hq, rfl, e1, e2⟩
  · rw [e1, e2]
    exact Rl.ret ⟨rfl, h⟩
  · rw [e1, e2]
    rw [bT, bT]
    unfold f120
    by_cases c1 : x2 < 0
    · rw [if_pos c1, if_pos c1]
      exact Rl.ret ⟨rfl, h⟩
    rw [if_neg c1, if_neg c1]
    obtain ⟨y2, hy2, rfl⟩ := i_ofn c1
    by_cases c2 : x3 < Int32.ofNat y2
    · rw [if_pos c2]
      by_cases c3 : (255 : Int32) < Int32.ofNat y2
      · rw [if_pos c3]
        exact Rl.ret ⟨rfl, h⟩
      · rw [if_neg c3]
        rw [bT, if_pos c2]
        exact Rl.ret ⟨rfl, h⟩
    rw [if_neg c2]
    have c3 : ¬ x3 < 0 := by
      intro q
      apply c2
      rw [Int32.lt_iff_toInt_lt] at q ⊢
      rw [i_ti hy2]
      have : (0 : Int32).toInt = 0 := rfl
      omega
    obtain ⟨y3, hy3, rfl⟩ := i_ofn c3
    have l23 : y2 ≤ y3 := by
      rw [i_lt hy3 hy2] at c2
      omega
    by_cases c4 : Int32.ofNat y3 ≤ (255 : Int32)
    · have l4 := (n_leR hy3 (by decide)).mp c4
      rw [if_pos c4, if_neg (show ¬ (255 : Int32) < Int32.ofNat y2 from fun q => by have := (n_ltL (by decide) hy2).mp q; omega)]
      rw [bT, if_neg c2, if_neg (show ¬ (255 : Int32) < Int32.ofNat y3 from fun q => by have := (n_ltL (by decide) hy3).mp q; omega)]
      rw [bT]
      obtain ⟨n, hn, b1, b2, b3⟩ := (a2 0 (by decide)).1
      have b2 : A 83 0 8 = Int32.ofNat n := b2
      unfold f34
      rw [b1, b2]
      by_cases c5 : n < 3
      · have g1 := i_g (n := n) (N := 3) c5 (by decide)
        have q5 : Int32.ofNat n < (3 : Int32) := (n_ltR (by omega) (by decide)).mpr c5
        have q6 : ¬ Int32.ofNat n = (3 : Int32) := fun q => by have := (n_eqR (by omega) (by decide)).mp q; omega
        have e24 : (24 : Int32) + Int32.ofNat n = Int32.ofNat (24 + n) := n_addL 24 n
        have g2 := i_g (n := 24 + n) (N := 27) (by omega) (by decide)
        rw [if_pos q5, if_neg g1, if_neg g1, if_neg g1, if_neg q6, e24, if_neg g2, if_neg g2, if_neg g2, i_cl (n := n) (by omega), i_cl (n := 24 + n) (by omega)]
        have e1 : Int32.ofNat n + 1 = Int32.ofNat (n + 1) := n_addR n 1
        rw [e1]
        refine Rl.ret ⟨?_, ?_⟩
        · simp only [u3_eq]
        · simp only
          have fI : fr (mx_u3 (mx_u3 (mx_u3 (mx_u3 I 65 0 n (Int32.ofNat q)) 66 0 n (Int32.ofNat y2)) 67 0 n (Int32.ofNat y3)) 2 0 5 (Int32.ofNat (n + 1))) I [2, 65, 66, 67] := ((((fr.rf I _).up (by decide)).up (by decide)).up (by decide)).up (by decide)
          have fA : fr (mx_u3 (mx_u3 (mx_u3 (mx_u3 A 83 0 8 (Int32.ofNat (n + 1))) 84 0 (24 + n) (Int32.ofNat q)) 85 0 (24 + n) (Int32.ofNat y2)) 86 0 (24 + n) (Int32.ofNat y3)) A [83, 84, 85, 86] := ((((fr.rf A _).up (by decide)).up (by decide)).up (by decide)).up (by decide)
          have wir : g_wir (mx_u3 (mx_u3 (mx_u3 (mx_u3 I 65 0 n (Int32.ofNat q)) 66 0 n (Int32.ofNat y2)) 67 0 n (Int32.ofNat y3)) 2 0 5 (Int32.ofNat (n + 1))) (mx_u3 (mx_u3 (mx_u3 (mx_u3 A 83 0 8 (Int32.ofNat (n + 1))) 84 0 (24 + n) (Int32.ofNat q)) 85 0 (24 + n) (Int32.ofNat y2)) 86 0 (24 + n) (Int32.ofNat y3)) J B := by
            intro w hw
            obtain ⟨d1, d2, d3⟩ := a2 w hw
            refine ⟨?_, d2.kp ?_ ?_ ?_, d3.kp ?_ ?_ rfl rfl⟩
            · by_cases h0 : w = 0
              · subst h0
                refine ⟨n + 1, by omega, ?_, ?_, fun k hk => ?_⟩
                · rw [u3_eq]
                · show _ = _
                  rw [u3_ne (by decide), u3_ne (by decide), u3_ne (by decide)]
                  show mx_u3 A 83 0 8 _ 83 0 8 = _
                  rw [u3_eq]
                · simp only [u3_at, u3_ne, ne_eq, Nat.reduceEqDiff, not_false_eq_true, true_and]
                  show (∃ q_1, q_1 < 8 ∧ _ ∧ (if 3 * 8 + k = 24 + n then _ else _) = _) ∧ _ = (if 3 * 8 + k = 24 + n then _ else _) ∧ _ = (if 3 * 8 + k = 24 + n then _ else _)
                  by_cases hkn : k = n
                  · have hk2 : 3 * 8 + k = 24 + n := by omega
                    simp only [if_pos hkn, if_pos hk2]
                    exact ⟨⟨q, hq, by trivial, by trivial⟩, by trivial, by trivial⟩
                  · have hk2 : ¬ 3 * 8 + k = 24 + n := by omega
                    simp only [if_neg hkn, if_neg hk2]
                    exact b3 k (by omega)
              · have hr := rx_lt hw h0
                refine d1.kp ?_ ?_ (fun k hk => ?_)
                · rw [u3_at, if_neg (fun z => h0 z.1), u3_ne (by decide), u3_ne (by decide), u3_ne (by decide)]
                · rw [u3_ne (by decide), u3_ne (by decide), u3_ne (by decide), u3_at, if_neg (fun z => by have := z.2; omega)]
                · have hk2 : ¬ 3 * rx w + k = 24 + n := by omega
                  simp only [u3_at, u3_ne, ne_eq, Nat.reduceEqDiff, not_false_eq_true, true_and, h0, hk2, false_and, if_false, and_self]
            · rw [u3_at, if_neg (fun z => absurd z.2 (by decide)), u3_ne (by decide), u3_ne (by decide), u3_ne (by decide)]
            · rw [fA 87 (by decide)]
            · intro k hk
              rw [fI 69 (by decide), fA 88 (by decide)]
              exact ⟨rfl, rfl, rfl, rfl⟩
            · rw [u3_at, if_neg (fun z => absurd z.2 (by decide)), u3_ne (by decide), u3_ne (by decide), u3_ne (by decide)]
            · rw [fA 89 (by decide)]
          have rk : ∀ j, j < 24 → (mx_u3 (mx_u3 (mx_u3 (mx_u3 A 83 0 8 (Int32.ofNat (n + 1))) 84 0 (24 + n) (Int32.ofNat q)) 85 0 (24 + n) (Int32.ofNat y2)) 86 0 (24 + n) (Int32.ofNat y3)) 84 0 j = A 84 0 j ∧ (mx_u3 (mx_u3 (mx_u3 (mx_u3 A 83 0 8 (Int32.ofNat (n + 1))) 84 0 (24 + n) (Int32.ofNat q)) 85 0 (24 + n) (Int32.ofNat y2)) 86 0 (24 + n) (Int32.ofNat y3)) 85 0 j = A 85 0 j ∧ (mx_u3 (mx_u3 (mx_u3 (mx_u3 A 83 0 8 (Int32.ofNat (n + 1))) 84 0 (24 + n) (Int32.ofNat q)) 85 0 (24 + n) (Int32.ofNat y2)) 86 0 (24 + n) (Int32.ofNat y3)) 86 0 j = A 86 0 j := by
            intro j hj
            have hk2 : ¬ j = 24 + n := by omega
            simp only [u3_at, u3_ne, ne_eq, Nat.reduceEqDiff, not_false_eq_true, true_and, hk2, if_false, and_self]
          exact ⟨a1.fr fI fA (by rw [fA 11 (by decide)]) (by decide), wir, a3.fr fI fA (by decide), a4.fr fI (fr.rf J []) fA (fr.rf B []) (by decide), a5.fr fI (fr.rf J []) (by decide), a6.kp (fun p hp => by rw [u3_ne (by decide), u3_ne (by decide), u3_ne (by decide), u3_at, if_neg (fun z => by have := z.2; omega)]) rk (fA 92 (by decide)) (fA 93 (by decide)) (fA 94 (by decide)) (fA 96 (by decide)), a7.fr fI fA (fr.rf B []) (by decide), a8.fr fI fA (fr.rf B []) (by decide), a9.fr fI fA (by rw [fA 11 (by decide)]) (by decide), a10.fr fI fA (by rw [fA 11 (by decide)]) (by decide), a11.fr fI fA (by rw [fA 11 (by decide)]) (by decide)⟩
      · have e3 : n = 3 := by omega
        subst e3
        rw [if_neg (by decide), if_pos (by decide)]
        exact Rl.ret ⟨rfl, h⟩
    · rw [if_neg c4]
      have l4 : 255 < y3 := by
        rw [n_leR hy3 (by decide)] at c4
        omega
      have q4 : (255 : Int32) < Int32.ofNat y3 := (n_ltL (by decide) hy3).mpr l4
      by_cases c3 : (255 : Int32) < Int32.ofNat y2
      · rw [if_pos c3]
        exact Rl.ret ⟨rfl, h⟩
      · rw [if_neg c3]
        rw [bT, if_neg c2, if_pos q4]
        exact Rl.ret ⟨rfl, h⟩
