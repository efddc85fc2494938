/-! create -/
theorem kd_3 {x : Int32} (h : g_kd x) : (x &&& -5 = 1 ↔ x &&& 3 = 1) ∧ (x &&& -5 = 2 ↔ ¬ x &&& 3 ≤ 0 ∧ ¬ x &&& 3 = 1) ∧ (x &&& 3 = 1 → ¬ x &&& 3 ≤ 0) := by
  rcases h with rfl | rfl | rfl | rfl | rfl | rfl <;> decide
theorem f151_fr {A A' : mI} (h : A' 105 = A 105) (x : Int32) : f151 x A' = f151 x A := by
  unfold f151
  have e : b151_2 A' = b151_2 A := by
    funext s
    unfold b151_2
    rw [h]
  rw [e]
/-- both wake for a class -/
theorem wake_0 {I A : mI} {J B : mJ} (a2 : g_wir I A J B) (a3 : g_plug I A) (a6 : g_res A) {r : Int32} (hr : fnd A r) (hn : ¬ r = -1) : ∃ b I' A', f87z r 0 I J = some (b, I') ∧ f153 r A B = some (b, A') ∧ wm I A I' A' ∧ ∀ q, q < 8 → A' 95 0 q = 0 := by
  have w0 : wm I A I A := ⟨fr.rf _ _, fr.rf _ _, fun _ _ _ _ _ => rfl, fun q hq => by
    obtain ⟨d1, d2, d3, d4, d5, d6, d7, d8, d9, d10, d11, d12, d13⟩ := a3 q hq
    exact ⟨d7.trans d8.symm, .inl d8, d5, d6, d10, (a6 q hq).2⟩⟩
  have c0 : cn (stb A) 8 = 0 := cn_0 8 (fun q hq => by
    unfold stb
    rw [(a3 q hq).2.2.2.2.2.2.2.1]
    decide)
  obtain ⟨b, I', c', z, A2, A', ok, y1, y2, y3, y4, y5, y6, y7, y8, y9⟩ := wake_s a2 (fun p hp => (a6 p hp).1) 8 0 I A r rfl w0 c0 hr
  refine ⟨b, I', A', y2 hn, ?_, y7, fun q hq => (y8 q hq).trans (a3 q hq).2.2.2.2.2.2.2.1⟩
  unfold f153
  have e1 : mx_lp (b153_10 A B) mx_fu ((0 : Int32), r, (1 : Int32), (1 : Int32), A) = some (Int32.ofNat c', z, b2i ok, 0, A2) := y3 A mx_fu (by decide)
  rw [e1, Option.bind_some]
  simp only
  have e2 := y6 A2 (1000 - c')
  rw [show 1000 - c' + (c' - 0) = mx_fu by unfold mx_fu; omega] at e2
  rw [e2, show 1000 - c' = (999 - c') + 1 by omega, lp_e (e := (b2i b, Int32.ofNat 0 - 1, A'))]
  · cases b <;> rfl
  · unfold b153_161
    simp only
    rw [if_pos (by decide)]
theorem S_create {I A : mI} {J B : mJ} (x : Int32) (w : Int64) (h : Sim I J A B) : Rl (f22 x w I J) (f150 x w A B) (fun u v => u.1 = v.1 ∧ Sim u.2 J v.2 B) := by
  have h' := h
  obtain ⟨a1, a2, a3, a4, a5, a6, a7, a8, a9, a10, a11⟩ := h
  unfold f22 f150
  rcases hd_cs a4 x with ⟨e1, e2⟩ | ⟨t, ht, rfl, hi, e1, e2, he⟩
  · have e3 : f108 x I = some false := by
      unfold f108
      rw [f84_out a5 e1]
      rfl
    rw [e3, e2, bF, bF]
    exact Rl.ret ⟨rfl, h'⟩
  obtain ⟨o, o1, o2, o3, o4, o5⟩ := wthn h' ht hi e1 he
  obtain ⟨v1, v2⟩ := he.2.2.2.2.2.2 w
  have tn : 16 * (t / 16) + o < 128 := by omega
  rw [o4, e2, bT, o3, Option.bind_some, Option.bind_some, if_neg (i_g tn (by decide)), i_cl (n := 16 * (t / 16) + o) (by omega)]
  by_cases c0 : A 108 0 (16 * (t / 16) + o) = 0
  · rw [if_pos c0, decide_eq_false (fun z => z c0), if_neg (by decide)]
    exact Rl.ret ⟨rfl, h'⟩
  rw [if_neg c0, decide_eq_true c0, if_pos rfl, e1, Option.bind_some, v1, v2, Option.bind_some, Option.bind_some]
  by_cases c1 : ¬ 0 < vl A B t w
  · rw [if_neg (fun z => c1 ((c_gt _ _).mp z)), if_neg (fun z => c1 ((c_gt _ _).mp z))]
    exact Rl.ret ⟨rfl, h'⟩
  replace c1 : 0 < vl A B t w := Decidable.byContradiction c1
  rw [if_pos ((c_gt _ _).mpr c1), if_pos ((c_gt _ _).mpr c1), h_dv t (by omega)]
  have hres : ¬ A 93 0 (t / 16) = 0 := by
    have z := ((a8 _ tn).2.2 c0).1.2.1
    rw [show (16 * (t / 16) + o) / 16 = t / 16 by omega] at z
    exact z
  obtain ⟨r, r1, r2, r3⟩ := f85_s a2 (fun p hp => (a6 p hp).1) (show t / 16 < 8 by omega) hres (vl A B t w)
  rw [r1, r2, Option.bind_some, Option.bind_some]
  by_cases c2 : r = -1
  · rw [if_pos c2, if_neg (by rw [c2]; decide)]
    exact Rl.ret ⟨rfl, h'⟩
  obtain ⟨b, I', A', w1, w2, w3, w4⟩ := wake_0 a2 a3 a6 r3 c2
  obtain ⟨q, k, n, hq, hn, n1, hk, rfl, hqr⟩ := r3.resolve_left c2
  rw [if_neg c2, if_pos (i_ps (by omega)), w1, w2, Option.bind_some, Option.bind_some]
  have fI := w3.1
  have fA := w3.2.1
  have s2 : Sim I' J A' B := by
    refine ⟨a1.fr fI fA (fA.c (t := 11) (by decide)) (by decide), a2.fr fI (fr.rf J []) fA (fr.rf B []) (by decide), fun q hq => ?_, a4.fr fI (fr.rf J []) fA (fr.rf B []) (by decide), a5.fr fI (fr.rf J []) (by decide), fun q hq => ?_, a7.fr fI fA (fr.rf B []) (by decide), a8.fr fI fA (fr.rf B []) (by decide), a9.fr fI fA (fA.c (t := 11) (by decide)) (by decide), a10.fr fI fA (fA.c (t := 11) (by decide)) (by decide), a11.fr fI fA (fA.c (t := 11) (by decide)) (by decide)⟩
    · obtain ⟨d1, d2, d3, d4, d5, d6, d7, d8, d9, d10, d11, d12, d13⟩ := a3 q hq
      obtain ⟨y1, y2, y3, y4, y5, y6⟩ := w3.2.2.2 q hq
      have yk := w3.2.2.1 q
      unfold g_pl
      rw [yk 3 (by decide) (by decide) (by decide), yk 4 (by decide) (by decide) (by decide), yk 7 (by decide) (by decide) (by decide), yk 9 (by decide) (by decide) (by decide), yk 10 (by decide) (by decide) (by decide), fA 92 (by decide), fA 93 (by decide), fA 96 (by decide), fA 97 (by decide), fA 98 (by decide)]
      exact ⟨d1, d2, d3, d4, y3, y4, y1.trans (w4 q hq), w4 q hq, d9, y5, d11, d12, d13⟩
    · have z := a6 q hq
      unfold g_re g_mt at z ⊢
      rw [fA 83 (by decide), fA 84 (by decide), fA 85 (by decide), fA 86 (by decide), fA 92 (by decide), fA 93 (by decide), fA 96 (by decide)]
      exact ⟨z.1, (w3.2.2.2 q hq).2.2.2.2.2⟩
  cases b with
  | false =>
    simp only
    rw [if_neg (by decide), if_neg (by decide)]
    exact Rl.ret ⟨rfl, s2⟩
  | true =>
    simp only [if_true]
    have s2' := s2
    obtain ⟨b1, b2, b3, b4, b5, b6, b7, b8, b9, b10, b11⟩ := s2
    obtain ⟨n2, hn2, d1, d2, d3⟩ := cl_of b2 hq
    have en : n2 = n := by
      rw [fA 87 (by decide), n1] at d2
      exact ((i_eq (by omega) (by omega)).mp d2).symm
    subst en
    obtain ⟨-, e69, ekd⟩ := d3 k hk
    obtain ⟨k1, k2⟩ := f88_s (I := I') hq (show k < 4 by omega)
    rw [k1, Option.bind_some, e69, if_neg (i_g (show 4 * q + k < 36 by omega) (by decide)), i_cl (n := 4 * q + k) (by omega)]
    obtain ⟨m1, m2, m3⟩ := kd_3 ekd
    by_cases c3 : A' 88 0 (4 * q + k) &&& 3 = 1
    · rw [if_pos (m1.mpr c3), if_neg (m3 c3), if_pos c3]
      exact Rl.ret ⟨rfl, s2'⟩
    rw [if_neg (fun z => c3 (m1.mp z))]
    by_cases c4 : ¬ A' 88 0 (4 * q + k) &&& 3 ≤ 0
    · rw [if_pos (m2.mpr ⟨c4, c3⟩), if_neg c4, if_neg c3]
      exact Rl.ret ⟨rfl, s2'⟩
    replace c4 : A' 88 0 (4 * q + k) &&& 3 ≤ 0 := Decidable.byContradiction c4
    rw [if_neg (fun z => (m2.mp z).1 c4), if_pos c4]
    have x5 : I' 3 (1 + t) 5 = Int32.ofNat o := (fI.c (t := 3) (by decide)).trans o2
    rw [x5, f18_n ht (by omega), Option.bind_some]
    unfold f89 f111
    rw [Option.bind_some, k2]
    obtain ⟨n3, hn3, g1, g2, g3, g4⟩ := id b9
    rw [g1, g2]
    by_cases c5 : n3 = 24
    · rw [if_neg (fun z => by have := (n_ltR (by omega) (by decide)).mp z; omega), if_pos (by rw [c5]; rfl)]
      exact Rl.ret ⟨rfl, s2'⟩
    have l24 : n3 < 24 := by omega
    have gg := i_g l24 (show 24 ≤ 2147483648 by decide)
    have ec : (Int32.ofNat n3).toNatClampNeg = n3 := i_cl (by omega)
    have q24 : ¬ Int32.ofNat n3 = 24 := fun z => by have := (n_eqR (by omega) (by decide)).mp z; omega
    rw [if_pos ((n_ltR (by omega) (by decide)).mpr l24)]
    simp only [if_neg gg, if_neg q24]
    simp only [ec, nar0]
    have e151 : f151 (Int32.ofNat t) (mx_u3 A' 110 0 n3 (Int32.ofNat t)) = some (Int32.ofNat (16 * (t / 16) + o)) := by
      rw [f151_fr (A := A) (by rw [u3_ne (by decide), fA 105 (by decide)]), o3]
    rw [e151, Option.bind_some, Option.bind_some]
    have e1 : Int32.ofNat n3 + 1 = Int32.ofNat (n3 + 1) := n_addR n3 1
    rw [e1]
    have fI2 : fr (mx_u3 (mx_u3 (mx_u3 (mx_u3 I' 77 0 n3 (Int32.ofNat t)) 78 0 n3 (Int32.ofNat (16 * (t / 16) + o))) 79 0 n3 (Int32.ofNat q)) 9 0 4 (Int32.ofNat (n3 + 1))) I' [9, 77, 78, 79] := ((((fr.rf I' _).up (by decide)).up (by decide)).up (by decide)).up (by decide)
    have fA2 : fr (mx_u3 (mx_u3 (mx_u3 (mx_u3 (mx_u3 A' 110 0 n3 (Int32.ofNat t)) 112 0 n3 (Int32.ofNat (16 * (t / 16) + o))) 111 0 n3 (Int32.ofNat q)) 115 0 n3 0) 11 0 39 (Int32.ofNat (n3 + 1))) A' [11, 110, 111, 112, 115] := (((((fr.rf A' _).up (by decide)).up (by decide)).up (by decide)).up (by decide)).up (by decide)
    have x11 : ∀ c, c ≠ 39 → (mx_u3 (mx_u3 (mx_u3 (mx_u3 (mx_u3 A' 110 0 n3 (Int32.ofNat t)) 112 0 n3 (Int32.ofNat (16 * (t / 16) + o))) 111 0 n3 (Int32.ofNat q)) 115 0 n3 0) 11 0 39 (Int32.ofNat (n3 + 1))) 11 0 c = A' 11 0 c := fun c hc => by
      rw [u3_at, if_neg (fun z => hc z.2), u3_ne (by decide), u3_ne (by decide), u3_ne (by decide), u3_ne (by decide)]
    refine Rl.ret ⟨?_, b1.fr fI2 fA2 (x11 10 (by decide)) (by decide), b2.fr fI2 (fr.rf J []) fA2 (fr.rf B []) (by decide), b3.fr fI2 fA2 (by decide), b4.fr fI2 (fr.rf J []) fA2 (fr.rf B []) (by decide), b5.fr fI2 (fr.rf J []) (by decide), b6.fr fA2 (by decide), b7.fr fI2 fA2 (fr.rf B []) (by decide), b8.fr fI2 fA2 (fr.rf B []) (by decide), ⟨n3 + 1, by omega, ?_, ?_, fun j hj => ?_, fun j j1 j2 => ?_⟩, b10.fr fI2 fA2 (x11 40 (by decide)) (by decide), b11.fr fI2 fA2 (x11 41 (by decide)) (by decide)⟩
    · simp only
      rw [u3_eq]
      exact n_subR (by show 1 ≤ n3 + 1; omega)
    · simp only
      rw [u3_eq]
    · simp only
      rw [u3_eq]
    · simp only
      rw [u3_ne (show (77 : Nat) ≠ 9 by decide), u3_ne (show (77 : Nat) ≠ 79 by decide), u3_ne (show (77 : Nat) ≠ 78 by decide), u3_at, u3_ne (show (79 : Nat) ≠ 9 by decide), u3_at, u3_ne (show (79 : Nat) ≠ 78 by decide), u3_ne (show (79 : Nat) ≠ 77 by decide), u3_ne (show (78 : Nat) ≠ 9 by decide), u3_ne (show (78 : Nat) ≠ 79 by decide), u3_at, u3_ne (show (78 : Nat) ≠ 77 by decide), fI2.c (t := 80) (by decide), u3_ne (show (110 : Nat) ≠ 11 by decide), u3_ne (show (110 : Nat) ≠ 115 by decide), u3_ne (show (110 : Nat) ≠ 111 by decide), u3_ne (show (110 : Nat) ≠ 112 by decide), u3_at, u3_ne (show (111 : Nat) ≠ 11 by decide), u3_ne (show (111 : Nat) ≠ 115 by decide), u3_at, u3_ne (show (111 : Nat) ≠ 112 by decide), u3_ne (show (111 : Nat) ≠ 110 by decide), u3_ne (show (112 : Nat) ≠ 11 by decide), u3_ne (show (112 : Nat) ≠ 115 by decide), u3_ne (show (112 : Nat) ≠ 111 by decide), u3_at, u3_ne (show (112 : Nat) ≠ 110 by decide), u3_ne (show (115 : Nat) ≠ 11 by decide), u3_at, u3_ne (show (115 : Nat) ≠ 111 by decide), u3_ne (show (115 : Nat) ≠ 112 by decide), u3_ne (show (115 : Nat) ≠ 110 by decide), fA2 108 (by decide)]
      by_cases e : j = n3
      · subst e
        simp only [and_self, if_true]
        exact ⟨trivial, trivial, trivial, g4 j (Nat.le_refl j) l24, bl0, 16 * (t / 16) + o, tn, rfl, fun _ => by rw [fA 108 (by decide)]; exact c0⟩
      · simp only [e, and_false, if_false]
        exact g3 j (by omega)
    · simp only
      rw [fI2.c (t := 80) (by decide)]
      exact g4 j (by omega) j2
