/-! remove -/
theorem g_his.cl {I I' A A' : mI} {i N a c : Nat} (h : g_his I A i N a c) (h1 : ∀ k, I' 10 i k = I 10 i k) (h2 : ∀ k, I' 81 i k = I 81 i k) (h3 : ∀ k, k < N → A' a 0 k = A a 0 k) (h4 : A' 11 0 c = A 11 0 c) : g_his I' A' i N a c := by
  obtain ⟨d1, y, d2, d3, d4⟩ := h
  exact ⟨by rw [h1, h4]; exact d1, y, d2, by rw [h1]; exact d3, fun k hk => by rw [h2, h3 k hk]; exact d4 k hk⟩
theorem rs_plug {I A I1 A1 : mI} (a3 : g_plug I A) (h : rs I A I1 A1) : g_plug I1 A1 := by
  intro q hq
  obtain ⟨r1, r2, r3, r4, -, -⟩ := h
  obtain ⟨b1, b2, b3, b4, b5, b6, b7, b8, b9, b10, b11, b12, b13⟩ := a3 q hq
  unfold g_pl
  rw [r3 q 3 (by decide), r3 q 5 (by decide), r3 q 6 (by decide), r3 q 7 (by decide), r3 q 8 (by decide), r3 q 9 (by decide), r3 q 10 (by decide), r2 92 (by decide), r2 94 (by decide), r2 95 (by decide), r2 96 (by decide), r2 97 (by decide), r2 98 (by decide), r2 99 (by decide)]
  exact ⟨b1, b2, (r4 q hq).1, (r4 q hq).2, b5, b6, b7, b8, b9, b10, b11, b12, b13⟩
theorem f82_0 {I A : mI} {p : Nat} (a3 : g_plug I A) (hp : p < 8) (act : A 94 0 p = 0) : f82 (Int32.ofNat p) I = some I := by
  have hI6 : I 6 p 6 = A 94 0 p := (a3 p hp).2.2.2.2.1
  unfold f82
  have g := i_g (n := p) (N := 8) hp (by decide)
  rw [if_neg g, i_cl (by omega), hI6, if_pos act]
theorem unres_s {I A : mI} {B : mJ} (x : Int32) (A0 : mI) (a3 : g_plug I A) (hh : g_his I A 0 16 114 41) : Rl (f83 I) (mx_lp (b146_49 x A0 B) mx_fu ((0 : Int32), A)) (fun I' v => g_plug I' v.2 ∧ g_his I' v.2 0 16 114 41 ∧ g_stp I A I' v.2 ∧ ∀ q, q < 8 → v.2 93 0 q = 0 → v.2 94 0 q = 0) := by
  have hl : Rl (mx_lp (b83_2 I) mx_fu ((0 : Int32), I)) (mx_lp (b146_49 x A0 B) mx_fu ((0 : Int32), A)) (fun u v => g_plug u.2 v.2 ∧ g_his u.2 v.2 0 16 114 41 ∧ g_stp I A u.2 v.2 ∧ ∀ q, q < 8 → v.2 93 0 q = 0 → v.2 94 0 q = 0) := by
    refine Rl.lp (fun u v => ∃ i, i ≤ 8 ∧ u.1 = Int32.ofNat i ∧ v.1 = Int32.ofNat i ∧ g_plug u.2 v.2 ∧ g_his u.2 v.2 0 16 114 41 ∧ g_stp I A u.2 v.2 ∧ ∀ q, q < i → v.2 93 0 q = 0 → v.2 94 0 q = 0) (fun s => 8 - s.1.toNatClampNeg) ?_ mx_fu ⟨0, by omega, rfl, rfl, a3, hh, g_stp.rf _ _, fun q hq => absurd hq (by omega)⟩ (by show 8 - 0 < 1000; decide)
    rintro ⟨_, I'⟩ ⟨_, A'⟩ ⟨i, hi, rfl, rfl, h3, h11, hs, hm⟩
    simp only at h3 h11 hs hm
    unfold b83_2 b146_49
    simp only
    rcases Nat.lt_or_ge i 8 with c | c
    · have g := i_g c (show 8 ≤ 2147483648 by decide)
      have ecl : (Int32.ofNat i).toNatClampNeg = i := i_cl (by omega)
      have q1 : ¬ (8 : Int32) ≤ Int32.ofNat i := fun q => absurd ((n_leL (by decide) (by omega)).mp q) (by omega)
      simp only [if_neg q1, if_neg g]
      simp only [ecl]
      rw [(h3 i c).2.2.1]
      have nx : (A' 93 0 i = 0 → A' 94 0 i = 0) → ∀ q, q < i + 1 → A' 93 0 q = 0 → A' 94 0 q = 0 := fun z q hq h => by
        by_cases e : q = i
        · rw [e] at h ⊢
          exact z h
        · exact hm q (by omega) h
      by_cases c1 : A' 93 0 i = 0
      · rw [if_pos c1]
        by_cases c2 : A' 94 0 i = 0
        · rw [f82_0 h3 c c2, if_pos c2, Option.bind_some]
          exact Rl.next ⟨i + 1, by omega, n_addR i 1, n_addR i 1, h3, h11, hs, nx (fun _ => c2)⟩ (m_dc c (by omega))
        · rw [if_neg c2, if_pos c1]
          refine Rl.bind (stop1 h3 h11 c c2) ?_
          rintro I2 A2 ⟨w1, w2, w3, w4, w5, -⟩
          refine Rl.next ⟨i + 1, by omega, n_addR i 1, n_addR i 1, w1, w2, hs.tr w3, fun q hq h => ?_⟩ (m_dc c (by omega))
          simp only at h ⊢
          by_cases e : q = i
          · rw [e]
            exact w4
          · rw [w5 q e]
            rw [w3.2.1.c (t := 93) (by decide)] at h
            exact hm q (by omega) h
      · rw [if_neg c1]
        by_cases c2 : A' 94 0 i = 0
        · rw [if_pos c2]
          exact Rl.next ⟨i + 1, by omega, n_addR i 1, n_addR i 1, h3, h11, hs, nx (fun z => absurd z c1)⟩ (m_dc c (by omega))
        · rw [if_neg c2, if_neg c1]
          exact Rl.next ⟨i + 1, by omega, n_addR i 1, n_addR i 1, h3, h11, hs, nx (fun z => absurd z c1)⟩ (m_dc c (by omega))
    · have e : i = 8 := by omega
      subst e
      rw [if_pos (by decide), if_pos (by decide)]
      exact Rl.stop ⟨h3, h11, hs, hm⟩
  obtain ⟨u, v, e1, e2, h⟩ := hl
  unfold f83
  rw [e1, e2, Option.bind_some]
  exact Rl.ret h
theorem S_remove {I A : mI} {J B : mJ} (x : Int32) (h : Sim I J A B) : Rl (f13 x I J) (f146 x A B) (fun u v => u.1 = v.1 ∧ Sim u.2 J v.2 B) := by
  have h' := h
  obtain ⟨a1, a2, a3, a4, a5, a6, a7, a8, a9, a10, a11⟩ := h
  unfold f13 f146
  rcases pl_cases x with ⟨e1, e2⟩ | ⟨p, hp, rfl, e1, e2⟩
  · rw [e1, e2, bF, bF]
    exact Rl.ret ⟨rfl, h'⟩
  have g := i_g (n := p) (N := 8) hp (by decide)
  have ecl : (Int32.ofNat p).toNatClampNeg = p := i_cl (by omega)
  rw [e1, e2, bT, bT]
  simp only [if_neg g]
  simp only [ecl]
  rw [(a3 p hp).1]
  by_cases c0 : A 92 0 p = 0
  · rw [if_pos c0, if_pos c0]
    exact Rl.ret ⟨rfl, h'⟩
  rw [if_neg c0, if_neg c0]
  have st : Rl (f82 (Int32.ofNat p) I) (if A 94 0 p = 0 then some A else f147 (Int32.ofNat p) A) (fun I1 A1 => g_plug I1 A1 ∧ g_his I1 A1 0 16 114 41 ∧ g_stp I A I1 A1) := by
    by_cases c1 : A 94 0 p = 0
    · rw [if_pos c1, f82_0 a3 hp c1]
      exact Rl.ret ⟨a3, a11, g_stp.rf _ _⟩
    · rw [if_neg c1]
      exact (stop1 a3 a11 hp c1).mono (fun I' A' w => ⟨w.1, w.2.1, w.2.2.1⟩)
  have er : (if A 94 0 p = 0 then j146_35 (Int32.ofNat p) A B else (f147 (Int32.ofNat p) A).bind fun u1119 => j146_35 (Int32.ofNat p) u1119 B) = (if A 94 0 p = 0 then some A else f147 (Int32.ofNat p) A).bind fun u => j146_35 (Int32.ofNat p) u B := by
    by_cases c1 : A 94 0 p = 0
    · rw [if_pos c1, if_pos c1]
      rfl
    · rw [if_neg c1, if_neg c1]
  rw [er]
  refine Rl.bind st ?_
  rintro I1 A1 ⟨b3, b11, b⟩
  unfold f75 f48 j146_35
  rw [if_neg g, ecl, nar0, Option.bind_some, Option.bind_some, f134_t, Option.bind_assoc]
  have fI2 : fr (mx_u3 (mx_u3 I1 6 p 3 0) 4 p 2 0) I [4, 6, 10, 81] := (((b.1.wd (by decide)).up (by decide)).up (by decide))
  have fA2 : fr (mx_u3 A1 92 0 p 0) A [11, 92, 94, 114] := ((b.2.1.wd (by decide)).up (by decide))
  have c2 : g_wir (mx_u3 (mx_u3 I1 6 p 3 0) 4 p 2 0) (mx_u3 A1 92 0 p 0) J B := a2.fr fI2 (fr.rf J []) fA2 (fr.rf B []) (by decide)
  have c3 : g_plug (mx_u3 (mx_u3 I1 6 p 3 0) 4 p 2 0) (mx_u3 A1 92 0 p 0) := by
    intro q hq
    obtain ⟨d1, d2, d3, d4, d5, d6, d7, d8, d9, d10, d11, d12, d13⟩ := b3 q hq
    have i6 : ∀ k, k ≠ 3 → (mx_u3 (mx_u3 I1 6 p 3 0) 4 p 2 0) 6 q k = I1 6 q k := fun k hk => by
      rw [u3_ne (by decide), u3_at, if_neg (fun z => hk z.2)]
    unfold g_pl
    rw [i6 4 (by decide), i6 5 (by decide), i6 6 (by decide), i6 7 (by decide), i6 8 (by decide), i6 9 (by decide), i6 10 (by decide), u3_ne (show (93 : Nat) ≠ 92 by decide), u3_ne (show (94 : Nat) ≠ 92 by decide), u3_ne (show (95 : Nat) ≠ 92 by decide), u3_ne (show (96 : Nat) ≠ 92 by decide), u3_ne (show (97 : Nat) ≠ 92 by decide), u3_ne (show (98 : Nat) ≠ 92 by decide), u3_ne (show (99 : Nat) ≠ 92 by decide), u3_at, u3_ne (by decide), u3_at]
    by_cases e : q = p
    · rw [if_pos ⟨e, rfl⟩, if_pos ⟨rfl, e⟩]
      exact ⟨rfl, bl0, d3, d4, d5, d6, d7, d8, d9, d10, d11, d12, d13⟩
    · rw [if_neg (fun z => e z.1), if_neg (fun z => e z.2)]
      exact ⟨d1, d2, d3, d4, d5, d6, d7, d8, d9, d10, d11, d12, d13⟩
  have c4 : g_tree (mx_u3 (mx_u3 I1 6 p 3 0) 4 p 2 0) (mx_u3 A1 92 0 p 0) J B := by
    intro q hq
    by_cases e : q = p
    · subst e
      refine ⟨0, by omega, ?_, fun _ => rfl, fun z => absurd ?_ z, fun k hk => absurd hk (by omega)⟩
      · rw [u3_eq]
        rfl
      · rw [u3_eq]
    · obtain ⟨n, hn, d1, d2, d3, d4⟩ := a4 q hq
      unfold g_tr g_e0 g_at
      rw [fI2 3 (by decide), fA2 100 (by decide), fA2 105 (by decide), fA2 106 (by decide), fA2 107 (by decide)]
      have x92 : (mx_u3 A1 92 0 p 0) 92 0 q = A 92 0 q := by
        rw [u3_at, if_neg (fun z => e z.2), b.2.1.c (t := 92) (by decide)]
      refine ⟨n, hn, ?_, ?_, ?_, d4⟩
      · rw [u3_at, if_neg (fun z => e z.1), u3_ne (by decide), b.1.c (t := 4) (by decide)]
        exact d1
      · rw [x92]
        exact d2
      · rw [x92]
        exact d3
  refine Rl.bind (resolve_s c2 (fun q hq => ⟨(c3 q hq).1, (c3 q hq).2.1, (c3 q hq).2.2.2.2.2.2.2.2.1⟩)) ?_
  rintro I3 A3 ⟨r, fx⟩
  have k3 : g_plug I3 A3 := rs_plug c3 r
  have fI3 : fr I3 I [4, 6, 10, 81] := (r.1.wd (by decide)).tr fI2
  have fA3 : fr A3 A [11, 92, 93, 94, 114] := (r.2.1.wd (by decide)).tr (fA2.wd (by decide))
  have x11 : ∀ c, A3 11 0 c = A1 11 0 c := fun c => by rw [r.2.1 11 (by decide), u3_ne (by decide)]
  have k11 : g_his I3 A3 0 16 114 41 := by
    refine b11.cl (fun k => ?_) (fun k => ?_) (fun k _ => ?_) (x11 41)
    · rw [r.1.c (t := 10) (by decide), u3_ne (by decide), u3_ne (by decide)]
    · rw [r.1.c (t := 81) (by decide), u3_ne (by decide), u3_ne (by decide)]
    · rw [r.2.1.c (t := 114) (by decide), u3_ne (by decide)]
  have x39 : ∀ c, c ≠ 41 → A3 11 0 c = A 11 0 c := fun c hc => (x11 c).trans (b.2.2.1 c hc)
  have k10 : g_his I3 A3 1 32 113 40 := by
    refine a10.cl (fun k => ?_) (fun k => ?_) (fun k _ => ?_) (x39 40 (by decide))
    · rw [r.1.c (t := 10) (by decide), u3_ne (by decide), u3_ne (by decide)]
      exact b.2.2.2.1 k
    · rw [r.1.c (t := 81) (by decide), u3_ne (by decide), u3_ne (by decide)]
      exact b.2.2.2.2.1 k
    · exact fA3.c (t := 113) (by decide)
  obtain ⟨I4, v4, e4, -, -, -, s4, -⟩ := unres_s (B := B) 0 A3 k3 k11
  rw [e4, Option.bind_some]
  have fI4 : fr I4 I [4, 6, 10, 81] := (s4.1.wd (by decide)).tr fI3
  have t4 : g_tree I4 A3 J B := (c4.fr r.1 (fr.rf J []) r.2.1 (fr.rf B []) (by decide)).fr s4.1 (fr.rf J []) (fr.rf A3 []) (fr.rf B []) (by decide)
  have e40 : (mx_u3 A1 92 0 p 0) 11 0 40 = A3 11 0 40 := by
    rw [x11, u3_ne (by decide)]
  rw [e40]
  refine Rl.bind (change_s (I := I4) (A := A3) (J := J) (B := B) (fun q hq => ?_) t4 (a5.fr fI4 (fr.rf J []) (by decide)) (fun t ht => ?_) (a9.fr fI4 fA3 (x39 39 (by decide)) (by decide)) (k10.cl s4.2.2.2.1 s4.2.2.2.2.1 (fun _ _ => rfl) rfl)) ?_
  · rw [s4.2.2.2.2.2.1 q 4 (by decide)]
    exact (k3 q hq).2.2.1
  · rw [fI4.c (t := 75) (by decide), fA3.c (t := 108) (by decide)]
    exact ⟨(a8 t ht).1, (a8 t ht).2.1⟩
  rintro ⟨y1, I5⟩ ⟨y2, A4⟩ ⟨o1, o2, o3, o4, o5, o6, o7, o8, o9, o10⟩
  simp only at o1 o2 o3 o4 o5 o6 o7 o8 o9 o10 ⊢
  have k3' : g_plug I3 A4 := k3.fr (fr.rf I3 []) o3 (by decide)
  have k11' : g_his I3 A4 0 16 114 41 := k11.fr (fr.rf I3 []) o3 (o4 41 (by decide)) (by decide)
  obtain ⟨I4', ⟨z, A5⟩, e4', e5, w1, w2, w3, w4⟩ := unres_s (B := B) y2 A4 k3' k11'
  simp only at w1 w2 w3 w4
  rw [e4] at e4'
  have e6 := Option.some.inj e4'
  subst e6
  rw [e5, Option.bind_some]
  have fI5 : fr I5 I [4, 6, 10, 74, 75, 76, 80, 81] := (o2.wd (by decide)).tr (fI4.wd (by decide))
  have fA5 : fr A5 A [11, 92, 93, 94, 108, 109, 113, 114, 115] := (w3.2.1.wd (by decide)).tr ((o3.wd (by decide)).tr (fA3.wd (by decide)))
  have f53 : fr A5 A3 [11, 94, 108, 109, 113, 114, 115] := (w3.2.1.wd (by decide)).tr (o3.wd (by decide))
  have y11 : ∀ c, c ≠ 40 → c ≠ 41 → A5 11 0 c = A 11 0 c := fun c h1 h2 => (w3.2.2.1 c h2).trans ((o4 c h1).trans (x39 c h2))
  refine Rl.ret ⟨o1, a1.fr fI5 fA5 (y11 10 (by decide) (by decide)) (by decide), a2.fr fI5 (fr.rf J []) fA5 (fr.rf B []) (by decide), w1.fr o2 (fr.rf A5 []) (by decide), t4.fr o2 (fr.rf J []) f53 (fr.rf B []) (by decide), a5.fr fI5 (fr.rf J []) (by decide), fun q hq => ⟨fun z => ?_, fun z z2 => z (w4 q hq z2)⟩, o7.fr (fr.rf I5 []) w3.2.1 (fr.rf B []) (by decide), o8.fr (fr.rf I5 []) w3.2.1 (fr.rf B []) (by decide), o9.fr (fr.rf I5 []) w3.2.1 (w3.2.2.1 39 (by decide)) (by decide), o10.fr (fr.rf I5 []) w3.2.1 (w3.2.2.1 40 (by decide)) (by decide), w2.cl o5 o6 (fun _ _ => rfl) rfl⟩
  simp only at z ⊢
  unfold g_mt
  rw [f53 93 (by decide)] at z ⊢
  rw [f53 92 (by decide), f53 83 (by decide), f53 84 (by decide), f53 85 (by decide), f53 86 (by decide), f53 96 (by decide)]
  refine ⟨?_, fx q hq z⟩
  rw [r.2.1 92 (by decide)]
  exact r.2.2.2.2.1 q hq z
