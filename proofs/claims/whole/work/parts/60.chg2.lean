/-! the whole change -/
theorem do_s {I : mI} {n : Nat} (hn : n ≤ 24) (h : I 9 0 4 = Int32.ofNat n) (ht : ∀ k, k < n → ∃ t, t < 128 ∧ I 78 0 k = Int32.ofNat t) : Sm (f110_75 I) (fun I' => fr I' I [80] ∧ (∀ k t, k < n → t < 128 → I 78 0 k = Int32.ofNat t → I' 80 0 k = if I 75 0 t = 0 then 1 else I 80 0 k) ∧ ∀ k, n ≤ k → I' 80 0 k = I 80 0 k) := by
  unfold f110_75
  have hl : Sm (mx_lp (b110_75_2 I) mx_fu ((0 : Int32), I)) (fun r => fr r.2 I [80] ∧ (∀ k t, k < n → t < 128 → I 78 0 k = Int32.ofNat t → r.2 80 0 k = if I 75 0 t = 0 then 1 else I 80 0 k) ∧ ∀ k, n ≤ k → r.2 80 0 k = I 80 0 k) := by
    refine Sm.lp (fun s => ∃ i, i ≤ n ∧ s.1 = Int32.ofNat i ∧ fr s.2 I [80] ∧ (∀ k t, k < i → t < 128 → I 78 0 k = Int32.ofNat t → s.2 80 0 k = if I 75 0 t = 0 then 1 else I 80 0 k) ∧ ∀ k, i ≤ k → s.2 80 0 k = I 80 0 k) (fun s => 24 - s.1.toNatClampNeg) ?_ mx_fu ⟨0, by omega, rfl, fr.rf _ _, fun k t hk => absurd hk (by omega), fun t _ => rfl⟩ (by show 24 - 0 < 1000; decide)
    rintro ⟨_, I'⟩ ⟨i, hi, rfl, f, hm, hz⟩
    simp only at f hm hz
    unfold b110_75_2
    simp only
    have e9 : I' 9 0 4 = Int32.ofNat n := (f.c (t := 9) (by decide)).trans h
    rw [e9]
    rcases Nat.lt_or_ge i n with c | c
    · obtain ⟨t, ht1, ht2⟩ := ht i c
      have g := i_g (show i < 24 by omega) (show 24 ≤ 2147483648 by decide)
      have ecl : (Int32.ofNat i).toNatClampNeg = i := i_cl (by omega)
      rw [if_neg (fun q => absurd ((i_le (by omega) (by omega)).mp q) (by omega))]
      simp only [if_neg g, nar1]
      simp only [ecl]
      rw [f.c (t := 78) (by decide), ht2, if_neg (i_g ht1 (by decide)), i_cl (by omega), f.c (t := 75) (by decide)]
      by_cases c2 : I 75 0 t = 0
      · rw [if_pos c2]
        refine Sm.ret ⟨⟨i + 1, by omega, n_addR i 1, f.up (by decide), fun k t2 hk h2 h3 => ?_, fun t h1 => ?_⟩, m_dc (by omega) (by omega)⟩
        · simp only
          rw [u3_at]
          by_cases q : k = i
          · have e : t2 = t := by
              rw [q, ht2] at h3
              exact ((i_eq (by omega) (by omega)).mp h3).symm
            rw [if_pos ⟨rfl, q⟩, e, if_pos c2]
          · rw [if_neg (fun z => q z.2)]
            exact hm k t2 (by omega) h2 h3
        · simp only
          rw [u3_at, if_neg (fun z => by have := z.2; omega)]
          exact hz t (by omega)
      · rw [if_neg c2]
        refine Sm.ret ⟨⟨i + 1, by omega, n_addR i 1, f, fun k t2 hk h2 h3 => ?_, fun t h1 => hz t (by omega)⟩, m_dc (by omega) (by omega)⟩
        simp only
        by_cases q : k = i
        · have e : t2 = t := by
            rw [q, ht2] at h3
            exact ((i_eq (by omega) (by omega)).mp h3).symm
          rw [e, if_neg c2, q]
          exact hz i (Nat.le_refl i)
        · exact hm k t2 (by omega) h2 h3
    · have e : i = n := by omega
      subst e
      rw [if_pos ((i_le (by omega) (by omega)).mpr (Nat.le_refl i))]
      exact Sm.ret ⟨f, hm, hz⟩
  refine Sm.bind hl ?_
  rintro ⟨z, I'⟩ h
  exact Sm.ret h
def f134t (x : Int32) (A : mI) (B : mJ) : Option (Int32 × mI) :=
  (mx_lp (b134_11 x A B) mx_fu ((0 : Int32), A)).bind fun u106 =>
  (mx_lp (b134_45 x u106.2 B) mx_fu ((0 : Int32), u106.2)).bind fun u212 =>
  (mx_lp (b134_71 x u212.2 B) mx_fu ((0 : Int32), u212.2)).bind fun u321 =>
  (mx_lp (b134_109 x u321.2 B) mx_fu ((0 : Int32), u321.2)).bind fun u430 =>
  some ((u430.2 11 0 40) - x, u430.2)
theorem f134_t (A : mI) (B : mJ) : f134 A B = (f135 A).bind fun A1 => f134t (A 11 0 40) A1 B := rfl
theorem yn_eq {x y : Int32} {P : Prop} (h : yn x P) (h2 : yn y P) : x = y := by
  rcases h with ⟨h, g⟩ | ⟨h, g⟩ <;> rcases h2 with ⟨h2, g2⟩ | ⟨h2, g2⟩
  · rw [h, h2]
  · exact absurd g2 g
  · exact absurd g g2
  · rw [h, h2]
theorem yn_bl {x : Int32} {P : Prop} (h : yn x P) : bl x := h.elim (fun z => .inl z.1) (fun z => .inr z.1)
theorem yn_ne {x : Int32} {P : Prop} (h : yn x P) (n : ¬ x = 0) : P := h.elim (fun z => absurd z.1 n) (fun z => z.2)
theorem bl_1 {x : Int32} (h : bl x) (n : ¬ x = 0) : x = 1 := h.elim (fun z => absurd z n) id
theorem change_s {I A : mI} {J B : mJ} (a3 : ∀ q, q < 8 → I 6 q 4 = A 93 0 q) (a4 : g_tree I A J B) (a5 : g_non I J) (a8 : ∀ t, t < 128 → I 75 0 t = A 108 0 t ∧ bl (A 108 0 t)) (a9 : g_mad I A) (a10 : g_his I A 1 32 113 40) : Rl (f12 I J) (f134t (A 11 0 40) A B) (fun u v => u.1 = v.1 ∧ fr u.2 I [10, 74, 75, 76, 80, 81] ∧ fr v.2 A [11, 108, 109, 113, 115] ∧ (∀ c, c ≠ 40 → v.2 11 0 c = A 11 0 c) ∧ (∀ k, u.2 10 0 k = I 10 0 k) ∧ (∀ k, u.2 81 0 k = I 81 0 k) ∧ g_pts u.2 v.2 B ∧ g_ext u.2 v.2 B ∧ g_mad u.2 v.2 ∧ g_his u.2 v.2 1 32 113 40) := by
  obtain ⟨n, hn, m1, m2, m3, m4⟩ := a9
  obtain ⟨I1, e1, f1, p1⟩ := f98_s a4 a5 a3
  have t4 : g_tree I1 A J B := a4.fr f1 (fr.rf J []) (fr.rf A []) (fr.rf B []) (by decide)
  have t5 : g_non I1 J := a5.fr f1 (fr.rf J []) (by decide)
  have t3 : ∀ q, q < 8 → I1 6 q 4 = A 93 0 q := fun q hq => (f1.c (t := 6) (by decide)).trans (a3 q hq)
  have h75 : ∀ t, I1 75 0 t = I 75 0 t := fun t => f1.c (t := 75) (by decide)
  obtain ⟨⟨z2, I2⟩, e2, f2, h2⟩ := b97_s t4 t5 t3 p1 (fun t ht => by rw [h75, (a8 t ht).1]; exact (a8 t ht).2) I1
  simp only at f2 h2
  obtain ⟨⟨y1, A1⟩, d1, k1, w1⟩ := b134_s1 (B := B) (A 11 0 40) A (fun t ht => (a8 t ht).2)
  simp only at k1 w1
  have u4 : g_tree I A1 J B := a4.fr (fr.rf I []) (fr.rf J []) k1 (fr.rf B []) (by decide)
  obtain ⟨⟨y2, A2⟩, d2, k2, w2⟩ := b134_s2 u4 (A 11 0 40) A1
  simp only at k2 w2
  rw [extp_fr k1 (by decide)] at w2
  have fI2 : fr I2 I [74, 75, 76] := (f2.wd (by decide)).tr (f1.wd (by decide))
  have fA2 : fr A2 A [108, 109] := (k2.wd (by decide)).tr (k1.wd (by decide))
  have g10 : g_his I2 A2 1 32 113 40 := a10.fr fI2 fA2 (fA2.c (t := 11) (by decide)) (by decide)
  have x75 : ∀ t, t < 128 → I2 75 0 t = A2 108 0 t := fun t ht => yn_eq (h2 t ht).2 (w2 t ht)
  have x76 : ∀ t, t < 128 → I2 76 0 t = A2 109 0 t := fun t ht => by
    rw [(h2 t ht).1, h75, (a8 t ht).1, k2.c (t := 109) (by decide), w1 t ht]
  have x39 : A2 11 0 39 = Int32.ofNat n := (fA2.c (t := 11) (by decide)).trans m2
  unfold f12 f97 f105 f134t
  rw [e1, d1, Option.bind_some, Option.bind_some, e2, d2, Option.bind_some, Option.bind_some]
  simp only
  obtain ⟨⟨z3, I3⟩, ⟨y3, A3⟩, e3, d3, l3, s3⟩ := gone_s (B := B) (I2 10 1 2) (A 11 0 40) I2 A2 hn x39 g10 x75 x76
  simp only at l3 s3
  rw [e3, d3, Option.bind_some, Option.bind_some]
  simp only
  obtain ⟨⟨z4, I4⟩, ⟨y4, A4⟩, e4, d4, l4, s4⟩ := come_s (B := B) (I := I3) (A := A3) (I2 10 1 2) (A 11 0 40) I3 A3 hn ((l3.2.2.1 39 (by decide)).trans x39) l3.2.2.2.2.2 (fun t ht => by rw [l3.1.c (t := 75) (by decide), l3.2.1.c (t := 108) (by decide)]; exact x75 t ht) (fun t ht => by rw [l3.1.c (t := 76) (by decide), l3.2.1.c (t := 109) (by decide)]; exact x76 t ht)
  simp only at l4 s4
  have l5 := l3.tr l4
  rw [e4, d4, Option.bind_some, Option.bind_some, Option.bind_some]
  simp only
  have fI4 : fr I4 I [10, 74, 75, 76, 81] := (l5.1.wd (by decide)).tr (fI2.wd (by decide))
  have fA4 : fr A4 A [11, 108, 109, 113, 115] := (l5.2.1.wd (by decide)).tr (fA2.wd (by decide))
  obtain ⟨I5, e5, f5, o1, o2⟩ := do_s (I := I4) hn ((fI4.c (t := 9) (by decide)).trans m1) (fun k hk => by
    obtain ⟨q1, q2, q3, q4, q5, t, q6, q7, q8⟩ := m3 k hk
    exact ⟨t, q6, by rw [fI4.c (t := 78) (by decide), q3, q7]⟩)
  rw [e5, Option.bind_some]
  have fI5 : fr I5 I [10, 74, 75, 76, 80, 81] := (f5.wd (by decide)).tr (fI4.wd (by decide))
  have i75 : ∀ t, t < 128 → I4 75 0 t = A2 108 0 t := fun t ht => (l5.1.c (t := 75) (by decide)).trans (x75 t ht)
  have a108 : ∀ t, A4 108 0 t = A2 108 0 t := fun t => l5.2.1.c (t := 108) (by decide)
  have a115 : ∀ k, k < n → dr (A4 115 0 k) (gne A2 k 128) (A 115 0 k) := fun k hk => by
    rw [s4 k hk]
    have q := s3 k hk
    rw [fA2.c (t := 115) (by decide)] at q
    exact q
  have a112 : ∀ k, A2 112 0 k = A 112 0 k := fun k => fA2.c (t := 112) (by decide)
  have a109 : ∀ t, t < 128 → A2 109 0 t = A 108 0 t := fun t ht => (k2.c (t := 109) (by decide)).trans (w1 t ht)
  refine Rl.ret ⟨?_, fI5, fA4, fun c hc => ?_, fun k => ?_, fun k => ?_, ?_, fun t ht => ?_, ⟨n, hn, ?_, ?_, fun k hk => ?_, fun k h1 h2 => ?_⟩, ?_⟩
  · simp only
    have q1 : I4 10 1 2 = A4 11 0 40 := l5.2.2.2.2.2.1
    have q2 : I2 10 1 2 = A 11 0 40 := (fI2.c (t := 10) (by decide)).trans a10.1
    rw [q1, q2]
  · exact (l5.2.2.1 c hc).trans (fA2.c (t := 11) (by decide))
  · show I5 10 0 k = I 10 0 k
    rw [f5.c (t := 10) (by decide), l5.2.2.2.1 k, fI2.c (t := 10) (by decide)]
  · show I5 81 0 k = I 81 0 k
    rw [f5.c (t := 81) (by decide), l5.2.2.2.2.1 k, fI2.c (t := 81) (by decide)]
  · have fx : fr I5 I1 [10, 75, 76, 80, 81] := (f5.wd (by decide)).tr ((l5.1.wd (by decide)).tr (f2.wd (by decide)))
    exact p1.fr fx fA4 (fr.rf B []) (by decide)
  · have e : I5 75 0 t = A2 108 0 t := (f5.c (t := 75) (by decide)).trans (i75 t ht)
    simp only
    rw [e, a108 t]
    refine ⟨rfl, yn_bl (w2 t ht), fun q => ?_⟩
    have z := yn_ne (w2 t ht) q
    rw [← extp_fr fA4 (by decide)] at z
    obtain ⟨z1, s, z2, z3, -⟩ := z
    exact ⟨z1, s, z2, z3⟩
  · exact (fI5.c (t := 9) (by decide)).trans m1
  · exact (l5.2.2.1 39 (by decide)).trans x39
  · obtain ⟨q1, q2, q3, q4, q5, t, q6, q7, q8⟩ := m3 k hk
    simp only
    have i78 : I4 78 0 k = Int32.ofNat t := by rw [fI4.c (t := 78) (by decide), q3, q7]
    have o3 := o1 k t hk q6 i78
    rw [i75 t q6, fI4.c (t := 80) (by decide), q4] at o3
    have y115 : A4 115 0 k = if A2 108 0 t = 0 then 1 else A 115 0 k := by
      by_cases c : A2 108 0 t = 0
      · rw [if_pos c]
        rcases a115 k hk with ⟨-, z⟩ | ⟨z, z2⟩
        · exact z
        · rw [z2]
          refine bl_1 q5 (fun q => z ⟨t, q6, (a112 k).trans q7, ?_, c⟩)
          rw [a109 t q6]
          exact q8 q
      · rw [if_neg c]
        rcases a115 k hk with ⟨⟨s, z1, z2, z3, z4⟩, z⟩ | ⟨z, z2⟩
        · exfalso
          rw [a112, q7, i_eq (by omega) (by omega)] at z2
          rw [z2] at c
          exact c z4
        · exact z2
    refine ⟨?_, ?_, ?_, o3.trans y115.symm, ?_, t, q6, ?_, fun q => ?_⟩
    · rw [fI5.c (t := 77) (by decide), fA4.c (t := 110) (by decide)]
      exact q1
    · rw [fI5.c (t := 79) (by decide), fA4.c (t := 111) (by decide)]
      exact q2
    · rw [fI5.c (t := 78) (by decide), fA4.c (t := 112) (by decide)]
      exact q3
    · rw [y115]
      split
      · exact bl1
      · exact q5
    · rw [fA4.c (t := 112) (by decide)]
      exact q7
    · rw [a108]
      intro c
      rw [y115, if_pos c] at q
      exact absurd q (by decide)
  · simp only
    rw [o2 k h1, fI4.c (t := 80) (by decide)]
    exact m4 k h1 h2
  · exact l5.2.2.2.2.2.fr f5 (fr.rf A4 []) rfl (by decide)
