/-! telling of a change -/
theorem drop_s {A : mI} {n : Nat} (x : Int32) (A0 : mI) (hn : n ≤ 24) (h : A 11 0 39 = Int32.ofNat n) : Sm (mx_lp (b145_54 x A0) mx_fu ((0 : Int32), A)) (fun r => fr r.2 A [115] ∧ ∀ k, k < n → r.2 115 0 k = if A 112 0 k = x then 1 else A 115 0 k) := by
  refine Sm.lp (fun s => ∃ i, i ≤ n ∧ s.1 = Int32.ofNat i ∧ fr s.2 A [115] ∧ (∀ k, k < i → s.2 115 0 k = if A 112 0 k = x then 1 else A 115 0 k) ∧ ∀ k, i ≤ k → s.2 115 0 k = A 115 0 k) (fun s => 24 - s.1.toNatClampNeg) ?_ mx_fu ⟨0, by omega, rfl, fr.rf _ _, fun t ht => absurd ht (by omega), fun t _ => rfl⟩ (by show 24 - 0 < 1000; decide)
  rintro ⟨_, A'⟩ ⟨i, hi, rfl, f, hm, hz⟩
  simp only at f hm hz
  unfold b145_54
  simp only
  have e39 : A' 11 0 39 = Int32.ofNat n := (f.c (t := 11) (by decide)).trans h
  have e112 : A' 112 = A 112 := f 112 (by decide)
  rw [e39]
  rcases Nat.lt_or_ge i n with c | c
  · have g := i_g (show i < 24 by omega) (show 24 ≤ 2147483648 by decide)
    have ecl : (Int32.ofNat i).toNatClampNeg = i := i_cl (by omega)
    rw [if_neg (fun q => absurd ((i_le (by omega) (by omega)).mp q) (by omega))]
    simp only [if_neg g, nar1]
    simp only [ecl]
    rw [e112]
    by_cases c2 : A 112 0 i = x
    · rw [if_pos c2]
      refine Sm.ret ⟨⟨i + 1, by omega, n_addR i 1, f.up (by decide), fun t ht => ?_, fun t h1 => ?_⟩, m_dc (by omega) (by omega)⟩
      · simp only
        rw [u3_at]
        by_cases q : t = i
        · rw [if_pos ⟨rfl, q⟩, q, if_pos c2]
        · rw [if_neg (fun z => q z.2)]
          exact hm t (by omega)
      · simp only
        rw [u3_at, if_neg (fun z => by have := z.2; omega)]
        exact hz t (by omega)
    · rw [if_neg c2]
      refine Sm.ret ⟨⟨i + 1, by omega, n_addR i 1, f, fun t ht => ?_, fun t h1 => hz t (by omega)⟩, m_dc (by omega) (by omega)⟩
      simp only
      by_cases q : t = i
      · rw [q, if_neg c2]
        exact hz i (Nat.le_refl i)
      · exact hm t (by omega)
  · have e : i = n := by omega
    subst e
    rw [if_pos ((i_le (by omega) (by omega)).mpr (Nat.le_refl i))]
    exact Sm.ret ⟨f, hm⟩
/-- what telling keeps -/
def g_tl (I A I' A' : mI) : Prop := fr I' I [10, 81] ∧ fr A' A [11, 113, 115] ∧ (∀ c, c ≠ 40 → A' 11 0 c = A 11 0 c) ∧ (∀ k, I' 10 0 k = I 10 0 k) ∧ (∀ k, I' 81 0 k = I 81 0 k) ∧ g_his I' A' 1 32 113 40
theorem g_tl.tr {I A I' A' I2 A2 : mI} (h : g_tl I A I' A') (h2 : g_tl I' A' I2 A2) : g_tl I A I2 A2 := by
  obtain ⟨a1, a2, a3, a4, a5, a6⟩ := h
  obtain ⟨b1, b2, b3, b4, b5, b6⟩ := h2
  exact ⟨b1.tr a1, b2.tr a2, fun c hc => (b3 c hc).trans (a3 c hc), fun k => (b4 k).trans (a4 k), fun k => (b5 k).trans (a5 k), b6⟩
theorem tell1 {I A : mI} {n : Nat} (hn : n ≤ 24) (h39 : A 11 0 39 = Int32.ofNat n) (hh : g_his I A 1 32 113 40) (x : Int32) : Rl (f114 1 x I) (f145 x A) (fun I' A' => g_tl I A I' A' ∧ ∀ k, k < n → A' 115 0 k = if x < 128 ∧ A 112 0 k = x then 1 else A 115 0 k) := by
  obtain ⟨hh1, y, hy, hy1, hy2⟩ := id hh
  obtain ⟨I', e1, n1, n2, n3, n4, n5⟩ := note_s (I := I) (i := 1) (N := 32) (y := y) rfl (.inr rfl) hy hy1 x
  obtain ⟨r, e2, m1, m2⟩ := sh_145 x A A
  unfold f145
  rw [e1, e2, Option.bind_some]
  have r11 : ∀ c, r.2 11 0 c = A 11 0 c := fun c => by rw [m1 11 (by decide)]
  have fA : fr (mx_u3 (mx_u3 r.2 113 0 0 x) 11 0 40 (r.2 11 0 40 + 1)) A [11, 113] := ((m1.wd (by decide)).up (by decide)).up (by decide)
  have c11 : ∀ c, c ≠ 40 → (mx_u3 (mx_u3 r.2 113 0 0 x) 11 0 40 (r.2 11 0 40 + 1)) 11 0 c = A 11 0 c := fun c hc => by
    rw [u3_at, if_neg (fun z => hc z.2), u3_ne (by decide), r11]
  have hg : g_his I' (mx_u3 (mx_u3 r.2 113 0 0 x) 11 0 40 (r.2 11 0 40 + 1)) 1 32 113 40 := by
    refine his_st (.inr rfl) hh hy1 hy n2 n3 n4 ?_ (fun k k1 k2 => ?_) ?_ (x := x)
    · rw [u3_ne (by decide), u3_eq]
    · rw [u3_ne (by decide), u3_at, if_neg (fun z => by have := z.2; omega), m2 k k1 k2]
    · rw [u3_eq, r11]
  by_cases c : x < 128
  · rw [if_pos c]
    obtain ⟨⟨z, A2⟩, k1, k2, k3⟩ := drop_s x (mx_u3 (mx_u3 r.2 113 0 0 x) 11 0 40 (r.2 11 0 40 + 1)) hn ((c11 39 (by decide)).trans h39)
    simp only at k2 k3
    rw [k1, Option.bind_some]
    refine Rl.ret ⟨⟨n1, (k2.wd (by decide)).tr (fA.wd (by decide)), fun c hc => ?_, (n5 0 (by decide)).1, (n5 0 (by decide)).2, ?_⟩, fun k hk => ?_⟩
    · exact (k2.c (t := 11) (by decide)).trans (c11 c hc)
    · exact hg.fr (fr.rf I' []) k2 (k2.c (t := 11) (by decide)) (by decide)
    · simp only
      rw [k3 k hk, fA.c (t := 112) (by decide), fA.c (t := 115) (by decide)]
      by_cases q : A 112 0 k = x
      · rw [if_pos q, if_pos ⟨c, q⟩]
      · rw [if_neg q, if_neg (fun z => q z.2)]
  · rw [if_neg c]
    refine Rl.ret ⟨⟨n1, fA.wd (by decide), c11, (n5 0 (by decide)).1, (n5 0 (by decide)).2, hg⟩, fun k hk => ?_⟩
    rw [if_neg (fun z => c z.1), fA.c (t := 115) (by decide)]
/-- both tell what went -/
def gne (A : mI) (k i : Nat) : Prop := ∃ t, t < i ∧ A 112 0 k = Int32.ofNat t ∧ ¬ A 109 0 t = 0 ∧ A 108 0 t = 0
def dr (x : Int32) (P : Prop) (y : Int32) : Prop := (P ∧ x = 1) ∨ (¬ P ∧ x = y)
theorem dr.cg {x y : Int32} {P Q : Prop} (h : dr x P y) (e : P ↔ Q) : dr x Q y := by
  unfold dr at h ⊢
  rw [← e]
  exact h
theorem gne_up {A : mI} {k i : Nat} (z : ¬ (A 112 0 k = Int32.ofNat i ∧ ¬ A 109 0 i = 0 ∧ A 108 0 i = 0)) : gne A k i ↔ gne A k (i + 1) := by
  constructor
  · rintro ⟨t, w1, w2⟩
    exact ⟨t, by omega, w2⟩
  · rintro ⟨t, w1, w2⟩
    by_cases e : t = i
    · subst e
      exact absurd w2 z
    · exact ⟨t, by omega, w2⟩
theorem gone_s {I A : mI} {B : mJ} {n : Nat} (x y : Int32) (I0 A0 : mI) (hn : n ≤ 24) (h39 : A 11 0 39 = Int32.ofNat n) (hh : g_his I A 1 32 113 40) (h75 : ∀ t, t < 128 → I 75 0 t = A 108 0 t) (h76 : ∀ t, t < 128 → I 76 0 t = A 109 0 t) : Rl (mx_lp (b105_7 1 x I0) mx_fu ((0 : Int32), I)) (mx_lp (b134_71 y A0 B) mx_fu ((0 : Int32), A)) (fun u v => g_tl I A u.2 v.2 ∧ ∀ k, k < n → dr (v.2 115 0 k) (gne A k 128) (A 115 0 k)) := by
  refine Rl.lp (fun u v => ∃ i, i ≤ 128 ∧ u.1 = Int32.ofNat i ∧ v.1 = Int32.ofNat i ∧ g_tl I A u.2 v.2 ∧ ∀ k, k < n → dr (v.2 115 0 k) (gne A k i) (A 115 0 k)) (fun s => 128 - s.1.toNatClampNeg) ?_ mx_fu ⟨0, by omega, rfl, rfl, ⟨fr.rf _ _, fr.rf _ _, fun _ _ => rfl, fun _ => rfl, fun _ => rfl, hh⟩, fun k hk => .inr ⟨?_, rfl⟩⟩ (by show 128 - 0 < 1000; decide)
  · rintro ⟨_, I'⟩ ⟨_, A'⟩ ⟨i, hi, rfl, rfl, ht, hm⟩
    simp only at ht hm
    unfold b105_7 b134_71
    simp only
    rcases Nat.lt_or_ge i 128 with c | c
    · have g := i_g c (show 128 ≤ 2147483648 by decide)
      have ecl : (Int32.ofNat i).toNatClampNeg = i := i_cl (by omega)
      have q1 : ¬ (128 : Int32) ≤ Int32.ofNat i := fun q => absurd ((n_leL (by decide) (by omega)).mp q) (by omega)
      simp only [if_neg q1, if_neg g]
      simp only [ecl]
      rw [ht.1.c (t := 75) (by decide), ht.1.c (t := 76) (by decide), ht.2.1.c (t := 108) (by decide), ht.2.1.c (t := 109) (by decide), h75 i c, h76 i c]
      by_cases c1 : A 109 0 i = 0
      · rw [if_pos c1, if_pos c1]
        exact Rl.next ⟨i + 1, by omega, n_addR i 1, n_addR i 1, ht, fun k hk => (hm k hk).cg (gne_up (fun z => z.2.1 c1))⟩ (m_dc c (by omega))
      · rw [if_neg c1, if_neg c1]
        by_cases c2 : A 108 0 i = 0
        · rw [if_pos c2, if_pos c2]
          refine Rl.bind (tell1 hn ((ht.2.2.1 39 (by decide)).trans h39) ht.2.2.2.2.2 (Int32.ofNat i)) ?_
          rintro I2 A2 ⟨w1, w2⟩
          refine Rl.next ⟨i + 1, by omega, n_addR i 1, n_addR i 1, ht.tr w1, fun k hk => ?_⟩ (m_dc c (by omega))
          simp only
          rw [w2 k hk, ht.2.1.c (t := 112) (by decide)]
          have l128 : Int32.ofNat i < 128 := (n_ltR (by omega) (by decide)).mpr c
          by_cases e : A 112 0 k = Int32.ofNat i
          · rw [if_pos ⟨l128, e⟩]
            exact .inl ⟨⟨i, by omega, e, c1, c2⟩, rfl⟩
          · rw [if_neg (fun z => e z.2)]
            exact (hm k hk).cg (gne_up (fun z => e z.1))
        · rw [if_neg c2, if_neg c2]
          exact Rl.next ⟨i + 1, by omega, n_addR i 1, n_addR i 1, ht, fun k hk => (hm k hk).cg (gne_up (fun z => c2 z.2.2))⟩ (m_dc c (by omega))
    · have e : i = 128 := by omega
      subst e
      rw [if_pos (by decide), if_pos (by decide)]
      exact Rl.stop ⟨ht, hm⟩
  · rintro ⟨t, z, -⟩
    omega
/-- both tell what came -/
theorem come_s {I A : mI} {B : mJ} {n : Nat} (x y : Int32) (I0 A0 : mI) (hn : n ≤ 24) (h39 : A 11 0 39 = Int32.ofNat n) (hh : g_his I A 1 32 113 40) (h75 : ∀ t, t < 128 → I 75 0 t = A 108 0 t) (h76 : ∀ t, t < 128 → I 76 0 t = A 109 0 t) : Rl (mx_lp (b105_45 1 x I0) mx_fu ((0 : Int32), I)) (mx_lp (b134_109 y A0 B) mx_fu ((0 : Int32), A)) (fun u v => g_tl I A u.2 v.2 ∧ ∀ k, k < n → v.2 115 0 k = A 115 0 k) := by
  refine Rl.lp (fun u v => ∃ i, i ≤ 128 ∧ u.1 = Int32.ofNat i ∧ v.1 = Int32.ofNat i ∧ g_tl I A u.2 v.2 ∧ ∀ k, k < n → v.2 115 0 k = A 115 0 k) (fun s => 128 - s.1.toNatClampNeg) ?_ mx_fu ⟨0, by omega, rfl, rfl, ⟨fr.rf _ _, fr.rf _ _, fun _ _ => rfl, fun _ => rfl, fun _ => rfl, hh⟩, fun k hk => rfl⟩ (by show 128 - 0 < 1000; decide)
  rintro ⟨_, I'⟩ ⟨_, A'⟩ ⟨i, hi, rfl, rfl, ht, hm⟩
  simp only at ht hm
  unfold b105_45 b134_109
  simp only
  rcases Nat.lt_or_ge i 128 with c | c
  · have g := i_g c (show 128 ≤ 2147483648 by decide)
    have ecl : (Int32.ofNat i).toNatClampNeg = i := i_cl (by omega)
    have q1 : ¬ (128 : Int32) ≤ Int32.ofNat i := fun q => absurd ((n_leL (by decide) (by omega)).mp q) (by omega)
    simp only [if_neg q1, if_neg g]
    simp only [ecl]
    rw [ht.1.c (t := 75) (by decide), ht.1.c (t := 76) (by decide), ht.2.1.c (t := 108) (by decide), ht.2.1.c (t := 109) (by decide), h75 i c, h76 i c]
    have e1 : Int32.ofNat i + 128 = Int32.ofNat (i + 128) := n_addR i 128
    have e2 : (128 : Int32) + Int32.ofNat i = Int32.ofNat (i + 128) := by
      rw [Nat.add_comm]
      exact n_addL 128 i
    rw [e1, e2]
    by_cases c1 : A 108 0 i = 0
    · by_cases c2 : A 109 0 i = 0
      · rw [if_pos c1, if_pos c2, if_pos c1]
        exact Rl.next ⟨i + 1, by omega, n_addR i 1, n_addR i 1, ht, hm⟩ (m_dc c (by omega))
      · rw [if_pos c1, if_neg c2]
        exact Rl.next ⟨i + 1, by omega, n_addR i 1, n_addR i 1, ht, hm⟩ (m_dc c (by omega))
    · by_cases c2 : A 109 0 i = 0
      · rw [if_neg c1, if_pos c2, if_pos c2, if_neg c1]
        refine Rl.bind (tell1 hn ((ht.2.2.1 39 (by decide)).trans h39) ht.2.2.2.2.2 (Int32.ofNat (i + 128))) ?_
        rintro I2 A2 ⟨w1, w2⟩
        refine Rl.next ⟨i + 1, by omega, n_addR i 1, n_addR i 1, ht.tr w1, fun k hk => ?_⟩ (m_dc c (by omega))
        simp only
        rw [w2 k hk, if_neg (fun z => by have := (n_ltR (by omega) (by decide)).mp z.1; omega), hm k hk]
      · rw [if_neg c1, if_neg c2, if_neg c2]
        exact Rl.next ⟨i + 1, by omega, n_addR i 1, n_addR i 1, ht, hm⟩ (m_dc c (by omega))
  · have e : i = 128 := by omega
    subst e
    rw [if_pos (by decide), if_pos (by decide)]
    exact Rl.stop ⟨ht, hm⟩
