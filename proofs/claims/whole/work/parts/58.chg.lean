/-! the registry changes -/
theorem nar_bl {x : Int32} (h : bl x) : vp_nar .boolean x = x := by
  rcases h with rfl | rfl
  · exact nar0
  · exact nar1
theorem fr.sy {α : Type} {a b : Nat → Nat → Nat → α} {ts : List Nat} (h : fr a b ts) : fr b a ts := fun t ht => (h t ht).symm
theorem extp_fr {A A' : mI} {B : mJ} {vs : List Nat} (hA : fr A' A vs) (d : ∀ t ∈ [92, 93, 100, 105, 106, 107], t ∉ vs) : extp A' B = extp A B := by
  obtain ⟨e1, e2⟩ := tp_fr (B' := B) (B := B) (ws := []) hA (fr.rf _ _) ⟨fun t ht => d t (by simp at ht ⊢; omega), fun t ht => by simp⟩
  unfold extp chk ptq fit fnm itb mus chb szn
  rw [e1, e2, hA 100 (d 100 (by decide)), hA 105 (d 105 (by decide))]
theorem isp_fr {A A' : mI} {B : mJ} {vs : List Nat} (hA : fr A' A vs) (d : ∀ t ∈ [92, 93, 100, 105, 106, 107], t ∉ vs) : isp A' B = isp A B := by
  obtain ⟨e1, e2⟩ := tp_fr (B' := B) (B := B) (ws := []) hA (fr.rf _ _) ⟨fun t ht => d t (by simp at ht ⊢; omega), fun t ht => by simp⟩
  unfold isp ptq
  rw [e1, e2]
/-- the marks of points -/
theorem f98_s {I A : mI} {J B : mJ} (a4 : g_tree I A J B) (a5 : g_non I J) (a3 : ∀ q, q < 8 → I 6 q 4 = A 93 0 q) : Sm (f98 I J) (fun I' => fr I' I [74] ∧ g_pts I' A B) := by
  unfold f98
  have h1 : Sm (mx_lp (b98_2 I J) mx_fu ((0 : Int32), I)) (fun r => fr r.2 I [74] ∧ ∀ t, t < 128 → r.2 74 0 t = 0) := by
    refine Sm.lp (fun s => ∃ i, i ≤ 128 ∧ s.1 = Int32.ofNat i ∧ fr s.2 I [74] ∧ ∀ t, t < i → s.2 74 0 t = 0) (fun s => 128 - s.1.toNatClampNeg) ?_ mx_fu ⟨0, by omega, rfl, fr.rf _ _, fun t ht => absurd ht (by omega)⟩ (by show 128 - 0 < 1000; decide)
    rintro ⟨_, I'⟩ ⟨i, hi, rfl, f, hm⟩
    simp only at f hm
    unfold b98_2
    simp only
    rcases Nat.lt_or_ge i 128 with c | c
    · rw [if_neg (fun q => absurd ((n_leL (by decide) (by omega)).mp q) (by omega)), if_neg (i_g c (by decide)), i_cl (by omega), nar0]
      refine Sm.ret ⟨⟨i + 1, by omega, n_addR i 1, f.up (by decide), fun t ht => ?_⟩, m_dc c (by omega)⟩
      simp only
      rw [u3_at]
      by_cases q : t = i
      · rw [if_pos ⟨rfl, q⟩]
      · rw [if_neg (fun z => q z.2), hm t (by omega)]
    · have e : i = 128 := by omega
      subst e
      rw [if_pos (by decide)]
      exact Sm.ret ⟨f, hm⟩
  refine Sm.bind h1 ?_
  rintro ⟨z, I1⟩ ⟨f1, h1⟩
  simp only at f1 h1 ⊢
  have h2 : Sm (mx_lp (b98_24 I1 J) mx_fu ((0 : Int32), I1)) (fun r => fr r.2 I [74] ∧ g_pts r.2 A B) := by
    refine Sm.lp (fun s => ∃ i, i ≤ 128 ∧ s.1 = Int32.ofNat i ∧ fr s.2 I [74] ∧ (∀ t, t < i → bl (s.2 74 0 t) ∧ (¬ s.2 74 0 t = 0 ↔ isp A B t)) ∧ ∀ t, i ≤ t → t < 128 → s.2 74 0 t = 0) (fun s => 128 - s.1.toNatClampNeg) ?_ mx_fu ⟨0, by omega, rfl, f1, fun t ht => absurd ht (by omega), fun t _ ht => h1 t ht⟩ (by show 128 - 0 < 1000; decide)
    rintro ⟨_, I'⟩ ⟨i, hi, rfl, f, hm, hz⟩
    simp only at f hm hz
    unfold b98_24
    simp only
    rcases Nat.lt_or_ge i 128 with c | c
    · have t4 : g_tree I' A J B := a4.fr f (fr.rf J []) (fr.rf A []) (fr.rf B []) (by decide)
      have t5 : g_non I' J := a5.fr f (fr.rf J []) (by decide)
      have t3 : ∀ q, q < 8 → I' 6 q 4 = A 93 0 q := fun q hq => (f.c (t := 6) (by decide)).trans (a3 q hq)
      have nx : ∀ v : Int32, bl v → (¬ v = 0 ↔ isp A B i) → Sm (some (Sum.inl (Int32.ofNat i + 1, mx_u3 I' 74 0 i v) : (Int32 × mI) ⊕ (Int32 × mI))) (fun r => Sum.elim (fun s' => (∃ i, i ≤ 128 ∧ s'.1 = Int32.ofNat i ∧ fr s'.2 I [74] ∧ (∀ t, t < i → bl (s'.2 74 0 t) ∧ (¬ s'.2 74 0 t = 0 ↔ isp A B t)) ∧ ∀ t, i ≤ t → t < 128 → s'.2 74 0 t = 0) ∧ 128 - s'.1.toNatClampNeg < 128 - i) (fun r => fr r.2 I [74] ∧ g_pts r.2 A B) r) := fun v hv hv2 => by
        refine Sm.ret ⟨⟨i + 1, by omega, n_addR i 1, f.up (by decide), fun t ht => ?_, fun t h1 h2 => ?_⟩, m_dc c (by omega)⟩
        · simp only
          rw [u3_at]
          by_cases q : t = i
          · rw [if_pos ⟨rfl, q⟩, q]
            exact ⟨hv, hv2⟩
          · rw [if_neg (fun z => q z.2)]
            exact hm t (by omega)
        · simp only
          rw [u3_at, if_neg (fun z => by have := z.2; omega)]
          exact hz t (by omega) h2
      have ha : ∀ t, t < 128 → ¬ I' 74 0 t = 0 → t < i := fun t ht q => by
        rcases Nat.lt_or_ge t i with g | g
        · exact g
        · exact absurd (hz t g ht) q
      have g := i_g c (show 128 ≤ 2147483648 by decide)
      have ecl : (Int32.ofNat i).toNatClampNeg = i := i_cl (by omega)
      rw [if_neg (fun q => absurd ((n_leL (by decide) (by omega)).mp q) (by omega))]
      simp only [if_neg g, nar0, nar1]
      simp only [ecl]
      rcases hd_in t4 c with ⟨d1, d2, -⟩ | ⟨d1, d2, -, d3⟩
      · rw [d2, Option.bind_some, v_non t5, Option.bind_some, if_pos (by decide)]
        exact nx 0 bl0 ⟨fun q => absurd rfl q, fun q => absurd q.2.1.1 d1⟩
      · obtain ⟨v1, -⟩ := d3.2.2.2.2.2.2 25705
        rw [d2, Option.bind_some, v1, Option.bind_some]
        by_cases c1 : 0 < vl A B i 25705
        · rw [if_neg (fun q => (c_le _ _).mp q c1)]
          obtain ⟨b, e1, e2⟩ := f99_s t4 t5 t3 c 500068609904
          rw [e1]
          cases b with
          | false =>
            rw [bF]
            exact nx 0 bl0 ⟨fun q => absurd rfl q, fun q => absurd (e2.mpr q.2.1) (by decide)⟩
          | true =>
            have htp := e2.mp rfl
            rw [bT]
            obtain ⟨r, e3, e4⟩ := f100_s t4 (fun t ht q => ((hm t (ha t ht q)).2.mp q).2.1.1) (vl A B i 25705)
            rw [e3, Option.bind_some]
            rcases e4 with ⟨rfl, hno⟩ | ⟨t, ht, rfl, ⟨h1, h2⟩, -⟩
            · rw [if_pos rfl]
              refine nx 1 bl1 ⟨fun _ => ⟨c1, htp, fun s => ?_⟩, fun _ => by decide⟩
              induction s using Nat.strongRecOn with
              | _ s ih =>
                intro hs q
                refine hno s (by omega) ⟨(hm s hs).2.mpr ⟨?_, q.2.1, fun s2 hs2 => ?_⟩, q.2.2⟩
                · rw [q.2.2]
                  exact q.1
                · rw [q.2.2]
                  exact ih s2 hs2 (by omega)
            · rw [if_neg (i_m1 (by omega))]
              refine nx 0 bl0 ⟨fun q => absurd rfl q, fun q => ?_⟩
              have hti := ha t ht h1
              have z := (hm t hti).2.mp h1
              exact absurd ⟨c1, z.2.1, h2⟩ (q.2.2 t hti)
        · rw [if_pos ((c_le _ _).mpr c1)]
          exact nx 0 bl0 ⟨fun q => absurd rfl q, fun q => absurd q.1 c1⟩
    · have e : i = 128 := by omega
      subst e
      rw [if_pos (by decide)]
      exact Sm.ret ⟨f, fun t ht => hm t ht⟩
  refine Sm.bind h2 ?_
  rintro ⟨z2, I2⟩ h3
  exact Sm.ret h3
/-- the class looks at every handle -/
theorem b97_s {I A : mI} {J B : mJ} (a4 : g_tree I A J B) (a5 : g_non I J) (a3 : ∀ q, q < 8 → I 6 q 4 = A 93 0 q) (a7 : g_pts I A B) (hb : ∀ t, t < 128 → bl (I 75 0 t)) (I0 : mI) : Sm (mx_lp (b97_6 1 I0 J) mx_fu ((0 : Int32), I)) (fun r => fr r.2 I [75, 76] ∧ ∀ t, t < 128 → r.2 76 0 t = I 75 0 t ∧ yn (r.2 75 0 t) (extp A B t)) := by
  refine Sm.lp (fun s => ∃ i, i ≤ 128 ∧ s.1 = Int32.ofNat i ∧ fr s.2 I [75, 76] ∧ (∀ t, t < i → s.2 76 0 t = I 75 0 t ∧ yn (s.2 75 0 t) (extp A B t)) ∧ ∀ t, i ≤ t → s.2 75 0 t = I 75 0 t) (fun s => 128 - s.1.toNatClampNeg) ?_ mx_fu ⟨0, by omega, rfl, fr.rf _ _, fun t ht => absurd ht (by omega), fun t _ => rfl⟩ (by show 128 - 0 < 1000; decide)
  rintro ⟨_, I'⟩ ⟨i, hi, rfl, f, hm, hz⟩
  simp only at f hm hz
  unfold b97_6
  simp only
  rcases Nat.lt_or_ge i 128 with c | c
  · have g := i_g c (show 128 ≤ 2147483648 by decide)
    have ecl : (Int32.ofNat i).toNatClampNeg = i := i_cl (by omega)
    rw [if_neg (fun q => absurd ((n_leL (by decide) (by omega)).mp q) (by omega))]
    simp only [if_neg g, nar0, nar1]
    simp only [ecl]
    rw [hz i (Nat.le_refl i), nar_bl (hb i c)]
    have f2 : fr (mx_u3 I' 76 0 i (I 75 0 i)) I [75, 76] := f.up (by decide)
    have t4 : g_tree (mx_u3 I' 76 0 i (I 75 0 i)) A J B := a4.fr f2 (fr.rf J []) (fr.rf A []) (fr.rf B []) (by decide)
    have t5 : g_non (mx_u3 I' 76 0 i (I 75 0 i)) J := a5.fr f2 (fr.rf J []) (by decide)
    have t7 : g_pts (mx_u3 I' 76 0 i (I 75 0 i)) A B := a7.fr f2 (fr.rf A []) (fr.rf B []) (by decide)
    have t3 : ∀ q, q < 8 → (mx_u3 I' 76 0 i (I 75 0 i)) 6 q 4 = A 93 0 q := fun q hq => (f2.c (t := 6) (by decide)).trans (a3 q hq)
    have nx : ∀ v : Int32, yn v (extp A B i) → Sm (some (Sum.inl (Int32.ofNat i + 1, mx_u3 (mx_u3 I' 76 0 i (I 75 0 i)) 75 0 i v) : (Int32 × mI) ⊕ (Int32 × mI))) (fun r => Sum.elim (fun s' => (∃ i, i ≤ 128 ∧ s'.1 = Int32.ofNat i ∧ fr s'.2 I [75, 76] ∧ (∀ t, t < i → s'.2 76 0 t = I 75 0 t ∧ yn (s'.2 75 0 t) (extp A B t)) ∧ ∀ t, i ≤ t → s'.2 75 0 t = I 75 0 t) ∧ 128 - s'.1.toNatClampNeg < 128 - i) (fun r => fr r.2 I [75, 76] ∧ ∀ t, t < 128 → r.2 76 0 t = I 75 0 t ∧ yn (r.2 75 0 t) (extp A B t)) r) := fun v hv => by
      refine Sm.ret ⟨⟨i + 1, by omega, n_addR i 1, f2.up (by decide), fun t ht => ?_, fun t h1 => ?_⟩, m_dc c (by omega)⟩
      · simp only
        rw [u3_at, u3_ne (by decide), u3_at, u3_ne (by decide)]
        by_cases q : t = i
        · rw [if_pos ⟨rfl, q⟩, if_pos ⟨rfl, q⟩, q]
          exact ⟨rfl, hv⟩
        · rw [if_neg (fun z => q z.2), if_neg (fun z => q z.2)]
          exact hm t (by omega)
      · simp only
        rw [u3_at, if_neg (fun z => by have := z.2; omega), u3_ne (by decide)]
        exact hz t (by omega)
    obtain ⟨b, e1, e2⟩ := f99_s t4 t5 t3 c 7632997
    rw [e1]
    cases b with
    | false =>
      rw [bF]
      exact nx 0 (.inl ⟨rfl, fun q => absurd (e2.mpr q.1) (by decide)⟩)
    | true =>
      rw [bT]
      obtain ⟨b2, e3, e4⟩ := f101_s t4 t7 c (e2.mp rfl)
      rw [e3]
      cases b2 with
      | false =>
        rw [bF]
        exact nx 0 (.inl ⟨rfl, fun q => absurd (e4.mpr q) (by decide)⟩)
      | true =>
        rw [bT]
        exact nx 1 (.inr ⟨rfl, e4.mp rfl⟩)
  · have e : i = 128 := by omega
    subst e
    rw [if_pos (by decide)]
    exact Sm.ret ⟨f, hm⟩
theorem b134_s1 {A : mI} {B : mJ} (x : Int32) (A0 : mI) (hb : ∀ t, t < 128 → bl (A 108 0 t)) : Sm (mx_lp (b134_11 x A0 B) mx_fu ((0 : Int32), A)) (fun r => fr r.2 A [108, 109] ∧ ∀ t, t < 128 → r.2 109 0 t = A 108 0 t) := by
  refine Sm.lp (fun s => ∃ i, i ≤ 128 ∧ s.1 = Int32.ofNat i ∧ fr s.2 A [108, 109] ∧ (∀ t, t < i → s.2 109 0 t = A 108 0 t) ∧ ∀ t, i ≤ t → s.2 108 0 t = A 108 0 t) (fun s => 128 - s.1.toNatClampNeg) ?_ mx_fu ⟨0, by omega, rfl, fr.rf _ _, fun t ht => absurd ht (by omega), fun t _ => rfl⟩ (by show 128 - 0 < 1000; decide)
  rintro ⟨_, A'⟩ ⟨i, hi, rfl, f, hm, hz⟩
  simp only at f hm hz
  unfold b134_11
  simp only
  rcases Nat.lt_or_ge i 128 with c | c
  · have g := i_g c (show 128 ≤ 2147483648 by decide)
    have ecl : (Int32.ofNat i).toNatClampNeg = i := i_cl (by omega)
    rw [if_neg (fun q => absurd ((n_leL (by decide) (by omega)).mp q) (by omega))]
    simp only [if_neg g, nar0]
    simp only [ecl]
    rw [hz i (Nat.le_refl i), nar_bl (hb i c)]
    refine Sm.ret ⟨⟨i + 1, by omega, n_addR i 1, (f.up (by decide)).up (by decide), fun t ht => ?_, fun t h1 => ?_⟩, m_dc c (by omega)⟩
    · simp only
      rw [u3_ne (by decide), u3_at]
      by_cases q : t = i
      · rw [if_pos ⟨rfl, q⟩, q]
      · rw [if_neg (fun z => q z.2)]
        exact hm t (by omega)
    · simp only
      rw [u3_at, if_neg (fun z => by have := z.2; omega), u3_ne (by decide)]
      exact hz t (by omega)
  · have e : i = 128 := by omega
    subst e
    rw [if_pos (by decide)]
    exact Sm.ret ⟨f, hm⟩
theorem b134_s2 {I A : mI} {J B : mJ} (a4 : g_tree I A J B) (x : Int32) (A0 : mI) : Sm (mx_lp (b134_45 x A0 B) mx_fu ((0 : Int32), A)) (fun r => fr r.2 A [108] ∧ ∀ t, t < 128 → yn (r.2 108 0 t) (extp A B t)) := by
  refine Sm.lp (fun s => ∃ i, i ≤ 128 ∧ s.1 = Int32.ofNat i ∧ fr s.2 A [108] ∧ (∀ t, t < i → yn (s.2 108 0 t) (extp A B t))) (fun s => 128 - s.1.toNatClampNeg) ?_ mx_fu ⟨0, by omega, rfl, fr.rf _ _, fun t ht => absurd ht (by omega)⟩ (by show 128 - 0 < 1000; decide)
  rintro ⟨_, A'⟩ ⟨i, hi, rfl, f, hm⟩
  simp only at f hm
  unfold b134_45
  simp only
  rcases Nat.lt_or_ge i 128 with c | c
  · have g := i_g c (show 128 ≤ 2147483648 by decide)
    have ecl : (Int32.ofNat i).toNatClampNeg = i := i_cl (by omega)
    rw [if_neg (fun q => absurd ((n_leL (by decide) (by omega)).mp q) (by omega))]
    simp only [if_neg g]
    simp only [ecl]
    have t4 : g_tree I A' J B := a4.fr (fr.rf I []) (fr.rf J []) f (fr.rf B []) (by decide)
    obtain ⟨b, e1, e2⟩ := f138_s t4 c
    rw [extp_fr f (by decide)] at e2
    rw [e1, Option.bind_some]
    refine Sm.ret ⟨⟨i + 1, by omega, n_addR i 1, f.up (by decide), fun t ht => ?_⟩, m_dc c (by omega)⟩
    simp only
    rw [u3_at]
    by_cases q : t = i
    · rw [if_pos ⟨rfl, q⟩, q]
      cases b with
      | true => exact .inr ⟨nar1, e2.mp rfl⟩
      | false => exact .inl ⟨nar0, fun z => absurd (e2.mpr z) (by decide)⟩
    · rw [if_neg (fun z => q z.2)]
      exact hm t (by omega)
  · have e : i = 128 := by omega
    subst e
    rw [if_pos (by decide)]
    exact Sm.ret ⟨f, hm⟩
