/-! points and extensions, as asked for -/
theorem cnt_lp {body : Int32 × Int32 → Option ((Int32 × Int32) ⊕ (Int32 × Int32))} (N : Nat) (P : Nat → Bool) (hN : N ≤ 128) (hb : ∀ c i, i < N → body (c, Int32.ofNat i) = some (.inl (if P i = true then c + 1 else c, Int32.ofNat i + 1))) (he : ∀ c, body (c, Int32.ofNat N) = some (.inr (c, Int32.ofNat N))) : mx_lp body mx_fu ((0 : Int32), (0 : Int32)) = some (Int32.ofNat (cn P N), Int32.ofNat N) := by
  have hl : Sm (mx_lp body mx_fu ((0 : Int32), (0 : Int32))) (fun r => r = (Int32.ofNat (cn P N), Int32.ofNat N)) := by
    refine Sm.lp (fun s => ∃ i, i ≤ N ∧ s = (Int32.ofNat (cn P i), Int32.ofNat i)) (fun s => 128 - s.2.toNatClampNeg) ?_ mx_fu ⟨0, by omega, rfl⟩ (by decide)
    rintro _ ⟨i, hi, rfl⟩
    rcases Nat.lt_or_ge i N with c | c
    · rw [hb _ i c]
      refine Sm.ret ⟨⟨i + 1, by omega, ?_⟩, ?_⟩
      · have e1 : Int32.ofNat i + 1 = Int32.ofNat (i + 1) := n_addR i 1
        cases hP : P i with
        | true =>
          rw [if_pos rfl, cn_t hP, e1]
          exact congrArg (fun z => (z, Int32.ofNat (i + 1))) (n_addR _ 1)
        | false =>
          rw [if_neg (by decide), cn_f hP, e1]
      · first | exact m_dc (by omega) (by omega) | exact m_dd (by omega) (by omega)
    · have e : i = N := by omega
      subst e
      rw [he]
      exact Sm.ret rfl
  obtain ⟨r, e1, rfl⟩ := hl
  exact e1
theorem fnd_lp {body : Int32 × Int32 → Option ((Int32 × Int32) ⊕ ((Int32 × Int32) ⊕ Int32))} (N : Nat) (P : Nat → Bool) (y : Int32) (hN : N ≤ 128) (hb : ∀ c i, i < N → body (c, Int32.ofNat i) = if P i = true then (if c = y then some (.inr (.inr (Int32.ofNat i))) else some (.inl (c + 1, Int32.ofNat i + 1))) else some (.inl (c, Int32.ofNat i + 1))) (he : ∀ c, body (c, Int32.ofNat N) = some (.inr (.inl (c, Int32.ofNat N)))) : Sm (mx_lp body mx_fu ((0 : Int32), (0 : Int32))) (fun r => Fi (fun i => P i = true ∧ Int32.ofNat (cn P i) = y) N (Sum.elim (fun _ => (-1 : Int32)) id r)) := by
  refine Sm.lp (fun s => ∃ i, i ≤ N ∧ s = (Int32.ofNat (cn P i), Int32.ofNat i) ∧ ∀ j, j < i → ¬ (P j = true ∧ Int32.ofNat (cn P j) = y)) (fun s => 128 - s.2.toNatClampNeg) ?_ mx_fu ⟨0, by omega, rfl, fun j hj => absurd hj (by omega)⟩ (by decide)
  rintro _ ⟨i, hi, rfl, hm⟩
  rcases Nat.lt_or_ge i N with c | c
  · rw [hb _ i c]
    have e1 : Int32.ofNat i + 1 = Int32.ofNat (i + 1) := n_addR i 1
    cases hP : P i with
    | true =>
      rw [if_pos rfl]
      by_cases c2 : Int32.ofNat (cn P i) = y
      · rw [if_pos c2]
        exact Sm.ret (.inr ⟨i, c, rfl, ⟨hP, c2⟩, hm⟩)
      · rw [if_neg c2]
        refine Sm.ret ⟨⟨i + 1, by omega, ?_, fun j hj => ?_⟩, ?_⟩
        · rw [cn_t hP, e1]
          exact congrArg (fun z => (z, Int32.ofNat (i + 1))) (n_addR _ 1)
        · by_cases hji : j = i
          · subst hji
            exact fun q => c2 q.2
          · exact hm j (by omega)
        · first | exact m_dc (by omega) (by omega) | exact m_dd (by omega) (by omega)
    | false =>
      rw [if_neg (by decide)]
      refine Sm.ret ⟨⟨i + 1, by omega, ?_, fun j hj => ?_⟩, ?_⟩
      · rw [cn_f hP, e1]
      · by_cases hji : j = i
        · subst hji
          intro q
          rw [hP] at q
          exact absurd q.1 (by decide)
        · exact hm j (by omega)
      · first | exact m_dc (by omega) (by omega) | exact m_dd (by omega) (by omega)
  · have e : i = N := by omega
    subst e
    rw [he]
    exact Sm.ret (.inl ⟨rfl, hm⟩)
theorem f139_s {A : mI} {B : mJ} {t : Nat} (ht : t < 128) (nm : Int64) : ∃ b, f139 (Int32.ofNat t) nm A B = some b ∧ (b = true ↔ tp A B t nm) := by
  obtain ⟨b, e1, e2⟩ := f140_in (A := A) ht
  unfold f139 tp
  rw [e1]
  cases b with
  | false =>
    rw [bF]
    exact ⟨false, rfl, fun q => absurd q (by decide), fun q => absurd (e2.mpr q.1) (by decide)⟩
  | true =>
    have hi := e2.mp rfl
    rw [bT, h_dv t (by omega), if_neg (i_g (n := t / 16) (N := 8) (by omega) (by decide)), i_cl (n := t / 16) (by omega), if_neg (i_g (n := t) (N := 128) ht (by decide)), if_neg (i_g (n := t) (N := 128) ht (by decide)), i_cl (by omega)]
    by_cases c1 : A 93 0 (t / 16) = 0
    · rw [if_pos c1]
      exact ⟨false, rfl, fun q => absurd q (by decide), fun q => absurd c1 q.2.1⟩
    rw [if_neg c1]
    by_cases c2 : A 106 0 t = 1
    · rw [if_pos c2]
      by_cases c3 : B 102 0 t = nm
      · rw [if_pos ((c_cmp _ _).mpr c3)]
        exact ⟨true, rfl, fun _ => ⟨hi, c1, c2, c3⟩, fun _ => rfl⟩
      · rw [if_neg (fun q => c3 ((c_cmp _ _).mp q))]
        exact ⟨false, rfl, fun q => absurd q (by decide), fun q => absurd q.2.2.2 c3⟩
    · rw [if_neg c2]
      exact ⟨false, rfl, fun q => absurd q (by decide), fun q => absurd q.2.2.1 c2⟩
theorem ee_at {I A : mI} {J B : mJ} (h : g_tree I A J B) {t : Nat} (ht : t < 128) (hi : ise A t) : f80 (Int32.ofNat t) I = some (1 + t) ∧ ee I A J B t := by
  rcases hd_in h ht with ⟨d1, -⟩ | ⟨-, d2, -, d3⟩
  · exact absurd hi d1
  · exact ⟨d2, d3⟩
theorem f142_s {I A : mI} {J B : mJ} (h : g_tree I A J B) (w : Int64) : Sm (f142 w A B) (Fi (ptq A B w) 128) := by
  have hl : Sm (mx_lp (b142_2 w A B) mx_fu (0 : Int32)) (fun r => Fi (ptq A B w) 128 (Sum.elim (fun _ => (-1 : Int32)) id r)) := by
    refine Sm.lp (fun s => ∃ i, i ≤ 128 ∧ s = Int32.ofNat i ∧ ∀ j, j < i → ¬ ptq A B w j) (fun s => 128 - s.toNatClampNeg) ?_ mx_fu ⟨0, by omega, rfl, fun j hj => absurd hj (by omega)⟩ (by decide)
    rintro _ ⟨i, hi, rfl, hm⟩
    have nx : ¬ ptq A B w i → i < 128 → Sm (some (Sum.inl (Int32.ofNat i + 1) : Int32 ⊕ (Int32 ⊕ Int32))) (fun r => Sum.elim (fun s' => (∃ i, i ≤ 128 ∧ s' = Int32.ofNat i ∧ ∀ j, j < i → ¬ ptq A B w j) ∧ 128 - s'.toNatClampNeg < 128 - (Int32.ofNat i).toNatClampNeg) (fun r => Fi (ptq A B w) 128 (Sum.elim (fun _ => (-1 : Int32)) id r)) r) := fun z c => by
      refine Sm.ret ⟨⟨i + 1, by omega, n_addR i 1, fun j hj => ?_⟩, m_dd c (by omega)⟩
      by_cases hji : j = i
      · subst hji
        exact z
      · exact hm j (by omega)
    unfold b142_2
    rcases Nat.lt_or_ge i 128 with c | c
    · have n1 : ¬ (128 : Int32) ≤ Int32.ofNat i := fun q => absurd ((n_leL (by decide) (by omega)).mp q) (by omega)
      rw [if_neg n1]
      by_cases c1 : lg_cmp w 0 ≤ 0
      · rw [if_pos c1]
        exact nx (fun q => (c_le _ _).mp c1 q.1) c
      · rw [if_neg c1]
        have hw : 0 < w := by
          by_cases c2 : 0 < w
          · exact c2
          · exact absurd ((c_le _ _).mpr c2) c1
        obtain ⟨b, e1, e2⟩ := f139_s (A := A) (B := B) c 500068609904
        rw [e1]
        cases b with
        | false =>
          rw [bF]
          exact nx (fun q => absurd (e2.mpr q.2.1) (by decide)) c
        | true =>
          have htp := e2.mp rfl
          obtain ⟨-, e3⟩ := ee_at h c htp.1
          obtain ⟨-, v2⟩ := e3.2.2.2.2.2.2 25705
          rw [bT, v2, Option.bind_some]
          by_cases c3 : vl A B i 25705 = w
          · rw [if_pos ((c_cmp _ _).mpr c3)]
            exact Sm.ret (.inr ⟨i, c, rfl, ⟨hw, htp, c3⟩, hm⟩)
          · rw [if_neg (fun q => c3 ((c_cmp _ _).mp q))]
            exact nx (fun q => c3 q.2.2) c
    · have e : i = 128 := by omega
      subst e
      rw [if_pos (by decide)]
      exact Sm.ret (.inl ⟨rfl, hm⟩)
  obtain ⟨r, e1, e2⟩ := hl
  refine ⟨_, ?_, e2⟩
  unfold f142
  rw [e1, Option.bind_some]
  cases r <;> rfl
theorem f100_s {I A : mI} {J B : mJ} (h : g_tree I A J B) (hI : ∀ t, t < 128 → ¬ I 74 0 t = 0 → ise A t) (w : Int64) : Sm (f100 w I J) (Fi (fun t => ¬ I 74 0 t = 0 ∧ vl A B t w_id = w) 128) := by
  have hl : Sm (mx_lp (b100_2 w I J) mx_fu (0 : Int32)) (fun r => Fi (fun t => ¬ I 74 0 t = 0 ∧ vl A B t w_id = w) 128 (Sum.elim (fun _ => (-1 : Int32)) id r)) := by
    refine Sm.lp (fun s => ∃ i, i ≤ 128 ∧ s = Int32.ofNat i ∧ ∀ j, j < i → ¬ (¬ I 74 0 j = 0 ∧ vl A B j w_id = w)) (fun s => 128 - s.toNatClampNeg) ?_ mx_fu ⟨0, by omega, rfl, fun j hj => absurd hj (by omega)⟩ (by decide)
    rintro _ ⟨i, hi, rfl, hm⟩
    have nx : ¬ (¬ I 74 0 i = 0 ∧ vl A B i w_id = w) → i < 128 → Sm (some (Sum.inl (Int32.ofNat i + 1) : Int32 ⊕ (Int32 ⊕ Int32))) (fun r => Sum.elim (fun s' => (∃ i, i ≤ 128 ∧ s' = Int32.ofNat i ∧ ∀ j, j < i → ¬ (¬ I 74 0 j = 0 ∧ vl A B j w_id = w)) ∧ 128 - s'.toNatClampNeg < 128 - (Int32.ofNat i).toNatClampNeg) (fun r => Fi (fun t => ¬ I 74 0 t = 0 ∧ vl A B t w_id = w) 128 (Sum.elim (fun _ => (-1 : Int32)) id r)) r) := fun z c => by
      refine Sm.ret ⟨⟨i + 1, by omega, n_addR i 1, fun j hj => ?_⟩, m_dd c (by omega)⟩
      by_cases hji : j = i
      · subst hji
        exact z
      · exact hm j (by omega)
    rcases Nat.lt_or_ge i 128 with c | c
    · have n1 : ¬ (128 : Int32) ≤ Int32.ofNat i := fun q => absurd ((n_leL (by decide) (by omega)).mp q) (by omega)
      have e0 : b100_2 w I J (Int32.ofNat i) = if I 74 0 i = 0 then some (.inl (Int32.ofNat i + 1)) else (f80 (Int32.ofNat i) I).bind fun u104 => (f45 u104 25705 I J).bind fun u105 => if lg_cmp u105 w = 0 then some (.inr (.inr (Int32.ofNat i))) else some (.inl (Int32.ofNat i + 1)) := by
        unfold b100_2
        rw [if_neg n1, if_neg (i_g c (by decide)), i_cl (by omega)]
      rw [e0]
      by_cases c1 : I 74 0 i = 0
      · rw [if_pos c1]
        exact nx (fun q => q.1 c1) c
      · obtain ⟨e2, e3⟩ := ee_at h c (hI i c c1)
        obtain ⟨v1, -⟩ := e3.2.2.2.2.2.2 25705
        rw [if_neg c1, e2, Option.bind_some, v1, Option.bind_some]
        by_cases c3 : vl A B i 25705 = w
        · rw [if_pos ((c_cmp _ _).mpr c3)]
          exact Sm.ret (.inr ⟨i, c, rfl, ⟨c1, c3⟩, hm⟩)
        · rw [if_neg (fun q => c3 ((c_cmp _ _).mp q))]
          exact nx (fun q => c3 q.2) c
    · have e : i = 128 := by omega
      subst e
      unfold b100_2
      rw [if_pos (by decide)]
      exact Sm.ret (.inl ⟨rfl, hm⟩)
  obtain ⟨r, e1, e2⟩ := hl
  refine ⟨_, ?_, e2⟩
  unfold f100
  rw [e1, Option.bind_some]
  cases r <;> rfl
/-- among the first of each word, as among all -/
theorem Fi_pt {A : mI} {B : mJ} {P : Nat → Prop} {w : Int64} {r : Int32} (hP : ∀ t, t < 128 → (P t ↔ isp A B t)) (h : Fi (fun t => P t ∧ vl A B t w_id = w) 128 r) : Fi (ptq A B w) 128 r := by
  rcases h with ⟨rfl, h⟩ | ⟨t, ht, rfl, ⟨h1, h2⟩, h3⟩
  · left
    refine ⟨rfl, fun t => ?_⟩
    induction t using Nat.strongRecOn with
    | _ t ih =>
      intro ht q
      refine h t ht ⟨(hP t ht).mpr ⟨?_, q.2.1, fun s hs => ?_⟩, q.2.2⟩
      · rw [q.2.2]
        exact q.1
      · rw [q.2.2]
        exact ih s hs (by omega)
  · right
    obtain ⟨g1, g2, g3⟩ := (hP t ht).mp h1
    rw [h2] at g1 g3
    exact ⟨t, ht, rfl, ⟨g1, g2, h2⟩, g3⟩
theorem pt_eq {I A : mI} {J B : mJ} (a4 : g_tree I A J B) (a7 : g_pts I A B) (w : Int64) : ∃ r, f100 w I J = some r ∧ f142 w A B = some r ∧ Fi (ptq A B w) 128 r := by
  obtain ⟨r, e1, e2⟩ := f100_s a4 (fun t ht q => ((a7 t ht).2.mp q).2.1.1) w
  obtain ⟨r2, e3, e4⟩ := f142_s a4 w
  have e5 := Fi_pt (fun t ht => (a7 t ht).2) e2
  have e6 := Fi_eq e5 e4 (fun t _ => Iff.rfl)
  subst e6
  exact ⟨r, e1, e3, e4⟩
/-- which extensions a word has -/
def xqb (A : mI) (B : mJ) (w : Int64) (t : Nat) : Bool := decide (¬ A 108 0 t = 0 ∧ vl A B t w_pt = w)
theorem S_extensions {I A : mI} {J B : mJ} (w : Int64) (h : Sim I J A B) : Rl (f15 w I J) (f155 w A B) (fun u v => u = v) := by
  obtain ⟨a1, a2, a3, a4, a5, a6, a7, a8, a9, a10, a11⟩ := h
  obtain ⟨r, e1, e2, e3⟩ := pt_eq a4 a7 w
  unfold f15 f155
  rw [e1, e2, Option.bind_some, Option.bind_some]
  rcases e3 with ⟨rfl, -⟩ | ⟨s, hs, rfl, -⟩
  · rw [if_pos rfl, if_neg (by decide)]
    exact Rl.ret rfl
  · have hC : mx_lp (b106_5 w I J) mx_fu ((0 : Int32), (0 : Int32)) = some (Int32.ofNat (cn (xqb A B w) 128), Int32.ofNat 128) := by
      refine cnt_lp 128 (xqb A B w) (by decide) (fun c i hi => ?_) (fun c => ?_)
      · unfold b106_5
        simp only
        rw [if_neg (fun q => absurd ((n_leL (by decide) (by omega)).mp q) (by omega)), if_neg (i_g hi (by decide)), i_cl (by omega), (a8 i hi).1]
        unfold xqb
        by_cases c1 : A 108 0 i = 0
        · rw [if_pos c1, if_neg (by simp [c1])]
        · obtain ⟨d1, d2⟩ := ee_at a4 hi ((a8 i hi).2.2 c1).1.1
          obtain ⟨v1, -⟩ := d2.2.2.2.2.2.2 500068609904
          rw [if_neg c1, d1, Option.bind_some, v1, Option.bind_some]
          by_cases c2 : vl A B i 500068609904 = w
          · rw [if_pos ((c_cmp _ _).mpr c2), if_pos (decide_eq_true ⟨c1, c2⟩)]
          · rw [if_neg (fun q => c2 ((c_cmp _ _).mp q)), if_neg (fun q => c2 (of_decide_eq_true q).2)]
      · unfold b106_5
        simp only
        rw [if_pos (show (128 : Int32) ≤ Int32.ofNat 128 by decide)]
    have hM : mx_lp (b155_15 w A B) mx_fu ((0 : Int32), (0 : Int32)) = some (Int32.ofNat (cn (xqb A B w) 128), Int32.ofNat 128) := by
      refine cnt_lp 128 (xqb A B w) (by decide) (fun c i hi => ?_) (fun c => ?_)
      · unfold b155_15
        simp only
        rw [if_neg (fun q => absurd ((n_leL (by decide) (by omega)).mp q) (by omega)), if_neg (i_g hi (by decide)), i_cl (by omega)]
        unfold xqb
        by_cases c1 : A 108 0 i = 0
        · rw [if_pos c1, if_neg (by simp [c1])]
        · obtain ⟨d1, d2⟩ := ee_at a4 hi ((a8 i hi).2.2 c1).1.1
          obtain ⟨-, v1⟩ := d2.2.2.2.2.2.2 500068609904
          rw [if_neg c1, v1, Option.bind_some]
          by_cases c2 : vl A B i 500068609904 = w
          · rw [if_pos ((c_cmp _ _).mpr c2), if_pos (decide_eq_true ⟨c1, c2⟩)]
          · rw [if_neg (fun q => c2 ((c_cmp _ _).mp q)), if_neg (fun q => c2 (of_decide_eq_true q).2)]
      · unfold b155_15
        simp only
        rw [if_pos (show (128 : Int32) ≤ Int32.ofNat 128 by decide)]
    unfold f106
    rw [if_neg (i_m1 (by omega)), if_pos (i_ps (by omega)), hC, hM]
    exact Rl.ret rfl
theorem S_extension {I A : mI} {J B : mJ} (w : Int64) (y : Int32) (h : Sim I J A B) : Rl (f16 w y I J) (f156 w y A B) (fun u v => u = v) := by
  obtain ⟨a1, a2, a3, a4, a5, a6, a7, a8, a9, a10, a11⟩ := h
  obtain ⟨r, e1, e2, e3⟩ := pt_eq a4 a7 w
  have hM : Sm (mx_lp (b156_6 w y A B) mx_fu ((0 : Int32), (0 : Int32))) (fun r => Fi (fun i => xqb A B w i = true ∧ Int32.ofNat (cn (xqb A B w) i) = y) 128 (Sum.elim (fun _ => (-1 : Int32)) id r)) := by
    refine fnd_lp 128 (xqb A B w) y (by decide) (fun c i hi => ?_) (fun c => ?_)
    · unfold b156_6
      simp only
      rw [if_neg (fun q => absurd ((n_leL (by decide) (by omega)).mp q) (by omega)), if_neg (i_g hi (by decide)), i_cl (by omega)]
      unfold xqb
      by_cases c1 : A 108 0 i = 0
      · rw [if_pos c1, if_neg (by simp [c1])]
      · obtain ⟨d1, d2⟩ := ee_at a4 hi ((a8 i hi).2.2 c1).1.1
        obtain ⟨-, v1⟩ := d2.2.2.2.2.2.2 500068609904
        rw [if_neg c1, v1, Option.bind_some]
        by_cases c2 : vl A B i 500068609904 = w
        · rw [if_pos ((c_cmp _ _).mpr c2), if_pos (decide_eq_true ⟨c1, c2⟩)]
        · rw [if_neg (fun q => c2 ((c_cmp _ _).mp q)), if_neg (fun q => c2 (of_decide_eq_true q).2)]
    · unfold b156_6
      simp only
      rw [if_pos (show (128 : Int32) ≤ Int32.ofNat 128 by decide)]
  have hC : Sm (mx_lp (b107_6 w y I J) mx_fu ((0 : Int32), (0 : Int32))) (fun r => Fi (fun i => xqb A B w i = true ∧ Int32.ofNat (cn (xqb A B w) i) = y) 128 (Sum.elim (fun _ => (-1 : Int32)) id r)) := by
    refine fnd_lp 128 (xqb A B w) y (by decide) (fun c i hi => ?_) (fun c => ?_)
    · unfold b107_6
      simp only
      rw [if_neg (fun q => absurd ((n_leL (by decide) (by omega)).mp q) (by omega)), if_neg (i_g hi (by decide)), i_cl (by omega), (a8 i hi).1]
      unfold xqb
      by_cases c1 : A 108 0 i = 0
      · rw [if_pos c1, if_neg (by simp [c1])]
      · obtain ⟨d1, d2⟩ := ee_at a4 hi ((a8 i hi).2.2 c1).1.1
        obtain ⟨v1, -⟩ := d2.2.2.2.2.2.2 500068609904
        rw [if_neg c1, d1, Option.bind_some, v1, Option.bind_some]
        by_cases c2 : vl A B i 500068609904 = w
        · rw [if_pos ((c_cmp _ _).mpr c2), if_pos (decide_eq_true ⟨c1, c2⟩)]
        · rw [if_neg (fun q => c2 ((c_cmp _ _).mp q)), if_neg (fun q => c2 (of_decide_eq_true q).2)]
    · unfold b107_6
      simp only
      rw [if_pos (show (128 : Int32) ≤ Int32.ofNat 128 by decide)]
  obtain ⟨r1, f1, f2⟩ := hC
  obtain ⟨r2, f3, f4⟩ := hM
  have hr1 : (Sum.elim (fun w107 => some (-1 : Int32)) (fun y108 => some y108) r1) = some (Sum.elim (fun _ => (-1 : Int32)) id r1) := by cases r1 <;> rfl
  have hr2 : (Sum.elim (fun w107 => some (-1 : Int32)) (fun y108 => some y108) r2) = some (Sum.elim (fun _ => (-1 : Int32)) id r2) := by cases r2 <;> rfl
  unfold f16 f107 f156
  rw [e1, f1, f3, Option.bind_some, Option.bind_some, Option.bind_some, hr2]
  rcases e3 with ⟨rfl, hno⟩ | ⟨s, hs, rfl, -⟩
  · rw [if_pos rfl]
    refine Rl.ret ?_
    rcases f4 with ⟨z1, -⟩ | ⟨i, hi, z1, z2, -⟩
    · exact z1.symm
    · exfalso
      have z3 := of_decide_eq_true z2.1
      obtain ⟨s, hs, q⟩ := ((a8 i hi).2.2 z3.1).2
      rw [z3.2] at q
      exact hno s hs q
  · rw [if_neg (i_m1 (by omega)), hr1]
    exact Rl.ret (Fi_eq f2 f4 (fun t _ => Iff.rfl))
