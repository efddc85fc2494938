/-! items of a point -/
theorem fst_lp {ε : Type} {body : Int32 → Option (Int32 ⊕ ε)} (base a N : Nat) (P : Nat → Bool) (v : Nat → ε) (e : ε) (ha : a ≤ N) (hN : N ≤ 128) (hB : base ≤ 128) (hb : ∀ i, a ≤ i → i < N → body (Int32.ofNat (base + i)) = if P i = true then some (.inr (v i)) else some (.inl (Int32.ofNat (base + i) + 1))) (he : body (Int32.ofNat (base + N)) = some (.inr e)) : (mx_lp body mx_fu (Int32.ofNat (base + a)) = some e ∧ ∀ i, a ≤ i → i < N → P i = false) ∨ ∃ i, a ≤ i ∧ i < N ∧ mx_lp body mx_fu (Int32.ofNat (base + a)) = some (v i) ∧ P i = true ∧ ∀ j, a ≤ j → j < i → P j = false := by
  have hl : Sm (mx_lp body mx_fu (Int32.ofNat (base + a))) (fun r => (r = e ∧ ∀ i, a ≤ i → i < N → P i = false) ∨ ∃ i, a ≤ i ∧ i < N ∧ r = v i ∧ P i = true ∧ ∀ j, a ≤ j → j < i → P j = false) := by
    refine Sm.lp (fun s => ∃ i, a ≤ i ∧ i ≤ N ∧ s = Int32.ofNat (base + i) ∧ ∀ j, a ≤ j → j < i → P j = false) (fun s => 256 - s.toNatClampNeg) ?_ mx_fu ⟨a, Nat.le_refl a, ha, rfl, fun j h1 h2 => absurd h2 (by omega)⟩ (by show 256 - _ < 1000; omega)
    rintro _ ⟨i, hi, hi2, rfl, hm⟩
    rcases Nat.lt_or_ge i N with c | c
    · rw [hb i hi c]
      cases hP : P i with
      | true =>
        rw [if_pos rfl]
        exact Sm.ret (.inr ⟨i, hi, c, rfl, hP, hm⟩)
      | false =>
        rw [if_neg (by decide)]
        refine Sm.ret ⟨⟨i + 1, by omega, by omega, n_addR (base + i) 1, fun j h1 h2 => ?_⟩, m_dd (by omega) (by omega)⟩
        by_cases q : j = i
        · rw [q]; exact hP
        · exact hm j h1 (by omega)
    · have e1 : i = N := by omega
      subst e1
      rw [he]
      exact Sm.ret (.inl ⟨rfl, hm⟩)
  obtain ⟨r, e1, e2⟩ := hl
  rw [e1]
  rcases e2 with ⟨rfl, e2⟩ | ⟨i, h1, h2, rfl, h3⟩
  · exact .inl ⟨rfl, e2⟩
  · exact .inr ⟨i, h1, h2, rfl, h3⟩
/-- a plugin that is there, and its size -/
def pn (I A : mI) (J B : mJ) (p n : Nat) : Prop := p < 8 ∧ n ≤ 16 ∧ ¬ A 92 0 p = 0 ∧ I 4 p 2 = Int32.ofNat n ∧ A 100 0 p = Int32.ofNat n ∧ ∀ k, k < n → g_e0 I A J B p k ∧ g_at I A J B p k
theorem pn_at {I A : mI} {J B : mJ} (h : g_tree I A J B) {t : Nat} (ht : t < 128) (hi : ise A t) : ∃ n, t % 16 < n ∧ pn I A J B (t / 16) n := by
  obtain ⟨n, h1, h2, h3, h4, h5⟩ := tr_at h ht hi
  exact ⟨n, h2, by omega, h1, hi.1, h3, h4, h5⟩
theorem wk_end {A : mI} {p n : Nat} {α : Type} {X Y : Option α} (hp : p < 8) (hn : n ≤ 16) (h0 : ¬ A 92 0 p = 0) (h1 : A 100 0 p = Int32.ofNat n) : ((f140 (Int32.ofNat (16 * p + n)) A).bind fun u => if u = true then (if Int32.ofNat (16 * p + n) / 16 = Int32.ofNat p then X else Y) else Y) = Y := by
  obtain ⟨b, e1, -, e3⟩ := f140_n (i := n) hp hn h0 h1 (Nat.le_refl n)
  rw [e1, Option.bind_some]
  rcases e3 rfl with rfl | e4
  · exact if_neg (by decide)
  · cases b with
    | true => rw [if_pos rfl, if_neg e4]
    | false => exact if_neg (by decide)
theorem wk_in {A : mI} {p n i : Nat} {α : Type} {X Y : Option α} (hp : p < 8) (hn : n ≤ 16) (h0 : ¬ A 92 0 p = 0) (h1 : A 100 0 p = Int32.ofNat n) (hi : i < n) : ((f140 (Int32.ofNat (16 * p + i)) A).bind fun u => if u = true then (if Int32.ofNat (16 * p + i) / 16 = Int32.ofNat p then X else Y) else Y) = X := by
  obtain ⟨b, e1, e2, -⟩ := f140_n (i := i) hp hn h0 h1 (by omega)
  rw [e1, e2 hi, Option.bind_some, if_pos rfl, h_dv _ (by omega), if_pos]
  congr 1
  omega
def itb (A : mI) (B : mJ) (s c : Nat) : Bool := decide (A 105 0 c = Int32.ofNat s ∧ B 102 0 c = 1835365481 ∧ 0 < vl A B c 1701667182)
theorem itb_lt {I A : mI} {J B : mJ} {p n o j : Nat} (h : pn I A J B p n) (ho : o < 16) (hj : j < n) (hi : itb A B (16 * p + o) (16 * p + j) = true) : o < j := by
  obtain ⟨h1, h2, h3, h4, h5, h6⟩ := h
  exact (ch_eq h1 h2 ho h6 j hj).2 (decide_eq_true (of_decide_eq_true hi).1)
theorem f103_s {I A : mI} {J B : mJ} {p n o j : Nat} (h : pn I A J B p n) (ho : o < 16) (hj : j < n) : f103 (1 + 16 * p + j) (Int32.ofNat (16 * p + o)) I J = some (itb A B (16 * p + o) (16 * p + j)) := by
  obtain ⟨h1, h2, h3, h4, h5, h6⟩ := h
  have c1 := (ch_eq h1 h2 ho h6 j hj).1
  have ee1 := ee_of h1 (show j < 16 by omega) (h6 j hj)
  obtain ⟨v1, -⟩ := ee1.2.2.2.2.2.2 1701667182
  have ea : 1 + 16 * p + j = 1 + (16 * p + j) := by omega
  have eo : (16 * p + o) % 16 = o := by omega
  rw [ea] at c1 ⊢
  unfold f103 itb
  rw [h_md _ (by omega), eo, ee1.2.1, v1, Option.bind_some]
  by_cases d1 : I 3 (1 + (16 * p + j)) 4 = Int32.ofNat o
  · have d2 := of_decide_eq_true (c1.mp d1)
    rw [if_pos d1]
    by_cases d3 : B 102 0 (16 * p + j) = 1835365481
    · rw [if_pos ((c_cmp _ _).mpr d3)]
      by_cases d4 : 0 < vl A B (16 * p + j) 1701667182
      · rw [if_neg (fun q => (c_le _ _).mp q d4), decide_eq_true ⟨d2, d3, d4⟩]
      · rw [if_pos ((c_le _ _).mpr d4), decide_eq_false (fun q => d4 q.2.2)]
    · rw [if_neg (fun q => d3 ((c_cmp _ _).mp q)), decide_eq_false (fun q => d3 q.2.1)]
  · rw [if_neg d1, decide_eq_false (fun q => d1 (c1.mpr (decide_eq_true q.1)))]
theorem f143_s {I A : mI} {J B : mJ} {p n o j : Nat} (h : pn I A J B p n) (hj : j < n) : f143 (Int32.ofNat (16 * p + j)) (Int32.ofNat (16 * p + o)) A B = some (itb A B (16 * p + o) (16 * p + j)) := by
  obtain ⟨h1, h2, h3, h4, h5, h6⟩ := h
  have ee1 := ee_of h1 (show j < 16 by omega) (h6 j hj)
  obtain ⟨-, v1⟩ := ee1.2.2.2.2.2.2 1701667182
  unfold f143 itb
  rw [if_neg (i_g (show 16 * p + j < 128 by omega) (by decide)), if_neg (i_g (show 16 * p + j < 128 by omega) (by decide)), i_cl (by omega), v1, Option.bind_some]
  by_cases d1 : A 105 0 (16 * p + j) = Int32.ofNat (16 * p + o)
  · rw [if_pos d1]
    by_cases d3 : B 102 0 (16 * p + j) = 1835365481
    · rw [if_pos ((c_cmp _ _).mpr d3)]
      by_cases d4 : 0 < vl A B (16 * p + j) 1701667182
      · rw [if_neg (fun q => (c_le _ _).mp q d4), decide_eq_true ⟨d1, d3, d4⟩]
      · rw [if_pos ((c_le _ _).mpr d4), decide_eq_false (fun q => d4 q.2.2)]
    · rw [if_neg (fun q => d3 ((c_cmp _ _).mp q)), decide_eq_false (fun q => d3 q.2.1)]
  · rw [if_neg d1, decide_eq_false (fun q => d1 q.1)]
theorem f51_s {I : mI} {p n j : Nat} (hn : n ≤ 16) (h : I 4 p 2 = Int32.ofNat n) (hj : j < n) : f51 p (Int32.ofNat j) I = some (1 + 16 * p + j) := by
  unfold f51
  rw [h, if_neg (i_nn (by omega)), if_neg (fun q => absurd ((i_le (by omega) (by omega)).mp q) (by omega)), if_neg (i_g (show j < 16 by omega) (by decide)), i_cl (by omega)]
theorem f102_s {I A : mI} {J B : mJ} {p n o : Nat} (h : pn I A J B p n) (ho : o < 16) : ∃ b, f102 (Int32.ofNat (16 * p + o)) I J = some b ∧ (b = true ↔ ∃ j, j < n ∧ itb A B (16 * p + o) (16 * p + j) = true) := by
  have h' := h
  obtain ⟨h1, h2, h3, h4, h5, h6⟩ := h
  have ed : (16 * p + o) / 16 = p := by omega
  unfold f102
  rw [h_81 _ (by omega), Option.bind_some, ed]
  have hf := fst_lp (body := b102_11 (Int32.ofNat (16 * p + o)) p I J) 0 0 n (fun j => itb A B (16 * p + o) (16 * p + j)) (fun _ => .inr true) (.inl (Int32.ofNat n)) (by omega) (by omega) (by omega) (fun i _ hi => by
      unfold b102_11
      rw [Nat.zero_add, h4, if_neg (fun q => absurd ((i_le (by omega) (by omega)).mp q) (by omega)), f51_s h2 h4 hi, Option.bind_some, f103_s h' ho hi, Option.bind_some]) (by
      unfold b102_11
      rw [Nat.zero_add, h4, if_pos ((i_le (by omega) (by omega)).mpr (Nat.le_refl n))])
  rcases hf with ⟨e1, e2⟩ | ⟨i, -, hi, e1, e2, -⟩
  · refine ⟨false, ?_, fun q => absurd q (by decide), fun ⟨j, hj, q⟩ => ?_⟩
    · exact (congrArg (fun z => Option.bind z _) e1)
    · rw [e2 j (by omega) hj] at q
      exact absurd q (by decide)
  · exact ⟨true, congrArg (fun z => Option.bind z _) e1, fun _ => ⟨i, hi, e2⟩, fun _ => rfl⟩
theorem b138_s {I A : mI} {J B : mJ} {p n o : Nat} (x1 : Int32) (h : pn I A J B p n) (ho : o < n) : ∃ r, mx_lp (b138_41 x1 (Int32.ofNat (16 * p + o)) A B) mx_fu ((0 : Int32), Int32.ofNat (16 * p + o) + 1) = some r ∧ yn r.1 (∃ j, j < n ∧ itb A B (16 * p + o) (16 * p + j) = true) := by
  have h' := h
  obtain ⟨h1, h2, h3, h4, h5, h6⟩ := h
  have ed : Int32.ofNat (16 * p + o) / 16 = Int32.ofNat p := by
    rw [h_dv _ (by omega)]
    congr 1
    omega
  refine Sm.lp (P := fun r : Int32 × Int32 => yn r.1 (∃ j, j < n ∧ itb A B (16 * p + o) (16 * p + j) = true)) (fun s : Int32 × Int32 => ∃ i, o + 1 ≤ i ∧ i ≤ n ∧ s.2 = Int32.ofNat (16 * p + i) ∧ yn s.1 (∃ j, j < i ∧ itb A B (16 * p + o) (16 * p + j) = true)) (fun s : Int32 × Int32 => 256 - s.2.toNatClampNeg) ?_ mx_fu ⟨o + 1, Nat.le_refl _, by omega, n_addR (16 * p + o) 1, .inl ⟨rfl, fun ⟨j, hj, q⟩ => ?_⟩⟩ (by show 256 - _ < 1000; omega)
  · rintro ⟨x, s⟩ ⟨i, hi, hi2, rfl, hy⟩
    simp only at hy
    unfold b138_41
    simp only
    rw [ed]
    rcases Nat.lt_or_ge i n with c | c
    · rw [wk_in h1 h2 h3 h5 c, f143_s h' c, Option.bind_some]
      refine Sm.ret ⟨⟨i + 1, by omega, by omega, n_addR (16 * p + i) 1, ?_⟩, m_dd (by omega) (by omega)⟩
      cases hb : itb A B (16 * p + o) (16 * p + i) with
      | true => exact hy.or1 ⟨i, by omega, hb⟩
      | false =>
        refine hy.or0 ⟨fun ⟨j, hj, q⟩ => ⟨j, by omega, q⟩, fun ⟨j, hj, q⟩ => ⟨j, ?_, q⟩⟩
        by_cases g : j = i
        · rw [g, hb] at q
          exact absurd q (by decide)
        · omega
    · have e1 : i = n := by omega
      subst e1
      rw [wk_end h1 h2 h3 h5]
      exact Sm.ret hy
  · have z := itb_lt h' (show o < 16 by omega) (show j < n by omega) q
    omega
/-- an item of the child's name -/
def fnm (A : mI) (B : mJ) (p o c i : Nat) : Bool := decide (itb A B (16 * p + o) (16 * p + i) = true ∧ vl A B (16 * p + i) 1701667182 = B 102 0 c)
def mus (A : mI) (B : mJ) (c t : Nat) : Bool := decide (¬ 0 < vl A B t 1953723757 ∨ ¬ vl A B c (vl A B t 1953723757) < 0)
def fit (A : mI) (B : mJ) (n p o c : Nat) : Prop := ∃ i, i < n ∧ fnm A B p o c i = true ∧ (∀ j, j < i → fnm A B p o c j = false) ∧ mus A B c (16 * p + i) = true
theorem fit_iff {A : mI} {B : mJ} {n p o c i : Nat} (hi : i < n) (h1 : fnm A B p o c i = true) (h2 : ∀ j, j < i → fnm A B p o c j = false) : fit A B n p o c ↔ mus A B c (16 * p + i) = true := by
  constructor
  · rintro ⟨j, hj, g1, g2, g3⟩
    rcases Nat.lt_trichotomy i j with q | q | q
    · rw [g2 i q] at h1
      exact absurd h1 (by decide)
    · rw [q]; exact g3
    · rw [h2 j q] at g1
      exact absurd g1 (by decide)
  · exact fun g => ⟨i, hi, h1, h2, g⟩
theorem f104_s {I A : mI} {J B : mJ} {p n o c : Nat} (h : pn I A J B p n) (ho : o < 16) (ec : ee I A J B c) : ∃ b, f104 (1 + c) (Int32.ofNat (16 * p + o)) I J = some b ∧ (b = true ↔ fit A B n p o c) := by
  have h' := h
  obtain ⟨h1, h2, h3, h4, h5, h6⟩ := h
  have ed : (16 * p + o) / 16 = p := by omega
  unfold f104
  rw [h_81 _ (by omega), Option.bind_some, ed]
  have hf := fst_lp (body := b104_12 (1 + c) (Int32.ofNat (16 * p + o)) p I J) 0 0 n (fun j => fnm A B p o c j) (fun j => .inr (mus A B c (16 * p + j))) (.inl (Int32.ofNat n)) (by omega) (by omega) (by omega) (fun i _ hi => by
      have ei := ee_of h1 (show i < 16 by omega) (h6 i hi)
      have ea : 1 + 16 * p + i = 1 + (16 * p + i) := by omega
      obtain ⟨v1, -⟩ := ei.2.2.2.2.2.2 1701667182
      obtain ⟨v2, -⟩ := ei.2.2.2.2.2.2 1953723757
      obtain ⟨v3, -⟩ := ec.2.2.2.2.2.2 (vl A B (16 * p + i) 1953723757)
      unfold b104_12 f44
      rw [Nat.zero_add, h4, if_neg (fun q => absurd ((i_le (by omega) (by omega)).mp q) (by omega)), f51_s h2 h4 hi, Option.bind_some, f103_s h' ho hi, Option.bind_some, ea, v1, Option.bind_some, v2, Option.bind_some, v3, Option.bind_some, ec.2.1]
      unfold fnm mus
      cases d1 : itb A B (16 * p + o) (16 * p + i) with
      | false => rw [if_neg (by decide), decide_eq_false (fun q => absurd q.1 (by decide)), if_neg (by decide)]
      | true =>
        rw [if_pos rfl]
        by_cases d2 : vl A B (16 * p + i) 1701667182 = B 102 0 c
        · rw [if_pos ((c_cmp _ _).mpr d2), decide_eq_true ⟨rfl, d2⟩, if_pos rfl]
          by_cases d3 : 0 < vl A B (16 * p + i) 1953723757
          · rw [if_neg (fun q => (c_le _ _).mp q d3)]
            by_cases d4 : vl A B c (vl A B (16 * p + i) 1953723757) < 0
            · rw [if_pos ((c_lt _ _).mpr d4), Option.bind_some, if_neg (by decide), decide_eq_false (fun q => q.elim (fun z => z d3) (fun z => z d4))]
            · rw [if_neg (fun q => d4 ((c_lt _ _).mp q)), Option.bind_some, if_pos rfl, decide_eq_true (.inr d4)]
          · rw [if_pos ((c_le _ _).mpr d3), decide_eq_true (.inl d3)]
        · rw [if_neg (fun q => d2 ((c_cmp _ _).mp q)), decide_eq_false (fun q => d2 q.2), if_neg (by decide)]) (by
      unfold b104_12
      rw [Nat.zero_add, h4, if_pos ((i_le (by omega) (by omega)).mpr (Nat.le_refl n))])
  rcases hf with ⟨e1, e2⟩ | ⟨i, -, hi, e1, e2, e3⟩
  · refine ⟨false, ?_, fun q => absurd q (by decide), fun ⟨j, hj, q, _⟩ => ?_⟩
    · exact (congrArg (fun z => Option.bind z _) e1)
    · rw [e2 j (by omega) hj] at q
      exact absurd q (by decide)
  · exact ⟨mus A B c (16 * p + i), congrArg (fun z => Option.bind z _) e1, (fit_iff hi e2 (fun j hj => e3 j (by omega) hj)).symm⟩
theorem f144_s {I A : mI} {J B : mJ} {p n o c : Nat} (h : pn I A J B p n) (ho : o < n) (hc : c < 128) (ec : ee I A J B c) : ∃ b, f144 (Int32.ofNat c) (Int32.ofNat (16 * p + o)) A B = some b ∧ (b = true ↔ fit A B n p o c) := by
  have h' := h
  obtain ⟨h1, h2, h3, h4, h5, h6⟩ := h
  have ed : Int32.ofNat (16 * p + o) / 16 = Int32.ofNat p := by
    rw [h_dv _ (by omega)]
    congr 1
    omega
  have hf := fst_lp (body := b144_4 (Int32.ofNat c) (Int32.ofNat (16 * p + o)) A B) (16 * p) (o + 1) n (fun j => fnm A B p o c j) (fun j => Int32.ofNat (16 * p + j)) (Int32.ofNat (16 * p + n)) (by omega) (by omega) (by omega) (fun i _ hi => by
      have ei := ee_of h1 (show i < 16 by omega) (h6 i hi)
      obtain ⟨-, v1⟩ := ei.2.2.2.2.2.2 1701667182
      unfold b144_4
      rw [ed, wk_in h1 h2 h3 h5 hi, f143_s h' hi, Option.bind_some, v1, Option.bind_some, if_neg (i_g hc (by decide)), i_cl (by omega)]
      unfold fnm
      cases d1 : itb A B (16 * p + o) (16 * p + i) with
      | false => rw [if_neg (by decide), decide_eq_false (fun q => absurd q.1 (by decide)), if_neg (by decide)]
      | true =>
        rw [if_pos rfl]
        by_cases d2 : vl A B (16 * p + i) 1701667182 = B 102 0 c
        · rw [if_pos ((c_cmp _ _).mpr d2), decide_eq_true ⟨rfl, d2⟩, if_pos rfl]
        · rw [if_neg (fun q => d2 ((c_cmp _ _).mp q)), decide_eq_false (fun q => d2 q.2), if_neg (by decide)]) (by
      unfold b144_4
      rw [ed, wk_end h1 h2 h3 h5])
  have hz : ∀ j, j < o + 1 → fnm A B p o c j = false := fun j hj => by
    cases q : fnm A B p o c j with
    | false => rfl
    | true =>
      have z := itb_lt h' (show o < 16 by omega) (show j < n by omega) (of_decide_eq_true q).1
      omega
  unfold f144
  rw [show Int32.ofNat (16 * p + o) + 1 = Int32.ofNat (16 * p + (o + 1)) from n_addR (16 * p + o) 1]
  rcases hf with ⟨e1, e2⟩ | ⟨i, hi0, hi, e1, e2, e3⟩
  · rw [e1, Option.bind_some]
    unfold j144_56
    rw [ed, wk_end h1 h2 h3 h5]
    refine ⟨false, rfl, fun q => absurd q (by decide), fun ⟨j, hj, q, _⟩ => ?_⟩
    rcases Nat.lt_or_ge j (o + 1) with g | g
    · rw [hz j g] at q
      exact absurd q (by decide)
    · rw [e2 j g hj] at q
      exact absurd q (by decide)
  · have ei := ee_of h1 (show i < 16 by omega) (h6 i hi)
    obtain ⟨-, v2⟩ := ei.2.2.2.2.2.2 1953723757
    obtain ⟨-, v3⟩ := ec.2.2.2.2.2.2 (vl A B (16 * p + i) 1953723757)
    rw [e1, Option.bind_some]
    unfold j144_56
    rw [ed, wk_in h1 h2 h3 h5 hi, v2, Option.bind_some, v3, Option.bind_some]
    refine ⟨mus A B c (16 * p + i), ?_, (fit_iff hi e2 (fun j hj => ?_)).symm⟩
    · unfold mus
      by_cases d3 : 0 < vl A B (16 * p + i) 1953723757
      · rw [if_neg (fun q => (c_le _ _).mp q d3)]
        by_cases d4 : vl A B c (vl A B (16 * p + i) 1953723757) < 0
        · rw [if_pos ((c_lt _ _).mpr d4), decide_eq_false (fun q => q.elim (fun z => z d3) (fun z => z d4))]
        · rw [if_neg (fun q => d4 ((c_lt _ _).mp q)), decide_eq_true (.inr d4)]
      · rw [if_pos ((c_le _ _).mpr d3), decide_eq_true (.inl d3)]
    · rcases Nat.lt_or_ge j (o + 1) with g | g
      · exact hz j g
      · exact e3 j g hj
