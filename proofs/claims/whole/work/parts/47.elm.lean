/-! element, child -/
/-- how many below -/
def cn (P : Nat → Bool) : Nat → Nat
  | 0 => 0
  | i + 1 => cn P i + (if P i then 1 else 0)
theorem cn_le (P : Nat → Bool) : ∀ i, cn P i ≤ i := by
  intro i
  induction i with
  | zero => exact Nat.le_refl _
  | succ i ih =>
    simp only [cn]
    split <;> omega
theorem cn_cg {P Q : Nat → Bool} {n : Nat} (h : ∀ i, i < n → P i = Q i) : ∀ i, i ≤ n → cn P i = cn Q i := by
  intro i
  induction i with
  | zero => intro _; rfl
  | succ i ih =>
    intro hi
    simp only [cn, ih (by omega), h i (by omega)]
theorem cn_0 {P : Nat → Bool} : ∀ i, (∀ j, j < i → P j = false) → cn P i = 0 := by
  intro i
  induction i with
  | zero => intro _; rfl
  | succ i ih =>
    intro h
    simp only [cn, ih (fun j hj => h j (by omega)), h i (by omega)]
    rfl
theorem cn_t {P : Nat → Bool} {i : Nat} (h : P i = true) : cn P (i + 1) = cn P i + 1 := by simp [cn, h]
theorem cn_f {P : Nat → Bool} {i : Nat} (h : P i = false) : cn P (i + 1) = cn P i := by simp [cn, h]
theorem Fi_eq {P Q : Nat → Prop} {N : Nat} {r s : Int32} (h : Fi P N r) (h2 : Fi Q N s) (e : ∀ t, t < N → (P t ↔ Q t)) : r = s := by
  rcases h with ⟨rfl, h⟩ | ⟨t, ht, rfl, hp, hm⟩ <;> rcases h2 with ⟨rfl, h2⟩ | ⟨u, hu, rfl, hq, hn⟩
  · rfl
  · exact absurd ((e u hu).mpr hq) (h u hu)
  · exact absurd ((e t ht).mp hp) (h2 t ht)
  · have h1 : ¬ t < u := fun q => hn t q ((e t ht).mp hp)
    have h3 : ¬ u < t := fun q => hm u q ((e u hu).mpr hq)
    have h4 : t = u := by omega
    rw [h4]
/-- the way up -/
theorem top_lp {I A : mI} {J B : mJ} {p n : Nat} (hp : p < 8) (hn : n ≤ 16) (h : ∀ k, k < n → g_e0 I A J B p k ∧ g_at I A J B p k) : ∀ k, k < n → ∃ o, o ≤ k ∧ I 3 (1 + 16 * p + k) 5 = Int32.ofNat o ∧ ∀ f, k < f → mx_lp (b151_2 A) f (Int32.ofNat (16 * p + k)) = some (Int32.ofNat (16 * p + o)) := by
  intro k
  induction k using Nat.strongRecOn with
  | _ k ih =>
    intro hk
    obtain ⟨⟨b1, b2, b3, b4, b5⟩, -⟩ := h k hk
    have g := i_g (n := 16 * p + k) (N := 128) (by omega) (by decide)
    rcases b5 with ⟨d1, d2, d3, d4⟩ | ⟨j, hj, d1, d2, d3, d4⟩
    · refine ⟨k, Nat.le_refl _, d3, fun f hf => ?_⟩
      obtain ⟨f', rfl⟩ : ∃ f', f = f' + 1 := ⟨f - 1, by omega⟩
      have e : b151_2 A (Int32.ofNat (16 * p + k)) = some (.inr (Int32.ofNat (16 * p + k))) := by
        unfold b151_2
        rw [if_neg g, i_cl (by omega), d2, if_pos (by decide)]
      simp only [mx_lp, e]
    · obtain ⟨o, ho, e1, e2⟩ := ih j hj (by omega)
      refine ⟨o, by omega, d3.trans e1, fun f hf => ?_⟩
      obtain ⟨f', rfl⟩ : ∃ f', f = f' + 1 := ⟨f - 1, by omega⟩
      have e : b151_2 A (Int32.ofNat (16 * p + k)) = some (.inl (Int32.ofNat (16 * p + j))) := by
        unfold b151_2
        rw [if_neg g, if_neg g, i_cl (by omega), d2, if_neg (i_nn (by omega))]
      simp only [mx_lp, e]
      exact e2 f' (by omega)
theorem top_f {I A : mI} {J B : mJ} (h : g_tree I A J B) {t : Nat} (ht : t < 128) (hi : ise A t) : ∃ o, o ≤ t % 16 ∧ I 3 (1 + t) 5 = Int32.ofNat o ∧ f151 (Int32.ofNat t) A = some (Int32.ofNat (16 * (t / 16) + o)) ∧ ise A (16 * (t / 16) + o) := by
  obtain ⟨n, hn, b1, b2, b3, b4⟩ := h (t / 16) (by omega)
  have hk : t % 16 < n := by
    have q := hi.2
    rw [b3 hi.1, i_lt (by omega) (by omega)] at q
    exact q
  obtain ⟨o, ho, e1, e2⟩ := top_lp (by omega) hn b4 (t % 16) hk
  rw [Nat.div_add_mod] at e2
  rw [show 1 + 16 * (t / 16) + t % 16 = 1 + t by omega] at e1
  refine ⟨o, ho, e1, ?_, ?_, ?_⟩
  · unfold f151
    rw [e2 mx_fu (by show _ < 1000; omega)]
    rfl
  · rw [show (16 * (t / 16) + o) / 16 = t / 16 by omega]
    exact hi.1
  · rw [show (16 * (t / 16) + o) / 16 = t / 16 by omega, show (16 * (t / 16) + o) % 16 = o by omega, b3 hi.1]
    exact (i_lt (by omega) (by omega)).mpr (by omega)
theorem f18_m (x : Int32) : f18 x (-1) = some (-1) := by
  unfold f18
  rw [if_pos rfl]
theorem f18_n {t j : Nat} (ht : t < 128) (hj : j < 16) : f18 (Int32.ofNat t) (Int32.ofNat j) = some (Int32.ofNat (16 * (t / 16) + j)) := by
  unfold f18
  rw [if_neg (i_m1 (by omega)), h_dv t (by omega), show Int32.ofNat (t / 16) * 16 = Int32.ofNat (t / 16 * 16) from n_mulR _ 16, i_add, Nat.mul_comm]
theorem f84_in {I A : mI} {J B : mJ} {t : Nat} (e1 : f80 (Int32.ofNat t) I = some (1 + t)) (e : ee I A J B t) : f84 (Int32.ofNat t) I = some true := by
  unfold f84
  obtain ⟨-, -, e2, ⟨d, d1, d2, d3⟩, -⟩ := e
  rw [e1, Option.bind_some, e2, d3, if_neg]
  intro q
  have := (n_leR (by omega) (by decide)).mp q
  omega
theorem f84_out {I : mI} {J : mJ} {x : Int32} (h : g_non I J) (e1 : f80 x I = some 0) : f84 x I = some false := by
  unfold f84
  rw [e1, Option.bind_some, h.2.2.2.2.1, if_pos (by decide)]
/-- within an extension, as both see it -/
theorem wthn {I A : mI} {J B : mJ} (h : Sim I J A B) {t : Nat} (ht : t < 128) (hi : ise A t) (e1 : f80 (Int32.ofNat t) I = some (1 + t)) (e : ee I A J B t) : ∃ o, o ≤ t % 16 ∧ I 3 (1 + t) 5 = Int32.ofNat o ∧ f151 (Int32.ofNat t) A = some (Int32.ofNat (16 * (t / 16) + o)) ∧ f108 (Int32.ofNat t) I = some (decide (¬ A 108 0 (16 * (t / 16) + o) = 0)) ∧ ise A (16 * (t / 16) + o) := by
  obtain ⟨a1, a2, a3, a4, a5, a6, a7, a8, a9, a10, a11⟩ := h
  obtain ⟨o, ho, c1, c2, c3⟩ := top_f a4 ht hi
  refine ⟨o, ho, c1, c2, ?_, c3⟩
  unfold f108
  have g := i_g (n := 16 * (t / 16) + o) (N := 128) (by omega) (by decide)
  rw [f84_in e1 e, bT, e1, Option.bind_some, c1, f18_n ht (by omega), Option.bind_some, if_neg g, i_cl (by omega), (a8 _ (by omega)).1]
  by_cases c : A 108 0 (16 * (t / 16) + o) = 0
  · rw [if_pos c]
    simp [c]
  · rw [if_neg c]
    simp [c]
/-- which are children -/
def chb (A : mI) (p t i : Nat) : Bool := decide (A 105 0 (16 * p + i) = Int32.ofNat t)
theorem ch_eq {I A : mI} {J B : mJ} {p n k : Nat} (hp : p < 8) (hn : n ≤ 16) (hk : k < 16) (h : ∀ k, k < n → g_e0 I A J B p k ∧ g_at I A J B p k) (i : Nat) (hi : i < n) : (I 3 (1 + 16 * p + i) 4 = Int32.ofNat k ↔ chb A p (16 * p + k) i = true) ∧ (chb A p (16 * p + k) i = true → k < i) := by
  obtain ⟨⟨b1, b2, b3, b4, b5⟩, -⟩ := h i hi
  unfold chb
  rw [decide_eq_true_eq]
  rcases b5 with ⟨d1, d2, -, -⟩ | ⟨j, hj, d1, d2, -, -⟩
  · rw [d1, d2]
    have q1 : ¬ (-1 : Int32) = Int32.ofNat k := fun q => i_m1 (n := k) (by omega) q.symm
    have q2 : ¬ (-1 : Int32) = Int32.ofNat (16 * p + k) := fun q => i_m1 (n := 16 * p + k) (by omega) q.symm
    exact ⟨⟨fun q => absurd q q1, fun q => absurd q q2⟩, fun q => absurd q q2⟩
  · rw [d1, d2, i_eq (by omega) (by omega), i_eq (by omega) (by omega)]
    constructor
    · constructor <;> intro q <;> omega
    · intro q
      omega
/-- an element of a plugin, from what it has -/
theorem f140_n {A : mI} {p n i : Nat} (hp : p < 8) (hn : n ≤ 16) (h0 : ¬ A 92 0 p = 0) (h1 : A 100 0 p = Int32.ofNat n) (hi : i ≤ n) : ∃ b, f140 (Int32.ofNat (16 * p + i)) A = some b ∧ (i < n → b = true) ∧ (i = n → b = false ∨ ¬ Int32.ofNat (16 * p + i) / 16 = Int32.ofNat p) := by
  by_cases c : 16 * p + i < 128
  · obtain ⟨b, e1, e2⟩ := f140_in (A := A) c
    refine ⟨b, e1, fun hlt => e2.mpr ?_, fun he => ?_⟩
    · unfold ise
      rw [show (16 * p + i) / 16 = p by omega, show (16 * p + i) % 16 = i by omega, h1]
      exact ⟨h0, (i_lt (by omega) (by omega)).mpr hlt⟩
    · subst he
      by_cases c2 : i = 16
      · right
        rw [h_dv _ (by omega), i_eq (by omega) (by omega)]
        omega
      · left
        cases b with
        | false => rfl
        | true =>
          have q := e2.mp rfl
          unfold ise at q
          rw [show (16 * p + i) / 16 = p by omega, show (16 * p + i) % 16 = i by omega, h1, i_lt (by omega) (by omega)] at q
          omega
  · refine ⟨false, f140_out (fun q => c ((n_ltR (by omega) (by decide)).mp q.2)), fun hlt => ?_, fun _ => .inl rfl⟩
    omega
theorem chn_C {I A : mI} {J B : mJ} {p n k : Nat} (hp : p < 8) (hn : n ≤ 16) (hk : k < 16) (h1 : I 4 p 2 = Int32.ofNat n) (h : ∀ k, k < n → g_e0 I A J B p k ∧ g_at I A J B p k) : f52 p (Int32.ofNat k) I = some (Int32.ofNat (cn (chb A p (16 * p + k)) n)) := by
  have hl : Sm (mx_lp (b52_4 p (Int32.ofNat k) I) mx_fu ((0 : Int32), (0 : Int32))) (fun r => r.1 = Int32.ofNat (cn (chb A p (16 * p + k)) n)) := by
    refine Sm.lp (fun s => ∃ i, i ≤ n ∧ s.2 = Int32.ofNat i ∧ s.1 = Int32.ofNat (cn (chb A p (16 * p + k)) i)) (fun s => 16 - s.2.toNatClampNeg) ?_ mx_fu ⟨0, by omega, rfl, rfl⟩ (by decide)
    rintro ⟨_, _⟩ ⟨i, hi, rfl, rfl⟩
    unfold b52_4
    simp only
    rw [h1]
    rcases Nat.lt_or_ge i n with c | c
    · have n1 : ¬ Int32.ofNat n ≤ Int32.ofNat i := fun q => absurd ((i_le (by omega) (by omega)).mp q) (by omega)
      have g := i_g (n := i) (N := 16) (by omega) (by decide)
      obtain ⟨c1, -⟩ := ch_eq hp hn hk h i c
      rw [if_neg n1, if_neg g, i_cl (by omega)]
      by_cases c2 : I 3 (1 + 16 * p + i) 4 = Int32.ofNat k
      · rw [if_pos c2]
        refine Sm.ret ⟨⟨i + 1, by omega, n_addR i 1, ?_⟩, ?_⟩
        · simp only
          rw [cn_t (c1.mp c2)]
          exact n_addR _ 1
        · first | exact m_dc (by omega) (by omega) | exact m_dd (by omega) (by omega)
      · rw [if_neg c2]
        refine Sm.ret ⟨⟨i + 1, by omega, n_addR i 1, ?_⟩, ?_⟩
        · simp only
          rw [cn_f (by simpa using fun q => c2 (c1.mpr q))]
        · first | exact m_dc (by omega) (by omega) | exact m_dd (by omega) (by omega)
    · have e : i = n := by omega
      subst e
      rw [if_pos ((i_le (by omega) (by omega)).mpr (by omega))]
      exact Sm.ret rfl
  obtain ⟨r, e1, e2⟩ := hl
  unfold f52
  rw [e1, Option.bind_some, e2]
theorem chn_M {A : mI} {p n k : Nat} (hp : p < 8) (hn : n ≤ 16) (hk : k < n) (h0 : ¬ A 92 0 p = 0) (h1 : A 100 0 p = Int32.ofNat n) (hz : ∀ i, i < n → chb A p (16 * p + k) i = true → k < i) : f158 (Int32.ofNat (16 * p + k)) A = some (Int32.ofNat (cn (chb A p (16 * p + k)) n)) := by
  have ed : Int32.ofNat (16 * p + k) / 16 = Int32.ofNat p := by
    rw [h_dv _ (by omega)]
    congr 1
    omega
  have hl : Sm (mx_lp (b158_6 (Int32.ofNat (16 * p + k)) A) mx_fu ((0 : Int32), Int32.ofNat (16 * p + k) + 1)) (fun r => r.1 = Int32.ofNat (cn (chb A p (16 * p + k)) n)) := by
    refine Sm.lp (fun s => ∃ i, i ≤ n ∧ s.2 = Int32.ofNat (16 * p + i) ∧ s.1 = Int32.ofNat (cn (chb A p (16 * p + k)) i)) (fun s => 144 - s.2.toNatClampNeg) ?_ mx_fu ⟨k + 1, by omega, n_addR _ 1, ?_⟩ ?_
    · rintro ⟨_, _⟩ ⟨i, hi, rfl, rfl⟩
      unfold b158_6
      simp only
      obtain ⟨b, e1, e2, e3⟩ := f140_n hp hn h0 h1 hi
      rw [e1]
      rcases Nat.lt_or_ge i n with c | c
      · rw [e2 c, bT, ed, if_pos (by rw [h_dv _ (by omega)]; congr 1; omega)]
        have g := i_g (n := 16 * p + i) (N := 128) (by omega) (by decide)
        rw [if_neg g, i_cl (by omega)]
        by_cases c2 : A 105 0 (16 * p + i) = Int32.ofNat (16 * p + k)
        · rw [if_pos c2]
          refine Sm.ret ⟨⟨i + 1, by omega, n_addR _ 1, ?_⟩, ?_⟩
          · simp only
            rw [cn_t (show chb A p (16 * p + k) i = true from decide_eq_true c2)]
            exact n_addR _ 1
          · first | exact m_dc (by omega) (by omega) | exact m_dd (by omega) (by omega)
        · rw [if_neg c2]
          refine Sm.ret ⟨⟨i + 1, by omega, n_addR _ 1, ?_⟩, ?_⟩
          · simp only
            rw [cn_f (show chb A p (16 * p + k) i = false from decide_eq_false c2)]
          · first | exact m_dc (by omega) (by omega) | exact m_dd (by omega) (by omega)
      · have e : i = n := by omega
        subst e
        rcases e3 rfl with rfl | e4
        · rw [bF]
          exact Sm.ret rfl
        · cases b with
          | false =>
            rw [bF]
            exact Sm.ret rfl
          | true =>
            rw [bT, ed, if_neg e4]
            exact Sm.ret rfl
    · rw [cn_0 (k + 1) (fun j hj => ?_)]
      · rfl
      · cases hb : chb A p (16 * p + k) j with
        | false => rfl
        | true =>
          have := hz j (by omega) hb
          omega
    · rw [show Int32.ofNat (16 * p + k) + 1 = Int32.ofNat (16 * p + k + 1) from n_addR _ 1, i_cl (by omega)]
      show _ < 1000
      omega
  obtain ⟨r, e1, e2⟩ := hl
  unfold f158
  rw [e1, Option.bind_some, e2]
