/-! elements, names, attributes -/
theorem m_dc {k N : Nat} (h : k < N) (h2 : k + 1 < 2147483648) : N - (Int32.ofNat k + 1).toNatClampNeg < N - k := by
  rw [show Int32.ofNat k + 1 = Int32.ofNat (k + 1) from n_addR k 1, i_cl h2]
  omega
theorem m_dd {k N : Nat} (h : k < N) (h2 : k + 1 < 2147483648) : N - (Int32.ofNat k + 1).toNatClampNeg < N - (Int32.ofNat k).toNatClampNeg := by
  rw [i_cl (n := k) (by omega)]
  exact m_dc h h2
theorem vof_cg {N V N' V' : Nat → Int64} {nm : Int64} {a : Nat} (h : ∀ i, i < a → N i = N' i ∧ V i = V' i) : ∀ r i, i + r ≤ a → vof N V nm i r = vof N' V' nm i r := by
  intro r
  induction r with
  | zero => intro i _; rfl
  | succ r ih =>
    intro i hi
    obtain ⟨h1, h2⟩ := h i (by omega)
    simp only [vof, h1, h2, ih (i + 1) (by omega)]
theorem v_f45 {I : mI} {J : mJ} {e a : Nat} (nm : Int64) (ha : a ≤ 4) (h : I 3 e 2 = Int32.ofNat a) : f45 e nm I J = some (vof (J 70 e) (J 71 e) nm 0 a) := by
  have hl : Sm (mx_lp (b45_2 e nm I J) mx_fu (0 : Int32)) (fun r => Sum.elim (fun _ => (-1 : Int64)) id r = vof (J 70 e) (J 71 e) nm 0 a) := by
    refine Sm.lp (fun s => ∃ k, k ≤ a ∧ s = Int32.ofNat k ∧ vof (J 70 e) (J 71 e) nm k (a - k) = vof (J 70 e) (J 71 e) nm 0 a) (fun s => 4 - s.toNatClampNeg) ?_ mx_fu ⟨0, by omega, rfl, rfl⟩ (by decide)
    rintro s ⟨k, hk, rfl, hv⟩
    unfold b45_2
    rw [h]
    rcases Nat.lt_or_ge k a with hka | hka
    · have n1 : ¬ Int32.ofNat a ≤ Int32.ofNat k := fun q => absurd ((i_le (by omega) (by omega)).mp q) (by omega)
      have g := i_g (n := k) (N := 4) (by omega) (by decide)
      rw [if_neg n1, if_neg g, if_neg g, i_cl (by omega)]
      obtain ⟨r, hr⟩ : ∃ r, a - k = r + 1 := ⟨a - k - 1, by omega⟩
      rw [hr] at hv
      simp only [vof] at hv
      by_cases c : J 70 e k = nm
      · rw [if_pos ((c_cmp _ _).mpr c)]
        rw [if_pos c] at hv
        exact Sm.ret hv
      · rw [if_neg (fun q => c ((c_cmp _ _).mp q))]
        rw [if_neg c] at hv
        refine Sm.ret ⟨⟨k + 1, by omega, n_addR k 1, ?_⟩, ?_⟩
        · rw [show a - (k + 1) = r by omega]
          exact hv
        · first | exact m_dc (by omega) (by omega) | exact m_dd (by omega) (by omega)
    · have e : k = a := by omega
      subst e
      rw [if_pos ((i_le (by omega) (by omega)).mpr (by omega))]
      rw [Nat.sub_self] at hv
      exact Sm.ret hv
  obtain ⟨r, e1, e2⟩ := hl
  unfold f45
  rw [e1, Option.bind_some, ← e2]
  cases r <;> rfl
theorem v_f141 {A : mI} {B : mJ} {t a : Nat} (nm : Int64) (ht : t < 128) (ha : a ≤ 4) (h : A 107 0 t = Int32.ofNat a) : f141 (Int32.ofNat t) nm A B = some (vl A B t nm) := by
  unfold vl
  rw [h, i_cl (by omega)]
  have e4 : ∀ k, (4 : Int32) * Int32.ofNat t + Int32.ofNat k = Int32.ofNat (4 * t + k) := fun k => by
    rw [show (4 : Int32) * Int32.ofNat t = Int32.ofNat (4 * t) from n_mulL 4 t, i_add]
  have hl : Sm (mx_lp (b141_3 (Int32.ofNat t) nm A B) mx_fu (0 : Int32)) (fun r => Sum.elim (fun _ => (-1 : Int64)) id r = vof (fun i => B 103 0 (4 * t + i)) (fun i => B 104 0 (4 * t + i)) nm 0 a) := by
    refine Sm.lp (fun s => ∃ k, k ≤ a ∧ s = Int32.ofNat k ∧ vof (fun i => B 103 0 (4 * t + i)) (fun i => B 104 0 (4 * t + i)) nm k (a - k) = vof (fun i => B 103 0 (4 * t + i)) (fun i => B 104 0 (4 * t + i)) nm 0 a) (fun s => 4 - s.toNatClampNeg) ?_ mx_fu ⟨0, by omega, rfl, rfl⟩ (by decide)
    rintro s ⟨k, hk, rfl, hv⟩
    unfold b141_3
    have gt := i_g (n := t) (N := 128) (by omega) (by decide)
    rw [if_neg gt, i_cl (n := t) (by omega), h, e4]
    rcases Nat.lt_or_ge k a with hka | hka
    · have n1 : ¬ Int32.ofNat a ≤ Int32.ofNat k := fun q => absurd ((i_le (by omega) (by omega)).mp q) (by omega)
      have g := i_g (n := 4 * t + k) (N := 512) (by omega) (by decide)
      rw [if_neg n1, if_neg g, if_neg g, i_cl (by omega)]
      obtain ⟨r, hr⟩ : ∃ r, a - k = r + 1 := ⟨a - k - 1, by omega⟩
      rw [hr] at hv
      simp only [vof] at hv
      by_cases c : B 103 0 (4 * t + k) = nm
      · rw [if_pos ((c_cmp _ _).mpr c)]
        rw [if_pos c] at hv
        exact Sm.ret hv
      · rw [if_neg (fun q => c ((c_cmp _ _).mp q))]
        rw [if_neg c] at hv
        refine Sm.ret ⟨⟨k + 1, by omega, n_addR k 1, ?_⟩, ?_⟩
        · rw [show a - (k + 1) = r by omega]
          exact hv
        · first | exact m_dc (by omega) (by omega) | exact m_dd (by omega) (by omega)
    · have e : k = a := by omega
      subst e
      rw [if_pos ((i_le (by omega) (by omega)).mpr (by omega))]
      rw [Nat.sub_self] at hv
      exact Sm.ret hv
  obtain ⟨r, e1, e2⟩ := hl
  unfold f141
  rw [e1, Option.bind_some, ← e2]
  cases r <;> rfl
theorem h_81 (t : Nat) (h : t < 128) : f81 (Int32.ofNat t) = some (t / 16) := by
  have hd : ∀ c : Fin 128, f81 (Int32.ofNat c.val) = some (c.val / 16) := by decide +kernel
  exact hd ⟨t, h⟩
theorem h_md (t : Nat) (h : t < 128) : Int32.ofNat t - Int32.ofNat t / 16 * 16 = Int32.ofNat (t % 16) := by
  have hd : ∀ c : Fin 128, Int32.ofNat c.val - Int32.ofNat c.val / 16 * 16 = Int32.ofNat (c.val % 16) := by decide +kernel
  exact hd ⟨t, h⟩
theorem h_dv (t : Nat) (h : t < 2147483648) : Int32.ofNat t / 16 = Int32.ofNat (t / 16) := n_divR h (by decide)
/-- an element, as both hold it -/
def ee (I A : mI) (J B : mJ) (t : Nat) : Prop := I 3 (1 + t) 3 = Int32.ofNat (t % 16) ∧ J 3 (1 + t) 7 = B 102 0 t ∧ I 3 (1 + t) 6 = A 106 0 t ∧ (∃ d, 1 ≤ d ∧ d ≤ 4 ∧ A 106 0 t = Int32.ofNat d) ∧
  ((I 3 (1 + t) 4 = -1 ∧ A 105 0 t = -1 ∧ I 3 (1 + t) 5 = Int32.ofNat (t % 16) ∧ A 106 0 t = 1) ∨ ∃ j, j < t % 16 ∧ I 3 (1 + t) 4 = Int32.ofNat j ∧ A 105 0 t = Int32.ofNat (16 * (t / 16) + j) ∧ I 3 (1 + t) 5 = I 3 (1 + 16 * (t / 16) + j) 5 ∧ ¬ A 106 0 t = 1) ∧
  I 3 (1 + t) 2 = A 107 0 t ∧ ∀ nm, f45 (1 + t) nm I J = some (vl A B t nm) ∧ f141 (Int32.ofNat t) nm A B = some (vl A B t nm)
theorem ee_of {I A : mI} {J B : mJ} {p k : Nat} (hp : p < 8) (hk : k < 16) (h : g_e0 I A J B p k ∧ g_at I A J B p k) : ee I A J B (16 * p + k) := by
  obtain ⟨⟨b1, b2, b3, b4, b5⟩, a, ha, c1, c2, c3⟩ := h
  have e1 : (16 * p + k) % 16 = k := by omega
  have e2 : (16 * p + k) / 16 = p := by omega
  have e3 : 1 + (16 * p + k) = 1 + 16 * p + k := by omega
  unfold ee
  rw [e1, e2, e3]
  refine ⟨b1, b2, b3, b4, b5, c1.trans c2.symm, fun nm => ⟨?_, v_f141 nm (by omega) ha c2⟩⟩
  rw [v_f45 nm ha c1]
  unfold vl
  rw [c2, i_cl (by omega)]
  exact congrArg some (vof_cg (a := a) (fun i hi => ⟨(c3 i hi).1, (c3 i hi).2.1⟩) a 0 (by omega))
theorem f140_in {A : mI} {t : Nat} (ht : t < 128) : ∃ b, f140 (Int32.ofNat t) A = some b ∧ (b = true ↔ ise A t) := by
  unfold f140 f120 ise
  have q1 : ¬ Int32.ofNat t < 0 := i_nn (by omega)
  have q2 : ¬ (127 : Int32) < Int32.ofNat t := fun q => by have := (n_ltL (by decide) (by omega)).mp q; omega
  have g := i_g (n := t / 16) (N := 8) (by omega) (by decide)
  rw [if_neg q1, if_neg q2, bT, h_md t ht, h_dv t (by omega), if_neg g, if_neg g, i_cl (by omega)]
  by_cases c1 : A 92 0 (t / 16) = 0
  · rw [if_pos c1]
    exact ⟨false, rfl, fun h => (by cases h), fun h => absurd c1 h.1⟩
  · rw [if_neg c1]
    by_cases c2 : A 100 0 (t / 16) ≤ Int32.ofNat (t % 16)
    · rw [if_pos c2]
      refine ⟨false, rfl, fun h => (by cases h), fun h => ?_⟩
      have h2 := h.2
      rw [Int32.lt_iff_toInt_lt] at h2
      rw [Int32.le_iff_toInt_le] at c2
      omega
    · rw [if_neg c2]
      refine ⟨true, rfl, fun _ => ⟨c1, ?_⟩, fun _ => rfl⟩
      rw [Int32.lt_iff_toInt_lt]
      rw [Int32.le_iff_toInt_le] at c2
      omega
theorem f140_out {A : mI} {x : Int32} (h : ¬ (0 ≤ x ∧ x < 128)) : f140 x A = some false := by
  unfold f140 f120
  by_cases c1 : x < 0
  · rw [if_pos c1]
    rfl
  · rw [if_neg c1]
    obtain ⟨n, hn, rfl⟩ := i_ofn c1
    have hge : 128 ≤ n := by
      rcases Nat.lt_or_ge n 128 with q | q
      · exact absurd ⟨i_ps hn, (n_ltR hn (by decide)).mpr q⟩ h
      · exact q
    rw [if_pos ((n_ltL (by decide) hn).mpr (by omega))]
    rfl
theorem f80_in {I : mI} {t n : Nat} (ht : t < 128) (hn : n ≤ 16) (h : I 4 (t / 16) 2 = Int32.ofNat n) : f80 (Int32.ofNat t) I = some (if t % 16 < n then 1 + t else 0) := by
  unfold f80
  have q1 : ¬ Int32.ofNat t < 0 := i_nn (by omega)
  have q2 : ¬ (128 : Int32) ≤ Int32.ofNat t := fun q => by have := (n_leL (by decide) (by omega)).mp q; omega
  rw [if_neg q1, if_neg q2, h_81 t ht, h_md t ht, Option.bind_some]
  unfold f51
  have q3 : ¬ Int32.ofNat (t % 16) < 0 := i_nn (by omega)
  rw [if_neg q3, h]
  have g := i_g (n := t % 16) (N := 16) (by omega) (by decide)
  by_cases c : t % 16 < n
  · have q4 : ¬ Int32.ofNat n ≤ Int32.ofNat (t % 16) := fun q => by have := (i_le (by omega) (by omega)).mp q; omega
    rw [if_neg q4, if_neg g, if_pos c, i_cl (by omega), Option.bind_some]
    congr 1
    omega
  · have q4 : Int32.ofNat n ≤ Int32.ofNat (t % 16) := (i_le (by omega) (by omega)).mpr (by omega)
    rw [if_pos q4, if_neg c]
    rfl
theorem f80_out {I : mI} {x : Int32} (h : ¬ (0 ≤ x ∧ x < 128)) : f80 x I = some 0 := by
  unfold f80
  by_cases c1 : x < 0
  · rw [if_pos c1]
  · rw [if_neg c1]
    obtain ⟨n, hn, rfl⟩ := i_ofn c1
    have hge : 128 ≤ n := by
      rcases Nat.lt_or_ge n 128 with q | q
      · exact absurd ⟨i_ps hn, (n_ltR hn (by decide)).mpr q⟩ h
      · exact q
    rw [if_pos ((n_leL (by decide) hn).mpr (by omega))]
theorem hd_in {I A : mI} {J B : mJ} (h : g_tree I A J B) {t : Nat} (ht : t < 128) : (¬ ise A t ∧ f80 (Int32.ofNat t) I = some 0 ∧ f140 (Int32.ofNat t) A = some false) ∨ (ise A t ∧ f80 (Int32.ofNat t) I = some (1 + t) ∧ f140 (Int32.ofNat t) A = some true ∧ ee I A J B t) := by
  obtain ⟨n, hn, b1, b2, b3, b4⟩ := h (t / 16) (by omega)
  obtain ⟨b, e1, e2⟩ := f140_in (A := A) ht
  rw [f80_in ht hn b1, e1]
  by_cases c : t % 16 < n
  · right
    have hi : ise A t := by
      have c1 : ¬ A 92 0 (t / 16) = 0 := fun q => by have := b2 q; omega
      refine ⟨c1, ?_⟩
      rw [b3 c1]
      exact (i_lt (by omega) (by omega)).mpr c
    have e3 := ee_of (by omega) (by omega) (b4 (t % 16) c)
    rw [Nat.div_add_mod] at e3
    rw [if_pos c, e2.mpr hi]
    exact ⟨hi, rfl, rfl, e3⟩
  · left
    have hi : ¬ ise A t := by
      intro q
      have q2 := q.2
      rw [b3 q.1, i_lt (by omega) (by omega)] at q2
      omega
    rw [if_neg c]
    refine ⟨hi, rfl, ?_⟩
    cases b with
    | false => rfl
    | true => exact absurd (e2.mp rfl) hi
theorem hd_cs {I A : mI} {J B : mJ} (h : g_tree I A J B) (x : Int32) : (f80 x I = some 0 ∧ f140 x A = some false) ∨ ∃ t, t < 128 ∧ x = Int32.ofNat t ∧ ise A t ∧ f80 x I = some (1 + t) ∧ f140 x A = some true ∧ ee I A J B t := by
  by_cases c : 0 ≤ x ∧ x < 128
  · have c1 : ¬ x < 0 := by
      rw [Int32.lt_iff_toInt_lt]
      have := c.1
      rw [Int32.le_iff_toInt_le] at this
      omega
    obtain ⟨n, hn, rfl⟩ := i_ofn c1
    have hlt : n < 128 := (n_ltR hn (by decide)).mp c.2
    rcases hd_in h hlt with ⟨d1, d2, d3⟩ | ⟨d1, d2, d3, d4⟩
    · exact .inl ⟨d2, d3⟩
    · exact .inr ⟨n, hlt, rfl, d1, d2, d3, d4⟩
  · exact .inl ⟨f80_out c, f140_out c⟩
theorem S_name {I A : mI} {J B : mJ} (x : Int32) (h : Sim I J A B) : Rl (f19 x I J) (f159 x A B) (fun u v => u = v) := by
  obtain ⟨a1, a2, a3, a4, a5, a6, a7, a8, a9, a10, a11⟩ := h
  unfold f19 f159
  rcases hd_cs a4 x with ⟨e1, e2⟩ | ⟨t, ht, rfl, -, e1, e2, e3⟩
  · rw [e1, e2, bF]
    exact Rl.ret a5.2.2.2.2.2
  · rw [e1, e2, bT, if_neg (i_g ht (by decide)), i_cl (by omega)]
    exact Rl.ret e3.2.1
theorem v_non {I : mI} {J : mJ} (h : g_non I J) (nm : Int64) : f45 0 nm I J = some (-1) := v_f45 (a := 0) nm (by omega) h.1
theorem S_attribute {I A : mI} {J B : mJ} (x : Int32) (w : Int64) (h : Sim I J A B) : Rl (f21 x w I J) (f161 x w A B) (fun u v => u = v) := by
  obtain ⟨a1, a2, a3, a4, a5, a6, a7, a8, a9, a10, a11⟩ := h
  unfold f21 f161
  rcases hd_cs a4 x with ⟨e1, e2⟩ | ⟨t, ht, rfl, -, e1, e2, e3⟩
  · rw [e1, e2, bF, Option.bind_some, v_non a5]
    exact Rl.ret rfl
  · obtain ⟨v1, v2⟩ := e3.2.2.2.2.2.2 w
    rw [e1, e2, bT, Option.bind_some, v1, v2]
    exact Rl.ret rfl
