/-! clear, starter, provide -/
theorem fr.c {α : Type} {f' f : Nat → Nat → Nat → α} {ts : List Nat} (h : fr f' f ts) {t i k : Nat} (d : t ∉ ts) : f' t i k = f t i k := congrFun (congrFun (h t d) i) k
def cI (I : mI) : mI := mx_u3 (mx_u3 (mx_u3 (mx_u3 I 1 0 2 0) 2 0 5 0) 2 0 6 0) 2 0 7 0
def cJ (J : mJ) : mJ := mx_u3 J 2 0 8 0
def cA (A : mI) : mI := mx_u3 (mx_u3 (mx_u3 (mx_u3 A 11 0 10 0) 83 0 8 0) 87 0 8 0) 89 0 8 0
def cB (B : mJ) : mJ := mx_u3 B 91 0 8 0
theorem c_f32 (I : mI) (J : mJ) : f32 I J = some (cI I, cJ J) := rfl
theorem c_f125 (A : mI) (B : mJ) : f125 A B = some (A 11 0 10, cA A, cB B) := rfl
theorem c_fI (I : mI) : fr (cI I) I [1, 2] := ((((fr.rf I _).up (by decide)).up (by decide)).up (by decide)).up (by decide)
theorem c_fJ (J : mJ) : fr (cJ J) J [2] := (fr.rf J _).up (by decide)
theorem c_fA (A : mI) : fr (cA A) A [11, 83, 87, 89] := ((((fr.rf A _).up (by decide)).up (by decide)).up (by decide)).up (by decide)
theorem c_fB (B : mJ) : fr (cB B) B [91] := (fr.rf B _).up (by decide)
theorem c_11 (A : mI) {c : Nat} (h : c ≠ 10) : cA A 11 0 c = A 11 0 c := by
  unfold cA
  rw [u3_ne (by decide), u3_ne (by decide), u3_ne (by decide), u3_at, if_neg (fun z => h z.2)]
theorem c_83 (A : mI) {p : Nat} (h : p < 8) : cA A 83 0 p = A 83 0 p ∧ cA A 87 0 p = A 87 0 p ∧ cA A 89 0 p = A 89 0 p := by
  unfold cA
  have h2 : ¬ p = 8 := by omega
  refine ⟨?_, ?_, ?_⟩
  · rw [u3_ne (by decide), u3_ne (by decide), u3_at, if_neg (fun z => h2 z.2), u3_ne (by decide)]
  · rw [u3_ne (by decide), u3_at, if_neg (fun z => h2 z.2), u3_ne (by decide), u3_ne (by decide)]
  · rw [u3_at, if_neg (fun z => h2 z.2), u3_ne (by decide), u3_ne (by decide), u3_ne (by decide)]
theorem c_txt (I A : mI) : g_txt (cI I) (cA A) := ⟨0, by decide, rfl, rfl, fun k h => absurd h (by omega)⟩
theorem c_wir {I A : mI} {J B : mJ} (h : g_wir I A J B) : g_wir (cI I) (cA A) (cJ J) (cB B) := by
  intro w hw
  obtain ⟨d1, d2, d3⟩ := h w hw
  by_cases h0 : w = 0
  · subst h0
    exact ⟨⟨0, by decide, rfl, rfl, fun k h => absurd h (by omega)⟩, ⟨0, by decide, rfl, rfl, fun k h => absurd h (by omega)⟩, rfl, .inl rfl, rfl⟩
  · have hr := rx_lt hw h0
    obtain ⟨r1, r2, r3⟩ := c_83 A hr
    have e2 : ∀ k, cI I 2 w k = I 2 w k := fun k => by
      unfold cI
      rw [u3_at, if_neg (fun z => h0 z.1), u3_at, if_neg (fun z => h0 z.1), u3_at, if_neg (fun z => h0 z.1), u3_ne (by decide)]
    refine ⟨d1.kp (e2 5) r1 (fun k _ => ⟨rfl, rfl, rfl, rfl, rfl, rfl⟩), d2.kp (e2 6) r2 (fun k _ => ⟨rfl, rfl, rfl, rfl⟩), d3.kp (e2 7) r3 ?_ ?_⟩
    · unfold cJ
      rw [u3_at, if_neg (fun z => h0 z.1)]
    · unfold cB
      rw [u3_at, if_neg (fun z => by have := z.2; omega)]
theorem c_res {A : mI} (h : g_res A) : g_res (cA A) := h.kp (fun p hp => (c_83 A hp).1) (fun j _ => ⟨rfl, rfl, rfl⟩) rfl rfl rfl rfl
theorem S_clear {I A : mI} {J B : mJ} (h : Sim I J A B) : Rl (f10 I J) (f125 A B) (fun u v => u.1 = v.1 ∧ Sim u.2.1 u.2.2 v.2.1 v.2.2) := by
  obtain ⟨⟨n, hn, e1, e2, e3⟩, a2, a3, a4, a5, a6, a7, a8, a9, a10, a11⟩ := h
  unfold f10
  rw [c_f32, c_f125]
  refine Rl.ret ⟨e1.trans e2.symm, c_txt I A, c_wir a2, a3.fr (c_fI I) (c_fA A) (by decide), a4.fr (c_fI I) (c_fJ J) (c_fA A) (c_fB B) (by decide), a5.fr (c_fI I) (c_fJ J) (by decide), c_res a6, a7.fr (c_fI I) (c_fA A) (c_fB B) (by decide), a8.fr (c_fI I) (c_fA A) (c_fB B) (by decide), a9.fr (c_fI I) (c_fA A) (c_11 A (c := 39) (by decide)) (by decide), a10.fr (c_fI I) (c_fA A) (c_11 A (c := 40) (by decide)) (by decide), a11.fr (c_fI I) (c_fA A) (c_11 A (c := 41) (by decide)) (by decide)⟩
theorem sg_eq (x : Int32) : ∃ b, f7 x = some b ∧ f123 x = some b := by
  unfold f7 f8 f123 f120
  have e57 : x ≤ 57 ↔ ¬ (57 : Int32) < x := by
    rw [Int32.le_iff_toInt_le, Int32.lt_iff_toInt_lt]
    omega
  by_cases c1 : x < 97 <;> by_cases c2 : (122 : Int32) < x <;> by_cases c3 : x < 48 <;> by_cases c4 : (57 : Int32) < x <;> by_cases c5 : x = 46 <;> simp [c1, c2, c3, c4, c5, e57]
theorem iw_eq (w : Int64) : ∃ b, f6 w = some b ∧ f122 w = some b := by
  have h : Rl (mx_lp (b6_2 w) mx_fu (0 : Int32)) (mx_lp (b122_2 w) mx_fu (0 : Int32)) (fun x y => ∃ n, n ≤ 8 ∧ x = Int32.ofNat n ∧ y = Int32.ofNat n) := by
    refine Rl.lp (fun s t => ∃ k, k ≤ 8 ∧ s = Int32.ofNat k ∧ t = Int32.ofNat k) (fun s => 8 - s.toNatClampNeg) ?_ mx_fu ⟨0, by decide, rfl, rfl⟩ (by decide)
    rintro s t ⟨k, hk, rfl, rfl⟩
    unfold b6_2 b122_2
    rcases Nat.lt_or_ge k 8 with h8 | h8
    · have n1 : ¬ (8 : Int32) ≤ Int32.ofNat k := fun q => absurd ((n_leL (by decide) (by omega)).mp q) (by omega)
      obtain ⟨b, e1, e2⟩ := sg_eq (Int32.ofNat (oc w k))
      rw [if_neg n1, if_neg n1, oc_f2 w k h8, oc_f118 w k h8, Option.bind_some, Option.bind_some, e1, e2]
      cases b with
      | true =>
        rw [bT]
        refine Rl.next ⟨k + 1, by omega, n_addR k 1, n_addR k 1⟩ ?_
        rw [show Int32.ofNat k + 1 = Int32.ofNat (k + 1) from n_addR k 1, i_cl (by omega), i_cl (by omega)]
        omega
      | false =>
        rw [bF]
        exact Rl.stop ⟨k, hk, rfl, rfl⟩
    · have e : k = 8 := by omega
      subst e
      rw [if_pos (by decide), if_pos (by decide)]
      exact Rl.stop ⟨8, hk, rfl, rfl⟩
  obtain ⟨_, _, e1, e2, n, hn, rfl, rfl⟩ := h
  unfold f6 f122
  rw [e1, e2, Option.bind_some, Option.bind_some]
  unfold j6_25 j122_25
  by_cases c0 : n = 0
  · subst c0
    rw [if_neg (by decide), if_pos (by decide), if_pos (by decide)]
    exact ⟨false, rfl, rfl⟩
  · have q0 : ¬ Int32.ofNat n ≤ (0 : Int32) := fun q => by have := (n_leR (by omega) (by decide)).mp q; omega
    by_cases c8 : Int32.ofNat n = (8 : Int32)
    · rw [if_pos c8, if_neg q0, if_pos c8]
      exact ⟨true, rfl, rfl⟩
    · simp only [if_neg c8, if_neg q0]
      split
      · exact ⟨true, rfl, rfl⟩
      · exact ⟨false, rfl, rfl⟩
theorem S_st2 {I A : mI} {J B : mJ} (x : Int32) (w : Int64) (hx : x = 0 ∨ x = 1 ∨ x = 2) (h : Sim I J A B) : Rl (f36 0 x w I J) (some (true, (mx_u3 A 89 0 8 x), (mx_u3 B 91 0 8 w))) (fun u v => Sim u.1 u.2 v.2.1 v.2.2) := by
  obtain ⟨a1, a2, a3, a4, a5, a6, a7, a8, a9, a10, a11⟩ := h
  have key : f36 0 x w I J = some (mx_u3 I 2 0 7 x, mx_u3 J 2 0 8 (if x = 0 then 0 else w)) := by
    unfold f36
    by_cases c : x = 0
    · rw [if_pos c, if_pos c]
    · rw [if_neg c, if_neg c]
  rw [key]
  have fI : fr (mx_u3 I 2 0 7 x) I [2] := (fr.rf I _).up (by decide)
  have fJ : fr (mx_u3 J 2 0 8 (if x = 0 then 0 else w)) J [2] := (fr.rf J _).up (by decide)
  have fA : fr (mx_u3 A 89 0 8 x) A [89] := (fr.rf A _).up (by decide)
  have fB : fr (mx_u3 B 91 0 8 w) B [91] := (fr.rf B _).up (by decide)
  refine Rl.ret ⟨a1.fr fI fA (fA.c (t := 11) (by decide)) (by decide), ?_, a3.fr fI fA (by decide), a4.fr fI fJ fA fB (by decide), a5.fr fI fJ (by decide), a6.fr fA (by decide), a7.fr fI fA fB (by decide), a8.fr fI fA fB (by decide), a9.fr fI fA (fA.c (t := 11) (by decide)) (by decide), a10.fr fI fA (fA.c (t := 11) (by decide)) (by decide), a11.fr fI fA (fA.c (t := 11) (by decide)) (by decide)⟩
  intro v hv
  obtain ⟨d1, d2, d3⟩ := a2 v hv
  have k2 : ∀ k, k ≠ 7 → mx_u3 I 2 0 7 x 2 v k = I 2 v k := fun k hk => by rw [u3_at, if_neg (fun z => hk z.2)]
  refine ⟨d1.kp (k2 5 (by decide)) rfl (fun k _ => ⟨rfl, rfl, rfl, rfl, rfl, rfl⟩), d2.kp (k2 6 (by decide)) rfl (fun k _ => ⟨rfl, rfl, rfl, rfl⟩), ?_⟩
  by_cases h0 : v = 0
  · subst h0
    refine ⟨?_, ?_, ?_⟩
    · show mx_u3 I 2 0 7 x 2 0 7 = mx_u3 A 89 0 8 x 89 0 8
      rw [u3_eq, u3_eq]
    · show mx_u3 A 89 0 8 x 89 0 8 = 0 ∨ mx_u3 A 89 0 8 x 89 0 8 = 1 ∨ mx_u3 A 89 0 8 x 89 0 8 = 2
      rw [u3_eq]
      exact hx
    · show mx_u3 J 2 0 8 (if x = 0 then 0 else w) 2 0 8 = if mx_u3 A 89 0 8 x 89 0 8 = 0 then 0 else mx_u3 B 91 0 8 w 91 0 8
      rw [u3_eq, u3_eq, u3_eq]
  · have hr := rx_lt hv h0
    refine d3.kp ?_ ?_ ?_ ?_
    · show mx_u3 I 2 0 7 x 2 v 7 = _
      rw [u3_at, if_neg (fun z => h0 z.1)]
    · show mx_u3 A 89 0 8 x 89 0 _ = _
      rw [u3_at, if_neg (fun z => by have := z.2; omega)]
    · show mx_u3 J 2 0 8 _ 2 v 8 = _
      rw [u3_at, if_neg (fun z => h0 z.1)]
    · show mx_u3 B 91 0 8 w 91 0 _ = _
      rw [u3_at, if_neg (fun z => by have := z.2; omega)]
theorem S_starter {I A : mI} {J B : mJ} (x : Int32) (w : Int64) (h : Sim I J A B) : Rl (f9 x w I J) (f124 x w A B) (fun u v => b2i u.1 = b2i v.1 ∧ Sim u.2.1 u.2.2 v.2.1 v.2.2) := by
  unfold f9 f124 f120
  by_cases c1 : x < 0
  · rw [if_pos c1, if_pos c1]
    exact Rl.ret ⟨rfl, h⟩
  rw [if_neg c1, if_neg c1]
  by_cases c2 : (2 : Int32) < x
  · rw [if_pos c2, if_pos c2]
    exact Rl.ret ⟨rfl, h⟩
  rw [if_neg c2, if_neg c2, bT]
  have hx : x = 0 ∨ x = 1 ∨ x = 2 := by
    obtain ⟨n, hn, rfl⟩ := i_ofn c1
    have : ¬ 2 < n := fun q => c2 ((n_ltL (by decide) hn).mpr q)
    have h3 : n = 0 ∨ n = 1 ∨ n = 2 := by omega
    rcases h3 with rfl | rfl | rfl
    · exact .inl rfl
    · exact .inr (.inl rfl)
    · exact .inr (.inr rfl)
  obtain ⟨u, v, e1, e2, h3⟩ := S_st2 x w hx h
  have e2 := Option.some.inj e2
  subst e2
  have fin : Rl ((f36 0 x w I J).bind fun u4 => some (true, u4.1, u4.2)) (j124_24 x w A B) (fun u v => b2i u.1 = b2i v.1 ∧ Sim u.2.1 u.2.2 v.2.1 v.2.2) := by
    rw [e1]
    exact Rl.ret ⟨rfl, h3⟩
  by_cases c3 : lg_cmp w 0 = 0
  · rw [if_pos c3, if_pos c3]
    exact fin
  · rw [if_neg c3, if_neg c3]
    obtain ⟨b, b1, b2⟩ := iw_eq w
    rw [b1, b2]
    cases b with
    | true =>
      rw [bT, bT]
      exact fin
    | false =>
      rw [bF, bF]
      exact Rl.ret ⟨rfl, h⟩
theorem S_provide {I A : mI} {J B : mJ} (w : Int64) (x : Int32) (h : Sim I J A B) : Rl (f5 w x I J) (f121 w x A B) (fun u v => u.1 = v.1 ∧ Sim u.2.1 u.2.2 v.2.1 v.2.2) := by
  obtain ⟨a1, a2, a3, a4, a5, a6, a7, a8, a9, a10, a11⟩ := id h
  unfold f5 f121
  obtain ⟨b, b1, b2⟩ := iw_eq w
  rw [b1, b2]
  cases b with
  | false =>
    rw [bF, bF]
    exact Rl.ret ⟨rfl, h⟩
  | true =>
  rw [bT, bT]
  unfold f120
  by_cases c1 : x < 0
  · rw [if_pos c1, if_pos c1]
    exact Rl.ret ⟨rfl, h⟩
  rw [if_neg c1, if_neg c1]
  by_cases c2 : (6 : Int32) < x
  · rw [if_pos c2, if_pos c2]
    exact Rl.ret ⟨rfl, h⟩
  rw [if_neg c2, if_neg c2, bT]
  by_cases c3 : x = 3
  · rw [if_pos c3, if_pos c3]
    exact Rl.ret ⟨rfl, h⟩
  rw [if_neg c3, if_neg c3]
  have hx : g_kd x := by
    obtain ⟨n, hn, rfl⟩ := i_ofn c1
    have : ¬ 6 < n := fun q => c2 ((n_ltL (by decide) hn).mpr q)
    have h4 : ¬ n = 3 := fun q => c3 (by rw [q]; rfl)
    have h3 : n = 0 ∨ n = 1 ∨ n = 2 ∨ n = 4 ∨ n = 5 ∨ n = 6 := by omega
    rcases h3 with rfl | rfl | rfl | rfl | rfl | rfl
    · exact .inl rfl
    · exact .inr (.inl rfl)
    · exact .inr (.inr (.inl rfl))
    · exact .inr (.inr (.inr (.inl rfl)))
    · exact .inr (.inr (.inr (.inr (.inl rfl))))
    · exact .inr (.inr (.inr (.inr (.inr rfl))))
  obtain ⟨n, hn, d1, d2, d3⟩ := (a2 0 (by decide)).2.1
  have d2 : A 87 0 8 = Int32.ofNat n := d2
  unfold f35
  rw [d1, d2]
  by_cases c5 : n < 4
  · have g1 := i_g (n := n) (N := 4) c5 (by decide)
    have q5 : Int32.ofNat n < (4 : Int32) := (n_ltR (by omega) (by decide)).mpr c5
    have q6 : ¬ Int32.ofNat n = (4 : Int32) := fun q => by have := (n_eqR (by omega) (by decide)).mp q; omega
    have e24 : (32 : Int32) + Int32.ofNat n = Int32.ofNat (32 + n) := n_addL 32 n
    have g2 := i_g (n := 32 + n) (N := 36) (by omega) (by decide)
    have e1 : Int32.ofNat n + 1 = Int32.ofNat (n + 1) := n_addR n 1
    rw [if_pos q5, if_neg g1, if_neg g1, if_neg q6, e24, if_neg g2, if_neg g2, i_cl (n := n) (by omega), i_cl (n := 32 + n) (by omega), e1]
    refine Rl.ret ⟨?_, ?_⟩
    · simp only [u3_eq]
    · simp only
      have fI : fr (mx_u3 (mx_u3 I 69 0 n x) 2 0 6 (Int32.ofNat (n + 1))) I [2, 69] := ((fr.rf I _).up (by decide)).up (by decide)
      have fJ : fr (mx_u3 J 68 0 n w) J [68] := (fr.rf J _).up (by decide)
      have fA : fr (mx_u3 (mx_u3 A 88 0 (32 + n) x) 87 0 8 (Int32.ofNat (n + 1))) A [87, 88] := ((fr.rf A _).up (by decide)).up (by decide)
      have fB : fr (mx_u3 B 90 0 (32 + n) w) B [90] := (fr.rf B _).up (by decide)
      refine ⟨a1.fr fI fA (fA.c (t := 11) (by decide)) (by decide), ?_, a3.fr fI fA (by decide), a4.fr fI fJ fA fB (by decide), a5.fr fI fJ (by decide), a6.fr fA (by decide), a7.fr fI fA fB (by decide), a8.fr fI fA fB (by decide), a9.fr fI fA (fA.c (t := 11) (by decide)) (by decide), a10.fr fI fA (fA.c (t := 11) (by decide)) (by decide), a11.fr fI fA (fA.c (t := 11) (by decide)) (by decide)⟩
      intro v hv
      obtain ⟨k1, k2, k3⟩ := a2 v hv
      have kk : ∀ k, k ≠ 6 → mx_u3 (mx_u3 I 69 0 n x) 2 0 6 (Int32.ofNat (n + 1)) 2 v k = I 2 v k := fun k hk => by rw [u3_at, if_neg (fun z => hk z.2), u3_ne (by decide)]
      refine ⟨k1.kp (kk 5 (by decide)) rfl (fun k _ => ⟨rfl, rfl, rfl, rfl, rfl, rfl⟩), ?_, k3.kp (kk 7 (by decide)) rfl rfl rfl⟩
      by_cases h0 : v = 0
      · subst h0
        refine ⟨n + 1, by omega, ?_, ?_, fun k hk => ?_⟩
        · rw [u3_eq]
        · show mx_u3 _ 87 0 8 _ 87 0 8 = _
          rw [u3_eq]
        · show mx_u3 J 68 0 n w 68 0 k = mx_u3 B 90 0 (32 + n) w 90 0 (4 * 8 + k) ∧ mx_u3 (mx_u3 I 69 0 n x) 2 0 6 (Int32.ofNat (n + 1)) 69 0 k = mx_u3 (mx_u3 A 88 0 (32 + n) x) 87 0 8 (Int32.ofNat (n + 1)) 88 0 (4 * 8 + k) ∧ g_kd (mx_u3 (mx_u3 A 88 0 (32 + n) x) 87 0 8 (Int32.ofNat (n + 1)) 88 0 (4 * 8 + k))
          rw [u3_ne (t2 := 69) (by decide), u3_ne (t2 := 88) (by decide), u3_at, u3_at, u3_at, u3_at]
          by_cases hkn : k = n
          · have hk2 : 4 * 8 + k = 32 + n := by omega
            rw [if_pos ⟨rfl, hkn⟩, if_pos ⟨rfl, hk2⟩, if_pos ⟨rfl, hkn⟩, if_pos ⟨rfl, hk2⟩]
            exact ⟨rfl, rfl, hx⟩
          · have hk2 : ¬ 4 * 8 + k = 32 + n := by omega
            rw [if_neg (fun z => hkn z.2), if_neg (fun z => hk2 z.2), if_neg (fun z => hkn z.2), if_neg (fun z => hk2 z.2)]
            exact d3 k (by omega)
      · have hr := rx_lt hv h0
        refine k2.kp ?_ ?_ (fun k hk => ?_)
        · rw [u3_at, if_neg (fun z => h0 z.1), u3_ne (by decide)]
        · rw [u3_at, if_neg (fun z => by have := z.2; omega), u3_ne (by decide)]
        · have hk2 : ¬ 4 * rx v + k = 32 + n := by omega
          rw [u3_ne (t2 := 69) (by decide), u3_ne (t2 := 88) (by decide), u3_at, u3_at, u3_at, u3_at, if_neg (fun z => h0 z.1), if_neg (fun z => h0 z.1), if_neg (fun z => hk2 z.2), if_neg (fun z => hk2 z.2)]
          exact ⟨rfl, rfl, rfl, rfl⟩
  · have e3 : n = 4 := by omega
    subst e3
    rw [if_neg (by decide), if_pos (by decide)]
    exact Rl.ret ⟨rfl, h⟩
