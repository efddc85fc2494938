/-! attributes -/
section
variable {I I1 A A1 : mI} {J J1 B B1 : mJ} {p n : Nat} {h : Nat → Nat}
theorem oa7 {k : Nat} (hk : k < 16) : oA p 107 0 (16 * p + k) := by unfold oA; omega
theorem ob3 {k a : Nat} (hk : k < 16) (ha : a < 4) : oB p 103 0 (4 * (16 * p + k) + a) ∧ oB p 104 0 (4 * (16 * p + k) + a) := by
  constructor <;> (unfold oB; omega)
theorem el_at {I' A' : mI} {J' B' : mJ} (hI : ∀ i x, x ≠ 2 → I' 3 i x = I 3 i x) (h4 : I' 4 = I 4) (hJ : J' 3 = J 3) (hA : fr A' A [11, 107]) (hB : B' 102 = B 102) (e : el I A J B p n) : el I' A' J' B' p n := by
  obtain ⟨e1, e2, e3, e4⟩ := e
  refine ⟨e1, by rw [h4]; exact e2, by rw [hA 100 (by decide)]; exact e3, fun k hk => ?_⟩
  obtain ⟨y1, y2⟩ := e4 k hk
  refine ⟨y1.kp (fun j x _ hx => hI _ x hx) (by rw [hJ]) (by rw [hA 105 (by decide)]) (by rw [hA 106 (by decide)]) (by rw [hB]), by rw [hB]; exact y2⟩
theorem st_5 (F : PF p I1 J1 A1 B1 I J A B) (e : el I A J B p n) {k a : Nat} (hk : k < n) (hh : h p = 1 + 16 * p + k) (hl : A 11 0 13 = Int32.ofNat (16 * p + k)) (ha4 : a < 4) (ha : ∀ j, j < n → j ≠ k → g_at I A J B p j) (hat : atn I J B p k a) (h107 : A 107 0 (16 * p + k) = Int32.ofNat (a + 1)) (hs : I 5 p 2 = 5) (hm : A 11 0 11 = 5) (hb3 : B 103 0 (4 * (16 * p + k) + a) = J 5 p 5) (hb4 : B 104 0 (4 * (16 * p + k) + a) = 0) (c : Int32) : Rl (f56 p c I J h) (f128 (Int32.ofNat p) c A B) (PS p I1 J1 A1 B1) := by
  obtain ⟨bl, bs, c1, c2, c3, c4, c5⟩ := f128_o (Int32.ofNat p) c A B
  rw [f56_5 _ _ _ _ _ hs, c3, j_5 _ _ _ _ _ _ hm]
  by_cases cq : c = 34
  · rw [if_pos cq, if_pos cq]
    have fI : fr (mx_u3 (mx_u3 I 5 p 4 0) 5 p 2 6) I [5] := (u5 _ _ _ _).tr (u5 _ _ _ _)
    have fA : fr (mx_u3 (mx_u3 A 11 0 11 6) 11 0 14 0) A [11] := (u11 _ _ _).tr (u11 _ _ _)
    refine Rl.ret ⟨rfl, ((((F.i (o5 _ _ _) _).i (o5 _ _ _) _).j (q5 _ _ _) _).a (o11 _ _ (by decide)) _).a (o11 _ _ (by decide)) _, fun _ => ⟨n, e.fr fI (v5 _ _ _ _) fA, .inr (.inr (.inr ⟨k, a, hk, hh, ?_, ha4, fun j hj hjk => ?_, ?_, ?_, .inr (.inr ⟨?_, ?_, 0, ?_, ?_, ?_, ?_, ?_⟩)⟩))⟩⟩
    · simp only
      rw [u3_at, if_neg (fun z => absurd z.2 (by decide)), u3_at, if_neg (fun z => absurd z.2 (by decide)), hl]
    · exact (ha j hj hjk).kp (fI.c (t := 3) (by decide)) (fA.c (t := 107) (by decide)) (fun i _ => ⟨(v5 J p 3 0).c (t := 70) (by decide), (v5 J p 3 0).c (t := 71) (by decide), rfl, rfl⟩)
    · exact hat.kp (fI.c (t := 3) (by decide)) (fun i _ => ⟨(v5 J p 3 0).c (t := 70) (by decide), (v5 J p 3 0).c (t := 71) (by decide), rfl, rfl⟩)
    · simp only
      rw [fA 107 (by decide)]
      exact h107
    · simp only
      rw [u3_eq]
    · simp only
      rw [u3_at, if_neg (fun z => absurd z.2 (by decide)), u3_eq]
    · simp only
      rw [u3_eq]
      exact wd_0
    · simp only
      rw [u3_at, if_neg (fun z => absurd z.2 (by decide)), u3_eq]
      rfl
    · simp only
      rw [u3_eq]
      rfl
    · simp only
      rw [hb3, u3_at, if_neg (fun z => absurd z.2 (by decide))]
    · simp only
      rw [hb4, u3_eq]
  · rw [if_neg cq, if_neg cq]
    exact Rl.ret ⟨rfl, (F.a (o11 _ _ (by decide)) _).a (o11 _ _ (by decide)) _, nofalse⟩
theorem st_6 (hp : p < 8) (F : PF p I1 J1 A1 B1 I J A B) (e : el I A J B p n) {k a L : Nat} (hk : k < n) (hh : h p = 1 + 16 * p + k) (hl : A 11 0 13 = Int32.ofNat (16 * p + k)) (ha4 : a < 4) (ha : ∀ j, j < n → j ≠ k → g_at I A J B p j) (hat : atn I J B p k a) (h107 : A 107 0 (16 * p + k) = Int32.ofNat (a + 1)) (hs : I 5 p 2 = 6) (hm : A 11 0 11 = 6) (hw : wd (J 5 p 3) L) (h4 : I 5 p 4 = Int32.ofNat L) (h14 : A 11 0 14 = Int32.ofNat L) (hb3 : B 103 0 (4 * (16 * p + k) + a) = J 5 p 5) (hb4 : B 104 0 (4 * (16 * p + k) + a) = J 5 p 3) (c : Int32) : Rl (f56 p c I J h) (f128 (Int32.ofNat p) c A B) (PS p I1 J1 A1 B1) := by
  obtain ⟨bl, bs, c1, c2, c3, c4, c5⟩ := f128_o (Int32.ofNat p) c A B
  have hn := e.1
  have hL8 := hw.1
  rw [f56_6 _ _ _ _ _ hs, c3, j_6 _ _ _ _ _ _ hm]
  unfold f67
  by_cases cq : c = 34
  · have ga := i_g ha4 (show 4 ≤ 2147483648 by decide)
    have ea : (Int32.ofNat a).toNatClampNeg = a := i_cl (by omega)
    have ea1 : Int32.ofNat a + 1 = Int32.ofNat (a + 1) := n_addR a 1
    rw [if_pos cq, if_pos cq]
    unfold f46 f43 f58
    rw [hh, hat.2.1, if_neg (fun z => by have := (n_leL (by decide) (by omega)).mp z; omega), bT]
    simp only [if_neg ga]
    simp only [ea, ea1, Option.bind_some]
    have oi : oI p 3 (1 + 16 * p + k) 2 := by unfold oI; omega
    have oj : ∀ t, (t = 70 ∨ t = 71) → oJ p t (1 + 16 * p + k) a := fun t ht => by unfold oJ; omega
    have i3 : ∀ i x, x ≠ 2 → (mx_u3 (mx_u3 I 3 (1 + 16 * p + k) 2 (Int32.ofNat (a + 1))) 5 p 2 7) 3 i x = I 3 i x := fun i x hx => by
      rw [u3_ne (by decide), u3_at, if_neg (fun z => hx z.2)]
    refine Rl.ret ⟨rfl, ((((F.i oi _).i (o5 _ _ _) _).j (oj 70 (by decide)) _).j (oj 71 (by decide)) _).a (o11 _ _ (by decide)) _, fun _ => ⟨n, ?_, .inr (.inr (.inl ⟨k, hk, hh, ?_, fun j hj => ?_, .inr (.inr (.inl ⟨?_, ?_⟩))⟩))⟩⟩
    · simp only
      refine el_at i3 ?_ ?_ ((u11 _ _ _).wd (by decide)) rfl e
      · rw [u3_ne (by decide), u3_ne (by decide)]
      · rw [u3_ne (by decide), u3_ne (by decide)]
    · simp only
      rw [u3_at, if_neg (fun z => absurd z.2 (by decide)), hl]
    · simp only
      by_cases ej : j = k
      · subst ej
        refine ⟨a + 1, by omega, ?_, ?_, fun i hi => ?_⟩
        · rw [u3_ne (by decide), u3_eq]
        · rw [u3_ne (by decide), h107]
        · rw [u3_ne (by decide), u3_at, u3_at, u3_ne (by decide)]
          by_cases ei : i = a
          · subst ei
            rw [if_pos ⟨rfl, rfl⟩, if_pos ⟨rfl, rfl⟩, hb3, hb4]
            exact ⟨rfl, rfl, wd_nn hw⟩
          · rw [if_neg (fun z => ei z.2), if_neg (fun z => ei z.2)]
            exact hat.2.2 i (by omega)
      · refine (ha j hj ej).kp ?_ (by rw [u3_ne (by decide)]) (fun i hi => ⟨?_, ?_, rfl, rfl⟩)
        · rw [u3_ne (by decide), u3_at, if_neg (fun z => by have := z.1; omega)]
        · rw [u3_ne (by decide), u3_at, if_neg (fun z => by have := z.1; omega)]
        · rw [u3_at, if_neg (fun z => by have := z.1; omega), u3_ne (by decide)]
    · simp only
      rw [u3_eq]
    · simp only
      rw [u3_eq]
  · rw [if_neg cq, if_neg cq, h14]
    obtain ⟨b, s1, s2, s3⟩ : ∃ b, f7 c = some b ∧ f123 c = some b ∧ (b = true → ∃ cc, 0 < cc ∧ cc < 128 ∧ c = Int32.ofNat cc) := by
      obtain ⟨b, s1, s2⟩ := sg_eq c
      refine ⟨b, s1, s2, fun hb => ?_⟩
      subst hb
      have c30 : ¬ c < 0 := fun z => by
        unfold f7 f8 at s1
        rw [if_pos (Int32.lt_trans z (by decide)), bF, if_pos (Int32.lt_trans z (by decide))] at s1
        by_cases y : c = 46
        · rw [y] at z
          exact absurd z (by decide)
        · rw [if_neg y] at s1
          exact absurd (Option.some.inj s1) (by decide)
      obtain ⟨cc, hc, rfl⟩ := i_ofn c30
      refine ⟨cc, ?_, ?_, rfl⟩
      · rcases Nat.eq_zero_or_pos cc with z | z
        · subst z
          exact absurd s1 (by decide)
        · exact z
      · rcases Nat.lt_or_ge cc 128 with z | z
        · exact z
        · exfalso
          have l1 : ¬ Int32.ofNat cc < 97 := fun q => by have := (n_ltR hc (by decide)).mp q; omega
          have l2 : 122 < Int32.ofNat cc := (n_ltL (by decide) hc).mpr (by omega)
          have l3 : ¬ Int32.ofNat cc < 48 := fun q => by have := (n_ltR hc (by decide)).mp q; omega
          have l4 : ¬ Int32.ofNat cc ≤ 57 := fun q => by have := (n_leR hc (by decide)).mp q; omega
          have l5 : ¬ Int32.ofNat cc = 46 := fun q => by have := (n_eqR hc (by decide)).mp q; omega
          unfold f7 f8 at s1
          rw [if_neg l1, if_pos l2, bF, if_neg l3, if_neg l4, if_neg l5] at s1
          exact absurd (Option.some.inj s1) (by decide)
    rw [s1, s2]
    cases b with
    | false =>
      rw [bF, bF]
      by_cases c8 : L = 8
      · rw [if_pos (by rw [c8]; rfl)]
        exact Rl.ret ⟨rfl, F, nofalse⟩
      · rw [if_neg (fun z => c8 ((n_eqR (by omega) (by decide)).mp z))]
        exact Rl.ret ⟨rfl, F, nofalse⟩
    | true =>
      rw [bT, bT]
      unfold f64
      rw [h4]
      by_cases c8 : L = 8
      · rw [if_pos (show Int32.ofNat L = 8 by rw [c8]; rfl), if_neg (fun z => by have := (n_ltR (by omega) (by decide)).mp z; omega)]
        exact Rl.ret ⟨rfl, F, nofalse⟩
      · obtain ⟨cc, k1, k2, rfl⟩ := s3 rfl
        have gi := i_g (show 16 * p + k < 128 by omega) (show 128 ≤ 2147483648 by decide)
        have et : (Int32.ofNat (16 * p + k)).toNatClampNeg = 16 * p + k := i_cl (by omega)
        have e4 : (4 : Int32) * Int32.ofNat (16 * p + k) + Int32.ofNat (a + 1) - 1 = Int32.ofNat (4 * (16 * p + k) + a) := by
          rw [n_mulL 4 (16 * p + k), i_add]
          exact n_subR (by show 1 ≤ 4 * (16 * p + k) + (a + 1); omega)
        have g4 := i_g (show 4 * (16 * p + k) + a < 512 by omega) (show 512 ≤ 2147483648 by decide)
        have e5 : (Int32.ofNat (4 * (16 * p + k) + a)).toNatClampNeg = 4 * (16 * p + k) + a := i_cl (by omega)
        have eL : Int32.ofNat L + 1 = Int32.ofNat (L + 1) := n_addR L 1
        rw [if_neg (fun z => c8 ((n_eqR (by omega) (by decide)).mp z)), if_pos ((n_ltR (by omega) (by decide)).mpr (show L < 8 by omega)), hl, if_neg gi, et, h107, e4]
        simp only [if_neg g4]
        simp only [e5, eL, Option.bind_some, eq_self, if_true]
        rw [hb4]
        have hw2 : wd (app (J 5 p 3) (Int32.ofNat cc) (Int32.ofNat L)) (L + 1) := wd_up hw k1 k2 (by omega)
        have hk16 : k < 16 := by omega
        refine Rl.ret ⟨rfl, (((F.i (o5 _ _ _) _).j (q5 _ _ _) _).a (o11 _ _ (by decide)) _).b (ob3 hk16 ha4).2 _, fun _ => ⟨n, ?_, .inr (.inr (.inr ⟨k, a, hk, hh, ?_, ha4, fun j hj hjk => ?_, ?_, ?_, .inr (.inr ⟨?_, ?_, L + 1, ?_, ?_, ?_, ?_, ?_⟩)⟩))⟩⟩
        · simp only
          refine el_at (fun i x _ => by rw [u3_ne (by decide)]) ?_ ?_ ((u11 _ _ _).wd (by decide)) ?_ e
          · rw [u3_ne (by decide)]
          · rw [u3_ne (by decide)]
          · rw [u3_ne (by decide)]
        · simp only
          rw [u3_at, if_neg (fun z => absurd z.2 (by decide)), hl]
        · simp only
          refine (ha j hj hjk).kp (by rw [u3_ne (by decide)]) (by rw [u3_ne (by decide)]) (fun i hi => ⟨by rw [u3_ne (by decide)], by rw [u3_ne (by decide)], by rw [u3_ne (by decide)], ?_⟩)
          rw [u3_at, if_neg (fun z => by have := z.2; omega)]
        · simp only
          refine hat.kp (by rw [u3_ne (by decide)]) (fun i hi => ⟨by rw [u3_ne (by decide)], by rw [u3_ne (by decide)], by rw [u3_ne (by decide)], ?_⟩)
          rw [u3_at, if_neg (fun z => by have := z.2; omega)]
        · simp only
          rw [u3_ne (by decide), h107]
        · simp only
          rw [u3_at, if_neg (fun z => absurd z.2 (by decide)), hs]
        · simp only
          rw [u3_at, if_neg (fun z => absurd z.2 (by decide)), hm]
        · simp only
          rw [u3_eq]
          exact hw2
        · simp only
          rw [u3_eq]
        · simp only
          rw [u3_eq]
        · simp only
          rw [u3_ne (by decide), hb3, u3_at, if_neg (fun z => absurd z.2 (by decide))]
        · simp only
          rw [u3_eq, u3_eq]
end
