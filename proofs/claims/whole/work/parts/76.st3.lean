/-! names of attributes -/
section
variable {I I1 A A1 : mI} {J J1 B B1 : mJ} {p n : Nat} {h : Nat → Nat}
theorem st_4 (hp : p < 8) (F : PF p I1 J1 A1 B1 I J A B) (e : el I A J B p n) {k a L : Nat} (hk : k < n) (hh : h p = 1 + 16 * p + k) (hl : A 11 0 13 = Int32.ofNat (16 * p + k)) (ha4 : a < 4) (ha : ∀ j, j < n → j ≠ k → g_at I A J B p j) (hat : atn I J B p k a) (h107 : A 107 0 (16 * p + k) = Int32.ofNat (a + 1)) (hs : I 5 p 2 = 4) (hm : A 11 0 11 = 4) (hL : L ≤ 8) (h4 : I 5 p 4 = Int32.ofNat L) (h14 : A 11 0 14 = Int32.ofNat L) (hb3 : B 103 0 (4 * (16 * p + k) + a) = J 5 p 3) (hb4 : B 104 0 (4 * (16 * p + k) + a) = 0) (c : Int32) : Rl (f56 p c I J h) (f128 (Int32.ofNat p) c A B) (PS p I1 J1 A1 B1) := by
  obtain ⟨bl, bs, c1, c2, c3, c4, c5⟩ := f128_o (Int32.ofNat p) c A B
  have hn := e.1
  have hk16 : k < 16 := by omega
  have ht : 16 * p + k < 128 := by omega
  rw [f56_4 _ _ _ _ _ hs, c3, j_4 _ _ _ _ _ _ hm]
  unfold f66
  rw [c1]
  -- to have the word is the same on both sides
  have hv : ∀ i, i < a → 0 ≤ J 71 (1 + 16 * p + k) i := fun i hi => by
    rw [(hat.2.2 i hi).2.1]
    exact (hat.2.2 i hi).2.2
  have hx : ∀ w, (∃ i, i < a ∧ J 70 (1 + 16 * p + k) i = w) ↔ ∃ i, i < a ∧ B 103 0 (4 * (16 * p + k) + i) = w := fun w => by
    constructor
    · rintro ⟨i, y1, y2⟩
      exact ⟨i, y1, by rw [← (hat.2.2 i y1).1]; exact y2⟩
    · rintro ⟨i, y1, y2⟩
      exact ⟨i, y1, by rw [(hat.2.2 i y1).1]; exact y2⟩
  cases bl with
  | false =>
    rw [bF]
    obtain ⟨b, e1, e2⟩ := f132_n (B := B) ht ha4 hl h107 c
    have e1' : f132 c (b2i false) A B = some (b, mx_u3 (mx_u3 (mx_u3 A 107 0 (16 * p + k) (Int32.ofNat a)) 107 0 (16 * p + k) (Int32.ofNat (a + 1))) 11 0 11 5, B) := e1
    rw [e1', Option.bind_some, hh]
    have FA : PF p I1 J1 A1 B1 I J (mx_u3 (mx_u3 (mx_u3 A 107 0 (16 * p + k) (Int32.ofNat a)) 107 0 (16 * p + k) (Int32.ofNat (a + 1))) 11 0 11 5) B := ((F.a (oa7 hk16) _).a (oa7 hk16) _).a (o11 _ _ (by decide)) _
    by_cases c61 : c = 61
    · rw [if_pos c61]
      obtain ⟨b2, g1, g2⟩ := f44_s (I := I) (J := J) (e := 1 + 16 * p + k) (show a ≤ 4 by omega) hat.2.1 hv (J 5 p 3)
      rw [g1]
      rw [hx] at g2
      rw [hb3] at e2
      cases b2 with
      | true =>
        have hb : b = false := by
          cases b with
          | false => rfl
          | true => exact absurd (g2.mp rfl) (e2.mp rfl).2
        subst hb
        rw [bT]
        exact Rl.ret ⟨rfl, FA, nofalse⟩
      | false =>
        have hb : b = true := e2.mpr ⟨c61, fun z => absurd (g2.mpr z) (by decide)⟩
        subst hb
        rw [bF]
        unfold f58
        have fA : fr (mx_u3 (mx_u3 (mx_u3 A 107 0 (16 * p + k) (Int32.ofNat a)) 107 0 (16 * p + k) (Int32.ofNat (a + 1))) 11 0 11 5) A [11, 107] := (((fr.rf A _).up (by decide)).up (by decide)).up (by decide)
        have a7 : ∀ t, (mx_u3 (mx_u3 (mx_u3 A 107 0 (16 * p + k) (Int32.ofNat a)) 107 0 (16 * p + k) (Int32.ofNat (a + 1))) 11 0 11 5) 107 0 t = if t = 16 * p + k then Int32.ofNat (a + 1) else A 107 0 t := fun t => by
          rw [u3_ne (by decide), u3_at, u3_at]
          by_cases q : t = 16 * p + k
          · rw [if_pos ⟨rfl, q⟩, if_pos q]
          · rw [if_neg (fun z => q z.2), if_neg (fun z => q z.2), if_neg q]
        refine Rl.ret ⟨rfl, (((FA.i (o5 _ _ _) _).j (q5 _ _ _) _)), fun _ => ⟨n, el_at (fun i x _ => (u5 I p 2 5).c (t := 3) (by decide)) (u5 I p 2 5 4 (by decide)) (v5 J p 5 (J 5 p 3) 3 (by decide)) fA rfl e, .inr (.inr (.inr ⟨k, a, hk, hh, ?_, ha4, fun j hj hjk => ?_, ?_, ?_, .inr (.inl ⟨?_, ?_, ?_, hb4⟩)⟩))⟩⟩
        · simp only
          rw [u3_at, if_neg (fun z => absurd z.2 (by decide)), u3_ne (by decide), u3_ne (by decide), hl]
        · exact (ha j hj hjk).kp ((u5 I p 2 5).c (t := 3) (by decide)) ((a7 _).trans (if_neg (by omega))) (fun i _ => ⟨(v5 J p 5 (J 5 p 3)).c (t := 70) (by decide), (v5 J p 5 (J 5 p 3)).c (t := 71) (by decide), rfl, rfl⟩)
        · exact hat.kp ((u5 I p 2 5).c (t := 3) (by decide)) (fun i _ => ⟨(v5 J p 5 (J 5 p 3)).c (t := 70) (by decide), (v5 J p 5 (J 5 p 3)).c (t := 71) (by decide), rfl, rfl⟩)
        · exact (a7 _).trans (if_pos rfl)
        · simp only
          rw [u3_eq]
        · simp only
          rw [u3_eq]
        · simp only
          rw [u3_eq, hb3]
    · have hb : b = false := by
        cases b with
        | false => rfl
        | true => exact absurd (e2.mp rfl).1 c61
      subst hb
      rw [if_neg c61]
      exact Rl.ret ⟨rfl, FA, nofalse⟩
  | true =>
    rw [bT]
    obtain ⟨g1, g2⟩ := f132_l (B := B) ht ha4 hl h107 hL h14 c
    unfold f64
    rw [h4, hh]
    by_cases c8 : L = 8
    · have e1' : f132 c (b2i true) A B = _ := g1 c8
      rw [e1', Option.bind_some, if_neg (fun z => by have := (n_ltR (by omega) (by decide)).mp z; omega)]
      exact Rl.ret ⟨rfl, (F.a (oa7 hk16) _).a (oa7 hk16) _, nofalse⟩
    · have hL8 : L < 8 := by omega
      have eL : Int32.ofNat L + 1 = Int32.ofNat (L + 1) := n_addR L 1
      obtain ⟨b, e1, e2⟩ := g2 hL8
      have e1' : f132 c (b2i true) A B = some (b, mx_u3 (mx_u3 (mx_u3 A 107 0 (16 * p + k) (Int32.ofNat a)) 11 0 14 (Int32.ofNat (L + 1))) 107 0 (16 * p + k) (Int32.ofNat (a + 1)), mx_u3 B 103 0 (4 * (16 * p + k) + a) (app (B 103 0 (4 * (16 * p + k) + a)) c (Int32.ofNat L))) := e1
      rw [hb3] at e1' e2
      rw [e1', Option.bind_some, if_pos ((n_ltR (by omega) (by decide)).mpr hL8), eL, Option.bind_some]
      simp only [eq_self, if_true]
      rw [u3_eq, u3_eq]
      have FF : PF p I1 J1 A1 B1 (mx_u3 I 5 p 4 (Int32.ofNat (L + 1))) (mx_u3 J 5 p 3 (app (J 5 p 3) c (Int32.ofNat L))) (mx_u3 (mx_u3 (mx_u3 A 107 0 (16 * p + k) (Int32.ofNat a)) 11 0 14 (Int32.ofNat (L + 1))) 107 0 (16 * p + k) (Int32.ofNat (a + 1))) (mx_u3 B 103 0 (4 * (16 * p + k) + a) (app (J 5 p 3) c (Int32.ofNat L))) := (((((F.i (o5 _ _ _) _).j (q5 _ _ _) _).a (oa7 hk16) _).a (o11 _ _ (by decide)) _).a (oa7 hk16) _).b (ob3 hk16 ha4).1 _
      have fA : fr (mx_u3 (mx_u3 (mx_u3 A 107 0 (16 * p + k) (Int32.ofNat a)) 11 0 14 (Int32.ofNat (L + 1))) 107 0 (16 * p + k) (Int32.ofNat (a + 1))) A [11, 107] := (((fr.rf A _).up (by decide)).up (by decide)).up (by decide)
      have a7 : ∀ t, (mx_u3 (mx_u3 (mx_u3 A 107 0 (16 * p + k) (Int32.ofNat a)) 11 0 14 (Int32.ofNat (L + 1))) 107 0 (16 * p + k) (Int32.ofNat (a + 1))) 107 0 t = if t = 16 * p + k then Int32.ofNat (a + 1) else A 107 0 t := fun t => by
        rw [u3_at, u3_ne (by decide), u3_at]
        by_cases q : t = 16 * p + k
        · rw [if_pos ⟨rfl, q⟩, if_pos q]
        · rw [if_neg (fun z => q z.2), if_neg (fun z => q z.2), if_neg q]
      have b3 : ∀ j i, i < 4 → (j ≠ k ∨ i ≠ a) → (mx_u3 B 103 0 (4 * (16 * p + k) + a) (app (J 5 p 3) c (Int32.ofNat L))) 103 0 (4 * (16 * p + j) + i) = B 103 0 (4 * (16 * p + j) + i) := fun j i hi hji => by
        rw [u3_at, if_neg (fun z => by have := z.2; omega)]
      have ok : ∃ n, PR p n (mx_u3 I 5 p 4 (Int32.ofNat (L + 1))) (mx_u3 J 5 p 3 (app (J 5 p 3) c (Int32.ofNat L))) h (mx_u3 (mx_u3 (mx_u3 A 107 0 (16 * p + k) (Int32.ofNat a)) 11 0 14 (Int32.ofNat (L + 1))) 107 0 (16 * p + k) (Int32.ofNat (a + 1))) (mx_u3 B 103 0 (4 * (16 * p + k) + a) (app (J 5 p 3) c (Int32.ofNat L))) := by
        refine ⟨n, el_at (fun i x _ => (u5 _ _ _ _).c (t := 3) (by decide)) (u5 _ _ _ _ 4 (by decide)) (v5 _ _ _ _ 3 (by decide)) fA (by rw [u3_ne (by decide)]) e, .inr (.inr (.inr ⟨k, a, hk, hh, ?_, ha4, fun j hj hjk => ?_, ?_, ?_, .inl ⟨?_, ?_, L + 1, by omega, ?_, ?_, ?_, ?_⟩⟩))⟩
        · rw [u3_ne (by decide), u3_at, if_neg (fun z => absurd z.2 (by decide)), u3_ne (by decide), hl]
        · exact (ha j hj hjk).kp ((u5 _ _ _ _).c (t := 3) (by decide)) ((a7 _).trans (if_neg (by omega))) (fun i hi => ⟨(v5 _ _ _ _).c (t := 70) (by decide), (v5 _ _ _ _).c (t := 71) (by decide), b3 j i hi (.inl hjk), by rw [u3_ne (by decide)]⟩)
        · exact hat.kp ((u5 _ _ _ _).c (t := 3) (by decide)) (fun i hi => ⟨(v5 _ _ _ _).c (t := 70) (by decide), (v5 _ _ _ _).c (t := 71) (by decide), b3 k i (by omega) (.inr (by omega)), by rw [u3_ne (by decide)]⟩)
        · exact (a7 _).trans (if_pos rfl)
        · rw [u3_at, if_neg (fun z => absurd z.2 (by decide)), hs]
        · rw [u3_ne (by decide), u3_at, if_neg (fun z => absurd z.2 (by decide)), u3_ne (by decide), hm]
        · rw [u3_eq]
        · rw [u3_ne (by decide), u3_eq]
        · rw [u3_eq, u3_eq]
        · rw [u3_ne (by decide), hb4]
      by_cases c9 : L + 1 = 8
      · rw [if_neg (fun z => by have := (n_ltR (by omega) (by decide)).mp z; omega)]
        obtain ⟨b2, f1, f2⟩ := f44_s (I := mx_u3 I 5 p 4 (Int32.ofNat (L + 1))) (J := mx_u3 J 5 p 3 (app (J 5 p 3) c (Int32.ofNat L))) (e := 1 + 16 * p + k) (a := a) (by omega) (by rw [u3_ne (by decide)]; exact hat.2.1) (fun i hi => by rw [u3_ne (by decide)]; exact hv i hi) (app (J 5 p 3) c (Int32.ofNat L))
        rw [u3_ne (by decide), hx] at f2
        unfold app at f1 f2 e2 FF ok ⊢
        rw [f1]
        cases b2 with
        | true =>
          have hb : b = false := by
            cases b with
            | false => rfl
            | true => exact absurd ⟨c9, f2.mp rfl⟩ (e2.mp rfl)
          subst hb
          rw [bT]
          exact Rl.ret ⟨rfl, FF, nofalse⟩
        | false =>
          have hb : b = true := e2.mpr (fun z => absurd (f2.mpr z.2) (by decide))
          subst hb
          rw [bF]
          exact Rl.ret ⟨rfl, FF, fun _ => ok⟩
      · have hb : b = true := e2.mpr (fun z => c9 z.1)
        subst hb
        rw [if_pos ((n_ltR (by omega) (by decide)).mpr (show L + 1 < 8 by omega))]
        exact Rl.ret ⟨rfl, FF, fun _ => ok⟩
theorem st_3 (hp : p < 8) (F : PF p I1 J1 A1 B1 I J A B) (e : el I A J B p n) {k : Nat} (hk : k < n) (hh : h p = 1 + 16 * p + k) (hl : A 11 0 13 = Int32.ofNat (16 * p + k)) (ha : ata I A J B p n) (hs : I 5 p 2 = 3) (hm : A 11 0 11 = 3) (c : Int32) : Rl (f56 p c I J h) (f128 (Int32.ofNat p) c A B) (PS p I1 J1 A1 B1) := by
  obtain ⟨bl, bs, c1, c2, c3, c4, c5⟩ := f128_o (Int32.ofNat p) c A B
  have hn := e.1
  have hk16 : k < 16 := by omega
  have ht : 16 * p + k < 128 := by omega
  rw [f56_3 _ _ _ _ _ hs, c3, j_3 _ _ _ _ _ _ hm]
  unfold f65
  rw [c1]
  cases bl with
  | false =>
    rw [if_pos (show b2i false = 0 from rfl), bF]
    obtain ⟨u, v, e1, e2, w⟩ := te_s F e hk hh hl ha c2 c5
    rw [e1, e2]
    exact Rl.ret w
  | true =>
    rw [if_neg (show ¬ b2i true = 0 by decide), bT]
    obtain ⟨a, hat, h107⟩ := atn_g.mp (ha k hk)
    have ha4 := hat.1
    have g := i_g ht (show 128 ≤ 2147483648 by decide)
    have et : (Int32.ofNat (16 * p + k)).toNatClampNeg = 16 * p + k := i_cl (by omega)
    unfold f43 f131
    rw [hh, hat.2.1]
    simp only [hl]
    simp only [if_neg g]
    simp only [et, h107]
    by_cases c4' : a = 4
    · rw [if_pos ((n_leL (by decide) (by omega)).mpr (by omega)), bF, if_pos (by rw [c4']; rfl)]
      exact Rl.ret ⟨rfl, F, nofalse⟩
    · have ha3 : a < 4 := by omega
      have e4 : (4 : Int32) * Int32.ofNat (16 * p + k) + Int32.ofNat a = Int32.ofNat (4 * (16 * p + k) + a) := by
        rw [n_mulL 4 (16 * p + k), i_add]
      have g4 := i_g (show 4 * (16 * p + k) + a < 512 by omega) (show 512 ≤ 2147483648 by decide)
      have e5 : (Int32.ofNat (4 * (16 * p + k) + a)).toNatClampNeg = 4 * (16 * p + k) + a := i_cl (by omega)
      have ea : Int32.ofNat a + 1 = Int32.ofNat (a + 1) := n_addR a 1
      rw [if_neg (fun z => by have := (n_leL (by decide) (by omega)).mp z; omega), bT, if_neg (fun z => c4' ((n_eqR (by omega) (by decide)).mp z)), e4]
      simp only [if_neg g4]
      simp only [e5, ea]
      obtain ⟨-, f2⟩ := f132_l (A := mx_u3 (mx_u3 (mx_u3 A 107 0 (16 * p + k) (Int32.ofNat (a + 1))) 11 0 14 0) 11 0 11 4) (B := mx_u3 (mx_u3 B 103 0 (4 * (16 * p + k) + a) 0) 104 0 (4 * (16 * p + k) + a) 0) (t := 16 * p + k) (a := a) (L := 0) ht ha3 (by rw [u3_at, if_neg (fun z => absurd z.2 (by decide)), u3_at, if_neg (fun z => absurd z.2 (by decide)), u3_ne (by decide), hl]) (by rw [u3_ne (by decide), u3_ne (by decide), u3_eq]) (by omega) (by rw [u3_at, if_neg (fun z => absurd z.2 (by decide)), u3_eq]; rfl) c
      obtain ⟨b, e1, e2⟩ := f2 (by omega)
      have hb : b = true := e2.mpr (fun z => absurd z.1 (by omega))
      subst hb
      have r0 : (mx_u3 (mx_u3 B 103 0 (4 * (16 * p + k) + a) 0) 104 0 (4 * (16 * p + k) + a) 0) 103 0 (4 * (16 * p + k) + a) = 0 := by
        rw [u3_ne (by decide), u3_eq]
      rw [r0] at e1
      rw [e1]
      unfold f61 f58 f64
      simp only [Option.bind_some, eq_self, if_true]
      have r4 : (mx_u3 (mx_u3 I 5 p 4 0) 5 p 2 4) 5 p 4 = 0 := by
        rw [u3_at, if_neg (fun z => absurd z.2 (by decide)), u3_eq]
      rw [r4, if_pos (by decide), u3_eq]
      simp only [Option.bind_some, eq_self, if_true]
      have fI : fr (mx_u3 (mx_u3 (mx_u3 I 5 p 4 0) 5 p 2 4) 5 p 4 (0 + 1)) I [5] := (u5 _ _ _ _).tr ((u5 _ _ _ _).tr (u5 _ _ _ _))
      have fJ : fr (mx_u3 (mx_u3 J 5 p 3 0) 5 p 3 (app 0 c 0)) J [5] := (v5 _ _ _ _).tr (v5 _ _ _ _)
      have fA : fr (mx_u3 (mx_u3 (mx_u3 (mx_u3 (mx_u3 (mx_u3 A 107 0 (16 * p + k) (Int32.ofNat (a + 1))) 11 0 14 0) 11 0 11 4) 107 0 (16 * p + k) (Int32.ofNat a)) 11 0 14 (Int32.ofNat (0 + 1))) 107 0 (16 * p + k) (Int32.ofNat (a + 1))) A [11, 107] := ((((((fr.rf A _).up (by decide)).up (by decide)).up (by decide)).up (by decide)).up (by decide)).up (by decide)
      have a7 : ∀ t, (mx_u3 (mx_u3 (mx_u3 (mx_u3 (mx_u3 (mx_u3 A 107 0 (16 * p + k) (Int32.ofNat (a + 1))) 11 0 14 0) 11 0 11 4) 107 0 (16 * p + k) (Int32.ofNat a)) 11 0 14 (Int32.ofNat (0 + 1))) 107 0 (16 * p + k) (Int32.ofNat (a + 1))) 107 0 t = if t = 16 * p + k then Int32.ofNat (a + 1) else A 107 0 t := fun t => by
        rw [u3_at, u3_ne (by decide), u3_at, u3_ne (by decide), u3_ne (by decide), u3_at]
        by_cases q : t = 16 * p + k
        · rw [if_pos ⟨rfl, q⟩, if_pos q]
        · rw [if_neg (fun z => q z.2), if_neg (fun z => q z.2), if_neg (fun z => q z.2), if_neg q]
      have b3 : ∀ j i, i < 4 → (j ≠ k ∨ i ≠ a) → ∀ w, (mx_u3 (mx_u3 (mx_u3 B 103 0 (4 * (16 * p + k) + a) 0) 104 0 (4 * (16 * p + k) + a) 0) 103 0 (4 * (16 * p + k) + a) w) 103 0 (4 * (16 * p + j) + i) = B 103 0 (4 * (16 * p + j) + i) ∧ (mx_u3 (mx_u3 (mx_u3 B 103 0 (4 * (16 * p + k) + a) 0) 104 0 (4 * (16 * p + k) + a) 0) 103 0 (4 * (16 * p + k) + a) w) 104 0 (4 * (16 * p + j) + i) = B 104 0 (4 * (16 * p + j) + i) := fun j i hi hji w => by
        constructor
        · rw [u3_at, if_neg (fun z => by have := z.2; omega), u3_ne (by decide), u3_at, if_neg (fun z => by have := z.2; omega)]
        · rw [u3_ne (by decide), u3_at, if_neg (fun z => by have := z.2; omega), u3_ne (by decide)]
      refine Rl.ret ⟨rfl, ?_, fun _ => ⟨n, el_at (fun i x _ => fI.c (t := 3) (by decide)) (fI 4 (by decide)) (fJ 3 (by decide)) fA (by simp only; rw [u3_ne (by decide), u3_ne (by decide), u3_ne (by decide)]) e, .inr (.inr (.inr ⟨k, a, hk, hh, ?_, ha3, fun j hj hjk => ?_, ?_, ?_, .inl ⟨?_, ?_, 1, by omega, ?_, ?_, ?_, ?_⟩⟩))⟩⟩
      · refine ⟨?_, ?_, ?_, ?_⟩
        · exact ((F.1.up (o5 _ _ _) _).up (o5 _ _ _) _).up (o5 _ _ _) _
        · exact (F.2.1.up (q5 _ _ _) _).up (q5 _ _ _) _
        · exact (((((F.2.2.1.up (oa7 hk16) _).up (o11 _ _ (by decide)) _).up (o11 _ _ (by decide)) _).up (oa7 hk16) _).up (o11 _ _ (by decide)) _).up (oa7 hk16) _
        · exact ((F.2.2.2.up (ob3 hk16 ha3).1 _).up (ob3 hk16 ha3).2 _).up (ob3 hk16 ha3).1 _
      · simp only
        rw [u3_ne (by decide), u3_at, if_neg (fun z => absurd z.2 (by decide)), u3_ne (by decide), u3_at, if_neg (fun z => absurd z.2 (by decide)), u3_at, if_neg (fun z => absurd z.2 (by decide)), u3_ne (by decide), hl]
      · exact (ha j hj).kp (fI.c (t := 3) (by decide)) ((a7 _).trans (if_neg (by omega))) (fun i hi => ⟨fJ.c (t := 70) (by decide), fJ.c (t := 71) (by decide), (b3 j i hi (.inl hjk) (app 0 c (Int32.ofNat 0))).1, (b3 j i hi (.inl hjk) (app 0 c (Int32.ofNat 0))).2⟩)
      · exact hat.kp (fI.c (t := 3) (by decide)) (fun i hi => ⟨fJ.c (t := 70) (by decide), fJ.c (t := 71) (by decide), (b3 k i (by omega) (.inr (by omega)) (app 0 c (Int32.ofNat 0))).1, (b3 k i (by omega) (.inr (by omega)) (app 0 c (Int32.ofNat 0))).2⟩)
      · exact (a7 _).trans (if_pos rfl)
      · simp only
        rw [u3_at, if_neg (fun z => absurd z.2 (by decide)), u3_eq]
      · simp only
        rw [u3_ne (by decide), u3_at, if_neg (fun z => absurd z.2 (by decide)), u3_ne (by decide), u3_eq]
      · simp only
        rw [u3_eq]
        rfl
      · simp only
        rw [u3_ne (by decide), u3_eq]
      · simp only
        rw [u3_eq, u3_eq]
        rfl
      · simp only
        rw [u3_ne (by decide), u3_eq]
end
