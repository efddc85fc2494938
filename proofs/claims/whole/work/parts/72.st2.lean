/-! in a tag -/
section
variable {I I1 A A1 : mI} {J J1 B B1 : mJ} {p n : Nat} {h : Nat → Nat}
theorem te_s (F : PF p I1 J1 A1 B1 I J A B) (e : el I A J B p n) {k : Nat} (hk : k < n) (hh : h p = 1 + 16 * p + k) (hl : A 11 0 13 = Int32.ofNat (16 * p + k)) (ha : ata I A J B p n) {c : Int32} {bs : Bool} (c2 : f59 c = some bs) (c5 : bs = true → c = 32 ∨ c = 10) : Rl (f63 p c I) (f130 c (b2i bs) A) (fun u v => u.1 = v.1 ∧ PF p I1 J1 A1 B1 u.2 J v.2 B ∧ (u.1 = true → ∃ n, PR p n u.2 J h v.2 B)) := by
  have x13 : ∀ m : Int32, (mx_u3 A 11 0 11 m) 11 0 13 = Int32.ofNat (16 * p + k) := fun m => by
    rw [u3_at, if_neg (fun z => absurd z.2 (by decide)), hl]
  have F2 : ∀ s m : Int32, PF p I1 J1 A1 B1 (mx_u3 I 5 p 2 s) J (mx_u3 A 11 0 11 m) B := fun s m => (F.i (o5 _ _ _) _).a (o11 _ _ (by decide)) _
  have e2 : ∀ s m : Int32, el (mx_u3 I 5 p 2 s) (mx_u3 A 11 0 11 m) J B p n := fun s m => e.fr (u5 _ _ _ _) (fr.rf J _) (u11 _ _ _)
  have a2 : ∀ s m : Int32, ata (mx_u3 I 5 p 2 s) (mx_u3 A 11 0 11 m) J B p n := fun s m => ha.fr (u5 _ _ _ _) (fr.rf J _) (u11 _ _ _)
  unfold f63 f130 f58 j130_21 j130_38
  rw [c2]
  cases bs with
  | true =>
    have n47 : ¬ c = 47 := by rcases c5 rfl with rfl | rfl <;> decide
    have n62 : ¬ c = 62 := by rcases c5 rfl with rfl | rfl <;> decide
    rw [if_neg n47, if_neg n62, if_neg (show ¬ b2i true = 0 by decide), if_neg n62, if_neg (show ¬ b2i true = 0 by decide)]
    exact Rl.ret ⟨rfl, F2 3 3, fun _ => ⟨n, e2 3 3, .inr (.inr (.inl ⟨k, hk, hh, x13 3, a2 3 3, .inr (.inl ⟨u3_eq _ _ _ _ _, u3_eq A 11 0 11 3⟩)⟩))⟩⟩
  | false =>
    rw [if_pos (show b2i false = 0 from rfl)]
    by_cases c47 : c = 47
    · have n62 : ¬ c = 62 := by rw [c47]; decide
      rw [if_pos c47, if_pos c47, if_neg n62, if_pos (show b2i false = 0 from rfl), if_pos c47]
      exact Rl.ret ⟨rfl, F2 8 8, fun _ => ⟨n, e2 8 8, .inr (.inr (.inl ⟨k, hk, hh, x13 8, a2 8 8, .inr (.inr (.inr ⟨u3_eq _ _ _ _ _, u3_eq A 11 0 11 8⟩))⟩))⟩⟩
    · rw [if_neg c47, if_neg c47]
      by_cases c62 : c = 62
      · rw [if_pos c62, if_pos c62, if_pos (show b2i false = 0 from rfl), if_neg c47, if_pos c62, x13 0]
        have f11 : fr (mx_u3 (mx_u3 A 11 0 11 0) 11 0 12 (Int32.ofNat (16 * p + k))) A [11] := (u11 _ _ _).tr (u11 _ _ _)
        refine Rl.ret ⟨rfl, (F2 0 0).a (o11 _ _ (by decide)) _, fun _ => ⟨n, e.fr (u5 _ _ _ _) (fr.rf J _) f11, .inl ⟨.inl ⟨u3_eq _ _ _ _ _, ?_⟩, ha.fr (u5 _ _ _ _) (fr.rf J _) f11, .inr ⟨k, hk, hh, u3_eq (mx_u3 A 11 0 11 0) 11 0 12 (Int32.ofNat (16 * p + k))⟩⟩⟩⟩
        show (mx_u3 (mx_u3 A 11 0 11 0) 11 0 12 (Int32.ofNat (16 * p + k))) 11 0 11 = 0
        rw [u3_at, if_neg (fun z => absurd z.2 (by decide)), u3_eq]
      · rw [if_neg c62, if_neg c62, if_pos (show b2i false = 0 from rfl), if_neg c47, if_neg c62]
        exact Rl.ret ⟨rfl, F.a (o11 _ _ (by decide)) _, nofalse⟩
theorem st_7 (F : PF p I1 J1 A1 B1 I J A B) (e : el I A J B p n) {k : Nat} (hk : k < n) (hh : h p = 1 + 16 * p + k) (hl : A 11 0 13 = Int32.ofNat (16 * p + k)) (ha : ata I A J B p n) (hs : I 5 p 2 = 7) (hm : A 11 0 11 = 7) (c : Int32) : Rl (f56 p c I J h) (f128 (Int32.ofNat p) c A B) (PS p I1 J1 A1 B1) := by
  obtain ⟨bl, bs, c1, c2, c3, c4, c5⟩ := f128_o (Int32.ofNat p) c A B
  rw [f56_7 _ _ _ _ _ hs, c3, j_7 _ _ _ _ _ _ hm]
  exact Rl.bind (te_s F e hk hh hl ha c2 c5) (fun u v w => Rl.ret w)
theorem st_8 (hp : p < 8) (F : PF p I1 J1 A1 B1 I J A B) (e : el I A J B p n) {k : Nat} (hk : k < n) (hh : h p = 1 + 16 * p + k) (hl : A 11 0 13 = Int32.ofNat (16 * p + k)) (ha : ata I A J B p n) (hs : I 5 p 2 = 8) (hm : A 11 0 11 = 8) (c : Int32) : Rl (f56 p c I J h) (f128 (Int32.ofNat p) c A B) (PS p I1 J1 A1 B1) := by
  obtain ⟨bl, bs, c1, c2, c3, c4, c5⟩ := f128_o (Int32.ofNat p) c A B
  have hn := e.1
  have x13 : (mx_u3 A 11 0 11 0) 11 0 13 = Int32.ofNat (16 * p + k) := by
    rw [u3_at, if_neg (fun z => absurd z.2 (by decide)), hl]
  rw [f56_8 _ _ _ _ _ hs, c3, j_8 _ _ _ _ _ _ hm, x13, if_neg (i_g (show 16 * p + k < 128 by omega) (by decide)), i_cl (by omega)]
  by_cases c62 : c = 62
  · rw [if_pos c62, if_pos c62]
    have f11 : ∀ v, fr (mx_u3 (mx_u3 A 11 0 11 0) 11 0 12 v) A [11] := fun v => (u11 _ _ _).tr (u11 _ _ _)
    have FF : ∀ v, PF p I1 J1 A1 B1 (mx_u3 I 5 p 2 0) J (mx_u3 (mx_u3 A 11 0 11 0) 11 0 12 v) B := fun v => ((F.i (o5 _ _ _) _).a (o11 _ _ (by decide)) _).a (o11 _ _ (by decide)) _
    have x11 : ∀ v, (mx_u3 (mx_u3 A 11 0 11 0) 11 0 12 v) 11 0 11 = 0 := fun v => by
      rw [u3_at, if_neg (fun z => absurd z.2 (by decide)), u3_eq]
    obtain ⟨⟨g1, g2, g3, g4, g5⟩, -⟩ := e.2.2.2 k hk
    unfold f68 f58
    rw [hh]
    rcases g5 with ⟨y1, y2, -⟩ | ⟨j, hj, y1, y2, -⟩
    · have e51 : f51 p (I 3 (1 + 16 * p + k) 4) I = some 0 := by
        unfold f51
        rw [y1, if_pos (by decide)]
      rw [e51, y2]
      refine Rl.ret ⟨rfl, FF _, fun _ => ⟨n, e.fr (u5 _ _ _ _) (fr.rf J _) (f11 _), .inl ⟨.inl ⟨u3_eq _ _ _ _ _, x11 (-1)⟩, ha.fr (u5 _ _ _ _) (fr.rf J _) (f11 _), .inl ⟨?_, u3_eq (mx_u3 A 11 0 11 0) 11 0 12 (-1)⟩⟩⟩⟩
      show (mx_u1 h p 0) p = 0
      unfold mx_u1
      rw [if_pos rfl]
    · have e51 : f51 p (I 3 (1 + 16 * p + k) 4) I = some (1 + 16 * p + j) := by
        rw [y1]
        exact f51_s hn e.2.1 (by omega)
      rw [e51, y2]
      refine Rl.ret ⟨rfl, FF _, fun _ => ⟨n, e.fr (u5 _ _ _ _) (fr.rf J _) (f11 _), .inl ⟨.inl ⟨u3_eq _ _ _ _ _, x11 (Int32.ofNat (16 * p + j))⟩, ha.fr (u5 _ _ _ _) (fr.rf J _) (f11 _), .inr ⟨j, by omega, ?_, u3_eq (mx_u3 A 11 0 11 0) 11 0 12 (Int32.ofNat (16 * p + j))⟩⟩⟩⟩
      show (mx_u1 h p (1 + 16 * p + j)) p = _
      unfold mx_u1
      rw [if_pos rfl]
  · rw [if_neg c62, if_neg c62]
    exact Rl.ret ⟨rfl, (F.a (o11 _ _ (by decide)) _).a (o11 _ _ (by decide)) _, nofalse⟩
theorem st_2 (hp : p < 8) (F : PF p I1 J1 A1 B1 I J A B) (e : el I A J B p n) {k L : Nat} (hk : k < n) (hh : h p = 1 + 16 * p + k) (hl : A 11 0 13 = Int32.ofNat (16 * p + k)) (ha : ata I A J B p n) (hs : I 5 p 2 = 2) (hm : A 11 0 11 = 2) (hL : 1 ≤ L) (hw : wd (B 102 0 (16 * p + k)) L) (hj : J 5 p 3 = B 102 0 (16 * p + k)) (h4 : I 5 p 4 = Int32.ofNat L) (h14 : A 11 0 14 = Int32.ofNat L) (c : Int32) : Rl (f56 p c I J h) (f128 (Int32.ofNat p) c A B) (PS p I1 J1 A1 B1) := by
  obtain ⟨bl, bs, c1, c2, c3, c4, c5⟩ := f128_o (Int32.ofNat p) c A B
  have hn := e.1
  rw [f56_2 _ _ _ _ _ hs, c3, j_2 _ _ _ _ _ _ hm]
  unfold f62
  rw [c1]
  cases bl with
  | false =>
    rw [if_pos (show b2i false = 0 from rfl), bF]
    obtain ⟨u, v, e1, e2, w⟩ := te_s F e hk hh hl ha c2 c5
    rw [e1, e2]
    exact Rl.ret w
  | true =>
    rw [if_neg (show ¬ b2i true = 0 by decide), bT]
    unfold f64
    rw [h4, h14, hh, hl]
    have oj : oJ p 3 (1 + 16 * p + k) 7 := by unfold oJ; omega
    by_cases c8 : L = 8
    · have q1 : ¬ Int32.ofNat L < 8 := fun z => by have := (n_ltR (by omega) (by decide)).mp z; omega
      have q2 : Int32.ofNat L = 8 := by rw [c8]; rfl
      rw [if_neg q1, if_pos q2]
      exact Rl.ret ⟨rfl, F.j oj _, nofalse⟩
    · have hL8 : L < 8 := by have := hw.1; omega
      have q1 : Int32.ofNat L < 8 := (n_ltR (by omega) (by decide)).mpr hL8
      have q2 : ¬ Int32.ofNat L = 8 := fun z => c8 ((n_eqR (by omega) (by decide)).mp z)
      have eL : Int32.ofNat L + 1 = Int32.ofNat (L + 1) := n_addR L 1
      obtain ⟨cc, k1, k2, rfl⟩ := c4 rfl
      rw [if_pos q1, if_neg q2, if_neg (i_g (show 16 * p + k < 128 by omega) (by decide)), if_neg (i_g (show 16 * p + k < 128 by omega) (by decide)), i_cl (n := 16 * p + k) (by omega), eL, hj, Option.bind_some, Option.bind_some]
      simp only
      rw [u3_eq]
      have hw2 : wd (app (B 102 0 (16 * p + k)) (Int32.ofNat cc) (Int32.ofNat L)) (L + 1) := wd_up hw (by omega) (by omega) hL8
      have ob : oB p 102 0 (16 * p + k) := by unfold oB; omega
      refine Rl.ret ⟨rfl, ((((F.i (o5 _ _ _) _).j (q5 _ _ _) _).j oj _).a (o11 _ _ (by decide)) _).b ob _, fun _ => ⟨n, ⟨hn, ?_, ?_, fun j hj2 => ?_⟩, .inr (.inr (.inl ⟨k, hk, hh, ?_, fun j hj2 => ?_, .inl ⟨?_, ?_, L + 1, by omega, ?_, ?_, ?_, ?_⟩⟩))⟩⟩
      · simp only
        rw [u3_ne (by decide)]
        exact e.2.1
      · simp only
        rw [u3_ne (by decide)]
        exact e.2.2.1
      · simp only
        obtain ⟨y1, L2, y2, y3⟩ := e.2.2.2 j hj2
        by_cases ek : j = k
        · subst ek
          obtain ⟨z1, z2, z3, z4, z5⟩ := y1
          refine ⟨?_, L + 1, by omega, by rw [u3_eq]; exact hw2⟩
          unfold g_e0
          rw [u3_ne (show (3 : Nat) ≠ 5 by decide), u3_ne (show (106 : Nat) ≠ 11 by decide), u3_ne (show (105 : Nat) ≠ 11 by decide), u3_eq, u3_eq]
          exact ⟨z1, rfl, z3, z4, z5⟩
        · have b2 : ∀ v, (mx_u3 B 102 0 (16 * p + k) v) 102 0 (16 * p + j) = B 102 0 (16 * p + j) := fun v => by
            rw [u3_at, if_neg (fun z => by have := z.2; omega)]
          refine ⟨y1.kp (fun i x _ _ => by rw [u3_ne (by decide)]) ?_ (by rw [u3_ne (by decide)]) (by rw [u3_ne (by decide)]) (b2 _), L2, y2, by rw [b2]; exact y3⟩
          rw [u3_at, if_neg (fun z => by have := z.1; omega), u3_ne (by decide)]
      · simp only
        rw [u3_at, if_neg (fun z => absurd z.2 (by decide)), hl]
      · simp only
        exact (ha j hj2).kp (by rw [u3_ne (by decide)]) (by rw [u3_ne (by decide)]) (fun i hi => ⟨by rw [u3_ne (by decide), u3_ne (by decide)], by rw [u3_ne (by decide), u3_ne (by decide)], by rw [u3_ne (by decide)], by rw [u3_ne (by decide)]⟩)
      · simp only
        rw [u3_at, if_neg (fun z => absurd z.2 (by decide)), hs]
      · simp only
        rw [u3_at, if_neg (fun z => absurd z.2 (by decide)), hm]
      · simp only
        rw [u3_eq]
        exact hw2
      · simp only
        rw [u3_ne (by decide), u3_eq, u3_eq]
      · simp only
        rw [u3_eq]
      · simp only
        rw [u3_eq]
end
