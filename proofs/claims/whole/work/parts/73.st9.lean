/-! an end tag -/
section
variable {I I1 A A1 : mI} {J J1 B B1 : mJ} {p n : Nat} {h : Nat → Nat}
theorem f68_s (e : el I A J B p n) {k : Nat} (hk : k < n) (hh : h p = 1 + 16 * p + k) : ∃ x, f68 p I h = some (true, mx_u3 I 5 p 2 0, mx_u1 h p x) ∧ ((x = 0 ∧ A 105 0 (16 * p + k) = -1) ∨ ∃ j, j < n ∧ x = 1 + 16 * p + j ∧ A 105 0 (16 * p + k) = Int32.ofNat (16 * p + j)) := by
  have hn := e.1
  obtain ⟨⟨g1, g2, g3, g4, g5⟩, -⟩ := e.2.2.2 k hk
  unfold f68 f58
  rw [hh]
  rcases g5 with ⟨y1, y2, -⟩ | ⟨j, hj, y1, y2, -⟩
  · have e51 : f51 p (I 3 (1 + 16 * p + k) 4) I = some 0 := by
      unfold f51
      rw [y1, if_pos (by decide)]
    rw [e51]
    exact ⟨0, rfl, .inl ⟨rfl, y2⟩⟩
  · have e51 : f51 p (I 3 (1 + 16 * p + k) 4) I = some (1 + 16 * p + j) := by
      rw [y1]
      exact f51_s hn e.2.1 (by omega)
    rw [e51]
    exact ⟨1 + 16 * p + j, rfl, .inr ⟨j, by omega, rfl, y2⟩⟩
theorem cl_s (hp : p < 8) (F : PF p I1 J1 A1 B1 I J A B) (e : el I A J B p n) {k : Nat} (hk : k < n) (hh : h p = 1 + 16 * p + k) (hl : A 11 0 12 = Int32.ofNat (16 * p + k)) (ha : ata I A J B p n) (hm : A 11 0 11 = 10) {c v3 : Int32} {bs : Bool} (c2 : f59 c = some bs) (c5 : bs = true → c = 32 ∨ c = 10) : Rl (f70 p c I h) (j128_26 (Int32.ofNat p) c v3 (b2i bs) A B) (fun u v => PS p I1 J1 A1 B1 (u.1, u.2.1, J, u.2.2) v) := by
  have hn := e.1
  rw [j_10 _ _ _ _ _ _ hm]
  unfold f70 f58
  rw [c2]
  cases bs with
  | true =>
    have n62 : ¬ c = 62 := by rcases c5 rfl with rfl | rfl <;> decide
    rw [if_neg n62, if_neg (show ¬ b2i true = 0 by decide)]
    exact Rl.ret ⟨rfl, F.i (o5 _ _ _) _, fun _ => ⟨n, e.fr (u5 _ _ _ _) (fr.rf J _) (fr.rf A _), .inr (.inl ⟨k, hk, hh, hl, ha.fr (u5 _ _ _ _) (fr.rf J _) (fr.rf A _), .inr (.inr ⟨u3_eq I 5 p 2 10, hm⟩)⟩)⟩⟩
  | false =>
    have x12 : (mx_u3 A 11 0 11 0) 11 0 12 = Int32.ofNat (16 * p + k) := by
      rw [u3_at, if_neg (fun z => absurd z.2 (by decide)), hl]
    rw [if_pos (show b2i false = 0 from rfl), x12, if_neg (i_g (show 16 * p + k < 128 by omega) (by decide)), i_cl (by omega)]
    by_cases c62 : c = 62
    · rw [if_pos c62, if_pos c62]
      obtain ⟨x, y1, y2⟩ := f68_s e hk hh
      rw [y1]
      have f11 : fr (mx_u3 (mx_u3 A 11 0 11 0) 11 0 12 (A 105 0 (16 * p + k))) A [11] := (u11 _ _ _).tr (u11 _ _ _)
      have x11 : (mx_u3 (mx_u3 A 11 0 11 0) 11 0 12 (A 105 0 (16 * p + k))) 11 0 11 = 0 := by
        rw [u3_at, if_neg (fun z => absurd z.2 (by decide)), u3_eq]
      have hx : (mx_u1 h p x) p = x := by
        unfold mx_u1
        rw [if_pos rfl]
      refine Rl.ret ⟨rfl, ((F.i (o5 _ _ _) _).a (o11 _ _ (by decide)) _).a (o11 _ _ (by decide)) _, fun _ => ⟨n, e.fr (u5 _ _ _ _) (fr.rf J _) f11, .inl ⟨.inl ⟨u3_eq I 5 p 2 0, x11⟩, ha.fr (u5 _ _ _ _) (fr.rf J _) f11, ?_⟩⟩⟩
      unfold hin
      simp only
      rw [hx, u3_eq]
      exact y2
    · rw [if_neg c62, if_neg c62]
      exact Rl.ret ⟨rfl, (F.a (o11 _ _ (by decide)) _).a (o11 _ _ (by decide)) _, nofalse⟩
theorem st_10 (hp : p < 8) (F : PF p I1 J1 A1 B1 I J A B) (e : el I A J B p n) {k : Nat} (hk : k < n) (hh : h p = 1 + 16 * p + k) (hl : A 11 0 12 = Int32.ofNat (16 * p + k)) (ha : ata I A J B p n) (hs : I 5 p 2 = 10) (hm : A 11 0 11 = 10) (c : Int32) : Rl (f56 p c I J h) (f128 (Int32.ofNat p) c A B) (PS p I1 J1 A1 B1) := by
  obtain ⟨bl, bs, c1, c2, c3, c4, c5⟩ := f128_o (Int32.ofNat p) c A B
  obtain ⟨u, v, e1, e2, w⟩ := cl_s hp F e hk hh hl ha hm (v3 := b2i bl) c2 c5
  rw [f56_10 _ _ _ _ _ hs, c3, e1, e2]
  exact Rl.ret w
theorem st_9a (hp : p < 8) (F : PF p I1 J1 A1 B1 I J A B) (e : el I A J B p n) {k : Nat} (hk : k < n) (hh : h p = 1 + 16 * p + k) (hl : A 11 0 12 = Int32.ofNat (16 * p + k)) (ha : ata I A J B p n) (hs : I 5 p 2 = 9) (hm : A 11 0 11 = 10) (hw : J 5 p 3 = B 102 0 (16 * p + k)) (c : Int32) : Rl (f56 p c I J h) (f128 (Int32.ofNat p) c A B) (PS p I1 J1 A1 B1) := by
  obtain ⟨bl, bs, c1, c2, c3, c4, c5⟩ := f128_o (Int32.ofNat p) c A B
  obtain ⟨u, v, e1, e2, w⟩ := cl_s hp F e hk hh hl ha hm (v3 := b2i bl) c2 c5
  obtain ⟨⟨g1, g2, g3, g4, g5⟩, -⟩ := e.2.2.2 k hk
  rw [f56_9 _ _ _ _ _ hs, c3]
  unfold f69
  rw [hh, g2, hw, if_pos ((c_cmp _ _).mpr rfl), e1, e2]
  exact Rl.ret w
theorem st_9 (hp : p < 8) (F : PF p I1 J1 A1 B1 I J A B) (e : el I A J B p n) {k L M : Nat} (hk : k < n) (hh : h p = 1 + 16 * p + k) (hl : A 11 0 12 = Int32.ofNat (16 * p + k)) (ha : ata I A J B p n) (hs : I 5 p 2 = 9) (hm : A 11 0 11 = 9) (hLM : L < M) (hM : wd (B 102 0 (16 * p + k)) M) (h4 : I 5 p 4 = Int32.ofNat L) (h14 : A 11 0 14 = Int32.ofNat L) (hw : wn (J 5 p 3) = wn (B 102 0 (16 * p + k)) % 2 ^ (8 * L)) (c : Int32) : Rl (f56 p c I J h) (f128 (Int32.ofNat p) c A B) (PS p I1 J1 A1 B1) := by
  obtain ⟨bl, bs, c1, c2, c3, c4, c5⟩ := f128_o (Int32.ofNat p) c A B
  have hn := e.1
  have hM8 := hM.1
  obtain ⟨⟨g1, g2, g3, g4, g5⟩, -⟩ := e.2.2.2 k hk
  obtain ⟨o1, o2⟩ := hM.2.2 L hLM
  have gi := i_g (show 16 * p + k < 128 by omega) (show 128 ≤ 2147483648 by decide)
  have et : (Int32.ofNat (16 * p + k)).toNatClampNeg = 16 * p + k := i_cl (by omega)
  have eL : Int32.ofNat L + 1 = Int32.ofNat (L + 1) := n_addR L 1
  have x12 : ∀ v, (mx_u3 A 11 0 14 v) 11 0 12 = Int32.ofNat (16 * p + k) := fun v => by
    rw [u3_at, if_neg (fun z => absurd z.2 (by decide)), hl]
  rw [f56_9 _ _ _ _ _ hs, c3, j_9 _ _ _ _ _ _ hm]
  unfold f69
  rw [hh, g2, if_neg (fun z => pre_ne hw o1 ((c_cmp _ _).mp z)), h4, oc_f2 _ L (by omega), Option.bind_some, hl, if_neg gi, et, h14, oc_f118 _ L (by omega), Option.bind_some]
  by_cases cq : ¬ c = Int32.ofNat (oc (B 102 0 (16 * p + k)) L)
  · rw [if_neg cq, if_neg cq]
    exact Rl.ret ⟨rfl, F, nofalse⟩
  replace cq : c = Int32.ofNat (oc (B 102 0 (16 * p + k)) L) := Decidable.byContradiction cq
  rw [if_pos cq, if_pos cq]
  unfold f64
  rw [h4, if_pos ((n_ltR (by omega) (by decide)).mpr (show L < 8 by omega)), eL, u3_eq, x12, cq]
  simp only [Option.bind_some, eq_self, if_true]
  have hw2 := pre_up hw (by omega) o2
  have FF : ∀ w, PF p I1 J1 A1 B1 (mx_u3 I 5 p 4 (Int32.ofNat (L + 1))) (mx_u3 J 5 p 3 w) (mx_u3 A 11 0 14 (Int32.ofNat (L + 1))) B := fun w => ((F.i (o5 _ _ _) _).j (q5 _ _ _) _).a (o11 _ _ (by decide)) _
  have i5 : (mx_u3 I 5 p 4 (Int32.ofNat (L + 1))) 5 p 2 = 9 := by
    rw [u3_at, if_neg (fun z => absurd z.2 (by decide)), hs]
  by_cases c8 : L + 1 = M
  · -- the name is whole
    have done : ∀ w, w = app (J 5 p 3) (Int32.ofNat (oc (B 102 0 (16 * p + k)) L)) (Int32.ofNat L) → PS p I1 J1 A1 B1 (true, mx_u3 I 5 p 4 (Int32.ofNat (L + 1)), mx_u3 J 5 p 3 w, h) (true, mx_u3 (mx_u3 A 11 0 14 (Int32.ofNat (L + 1))) 11 0 11 10, B) := fun w ew => by
      have f11 : fr (mx_u3 (mx_u3 A 11 0 14 (Int32.ofNat (L + 1))) 11 0 11 10) A [11] := (u11 _ _ _).tr (u11 _ _ _)
      refine ⟨rfl, (FF w).a (o11 _ _ (by decide)) _, fun _ => ⟨n, e.fr (u5 _ _ _ _) (v5 _ _ _ _) f11, .inr (.inl ⟨k, hk, hh, ?_, ha.fr (u5 _ _ _ _) (v5 _ _ _ _) f11, .inr (.inl ⟨i5, ?_, ?_⟩)⟩)⟩⟩
      · simp only
        rw [u3_at, if_neg (fun z => absurd z.2 (by decide)), x12]
      · simp only
        rw [u3_eq]
      · simp only
        rw [u3_eq, ew]
        refine pre_eq hw2 ?_
        rw [c8]
        exact hM
    by_cases c9 : L + 1 = 8
    · rw [if_pos (by rw [c9]; rfl)]
      exact Rl.ret (done _ rfl)
    · rw [if_neg (fun z => c9 ((n_eqR (by omega) (by decide)).mp z)), if_neg gi, et, oc_f118 _ (L + 1) (by omega), Option.bind_some, wd_hi (i := L + 1) hM (by omega) (by omega), if_pos (by rfl)]
      exact Rl.ret (done _ rfl)
  · have hL1 : L + 1 < M := by omega
    obtain ⟨o3, o4⟩ := hM.2.2 (L + 1) hL1
    rw [if_neg (fun z => by have := (n_eqR (by omega) (by decide)).mp z; omega), if_neg gi, et, oc_f118 _ (L + 1) (by omega), Option.bind_some, if_neg (fun z => by have := (n_eqR (by omega) (by decide)).mp z; omega)]
    refine Rl.ret ⟨rfl, FF _, fun _ => ⟨n, e.fr (u5 _ _ _ _) (v5 _ _ _ _) (u11 _ _ _), .inr (.inl ⟨k, hk, hh, x12 (Int32.ofNat (L + 1)), ha.fr (u5 _ _ _ _) (v5 _ _ _ _) (u11 _ _ _), .inl ⟨i5, ?_, L + 1, M, hL1, hM, ?_, ?_, ?_⟩⟩)⟩⟩
    · simp only
      rw [u3_at, if_neg (fun z => absurd z.2 (by decide)), hm]
    · simp only
      rw [u3_eq]
    · simp only
      rw [u3_eq]
    · simp only
      rw [u3_eq]
      exact hw2
end
