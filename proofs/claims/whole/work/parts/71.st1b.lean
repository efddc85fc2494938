section
variable {I I1 A A1 : mI} {J J1 B B1 : mJ} {p n : Nat} {h : Nat → Nat}
theorem st_1 (hp : p < 8) (F : PF p I1 J1 A1 B1 I J A B) (h5 : g_non I1 J1) (e : el I A J B p n) (hs : I 5 p 2 = 1) (hm : A 11 0 11 = 1) (ha : ata I A J B p n) (hi : hin h A p n) (c : Int32) : Rl (f56 p c I J h) (f128 (Int32.ofNat p) c A B) (PS p I1 J1 A1 B1) := by
  obtain ⟨bl, bs, c1, -, c3, c4, -⟩ := f128_o (Int32.ofNat p) c A B
  obtain ⟨d, d1, d2, d3, d4, d5, d6⟩ := hin_d (c := c) hp F h5 e hi
  have hn := e.1
  rw [f56_1 _ _ _ _ _ hs, c3, j_1 _ _ _ _ _ _ hm]
  by_cases c47 : c = 47
  · have x12 : (mx_u3 (mx_u3 A 11 0 11 9) 11 0 14 0) 11 0 12 = A 11 0 12 := by
      rw [u3_at, if_neg (fun z => absurd z.2 (by decide)), u3_at, if_neg (fun z => absurd z.2 (by decide))]
    unfold f60
    rw [if_pos c47, if_pos c47, x12, d2]
    by_cases q : d = 0
    · rw [if_pos (d3.mpr q), if_pos (by rw [q]; decide)]
      exact Rl.ret ⟨rfl, (F.a (o11 _ _ (by decide)) _).a (o11 _ _ (by decide)) _, nofalse⟩
    · rw [if_neg (fun z => q (d3.mp z)), if_neg (fun z => by have := (n_leR (by omega) (by decide)).mp z; omega)]
      refine Rl.ret ⟨rfl, (((F.i (o5 _ _ _) _).i (o5 _ _ _) _).j (q5 _ _ _) _ |>.a (o11 _ _ (by decide)) _).a (o11 _ _ (by decide)) _, fun _ => ⟨n, ?_, .inr (.inl ?_)⟩⟩
      · exact e.fr ((u5 _ _ _ _).tr (u5 _ _ _ _)) (v5 _ _ _ _) ((u11 _ _ _).tr (u11 _ _ _))
      · rcases d6 with ⟨z, -⟩ | ⟨-, k, hk, k1, k2, k3⟩
        · exact absurd z q
        · obtain ⟨-, M, M1, M2⟩ := e.2.2.2 k hk
          refine ⟨k, hk, k1, x12.trans k3, ha.fr ((u5 _ _ _ _).tr (u5 _ _ _ _)) (v5 _ _ _ _) ((u11 _ _ _).tr (u11 _ _ _)), .inl ⟨u3_eq _ _ _ _ _, ?_, 0, M, by omega, M2, ?_, ?_, ?_⟩⟩
          · show (mx_u3 (mx_u3 A 11 0 11 9) 11 0 14 0) 11 0 11 = 9
            rw [u3_at, if_neg (fun z => absurd z.2 (by decide)), u3_eq]
          · show (mx_u3 (mx_u3 I 5 p 4 0) 5 p 2 9) 5 p 4 = 0
            rw [u3_at, if_neg (fun z => absurd z.2 (by decide)), u3_eq]
          · show (mx_u3 (mx_u3 A 11 0 11 9) 11 0 14 0) 11 0 14 = 0
            rw [u3_eq]
          · show wn ((mx_u3 J 5 p 3 0) 5 p 3) = _
            rw [u3_eq]
            exact pre_0 _
  rw [if_neg c47]
  cases bl with
  | false =>
    unfold f60
    rw [if_neg c47, c1, if_pos (show b2i false = 0 from rfl)]
    exact Rl.ret ⟨rfl, F, nofalse⟩
  | true =>
    rw [if_neg (show ¬ b2i true = 0 by decide), d4, j129_s hp e d1]
    obtain ⟨cc, k1, k2, rfl⟩ := c4 rfl
    obtain ⟨f1, f2⟩ := f60_s hp e d2 d1 d5 c47 c1
    by_cases q : n = 16 ∨ d = 4
    · rw [if_pos q, f1 q]
      exact Rl.ret ⟨rfl, F, nofalse⟩
    · rw [if_neg q]
      obtain ⟨I2, g1, g2⟩ := f2 q
      have hn16 : n < 16 := by
        have : ¬ n = 16 := fun z => q (.inl z)
        omega
      have hd4 : d < 4 := by
        have : ¬ d = 4 := fun z => q (.inr z)
        omega
      obtain ⟨I3, w0, w1, w2, w3, w4, w5, w6, w7, w8⟩ := f42_s (I := I) (J := J) (Int32.ofNat n) d5
      rw [g2] at w0
      have ei : I2 = I3 := congrArg Prod.fst (Option.some.inj w0)
      subst ei
      rw [g1, Option.bind_some, Option.bind_some]
      have ew : app 0 (Int32.ofNat cc) 0 = (Int32.ofNat cc).toInt64 := app_0 (by omega)
      have hw : wd (Int32.ofNat cc).toInt64 1 := by
        rw [← ew]
        exact wd_up wd_0 (by omega) (by omega) (by decide)
      -- the class after it
      have i3 : ∀ i x, (mx_u3 (mx_u3 (mx_u3 (mx_u3 I2 4 p 2 (Int32.ofNat (n + 1))) 5 p 4 0) 5 p 2 2) 5 p 4 1) 3 i x = I2 3 i x := fun i x => by
        rw [u3_ne (by decide), u3_ne (by decide), u3_ne (by decide), u3_ne (by decide)]
      have j3 : ∀ k, k < n → (mx_u3 (mx_u3 (mx_u3 (mx_u3 J 3 (1 + 16 * p + n) 7 0) 5 p 3 0) 5 p 3 (app 0 (Int32.ofNat cc) 0)) 3 (1 + 16 * p + n) 7 (app 0 (Int32.ofNat cc) 0)) 3 (1 + 16 * p + k) 7 = J 3 (1 + 16 * p + k) 7 := fun k hk => by
        rw [u3_at, if_neg (fun z => by have := z.1; omega), u3_ne (by decide), u3_ne (by decide), u3_at, if_neg (fun z => by have := z.1; omega)]
      have fA : fr (mx_u3 (mx_u3 (mx_u3 (mx_u3 (mx_u3 (mx_u3 (mx_u3 A 100 0 p (Int32.ofNat (n + 1))) 11 0 13 (Int32.ofNat (16 * p + n))) 105 0 (16 * p + n) (A 11 0 12)) 106 0 (16 * p + n) (Int32.ofNat (d + 1))) 107 0 (16 * p + n) 0) 11 0 14 1) 11 0 11 2) A [11, 100, 105, 106, 107] := (((((((fr.rf A _).up (by decide)).up (by decide)).up (by decide)).up (by decide)).up (by decide)).up (by decide)).up (by decide)
      have a5 : ∀ t, (mx_u3 (mx_u3 (mx_u3 (mx_u3 (mx_u3 (mx_u3 (mx_u3 A 100 0 p (Int32.ofNat (n + 1))) 11 0 13 (Int32.ofNat (16 * p + n))) 105 0 (16 * p + n) (A 11 0 12)) 106 0 (16 * p + n) (Int32.ofNat (d + 1))) 107 0 (16 * p + n) 0) 11 0 14 1) 11 0 11 2) 105 0 t = if t = 16 * p + n then A 11 0 12 else A 105 0 t := fun t => by
        rw [u3_ne (by decide), u3_ne (by decide), u3_ne (by decide), u3_ne (by decide), u3_at, u3_ne (by decide), u3_ne (by decide)]
        simp only [true_and]
      have a6 : ∀ t, (mx_u3 (mx_u3 (mx_u3 (mx_u3 (mx_u3 (mx_u3 (mx_u3 A 100 0 p (Int32.ofNat (n + 1))) 11 0 13 (Int32.ofNat (16 * p + n))) 105 0 (16 * p + n) (A 11 0 12)) 106 0 (16 * p + n) (Int32.ofNat (d + 1))) 107 0 (16 * p + n) 0) 11 0 14 1) 11 0 11 2) 106 0 t = if t = 16 * p + n then Int32.ofNat (d + 1) else A 106 0 t := fun t => by
        rw [u3_ne (by decide), u3_ne (by decide), u3_ne (by decide), u3_at, u3_ne (by decide), u3_ne (by decide), u3_ne (by decide)]
        simp only [true_and]
      have a7 : ∀ t, (mx_u3 (mx_u3 (mx_u3 (mx_u3 (mx_u3 (mx_u3 (mx_u3 A 100 0 p (Int32.ofNat (n + 1))) 11 0 13 (Int32.ofNat (16 * p + n))) 105 0 (16 * p + n) (A 11 0 12)) 106 0 (16 * p + n) (Int32.ofNat (d + 1))) 107 0 (16 * p + n) 0) 11 0 14 1) 11 0 11 2) 107 0 t = if t = 16 * p + n then 0 else A 107 0 t := fun t => by
        rw [u3_ne (by decide), u3_ne (by decide), u3_at, u3_ne (by decide), u3_ne (by decide), u3_ne (by decide), u3_ne (by decide)]
        simp only [true_and]
      have ij : ∀ t i x, t ≠ 3 → t ≠ 5 → (mx_u3 (mx_u3 (mx_u3 (mx_u3 J 3 (1 + 16 * p + n) 7 0) 5 p 3 0) 5 p 3 (app 0 (Int32.ofNat cc) 0)) 3 (1 + 16 * p + n) 7 (app 0 (Int32.ofNat cc) 0)) t i x = J t i x := fun t i x h3 h5 => by
        rw [u3_ne h3, u3_ne h5, u3_ne h5, u3_ne h3]
      refine Rl.ret ⟨rfl, ?_, fun _ => ⟨n + 1, ⟨by omega, ?_, ?_, fun k hk => ?_⟩, .inr (.inr (.inl ⟨n, by omega, ?_, ?_, fun k hk => ?_, .inl ⟨?_, ?_, 1, by omega, ?_, ?_, ?_, ?_⟩⟩))⟩⟩
      · have oi : ∀ x, oI p 3 (1 + 16 * p + n) x := fun x => by unfold oI; omega
        have oj : oJ p 3 (1 + 16 * p + n) 7 := by unfold oJ; omega
        have oa : ∀ t, (t = 105 ∨ t = 106 ∨ t = 107) → oA p t 0 (16 * p + n) := fun t ht => by unfold oA; omega
        have ob : oB p 102 0 (16 * p + n) := by unfold oB; omega
        refine ⟨?_, ?_, ?_, ?_⟩
        · exact ((((w8 I1 (oI p) F.1 oi).up (.inr (.inl ⟨rfl, rfl⟩)) _).up (o5 _ _ _) _).up (o5 _ _ _) _).up (o5 _ _ _) _
        · exact (((F.2.1.up oj _).up (q5 _ _ _) _).up (q5 _ _ _) _).up oj _
        · exact ((((((F.2.2.1.up (.inr (.inl ⟨rfl, rfl⟩)) _).up (o11 _ _ (by decide)) _).up (oa 105 (by decide)) _).up (oa 106 (by decide)) _).up (oa 107 (by decide)) _).up (o11 _ _ (by decide)) _).up (o11 _ _ (by decide)) _
        · exact F.2.2.2.up ob _
      · show (mx_u3 (mx_u3 (mx_u3 (mx_u3 I2 4 p 2 (Int32.ofNat (n + 1))) 5 p 4 0) 5 p 2 2) 5 p 4 1) 4 p 2 = _
        rw [u3_ne (by decide), u3_ne (by decide), u3_ne (by decide), u3_eq]
      · simp only
        rw [u3_ne (by decide), u3_ne (by decide), u3_ne (by decide), u3_ne (by decide), u3_ne (by decide), u3_ne (by decide), u3_eq]
      · simp only
        by_cases ek : k = n
        · subst ek
          refine ⟨?_, 1, by omega, ?_⟩
          · unfold g_e0
            rw [i3, i3, i3, i3, a5, a6, if_pos rfl, if_pos rfl, u3_eq, u3_eq, w1, w2, w3, w4, d2]
            have ed : Int32.ofNat d + 1 = Int32.ofNat (d + 1) := n_addR d 1
            rw [ed, ew]
            refine ⟨rfl, rfl, rfl, ⟨d + 1, by omega, by omega, rfl⟩, ?_⟩
            rcases d6 with ⟨z1, z2, z3⟩ | ⟨z1, j, hj, z2, z3, z4⟩
            · subst z1
              exact .inl ⟨z2, z3, if_pos rfl, rfl⟩
            · refine .inr ⟨j, hj, z3, z4, ?_, fun z => by have := (n_eqR (by omega) (by decide)).mp z; omega⟩
              rw [if_neg (fun z => by have := (n_eqR (by omega) (by decide)).mp z; omega), i3, w6 _ _ (by omega), z2]
          · rw [u3_eq]
            exact hw
        · have hk2 : k < n := by omega
          obtain ⟨y1, L, y2, y3⟩ := e.2.2.2 k hk2
          have b2 : (mx_u3 B 102 0 (16 * p + n) (Int32.ofNat cc).toInt64) 102 0 (16 * p + k) = B 102 0 (16 * p + k) := by
            rw [u3_at, if_neg (fun z => by have := z.2; omega)]
          refine ⟨y1.kp (fun j x hj _ => by rw [i3]; exact w6 _ _ (by omega)) (j3 k hk2) (by rw [a5, if_neg (by omega)]) (by rw [a6, if_neg (by omega)]) b2, L, y2, by rw [b2]; exact y3⟩
      · show (mx_u1 h p (1 + 16 * p + n)) p = 1 + 16 * p + n
        unfold mx_u1
        rw [if_pos rfl]
      · simp only
        rw [u3_at, if_neg (fun z => absurd z.2 (by decide)), u3_at, if_neg (fun z => absurd z.2 (by decide)), u3_ne (by decide), u3_ne (by decide), u3_ne (by decide), u3_eq]
      · simp only
        by_cases ek : k = n
        · subst ek
          refine ⟨0, by omega, ?_, ?_, fun i hi => absurd hi (by omega)⟩
          · rw [i3, w5]
            rfl
          · rw [a7, if_pos rfl]
            rfl
        · have hk2 : k < n := by omega
          refine (ha k hk2).kp (by rw [i3]; exact w6 _ _ (by omega)) (by rw [a7, if_neg (by omega)]) (fun i hi => ⟨ij 70 _ _ (by decide) (by decide), ij 71 _ _ (by decide) (by decide), by rw [u3_ne (by decide)], by rw [u3_ne (by decide)]⟩)
      · show (mx_u3 (mx_u3 (mx_u3 (mx_u3 I2 4 p 2 (Int32.ofNat (n + 1))) 5 p 4 0) 5 p 2 2) 5 p 4 1) 5 p 2 = 2
        rw [u3_at, if_neg (fun z => absurd z.2 (by decide)), u3_eq]
      · simp only
        rw [u3_eq]
      · simp only
        rw [u3_eq]
        exact hw
      · simp only
        rw [u3_ne (by decide), u3_eq, u3_eq, ew]
      · simp only
        rw [u3_eq]
        rfl
      · simp only
        rw [u3_at, if_neg (fun z => absurd z.2 (by decide)), u3_eq]
        rfl
end
