/-! what was declared goes over to the plugin -/
def rw_ (w t r k : Nat) : Prop := r = w
theorem only.tr {α : Type} {a b c : Nat → Nat → Nat → α} {C : Nat → Nat → Nat → Prop} (h : only a b C) (h2 : only b c C) : only a c C := fun t i k z => (h t i k z).trans (h2 t i k z)
theorem f34_s {I : mI} {w i : Nat} (x1 x2 x3 : Int32) (hi : i < 3) (h : I 2 w 5 = Int32.ofNat i) : ∃ I' y, f34 w x1 x2 x3 I = some (y, I') ∧ fr I' I [2, 65, 66, 67] ∧ only I' I (rw_ w) ∧ I' 2 w 5 = Int32.ofNat (i + 1) ∧ (∀ k, k ≠ 5 → I' 2 w k = I 2 w k) ∧ (∀ k, I' 65 w k = if k = i then x1 else I 65 w k) ∧ (∀ k, I' 66 w k = if k = i then x2 else I 66 w k) ∧ ∀ k, I' 67 w k = if k = i then x3 else I 67 w k := by
  have g := i_g hi (show 3 ≤ 2147483648 by decide)
  have ei : (Int32.ofNat i).toNatClampNeg = i := i_cl (by omega)
  have e1 : Int32.ofNat i + 1 = Int32.ofNat (i + 1) := n_addR i 1
  unfold f34
  rw [h, if_pos ((n_ltR (by omega) (by decide)).mpr hi)]
  simp only [if_neg g]
  simp only [ei, e1]
  refine ⟨_, _, rfl, ((((fr.rf I _).up (by decide)).up (by decide)).up (by decide)).up (by decide), ((((only.rf I (rw_ w)).up rfl _).up rfl _).up rfl _).up rfl _, u3_eq _ _ _ _ _, fun k hk => ?_, fun k => ?_, fun k => ?_, fun k => ?_⟩
  · rw [u3_at, if_neg (fun z => hk z.2), u3_ne (by decide), u3_ne (by decide), u3_ne (by decide)]
  · rw [u3_ne (by decide), u3_ne (by decide), u3_ne (by decide), u3_at]
    simp only [true_and]
  · rw [u3_ne (by decide), u3_ne (by decide), u3_at, u3_ne (by decide)]
    simp only [true_and]
  · rw [u3_ne (by decide), u3_at, u3_ne (by decide), u3_ne (by decide)]
    simp only [true_and]
theorem f35_s {I : mI} {J : mJ} {w i : Nat} (x1 : Int64) (x2 : Int32) (hi : i < 4) (h : I 2 w 6 = Int32.ofNat i) : ∃ I' y, f35 w x1 x2 I J = some (y, I', mx_u3 J 68 w i x1) ∧ fr I' I [2, 69] ∧ only I' I (rw_ w) ∧ I' 2 w 6 = Int32.ofNat (i + 1) ∧ (∀ k, k ≠ 6 → I' 2 w k = I 2 w k) ∧ (∀ k, I' 69 w k = if k = i then x2 else I 69 w k) := by
  have g := i_g hi (show 4 ≤ 2147483648 by decide)
  have ei : (Int32.ofNat i).toNatClampNeg = i := i_cl (by omega)
  have e1 : Int32.ofNat i + 1 = Int32.ofNat (i + 1) := n_addR i 1
  unfold f35
  rw [h, if_pos ((n_ltR (by omega) (by decide)).mpr hi)]
  simp only [if_neg g]
  simp only [ei, e1]
  refine ⟨_, _, rfl, ((fr.rf I _).up (by decide)).up (by decide), ((only.rf I (rw_ w)).up rfl _).up rfl _, u3_eq _ _ _ _ _, fun k hk => ?_, fun k => ?_⟩
  · rw [u3_at, if_neg (fun z => hk z.2), u3_ne (by decide)]
  · rw [u3_ne (by decide), u3_at]
    simp only [true_and]
theorem b38_a {I : mI} {J : mJ} {w n : Nat} (hw : w ≠ 0) (hn : n ≤ 3) (h0 : I 2 0 5 = Int32.ofNat n) (h : I 2 w 5 = 0) (I0 : mI) : Sm (mx_lp (b38_6 w 0 I0 J) mx_fu ((0 : Int32), I)) (fun r => fr r.2 I [2, 65, 66, 67] ∧ only r.2 I (rw_ w) ∧ r.2 2 w 5 = Int32.ofNat n ∧ (∀ k, k ≠ 5 → r.2 2 w k = I 2 w k) ∧ ∀ k, k < n → r.2 65 w k = I 65 0 k ∧ r.2 66 w k = I 66 0 k ∧ r.2 67 w k = I 67 0 k) := by
  refine Sm.lp (fun s => ∃ i, i ≤ n ∧ s.1 = Int32.ofNat i ∧ fr s.2 I [2, 65, 66, 67] ∧ only s.2 I (rw_ w) ∧ s.2 2 w 5 = Int32.ofNat i ∧ (∀ k, k ≠ 5 → s.2 2 w k = I 2 w k) ∧ ∀ k, k < i → s.2 65 w k = I 65 0 k ∧ s.2 66 w k = I 66 0 k ∧ s.2 67 w k = I 67 0 k) (fun s => 3 - s.1.toNatClampNeg) ?_ mx_fu ⟨0, by omega, rfl, fr.rf _ _, only.rf _ _, h, fun _ _ => rfl, fun k hk => absurd hk (by omega)⟩ (by show 3 - 0 < 1000; decide)
  rintro ⟨_, I'⟩ ⟨i, hi, rfl, f, o, c5, ck, hm⟩
  simp only at f o c5 ck hm
  have z0 : ∀ t k, I' t 0 k = I t 0 k := fun t k => o t 0 k (fun z => hw z.symm)
  unfold b38_6
  simp only
  rw [z0, h0]
  rcases Nat.lt_or_ge i n with c | c
  · have g := i_g (show i < 3 by omega) (show 3 ≤ 2147483648 by decide)
    have ei : (Int32.ofNat i).toNatClampNeg = i := i_cl (by omega)
    rw [if_neg (fun z => by have := (i_le (by omega) (by omega)).mp z; omega)]
    simp only [if_neg g]
    simp only [ei]
    obtain ⟨I2, y, e1, f1, f2, f3, f4, f5, f6, f7⟩ := f34_s (I' 65 0 i) (I' 66 0 i) (I' 67 0 i) (show i < 3 by omega) c5
    rw [e1, Option.bind_some]
    refine Sm.ret ⟨⟨i + 1, by omega, n_addR i 1, f1.tr f, f2.tr o, f3, fun k hk => (f4 k hk).trans (ck k hk), fun k hk => ?_⟩, m_dc (by omega) (by omega)⟩
    simp only
    rw [f5, f6, f7, z0, z0, z0]
    by_cases q : k = i
    · rw [if_pos q, if_pos q, if_pos q, q]
      exact ⟨rfl, rfl, rfl⟩
    · rw [if_neg q, if_neg q, if_neg q]
      exact hm k (by omega)
  · have e : i = n := by omega
    subst e
    rw [if_pos ((i_le (by omega) (by omega)).mpr (Nat.le_refl i))]
    exact Sm.ret ⟨f, o, c5, ck, hm⟩
theorem b38_b {I : mI} {J : mJ} {w n : Nat} (hw : w ≠ 0) (hn : n ≤ 4) (h0 : I 2 0 6 = Int32.ofNat n) (h : I 2 w 6 = 0) (I0 : mI) (J0 : mJ) : Sm (mx_lp (b38_45 w 0 I0 J0) mx_fu ((0 : Int32), I, J)) (fun r => fr r.2.1 I [2, 69] ∧ only r.2.1 I (rw_ w) ∧ fr r.2.2 J [68] ∧ only r.2.2 J (rw_ w) ∧ r.2.1 2 w 6 = Int32.ofNat n ∧ (∀ k, k ≠ 6 → r.2.1 2 w k = I 2 w k) ∧ ∀ k, k < n → r.2.2 68 w k = J 68 0 k ∧ r.2.1 69 w k = I 69 0 k) := by
  refine Sm.lp (fun s => ∃ i, i ≤ n ∧ s.1 = Int32.ofNat i ∧ fr s.2.1 I [2, 69] ∧ only s.2.1 I (rw_ w) ∧ fr s.2.2 J [68] ∧ only s.2.2 J (rw_ w) ∧ s.2.1 2 w 6 = Int32.ofNat i ∧ (∀ k, k ≠ 6 → s.2.1 2 w k = I 2 w k) ∧ ∀ k, k < i → s.2.2 68 w k = J 68 0 k ∧ s.2.1 69 w k = I 69 0 k) (fun s => 4 - s.1.toNatClampNeg) ?_ mx_fu ⟨0, by omega, rfl, fr.rf _ _, only.rf _ _, fr.rf _ _, only.rf _ _, h, fun _ _ => rfl, fun k hk => absurd hk (by omega)⟩ (by show 4 - 0 < 1000; decide)
  rintro ⟨_, I', J'⟩ ⟨i, hi, rfl, f, o, fj, oj, c6, ck, hm⟩
  simp only at f o fj oj c6 ck hm
  have z0 : ∀ t k, I' t 0 k = I t 0 k := fun t k => o t 0 k (fun z => hw z.symm)
  have y0 : ∀ t k, J' t 0 k = J t 0 k := fun t k => oj t 0 k (fun z => hw z.symm)
  unfold b38_45
  simp only
  rw [z0, h0]
  rcases Nat.lt_or_ge i n with c | c
  · have g := i_g (show i < 4 by omega) (show 4 ≤ 2147483648 by decide)
    have ei : (Int32.ofNat i).toNatClampNeg = i := i_cl (by omega)
    rw [if_neg (fun z => by have := (i_le (by omega) (by omega)).mp z; omega)]
    simp only [if_neg g]
    simp only [ei]
    obtain ⟨I2, y, e1, f1, f2, f3, f4, f5⟩ := f35_s (J := J') (J' 68 0 i) (I' 69 0 i) (show i < 4 by omega) c6
    rw [e1, Option.bind_some]
    refine Sm.ret ⟨⟨i + 1, by omega, n_addR i 1, f1.tr f, f2.tr o, fj.up (by decide), oj.up rfl _, f3, fun k hk => (f4 k hk).trans (ck k hk), fun k hk => ?_⟩, m_dc (by omega) (by omega)⟩
    simp only
    rw [f5, u3_at, z0, y0]
    by_cases q : k = i
    · rw [if_pos ⟨rfl, q⟩, if_pos q, q]
      exact ⟨rfl, rfl⟩
    · rw [if_neg (fun z => q z.2), if_neg q]
      exact hm k (by omega)
  · have e : i = n := by omega
    subst e
    rw [if_pos ((i_le (by omega) (by omega)).mpr (Nat.le_refl i))]
    exact Sm.ret ⟨f, o, fj, oj, c6, ck, hm⟩
theorem f38_s {I : mI} {J : mJ} {w n m : Nat} (hw : w ≠ 0) (hn : n ≤ 3) (hm : m ≤ 4) (h5 : I 2 0 5 = Int32.ofNat n) (h6 : I 2 0 6 = Int32.ofNat m) : ∃ I' J', f38 w 0 I J = some (I', J') ∧ fr I' I [2, 65, 66, 67, 69] ∧ fr J' J [2, 68] ∧ only I' I (rw_ w) ∧ only J' J (rw_ w) ∧ I' 2 w 5 = Int32.ofNat n ∧ I' 2 w 6 = Int32.ofNat m ∧ I' 2 w 7 = I 2 0 7 ∧ J' 2 w 8 = (if I 2 0 7 = 0 then 0 else J 2 0 8) ∧ (∀ k, k < n → I' 65 w k = I 65 0 k ∧ I' 66 w k = I 66 0 k ∧ I' 67 w k = I 67 0 k) ∧ ∀ k, k < m → J' 68 w k = J 68 0 k ∧ I' 69 w k = I 69 0 k := by
  unfold f38 f37 f36
  rw [if_pos rfl, Option.bind_some, Option.bind_some]
  simp only
  have hw' : ¬ (0 : Nat) = w := fun z => hw z.symm
  have oI1 : only (mx_u3 (mx_u3 (mx_u3 I 2 w 5 0) 2 w 6 0) 2 w 7 0) I (rw_ w) := (((only.rf I (rw_ w)).up rfl _).up rfl _).up rfl _
  have fI1 : fr (mx_u3 (mx_u3 (mx_u3 I 2 w 5 0) 2 w 6 0) 2 w 7 0) I [2] := (((fr.rf I _).up (by decide)).up (by decide)).up (by decide)
  have z1 : ∀ t k, (mx_u3 (mx_u3 (mx_u3 I 2 w 5 0) 2 w 6 0) 2 w 7 0) t 0 k = I t 0 k := fun t k => oI1 t 0 k hw'
  obtain ⟨⟨y1, I2⟩, e1, a1, a2, a3, a4, a5⟩ := b38_a (I := mx_u3 (mx_u3 (mx_u3 I 2 w 5 0) 2 w 6 0) 2 w 7 0) (J := mx_u3 J 2 w 8 0) hw hn ((z1 2 5).trans h5) (by simp [u3_at]) (mx_u3 (mx_u3 (mx_u3 I 2 w 5 0) 2 w 6 0) 2 w 7 0)
  simp only at a1 a2 a3 a4 a5
  have oI2 : only I2 I (rw_ w) := a2.tr oI1
  have z2 : ∀ t k, I2 t 0 k = I t 0 k := fun t k => oI2 t 0 k hw'
  obtain ⟨⟨y2, I3, J3⟩, e2, b1, b2, b3, b4, b5, b6, b7⟩ := b38_b (I := I2) (J := mx_u3 J 2 w 8 0) hw hm ((z2 2 6).trans h6) (by rw [a4 6 (by decide)]; simp [u3_at]) I2 (mx_u3 J 2 w 8 0)
  simp only at b1 b2 b3 b4 b5 b6 b7
  have oI3 : only I3 I (rw_ w) := b2.tr oI2
  have oJ3 : only J3 J (rw_ w) := b4.tr ((only.rf J (rw_ w)).up rfl _)
  have z3 : ∀ t k, I3 t 0 k = I t 0 k := fun t k => oI3 t 0 k hw'
  have y3 : ∀ t k, J3 t 0 k = J t 0 k := fun t k => oJ3 t 0 k hw'
  have fI3 : fr I3 I [2, 65, 66, 67, 69] := (b1.wd (by decide)).tr ((a1.wd (by decide)).tr (fI1.wd (by decide)))
  have fJ3 : fr J3 J [2, 68] := (b3.wd (by decide)).tr ((fr.rf J _).up (by decide))
  rw [e1, Option.bind_some]
  simp only
  rw [e2, Option.bind_some]
  simp only
  rw [z3, y3]
  have key : ∀ v, ∃ I' J', some ((mx_u3 I3 2 w 7 (I 2 0 7)), (mx_u3 J3 2 w 8 v)) = some (I', J') ∧ fr I' I [2, 65, 66, 67, 69] ∧ fr J' J [2, 68] ∧ only I' I (rw_ w) ∧ only J' J (rw_ w) ∧ I' 2 w 5 = Int32.ofNat n ∧ I' 2 w 6 = Int32.ofNat m ∧ I' 2 w 7 = I 2 0 7 ∧ J' 2 w 8 = v ∧ (∀ k, k < n → I' 65 w k = I 65 0 k ∧ I' 66 w k = I 66 0 k ∧ I' 67 w k = I 67 0 k) ∧ ∀ k, k < m → J' 68 w k = J 68 0 k ∧ I' 69 w k = I 69 0 k := fun v => by
    refine ⟨_, _, rfl, fI3.up (by decide), fJ3.up (by decide), oI3.up rfl _, oJ3.up rfl _, ?_, ?_, u3_eq _ _ _ _ _, u3_eq _ _ _ _ _, fun k hk => ?_, fun k hk => ?_⟩
    · rw [u3_at, if_neg (fun z => absurd z.2 (by decide)), b6 5 (by decide)]
      exact a3
    · rw [u3_at, if_neg (fun z => absurd z.2 (by decide))]
      exact b5
    · obtain ⟨q1, q2, q3⟩ := a5 k hk
      rw [u3_ne (by decide), u3_ne (by decide), u3_ne (by decide), b1.c (t := 65) (by decide), b1.c (t := 66) (by decide), b1.c (t := 67) (by decide), q1, q2, q3, z1, z1, z1]
      exact ⟨rfl, rfl, rfl⟩
    · obtain ⟨q1, q2⟩ := b7 k hk
      rw [u3_ne (by decide), u3_ne (by decide), q1, q2, z2, u3_ne (by decide)]
      exact ⟨rfl, rfl⟩
  by_cases c : I 2 0 7 = 0
  · rw [if_pos c, if_pos c]
    exact key 0
  · rw [if_neg c, if_neg c]
    exact key (J 2 0 8)
