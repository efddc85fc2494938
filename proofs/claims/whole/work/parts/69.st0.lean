/-! a letter between tags, and behind < -/
section
variable {I I1 A A1 : mI} {J J1 B B1 : mJ} {p n : Nat} {h : Nat → Nat}
theorem PF.i (F : PF p I1 J1 A1 B1 I J A B) {t i k : Nat} (hc : oI p t i k) (v : Int32) : PF p I1 J1 A1 B1 (mx_u3 I t i k v) J A B := ⟨F.1.up hc v, F.2.1, F.2.2.1, F.2.2.2⟩
theorem PF.j (F : PF p I1 J1 A1 B1 I J A B) {t i k : Nat} (hc : oJ p t i k) (v : Int64) : PF p I1 J1 A1 B1 I (mx_u3 J t i k v) A B := ⟨F.1, F.2.1.up hc v, F.2.2.1, F.2.2.2⟩
theorem PF.a (F : PF p I1 J1 A1 B1 I J A B) {t i k : Nat} (hc : oA p t i k) (v : Int32) : PF p I1 J1 A1 B1 I J (mx_u3 A t i k v) B := ⟨F.1, F.2.1, F.2.2.1.up hc v, F.2.2.2⟩
theorem PF.b (F : PF p I1 J1 A1 B1 I J A B) {t i k : Nat} (hc : oB p t i k) (v : Int64) : PF p I1 J1 A1 B1 I J A (mx_u3 B t i k v) := ⟨F.1, F.2.1, F.2.2.1, F.2.2.2.up hc v⟩
theorem o5 (p i k : Nat) : oI p 5 i k := .inr (.inr rfl)
theorem q5 (p i k : Nat) : oJ p 5 i k := .inr rfl
theorem o11 (p i : Nat) {k : Nat} (h1 : 11 ≤ k ∧ k ≤ 14) : oA p 11 i k := .inl ⟨rfl, h1⟩
theorem non_0 (F : PF p I1 J1 A1 B1 I J A B) (h5 : g_non I1 J1) : I 3 0 6 = 0 ∧ I 3 0 3 = -1 ∧ I 3 0 5 = -1 := by
  have z : ∀ k, I 3 0 k = I1 3 0 k := fun k => F.1 3 0 k (by unfold oI; omega)
  rw [z, z, z]
  exact ⟨h5.2.2.2.2.1, h5.2.1, h5.2.2.2.1⟩
theorem dep {k : Nat} (e : el I A J B p n) (hk : k < n) : ∃ d, 1 ≤ d ∧ d ≤ 4 ∧ I 3 (1 + 16 * p + k) 6 = Int32.ofNat d ∧ A 106 0 (16 * p + k) = Int32.ofNat d := by
  obtain ⟨⟨g1, g2, g3, ⟨d, d1, d2, d3⟩, g5⟩, -⟩ := e.2.2.2 k hk
  exact ⟨d, d1, d2, g3.trans d3, d3⟩
theorem st_0 (hp : p < 8) (F : PF p I1 J1 A1 B1 I J A B) (h5 : g_non I1 J1) (e : el I A J B p n) (hs : I 5 p 2 = 0) (hm : A 11 0 11 = 0) (ha : ata I A J B p n) (hi : hin h A p n) (c : Int32) : Rl (f56 p c I J h) (f128 (Int32.ofNat p) c A B) (PS p I1 J1 A1 B1) := by
  obtain ⟨bl, bs, -, c2, c3, -, c5⟩ := f128_o (Int32.ofNat p) c A B
  rw [f56_0 _ _ _ _ _ hs, c3, j_0 _ _ _ _ _ _ hm]
  unfold f57 f58 f49
  rw [c2]
  cases bs with
  | true =>
    have n60 : ¬ c = 60 := by
      rcases c5 rfl with rfl | rfl <;> decide
    rw [if_neg n60, if_neg (by decide)]
    exact Rl.ret ⟨rfl, F, fun _ => ⟨n, e, .inl ⟨.inl ⟨hs, hm⟩, ha, hi⟩⟩⟩
  | false =>
    have e0 : b2i false = 0 := rfl
    rw [if_pos e0]
    by_cases c6 : c = 60
    · rw [if_pos c6, if_pos c6]
      have x12 : (mx_u3 A 11 0 11 1) 11 0 12 = A 11 0 12 := by
        rw [u3_at, if_neg (fun z => absurd z.2 (by decide))]
      have F2 : PF p I1 J1 A1 B1 (mx_u3 I 5 p 2 1) J (mx_u3 A 11 0 11 1) B := (F.i (o5 _ _ _) _).a (o11 _ _ (by decide)) _
      have ok : ∃ n, PR p n (mx_u3 I 5 p 2 1) J h (mx_u3 A 11 0 11 1) B := by
        refine ⟨n, e.fr (u5 _ _ _ _) (fr.rf J _) (u11 _ _ _), .inl ⟨.inr ⟨u3_eq _ _ _ _ _, u3_eq _ _ _ _ _⟩, ha.fr (u5 _ _ _ _) (fr.rf J _) (u11 _ _ _), ?_⟩⟩
        unfold hin
        rw [x12]
        exact hi
      rw [x12]
      rcases id hi with ⟨i1, i2⟩ | ⟨k, hk, i1, i2⟩
      · rw [i1, i2, (non_0 F h5).1, if_neg (show ¬ (0 : Int32) < 0 by decide), if_neg (show ¬ (0 : Int32) ≤ -1 by decide), if_neg (i_g hp (by decide)), i_cl (by omega), e.2.1, e.2.2.1]
        by_cases c7 : 16 ≤ n
        · have q : (16 : Int32) ≤ Int32.ofNat n := (n_leL (by decide) (by have := e.1; omega)).mpr c7
          rw [if_pos q, if_pos q]
          exact Rl.ret ⟨rfl, F.a (o11 _ _ (by decide)) _, fun q => absurd (show false = true from q) Bool.false_ne_true⟩
        · have q : ¬ (16 : Int32) ≤ Int32.ofNat n := fun q => c7 ((n_leL (by decide) (by have := e.1; omega)).mp q)
          rw [if_neg q, if_neg q]
          exact Rl.ret ⟨rfl, F2, fun _ => ok⟩
      · obtain ⟨d, d1, d2, d3, d4⟩ := dep e hk
        rw [i1, i2, d3, if_pos ((n_ltL (by decide) (by omega)).mpr (show 0 < d by omega)), if_pos (i_ps (by have := e.1; omega))]
        exact Rl.ret ⟨rfl, F2, fun _ => ok⟩
    · rw [if_neg c6, if_neg c6]
      exact Rl.ret ⟨rfl, F.a (o11 _ _ (by decide)) _, fun q => absurd (show false = true from q) Bool.false_ne_true⟩
end
