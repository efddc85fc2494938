/-! reading a text: what the class and the reference hold between two letters -/
def only {α : Type} (f' f : Nat → Nat → Nat → α) (C : Nat → Nat → Nat → Prop) : Prop := ∀ t i k, ¬ C t i k → f' t i k = f t i k
theorem only.rf {α : Type} (f : Nat → Nat → Nat → α) (C : Nat → Nat → Nat → Prop) : only f f C := fun _ _ _ _ => rfl
theorem only.up {α : Type} {f' f : Nat → Nat → Nat → α} {C : Nat → Nat → Nat → Prop} (h : only f' f C) {t i k : Nat} (hc : C t i k) (v : α) : only (mx_u3 f' t i k v) f C := by
  intro a b c n
  have e : mx_u3 f' t i k v a b c = f' a b c := by
    unfold mx_u3
    rw [if_neg]
    rintro ⟨rfl, rfl, rfl⟩
    exact n hc
  rw [e, h a b c n]
def oI (p t i k : Nat) : Prop := (t = 3 ∧ 1 + 16 * p ≤ i ∧ i < 17 + 16 * p) ∨ (t = 4 ∧ i = p) ∨ t = 5
def oJ (p t i k : Nat) : Prop := ((t = 3 ∨ t = 70 ∨ t = 71) ∧ 1 + 16 * p ≤ i ∧ i < 17 + 16 * p) ∨ t = 5
def oA (p t i k : Nat) : Prop := (t = 11 ∧ 11 ≤ k ∧ k ≤ 14) ∨ (t = 100 ∧ k = p) ∨ ((t = 105 ∨ t = 106 ∨ t = 107) ∧ 16 * p ≤ k ∧ k < 16 * p + 16)
def oB (p t i k : Nat) : Prop := (t = 102 ∧ 16 * p ≤ k ∧ k < 16 * p + 16) ∨ ((t = 103 ∨ t = 104) ∧ 64 * p ≤ k ∧ k < 64 * p + 64)
def PF (p : Nat) (I1 : mI) (J1 : mJ) (A1 : mI) (B1 : mJ) (I : mI) (J : mJ) (A : mI) (B : mJ) : Prop := only I I1 (oI p) ∧ only J J1 (oJ p) ∧ only A A1 (oA p) ∧ only B B1 (oB p)
def atn (I : mI) (J B : mJ) (p k a : Nat) : Prop := a ≤ 4 ∧ I 3 (1 + 16 * p + k) 2 = Int32.ofNat a ∧ ∀ i, i < a → J 70 (1 + 16 * p + k) i = B 103 0 (4 * (16 * p + k) + i) ∧ J 71 (1 + 16 * p + k) i = B 104 0 (4 * (16 * p + k) + i) ∧ 0 ≤ B 104 0 (4 * (16 * p + k) + i)
theorem atn_g {I A : mI} {J B : mJ} {p k : Nat} : g_at I A J B p k ↔ ∃ a, atn I J B p k a ∧ A 107 0 (16 * p + k) = Int32.ofNat a := by
  constructor
  · rintro ⟨a, h1, h2, h3, h4⟩
    exact ⟨a, ⟨h1, h2, h4⟩, h3⟩
  · rintro ⟨a, ⟨h1, h2, h4⟩, h3⟩
    exact ⟨a, h1, h2, h3, h4⟩
def el (I A : mI) (J B : mJ) (p n : Nat) : Prop := n ≤ 16 ∧ I 4 p 2 = Int32.ofNat n ∧ A 100 0 p = Int32.ofNat n ∧ ∀ k, k < n → g_e0 I A J B p k ∧ ∃ L, 1 ≤ L ∧ wd (B 102 0 (16 * p + k)) L
def ata (I A : mI) (J B : mJ) (p n : Nat) : Prop := ∀ k, k < n → g_at I A J B p k
def hin (h : Nat → Nat) (A : mI) (p n : Nat) : Prop := (h p = 0 ∧ A 11 0 12 = -1) ∨ ∃ k, k < n ∧ h p = 1 + 16 * p + k ∧ A 11 0 12 = Int32.ofNat (16 * p + k)
def P0 (I : mI) (J : mJ) (h : Nat → Nat) (A : mI) (B : mJ) (p n : Nat) : Prop := ((I 5 p 2 = 0 ∧ A 11 0 11 = 0) ∨ (I 5 p 2 = 1 ∧ A 11 0 11 = 1)) ∧ ata I A J B p n ∧ hin h A p n
def P9 (I : mI) (J : mJ) (h : Nat → Nat) (A : mI) (B : mJ) (p n : Nat) : Prop := ∃ k, k < n ∧ h p = 1 + 16 * p + k ∧ A 11 0 12 = Int32.ofNat (16 * p + k) ∧ ata I A J B p n ∧ ((I 5 p 2 = 9 ∧ A 11 0 11 = 9 ∧ ∃ L M, L < M ∧ wd (B 102 0 (16 * p + k)) M ∧ I 5 p 4 = Int32.ofNat L ∧ A 11 0 14 = Int32.ofNat L ∧ wn (J 5 p 3) = wn (B 102 0 (16 * p + k)) % 2 ^ (8 * L)) ∨ (I 5 p 2 = 9 ∧ A 11 0 11 = 10 ∧ J 5 p 3 = B 102 0 (16 * p + k)) ∨ (I 5 p 2 = 10 ∧ A 11 0 11 = 10))
def P2 (I : mI) (J : mJ) (h : Nat → Nat) (A : mI) (B : mJ) (p n : Nat) : Prop := ∃ k, k < n ∧ h p = 1 + 16 * p + k ∧ A 11 0 13 = Int32.ofNat (16 * p + k) ∧ ata I A J B p n ∧ ((I 5 p 2 = 2 ∧ A 11 0 11 = 2 ∧ ∃ L, 1 ≤ L ∧ wd (B 102 0 (16 * p + k)) L ∧ J 5 p 3 = B 102 0 (16 * p + k) ∧ I 5 p 4 = Int32.ofNat L ∧ A 11 0 14 = Int32.ofNat L) ∨ (I 5 p 2 = 3 ∧ A 11 0 11 = 3) ∨ (I 5 p 2 = 7 ∧ A 11 0 11 = 7) ∨ (I 5 p 2 = 8 ∧ A 11 0 11 = 8))
def P4 (I : mI) (J : mJ) (h : Nat → Nat) (A : mI) (B : mJ) (p n : Nat) : Prop := ∃ k a, k < n ∧ h p = 1 + 16 * p + k ∧ A 11 0 13 = Int32.ofNat (16 * p + k) ∧ a < 4 ∧ (∀ j, j < n → j ≠ k → g_at I A J B p j) ∧ atn I J B p k a ∧ A 107 0 (16 * p + k) = Int32.ofNat (a + 1) ∧
  ((I 5 p 2 = 4 ∧ A 11 0 11 = 4 ∧ ∃ L, L ≤ 8 ∧ I 5 p 4 = Int32.ofNat L ∧ A 11 0 14 = Int32.ofNat L ∧ B 103 0 (4 * (16 * p + k) + a) = J 5 p 3 ∧ B 104 0 (4 * (16 * p + k) + a) = 0) ∨ (I 5 p 2 = 5 ∧ A 11 0 11 = 5 ∧ B 103 0 (4 * (16 * p + k) + a) = J 5 p 5 ∧ B 104 0 (4 * (16 * p + k) + a) = 0) ∨ (I 5 p 2 = 6 ∧ A 11 0 11 = 6 ∧ ∃ L, wd (J 5 p 3) L ∧ I 5 p 4 = Int32.ofNat L ∧ A 11 0 14 = Int32.ofNat L ∧ B 103 0 (4 * (16 * p + k) + a) = J 5 p 5 ∧ B 104 0 (4 * (16 * p + k) + a) = J 5 p 3))
def PR (p n : Nat) (I : mI) (J : mJ) (h : Nat → Nat) (A : mI) (B : mJ) : Prop := el I A J B p n ∧ (P0 I J h A B p n ∨ P9 I J h A B p n ∨ P2 I J h A B p n ∨ P4 I J h A B p n)
def PS (p : Nat) (I1 : mI) (J1 : mJ) (A1 : mI) (B1 : mJ) (u : Bool × mI × mJ × (Nat → Nat)) (v : Bool × mI × mJ) : Prop := u.1 = v.1 ∧ PF p I1 J1 A1 B1 u.2.1 u.2.2.1 v.2.1 v.2.2 ∧ (u.1 = true → ∃ n, PR p n u.2.1 u.2.2.1 u.2.2.2 v.2.1 v.2.2)
/-! what a change keeps -/
section
variable {I I' A A' : mI} {J J' B B' : mJ} {p n : Nat}
theorem g_e0.kp {k : Nat} (h : g_e0 I A J B p k) (e3 : ∀ j x, j ≤ k → x ≠ 2 → I' 3 (1 + 16 * p + j) x = I 3 (1 + 16 * p + j) x) (e7 : J' 3 (1 + 16 * p + k) 7 = J 3 (1 + 16 * p + k) 7) (a5 : A' 105 0 (16 * p + k) = A 105 0 (16 * p + k)) (a6 : A' 106 0 (16 * p + k) = A 106 0 (16 * p + k)) (b2 : B' 102 0 (16 * p + k) = B 102 0 (16 * p + k)) : g_e0 I' A' J' B' p k := by
  obtain ⟨h1, h2, h3, h4, h5⟩ := h
  unfold g_e0
  rw [e3 k 3 (Nat.le_refl k) (by decide), e3 k 6 (Nat.le_refl k) (by decide), e3 k 4 (Nat.le_refl k) (by decide), e3 k 5 (Nat.le_refl k) (by decide), e7, a5, a6, b2]
  refine ⟨h1, h2, h3, h4, ?_⟩
  rcases h5 with h5 | ⟨j, hj, g1, g2, g3, g4⟩
  · exact .inl h5
  · exact .inr ⟨j, hj, g1, g2, by rw [e3 j 5 (by omega) (by decide)]; exact g3, g4⟩
theorem atn.kp {k a : Nat} (h : atn I J B p k a) (e2 : I' 3 (1 + 16 * p + k) 2 = I 3 (1 + 16 * p + k) 2) (ej : ∀ i, i < a → J' 70 (1 + 16 * p + k) i = J 70 (1 + 16 * p + k) i ∧ J' 71 (1 + 16 * p + k) i = J 71 (1 + 16 * p + k) i ∧ B' 103 0 (4 * (16 * p + k) + i) = B 103 0 (4 * (16 * p + k) + i) ∧ B' 104 0 (4 * (16 * p + k) + i) = B 104 0 (4 * (16 * p + k) + i)) : atn I' J' B' p k a := by
  obtain ⟨h1, h2, h3⟩ := h
  refine ⟨h1, e2.trans h2, fun i hi => ?_⟩
  obtain ⟨q1, q2, q3, q4⟩ := ej i hi
  rw [q1, q2, q3, q4]
  exact h3 i hi
theorem g_at.kp {k : Nat} (h : g_at I A J B p k) (e2 : I' 3 (1 + 16 * p + k) 2 = I 3 (1 + 16 * p + k) 2) (a7 : A' 107 0 (16 * p + k) = A 107 0 (16 * p + k)) (ej : ∀ i, i < 4 → J' 70 (1 + 16 * p + k) i = J 70 (1 + 16 * p + k) i ∧ J' 71 (1 + 16 * p + k) i = J 71 (1 + 16 * p + k) i ∧ B' 103 0 (4 * (16 * p + k) + i) = B 103 0 (4 * (16 * p + k) + i) ∧ B' 104 0 (4 * (16 * p + k) + i) = B 104 0 (4 * (16 * p + k) + i)) : g_at I' A' J' B' p k := by
  obtain ⟨a, h1, h2⟩ := atn_g.mp h
  exact atn_g.mpr ⟨a, h1.kp e2 (fun i hi => ej i (by have := h1.1; omega)), a7.trans h2⟩
theorem el.fr (hI : fr I' I [5]) (hJ : fr J' J [5]) (hA : fr A' A [11]) (h : el I A J B p n) : el I' A' J' B p n := by
  unfold el g_e0 at h ⊢
  rw [hI 3 (by decide), hI 4 (by decide), hJ 3 (by decide), hA 100 (by decide), hA 105 (by decide), hA 106 (by decide)]
  exact h
theorem ata.fr (hI : fr I' I [5]) (hJ : fr J' J [5]) (hA : fr A' A [11]) (h : ata I A J B p n) : ata I' A' J' B p n := by
  unfold ata g_at at h ⊢
  rw [hI 3 (by decide), hJ 70 (by decide), hJ 71 (by decide), hA 107 (by decide)]
  exact h
end
theorem f128_o (p c : Int32) (A : mI) (B : mJ) : ∃ bl bs, f8 c = some bl ∧ f59 c = some bs ∧ f128 p c A B = j128_26 p c (b2i bl) (b2i bs) A B ∧ (bl = true → ∃ k, 97 ≤ k ∧ k ≤ 122 ∧ c = Int32.ofNat k) ∧ (bs = true → c = 32 ∨ c = 10) := by
  have h1 : ∃ bl, f8 c = some bl ∧ f120 c 97 122 = some bl ∧ (bl = true → ∃ k, 97 ≤ k ∧ k ≤ 122 ∧ c = Int32.ofNat k) := by
    unfold f8 f120
    by_cases c1 : c < 97
    · rw [if_pos c1]
      exact ⟨false, rfl, rfl, fun q => absurd q (by decide)⟩
    rw [if_neg c1]
    by_cases c2 : 122 < c
    · rw [if_pos c2]
      exact ⟨false, rfl, rfl, fun q => absurd q (by decide)⟩
    rw [if_neg c2]
    refine ⟨true, rfl, rfl, fun _ => ?_⟩
    have c3 : ¬ c < 0 := fun q => c1 (Int32.lt_trans q (by decide))
    obtain ⟨k, hk, rfl⟩ := i_ofn c3
    have q1 : ¬ k < 97 := fun q => c1 ((n_ltR hk (by decide)).mpr q)
    have q2 : ¬ 122 < k := fun q => c2 ((n_ltL (by decide) hk).mpr q)
    exact ⟨k, by omega, by omega, rfl⟩
  obtain ⟨bl, e1, e2, e3⟩ := h1
  unfold f128 f59
  rw [e2, Option.bind_some]
  by_cases c1 : c = 32
  · rw [if_pos c1, if_pos c1]
    exact ⟨bl, true, e1, rfl, rfl, e3, fun _ => .inl c1⟩
  rw [if_neg c1, if_neg c1]
  by_cases c2 : c = 10
  · rw [if_pos c2, if_pos c2]
    exact ⟨bl, true, e1, rfl, rfl, e3, fun _ => .inr c2⟩
  rw [if_neg c2, if_neg c2]
  exact ⟨bl, false, e1, rfl, rfl, e3, fun q => absurd q (by decide)⟩
theorem u5 (I : mI) (p k : Nat) (v : Int32) : fr (mx_u3 I 5 p k v) I [5] := (fr.rf I _).up (by decide)
theorem u11 (A : mI) (k : Nat) (v : Int32) : fr (mx_u3 A 11 0 k v) A [11] := (fr.rf A _).up (by decide)
theorem v5 (J : mJ) (p k : Nat) (v : Int64) : fr (mx_u3 J 5 p k v) J [5] := (fr.rf J _).up (by decide)
