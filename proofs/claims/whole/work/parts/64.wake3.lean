/-! waking, level by level -/
theorem fw_neg {A X : mI} {B : mJ} (c : Int32) : b153_10 X B (c, -1, 1, 1, A) = some (.inl (c, -1, 0, 0, A)) := by
  unfold b153_10
  simp only
  rw [if_neg (by decide), if_neg (by decide)]
  unfold j153_26
  rw [if_neg (by decide)]
theorem fw_end {A X : mI} {B : mJ} (c d e : Int32) : b153_10 X B (c, d, e, 0, A) = some (.inr (c, d, e, 0, A)) := by
  unfold b153_10
  simp only
  rw [if_pos trivial]
theorem fw_pos {A X : mI} {B : mJ} {q k : Nat} (c : Int32) (hq : q < 8) (hk : k < 4) : b153_10 X B (c, Int32.ofNat (4 * q + k), 1, 1, A) = j153_26 c (Int32.ofNat (4 * q + k)) 1 (Int32.ofNat q) A B := by
  unfold b153_10
  simp only
  rw [if_neg (by decide), if_pos (i_ps (by omega)), (f88_s (I := A) hq hk).2]
theorem fw_kd {A X : mI} {B : mJ} {q k : Nat} (c : Int32) (hq : q < 8) (hk : k < 4) (h : 4 ≤ A 88 0 (4 * q + k)) : b153_10 X B (c, Int32.ofNat (4 * q + k), 1, 1, A) = some (.inl (c, Int32.ofNat (4 * q + k), 1, 0, A)) := by
  rw [fw_pos c hq hk]
  unfold j153_26
  rw [if_pos (i_ps (by omega)), if_neg (i_g (show 4 * q + k < 36 by omega) (by decide)), i_cl (by omega), if_pos h]
theorem fw_on {A X : mI} {B : mJ} {q k : Nat} (c : Int32) (hq : q < 8) (hk : k < 4) (h : ¬ 4 ≤ A 88 0 (4 * q + k)) (h2 : ¬ (A 94 0 q = 0 ∧ A 95 0 q = 0)) : b153_10 X B (c, Int32.ofNat (4 * q + k), 1, 1, A) = some (.inl (c, Int32.ofNat (4 * q + k), 1, 0, A)) := by
  rw [fw_pos c hq hk]
  have g2 := i_g hq (show 8 ≤ 2147483648 by decide)
  have eq : (Int32.ofNat q).toNatClampNeg = q := i_cl (by omega)
  unfold j153_26
  rw [if_pos (i_ps (by omega)), if_neg (i_g (show 4 * q + k < 36 by omega) (by decide)), i_cl (n := 4 * q + k) (by omega), if_neg h, if_neg g2]
  simp only [eq]
  by_cases c1 : A 94 0 q = 0
  · rw [if_pos c1]
    have g2' : ¬ (Int32.ofNat q < 0 ∨ 8 ≤ q) := by rw [eq] at g2; exact g2
    rw [if_neg g2', if_neg (fun z => h2 ⟨c1, z⟩)]
  · rw [if_neg c1]
theorem fw_st {A X : mI} {B : mJ} {q k c : Nat} (hc : c < 8) (hq : q < 8) (hk : k < 4) (h : ¬ 4 ≤ A 88 0 (4 * q + k)) (h1 : A 94 0 q = 0) (h2 : A 95 0 q = 0) : b153_10 X B (Int32.ofNat c, Int32.ofNat (4 * q + k), 1, 1, A) = if A 89 0 q ≤ 0 ∨ B 91 0 q = 0 then some (.inl (Int32.ofNat (c + 1), 0, 1, 0, wA A c q)) else (f152 (Int32.ofNat q) (B 91 0 q) (wA A c q) B).bind fun u => some (.inl (Int32.ofNat (c + 1), u, 1, 1, wA A c q)) := by
  rw [fw_pos _ hq hk]
  have g1 : ¬ (Int32.ofNat c < 0 ∨ 8 ≤ c) := fun z => z.elim (fun z => i_nn (by omega) z) (fun z => by omega)
  have g2 : ¬ (Int32.ofNat q < 0 ∨ 8 ≤ q) := fun z => z.elim (fun z => i_nn (by omega) z) (fun z => by omega)
  have g3 : ¬ (Int32.ofNat q < 0 ∨ 9 ≤ q) := fun z => z.elim (fun z => i_nn (by omega) z) (fun z => by omega)
  have g4 : ¬ (Int32.ofNat (4 * q + k) < 0 ∨ 36 ≤ 4 * q + k) := fun z => z.elim (fun z => i_nn (by omega) z) (fun z => by omega)
  have eq : (Int32.ofNat q).toNatClampNeg = q := i_cl (by omega)
  have ec : (Int32.ofNat c).toNatClampNeg = c := i_cl (by omega)
  have ek : (Int32.ofNat (4 * q + k)).toNatClampNeg = 4 * q + k := i_cl (by omega)
  have e1 : Int32.ofNat c + 1 = Int32.ofNat (c + 1) := n_addR c 1
  unfold j153_26 j153_127 j153_128
  simp only [eq, ec, ek, nar1, e1]
  rw [if_pos (i_ps (by omega)), if_neg g4, if_neg h, if_neg g2, if_pos h1, if_neg g2, if_pos h2, if_neg g2, if_neg g2, if_neg g2, if_neg g1, if_neg g3, if_pos trivial]
  by_cases d1 : A 89 0 q ≤ 0
  · rw [if_pos d1, if_pos (.inl d1)]
    rfl
  · rw [if_neg d1, if_neg g3]
    by_cases d2 : B 91 0 q = 0
    · rw [if_pos ((c_cmp _ _).mpr d2), if_pos (.inr d2)]
      rfl
    · rw [if_neg (fun z => d2 ((c_cmp _ _).mp z)), if_neg (by decide), if_neg g3, if_neg (fun z => z.elim d1 d2)]
      rfl
theorem f87_4 {I A : mI} {J : mJ} {q k : Nat} {fw : Int32 → Int32 → mI → mJ → Option (Bool × mI)} (x2 : Int32) (hq : q < 8) (hk : k < 4) (e : I 69 (q + 1) k = A 88 0 (4 * q + k)) (hd : g_kd (A 88 0 (4 * q + k))) : f87 fw (Int32.ofNat (4 * q + k)) x2 I J = if 4 ≤ A 88 0 (4 * q + k) then some (true, I) else fw (Int32.ofNat q) x2 I J := by
  obtain ⟨e1, e2⟩ := f88_s (I := I) hq hk
  unfold f87 f89
  rw [e1, Option.bind_some, Option.bind_some, e, e2]
  by_cases c : 4 ≤ A 88 0 (4 * q + k)
  · rw [if_pos c, if_neg (fun z => (kd_4 hd).mp z c)]
  · rw [if_neg c, if_pos ((kd_4 hd).mpr c)]
    cases fw (Int32.ofNat q) x2 I J with
    | none => rfl
    | some u =>
      obtain ⟨b, I'⟩ := u
      cases b <;> rfl
/-- what waking comes to -/
def wkr (I0 A0 : mI) (J B : mJ) (m c : Nat) (I A : mI) (r : Int32) : Prop := ∃ b I' c' z A2 A' ok, (r = -1 → b = false ∧ I' = I) ∧ (¬ r = -1 → f87 (wk (m + 1)) r (Int32.ofNat c) I J = some (b, I')) ∧ (∀ X f, m + 2 ≤ f → mx_lp (b153_10 X B) f (Int32.ofNat c, r, 1, 1, A) = some (Int32.ofNat c', z, b2i ok, 0, A2)) ∧ c ≤ c' ∧ c' ≤ 8 ∧ (∀ X f, mx_lp (b153_161 X B) (f + (c' - c)) (b2i ok, Int32.ofNat c' - 1, A2) = mx_lp (b153_161 X B) f (b2i b, Int32.ofNat c - 1, A')) ∧ wm I0 A0 I' A' ∧ (∀ q, q < 8 → A' 95 0 q = A 95 0 q) ∧ ∀ k, k < c → A' 101 0 k = A 101 0 k
theorem wkr_neg {I0 A0 : mI} {J B : mJ} {m c : Nat} {I A : mI} (hcm : c + m = 8) (h : wm I0 A0 I A) : wkr I0 A0 J B m c I A (-1) := by
  refine ⟨false, I, c, -1, A, A, false, fun _ => ⟨rfl, rfl⟩, fun z => absurd rfl z, fun X f hf => ?_, Nat.le_refl c, by omega, fun X f => ?_, h, fun _ _ => rfl, fun _ _ => rfl⟩
  · obtain ⟨f, rfl⟩ : ∃ g, f = g + 1 + 1 := ⟨f - 2, by omega⟩
    rw [lp_n (fw_neg _)]
    exact lp_e (fw_end _ _ _)
  · rw [Nat.sub_self]
    rfl
theorem wkr_stop {I0 A0 : mI} {J B : mJ} {m c q k : Nat} {I A : mI} (hcm : c + m = 8) (h : wm I0 A0 I A) (hq : q < 8) (hk : k < 4) (e69 : I 69 (q + 1) k = A 88 0 (4 * q + k)) (ekd : g_kd (A 88 0 (4 * q + k))) (hs : 4 ≤ A 88 0 (4 * q + k) ∨ ¬ (A 94 0 q = 0 ∧ A 95 0 q = 0)) : wkr I0 A0 J B m c I A (Int32.ofNat (4 * q + k)) := by
  have e95 := (h.2.2.2 q hq).1
  have e94 := (h.2.2.2 q hq).2.2.1
  refine ⟨true, I, c, Int32.ofNat (4 * q + k), A, A, true, fun z => absurd z (i_m1 (by omega)), fun _ => ?_, fun X f hf => ?_, Nat.le_refl c, by omega, fun X f => ?_, h, fun _ _ => rfl, fun _ _ => rfl⟩
  · rw [f87_4 _ hq hk e69 ekd]
    by_cases c1 : 4 ≤ A 88 0 (4 * q + k)
    · rw [if_pos c1]
    · rw [if_neg c1]
      have hs2 := hs.resolve_left c1
      show f90 (wk m) (Int32.ofNat q) (Int32.ofNat c) I J = _
      unfold f90
      rw [if_neg (i_g hq (by decide)), i_cl (by omega), e94, e95]
      by_cases d1 : A 94 0 q = 0
      · rw [if_pos d1, if_neg (fun z => hs2 ⟨d1, z⟩)]
      · rw [if_neg d1]
  · obtain ⟨f, rfl⟩ : ∃ g, f = g + 1 + 1 := ⟨f - 2, by omega⟩
    by_cases c1 : 4 ≤ A 88 0 (4 * q + k)
    · rw [lp_n (fw_kd _ hq hk c1)]
      exact lp_e (fw_end _ _ _)
    · rw [lp_n (fw_on _ hq hk c1 (hs.resolve_left c1))]
      exact lp_e (fw_end _ _ _)
  · rw [Nat.sub_self]
    rfl
theorem wake_s {I0 A0 : mI} {J B : mJ} (a2 : g_wir I0 A0 J B) (a6 : ∀ p, p < 8 → ¬ A0 93 0 p = 0 → ¬ A0 92 0 p = 0 ∧ ∀ n k, n ≤ 3 → A0 83 0 p = Int32.ofNat n → k < n → g_mt A0 p k) : ∀ m c (I A : mI) r, c + m = 8 → wm I0 A0 I A → cn (stb A) 8 = c → fnd A0 r → wkr I0 A0 J B m c I A r := by
  intro m
  induction m with
  | zero =>
    intro c I A r hcm h hc hr
    rcases hr with rfl | ⟨q, k, n, hq, hn, n1, hk, rfl, hres⟩
    · exact wkr_neg hcm h
    · obtain ⟨n2, hn2, d1, d2, d3⟩ := cl_of a2 hq
      have en : n2 = n := by
        rw [n1] at d2
        exact ((i_eq (by omega) (by omega)).mp d2).symm
      subst en
      have e69 : I 69 (q + 1) k = A 88 0 (4 * q + k) := by
        rw [h.1.c (t := 69) (by decide), h.2.1.c (t := 88) (by decide)]
        exact (d3 k hk).2.1
      have ekd : g_kd (A 88 0 (4 * q + k)) := by
        rw [h.2.1.c (t := 88) (by decide)]
        exact (d3 k hk).2.2
      refine wkr_stop hcm h hq (by omega) e69 ekd (.inr (fun z => ?_))
      have y := cn_up (d := 0) hq z.2 hc
      have y2 := cn_le (stb (wA A 0 q)) 8
      omega
  | succ m ih =>
    intro c I A r hcm h hc hr
    rcases hr with rfl | ⟨q, k, n, hq, hn, n1, hk, rfl, hres⟩
    · exact wkr_neg hcm h
    · obtain ⟨n2, hn2, d1, d2, d3⟩ := cl_of a2 hq
      have en : n2 = n := by
        rw [n1] at d2
        exact ((i_eq (by omega) (by omega)).mp d2).symm
      subst en
      have e69 : I 69 (q + 1) k = A 88 0 (4 * q + k) := by
        rw [h.1.c (t := 69) (by decide), h.2.1.c (t := 88) (by decide)]
        exact (d3 k hk).2.1
      have ekd : g_kd (A 88 0 (4 * q + k)) := by
        rw [h.2.1.c (t := 88) (by decide)]
        exact (d3 k hk).2.2
      by_cases hs : 4 ≤ A 88 0 (4 * q + k) ∨ ¬ (A 94 0 q = 0 ∧ A 95 0 q = 0)
      · exact wkr_stop hcm h hq (by omega) e69 ekd hs
      have s1 : ¬ 4 ≤ A 88 0 (4 * q + k) := fun z => hs (.inl z)
      have s2 : A 94 0 q = 0 ∧ A 95 0 q = 0 := Decidable.byContradiction (fun z => hs (.inr z))
      have hk4 : k < 4 := by omega
      have hc8 : c < 8 := by omega
      have i6 : I 6 q 6 = 0 := (h.2.2.2 q hq).2.2.1.trans s2.1
      have i5 : I 6 q 5 = 0 := (h.2.2.2 q hq).1.trans s2.2
      have h1 := h.st c q
      have hc1 : cn (stb (wA A c q)) 8 = c + 1 := cn_up hq s2.2 hc
      obtain ⟨t1, t2, t3⟩ := st_of a2 hq
      have x27 : ∀ I1 : mI, fr I1 I0 [6] → I1 2 (q + 1) 7 = A0 89 0 q := fun I1 f => (f.c (t := 2) (by decide)).trans t1
      have x89 : ∀ A1 : mI, fr A1 A0 [94, 95, 99, 101] → A1 89 0 q = A0 89 0 q := fun A1 f => f.c (t := 89) (by decide)
      have n95 : ∀ (A1 : mI) b p, vA A1 q b 95 0 p = if p = q then 0 else A1 95 0 p := fun A1 b p => by
        unfold vA
        rw [u3_ne (by decide), u3_at]
        by_cases e : p = q
        · rw [if_pos ⟨rfl, e⟩, if_pos e]
        · rw [if_neg (fun z => e z.2), if_neg e]
      have w95 : ∀ p, wA A c q 95 0 p = if p = q then 1 else A 95 0 p := fun p => by
        unfold wA
        rw [u3_ne (by decide), u3_ne (by decide), u3_at]
        by_cases e : p = q
        · rw [if_pos ⟨rfl, e⟩, if_pos e]
        · rw [if_neg (fun z => e z.2), if_neg e]
      have n101 : ∀ (A1 : mI) b j, vA A1 q b 101 0 j = A1 101 0 j := fun A1 b j => by
        unfold vA
        rw [u3_ne (by decide), u3_ne (by decide)]
      have w101 : ∀ j, wA A c q 101 0 j = if j = c then Int32.ofNat q else A 101 0 j := fun j => by
        unfold wA
        rw [u3_at, u3_ne (by decide), u3_ne (by decide)]
        by_cases e : j = c
        · rw [if_pos ⟨rfl, e⟩, if_pos e]
        · rw [if_neg (fun z => e z.2), if_neg e]
      have f87e : f87 (wk (m + 1 + 1)) (Int32.ofNat (4 * q + k)) (Int32.ofNat c) I J = (f91 (wk (m + 1)) (Int32.ofNat q) (Int32.ofNat c) (wI I q) J).bind fun u => some (u.1, vI u.2 q u.1) := by
        rw [f87_4 _ hq hk4 e69 ekd, if_neg s1]
        exact f90_s hq hc8 i6 i5
      have g := i_g hq (show 8 ≤ 2147483648 by decide)
      have eq : (Int32.ofNat q).toNatClampNeg = q := i_cl (by omega)
      have p95 : ∀ (A1 : mI) b, (∀ p, p < 8 → A1 95 0 p = wA A c q 95 0 p) → ∀ p, p < 8 → vA A1 q b 95 0 p = A 95 0 p := fun A1 b z p hp => by
        rw [n95]
        by_cases e : p = q
        · rw [if_pos e, e, s2.2]
        · rw [if_neg e, z p hp, w95, if_neg e]
      by_cases hw : A 89 0 q ≤ 0 ∨ B 91 0 q = 0
      · -- no word
        have j0 : J 2 (q + 1) 8 = 0 := by
          rw [t3]
          by_cases z : A0 89 0 q = 0
          · rw [if_pos z]
          · rw [if_neg z]
            rcases hw with hw | hw
            · rw [x89 A h.2.1] at hw
              rcases t2 with t2 | t2 | t2
              · exact absurd t2 z
              · rw [t2] at hw
                exact absurd hw (by decide)
              · rw [t2] at hw
                exact absurd hw (by decide)
            · exact hw
        have e91 : f91 (wk (m + 1)) (Int32.ofNat q) (Int32.ofNat c) (wI I q) J = some (decide (¬ A 89 0 q = 2), wI I q) := by
          unfold f91
          rw [if_neg g, eq, j0, if_pos ((c_cmp _ _).mpr rfl), x27 _ h1.1, x89 A h.2.1]
          by_cases z : A0 89 0 q = 2
          · rw [if_pos z, decide_eq_false (fun y => y z)]
          · rw [if_neg z, decide_eq_true z]
        refine ⟨decide (¬ A 89 0 q = 2), vI (wI I q) q (decide (¬ A 89 0 q = 2)), c + 1, 0, wA A c q, vA (wA A c q) q (decide (¬ A 89 0 q = 2)), true, fun z => absurd z (i_m1 (by omega)), fun _ => ?_, fun X f hf => ?_, by omega, by omega, fun X f => ?_, h1.dn _ hres, p95 _ _ (fun _ _ => rfl), fun j hj => ?_⟩
        · rw [f87e, e91]
          rfl
        · obtain ⟨f, rfl⟩ : ∃ g, f = g + 1 + 1 := ⟨f - 2, by omega⟩
          have z := fw_st (X := X) (B := B) hc8 hq hk4 s1 s2.1 s2.2
          rw [if_pos hw] at z
          rw [lp_n z]
          exact lp_e (fw_end _ _ _)
        · rw [show c + 1 - c = 1 by omega, bw1 true f hc8 hq (by rw [w101, if_pos rfl]), Bool.true_and, x89 _ h1.2.1, x89 _ h.2.1]
        · rw [n101, w101, if_neg (by omega)]
      · have hw1 : ¬ A0 89 0 q = 0 := fun z => hw (.inl (by rw [x89 A h.2.1, z]; decide))
        have hw2 : ¬ B 91 0 q = 0 := fun z => hw (.inr z)
        have j1 : J 2 (q + 1) 8 = B 91 0 q := by
          rw [t3, if_neg hw1]
        have w2 : g_wir (wI I q) (wA A c q) J B := a2.fr h1.1 (fr.rf J []) h1.2.1 (fr.rf B []) (by decide)
        have w6 : ∀ p, p < 8 → ¬ (wA A c q) 93 0 p = 0 → ¬ (wA A c q) 92 0 p = 0 ∧ ∀ n k, n ≤ 3 → (wA A c q) 83 0 p = Int32.ofNat n → k < n → g_mt (wA A c q) p k := by
          unfold g_mt
          rw [h1.2.1 93 (by decide), h1.2.1 92 (by decide), h1.2.1 83 (by decide), h1.2.1 84 (by decide), h1.2.1 85 (by decide), h1.2.1 86 (by decide), h1.2.1 96 (by decide)]
          exact a6
        obtain ⟨r, r1, r2, r3⟩ := f85_s w2 w6 hq (by rw [h1.2.1.c (t := 93) (by decide)]; exact hres) (B 91 0 q)
        have r4 : fnd A0 r := by
          unfold fnd at r3 ⊢
          rw [h1.2.1 87 (by decide), h1.2.1 93 (by decide)] at r3
          exact r3
        obtain ⟨b1, I1, c1, z1, A2, A1, ok, y1, y2, y3, y4, y5, y6, y7, y8, y9⟩ := ih (c + 1) (wI I q) (wA A c q) r (by omega) h1 hc1 r4
        have e91 : f91 (wk (m + 1)) (Int32.ofNat q) (Int32.ofNat c) (wI I q) J = some (b1 && decide (¬ A 89 0 q = 2), I1) := by
          unfold f91
          rw [if_neg g, eq, j1, if_neg (fun z => hw2 ((c_cmp _ _).mp z)), r1, Option.bind_some]
          by_cases hr1 : r = -1
          · obtain ⟨v1, v2⟩ := y1 hr1
            rw [if_pos hr1, v1, v2]
            rfl
          · have e1 : Int32.ofNat c + 1 = Int32.ofNat (c + 1) := n_addR c 1
            rw [if_neg hr1, e1, y2 hr1, Option.bind_some]
            simp only
            rw [x27 _ y7.1, x89 A h.2.1]
            cases b1 with
            | false => rfl
            | true =>
              rw [if_pos rfl, Bool.true_and]
              by_cases z : A0 89 0 q = 2
              · rw [if_pos z, decide_eq_false (fun y => y z)]
              · rw [if_neg z, decide_eq_true z]
        refine ⟨b1 && decide (¬ A 89 0 q = 2), vI I1 q (b1 && decide (¬ A 89 0 q = 2)), c1, z1, A2, vA A1 q (b1 && decide (¬ A 89 0 q = 2)), ok, fun z => absurd z (i_m1 (by omega)), fun _ => ?_, fun X f hf => ?_, by omega, by omega, fun X f => ?_, y7.dn _ hres, p95 _ _ y8, fun j hj => ?_⟩
        · rw [f87e, e91]
          rfl
        · obtain ⟨f, rfl⟩ : ∃ g, f = g + 1 := ⟨f - 1, by omega⟩
          have z := fw_st (X := X) (B := B) hc8 hq hk4 s1 s2.1 s2.2
          rw [if_neg hw, r2, Option.bind_some] at z
          rw [lp_n z]
          exact y3 X f (by omega)
        · rw [show f + (c1 - c) = f + 1 + (c1 - (c + 1)) by omega, y6 X (f + 1), bw1 b1 f hc8 hq (by rw [y9 c (by omega), w101, if_pos rfl]), x89 _ y7.2.1, x89 _ h.2.1]
        · rw [n101, y9 j (by omega), w101, if_neg (by omega)]
