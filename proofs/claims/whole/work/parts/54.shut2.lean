/-- 0 or 1 for no or yes -/
def yn (x : Int32) (P : Prop) : Prop := (x = 0 ∧ ¬ P) ∨ (x = 1 ∧ P)
theorem yn.or0 {x : Int32} {P Q : Prop} (h : yn x P) (e : P ↔ Q) : yn (x ||| 0) Q := by
  rcases h with ⟨rfl, h⟩ | ⟨rfl, h⟩
  · exact .inl ⟨by decide, fun q => h (e.mpr q)⟩
  · exact .inr ⟨by decide, e.mp h⟩
theorem yn.or1 {x : Int32} {P Q : Prop} (h : yn x P) (hq : Q) : yn (x ||| 1) Q := by
  rcases h with ⟨rfl, h⟩ | ⟨rfl, h⟩
  · exact .inr ⟨by decide, hq⟩
  · exact .inr ⟨by decide, hq⟩
def nedq (A : mI) (p q n : Nat) : Prop := q ≠ p ∧ ¬ A 94 0 q = 0 ∧ ∃ k, k < n ∧ A 84 0 (3 * q + k) = Int32.ofNat p
theorem b149i {A : mI} {p q n : Nat} (x1 x2 : Int32) (hp : p < 8) (hq : q < 8) (hn : n ≤ 3) (h2 : A 83 0 q = Int32.ofNat n) {x : Int32} {P : Prop} (hx : yn x P) : Sm (mx_lp (b149_42 x1 x2 (Int32.ofNat p) (Int32.ofNat q) A) mx_fu (x, (0 : Int32))) (fun r => yn r.1 (P ∨ nedq A p q n)) := by
  refine Sm.lp (fun s => ∃ k, k ≤ n ∧ s.2 = Int32.ofNat k ∧ yn s.1 (P ∨ nedq A p q k)) (fun s => 3 - s.2.toNatClampNeg) ?_ mx_fu ⟨0, by omega, rfl, ?_⟩ (by show 3 - 0 < 1000; decide)
  · rintro ⟨x, _⟩ ⟨k, hk, rfl, hx⟩
    simp only at hx
    have e3 : (3 : Int32) * Int32.ofNat q + Int32.ofNat k = Int32.ofNat (3 * q + k) := by
      rw [show (3 : Int32) * Int32.ofNat q = Int32.ofNat (3 * q) from n_mulL 3 q, i_add]
    unfold b149_42
    simp only
    rw [if_neg (i_g (n := q) (N := 9) (by omega) (by decide)), if_neg (i_g (n := q) (N := 8) (by omega) (by decide)), i_cl (n := q) (by omega), h2]
    rcases Nat.lt_or_ge k n with c | c
    · rw [if_neg (fun q => absurd ((i_le (by omega) (by omega)).mp q) (by omega))]
      by_cases c1 : A 94 0 q = 0
      · rw [if_pos c1]
        refine Sm.ret ?_
        rcases hx with ⟨z, z2⟩ | ⟨z, z2⟩
        · exact .inl ⟨z, fun w => z2 (w.elim .inl (fun w => absurd c1 w.2.1))⟩
        · exact .inr ⟨z, z2.elim .inl (fun w => absurd c1 w.2.1)⟩
      rw [if_neg c1]
      have nx : ∀ x', yn x' (P ∨ nedq A p q (k + 1)) → Sm (some (Sum.inl (x', Int32.ofNat k + 1) : (Int32 × Int32) ⊕ (Int32 × Int32))) (fun r => Sum.elim (fun s' => (∃ k, k ≤ n ∧ s'.2 = Int32.ofNat k ∧ yn s'.1 (P ∨ nedq A p q k)) ∧ 3 - s'.2.toNatClampNeg < 3 - (Int32.ofNat k).toNatClampNeg) (fun r => yn r.1 (P ∨ nedq A p q n)) r) := fun x' hx' => Sm.ret ⟨⟨k + 1, by omega, n_addR k 1, hx'⟩, m_dd (by omega) (by omega)⟩
      by_cases c2 : q = p
      · rw [if_pos (by rw [c2])]
        exact nx _ (hx.or0 ⟨fun w => w.elim .inl (fun w => absurd c2 w.1), fun w => w.elim .inl (fun w => absurd c2 w.1)⟩)
      · rw [if_neg (fun z => c2 ((i_eq (by omega) (by omega)).mp z)), e3, if_neg (i_g (n := 3 * q + k) (N := 27) (by omega) (by decide)), i_cl (n := 3 * q + k) (by omega)]
        by_cases c3 : A 84 0 (3 * q + k) = Int32.ofNat p
        · rw [if_pos c3]
          exact nx _ (hx.or1 (.inr ⟨c2, c1, k, by omega, c3⟩))
        · rw [if_neg c3]
          refine nx _ (hx.or0 ⟨fun w => w.elim .inl (fun w => ?_), fun w => w.elim .inl (fun w => ?_)⟩)
          · obtain ⟨w1, w2, k2, w3, w4⟩ := w
            exact .inr ⟨w1, w2, k2, by omega, w4⟩
          · obtain ⟨w1, w2, k2, w3, w4⟩ := w
            refine .inr ⟨w1, w2, k2, ?_, w4⟩
            by_cases ck : k2 = k
            · subst ck
              exact absurd w4 c3
            · omega
    · have e : k = n := by omega
      subst e
      rw [if_pos ((i_le (by omega) (by omega)).mpr (by omega))]
      exact Sm.ret hx
  · rcases hx with ⟨z, z2⟩ | ⟨z, z2⟩
    · exact .inl ⟨z, fun w => w.elim z2 (fun w => by obtain ⟨-, -, k, hk, -⟩ := w; omega)⟩
    · exact .inr ⟨z, .inl z2⟩
theorem f149_s {I A : mI} {J B : mJ} (a2 : g_wir I A J B) : Sm (f149 A) (nxs A) := by
  have hin : ∀ (p : Nat) (x2 : Int32), p < 8 → Sm (mx_lp (b149_32 (Int32.ofNat p) x2 (Int32.ofNat p) A) mx_fu ((0 : Int32), (0 : Int32))) (fun r => yn r.1 (ned A p)) := by
    intro p x2 hp
    refine Sm.lp (fun s => ∃ q, q ≤ 8 ∧ s.2 = Int32.ofNat q ∧ yn s.1 (∃ q2, q2 < q ∧ ∃ n, n ≤ 3 ∧ A 83 0 q2 = Int32.ofNat n ∧ nedq A p q2 n)) (fun s => 8 - s.2.toNatClampNeg) ?_ mx_fu ⟨0, by omega, rfl, .inl ⟨rfl, fun ⟨q2, h, _⟩ => by omega⟩⟩ (by decide)
    rintro ⟨x, _⟩ ⟨q, hq, rfl, hx⟩
    simp only at hx
    unfold b149_32
    simp only
    rcases Nat.lt_or_ge q 8 with c | c
    · rw [if_neg (fun q => absurd ((n_leL (by decide) (by omega)).mp q) (by omega))]
      obtain ⟨n, hn, -, h2, -⟩ := nd_of a2 c
      obtain ⟨r, e1, e2⟩ := b149i (Int32.ofNat p) x2 hp c hn h2 hx
      rw [e1, Option.bind_some]
      refine Sm.ret ⟨⟨q + 1, by omega, n_addR q 1, ?_⟩, ?_⟩
      · have e3 : ((∃ q2, q2 < q ∧ ∃ n, n ≤ 3 ∧ A 83 0 q2 = Int32.ofNat n ∧ nedq A p q2 n) ∨ nedq A p q n) ↔ ∃ q2, q2 < q + 1 ∧ ∃ n, n ≤ 3 ∧ A 83 0 q2 = Int32.ofNat n ∧ nedq A p q2 n := by
          constructor
          · rintro (⟨q2, w1, w2⟩ | w)
            · exact ⟨q2, by omega, w2⟩
            · exact ⟨q, by omega, n, hn, h2, w⟩
          · rintro ⟨q2, w1, n2, w2, w3, w4⟩
            by_cases cq : q2 = q
            · subst cq
              rw [h2, i_eq (by omega) (by omega)] at w3
              subst w3
              exact .inr w4
            · exact .inl ⟨q2, by omega, n2, w2, w3, w4⟩
        rcases e2 with ⟨z, z2⟩ | ⟨z, z2⟩
        · exact .inl ⟨z, fun w => z2 (e3.mpr w)⟩
        · exact .inr ⟨z, e3.mp z2⟩
      · first | exact m_dc (by omega) (by omega) | exact m_dd (by omega) (by omega)
    · have e : q = 8 := by omega
      subst e
      rw [if_pos (by decide)]
      refine Sm.ret ?_
      have e3 : (∃ q2, q2 < 8 ∧ ∃ n, n ≤ 3 ∧ A 83 0 q2 = Int32.ofNat n ∧ nedq A p q2 n) ↔ ned A p := by
        constructor
        · rintro ⟨q2, w1, n, w2, w3, w4, w5, k, w6, w7⟩
          exact ⟨q2, w1, w4, w5, n, k, w2, w3, w6, w7⟩
        · rintro ⟨q2, w1, w4, w5, n, k, w2, w3, w6, w7⟩
          exact ⟨q2, w1, n, w2, w3, w4, w5, k, w6, w7⟩
      rcases hx with ⟨z, z2⟩ | ⟨z, z2⟩
      · exact .inl ⟨z, fun w => z2 (e3.mpr w)⟩
      · exact .inr ⟨z, e3.mp z2⟩
  have up : ∀ (P : Nat → Prop) (p : Nat) (r : Int32), gr8 P 0 p r → ¬ P p → gr8 P 0 (p + 1) r := by
    intro P p r h hn
    rcases h with ⟨z1, z2⟩ | ⟨g, g1, g2, g3, g4, g5⟩
    · refine .inl ⟨z1, fun q q1 q2 => ?_⟩
      by_cases cq : q = p
      · subst cq
        exact hn
      · exact z2 q q1 (by omega)
    · refine .inr ⟨g, g1, by omega, g3, g4, fun q q1 q2 => ?_⟩
      by_cases cq : q = p
      · subst cq
        exact hn
      · exact g5 q q1 (by omega)
  have here : ∀ (P : Nat → Prop) (p : Nat), P p → gr8 P 0 (p + 1) (Int32.ofNat p) := fun P p h => .inr ⟨p, by omega, by omega, rfl, h, fun q q1 q2 => by omega⟩
  have hl : Sm (mx_lp (b149_6 A) mx_fu ((-1 : Int32), (-1 : Int32), (0 : Int32))) (fun r => gr8 (fun q => ¬ A 94 0 q = 0) 0 8 r.1 ∧ gr8 (fun q => ¬ A 94 0 q = 0 ∧ ¬ ned A q) 0 8 r.2.1) := by
    refine Sm.lp (fun s => ∃ p, p ≤ 8 ∧ s.2.2 = Int32.ofNat p ∧ gr8 (fun q => ¬ A 94 0 q = 0) 0 p s.1 ∧ gr8 (fun q => ¬ A 94 0 q = 0 ∧ ¬ ned A q) 0 p s.2.1) (fun s => 8 - s.2.2.toNatClampNeg) ?_ mx_fu ⟨0, by omega, rfl, .inl ⟨rfl, fun q q1 q2 => absurd q2 (by omega)⟩, .inl ⟨rfl, fun q q1 q2 => absurd q2 (by omega)⟩⟩ (by decide)
    rintro ⟨g, f, _⟩ ⟨p, hp, rfl, h1, h2⟩
    simp only at h1 h2
    unfold b149_6
    simp only
    rcases Nat.lt_or_ge p 8 with c | c
    · rw [if_neg (fun q => absurd ((n_leL (by decide) (by omega)).mp q) (by omega)), if_neg (i_g c (by decide)), i_cl (by omega)]
      by_cases c1 : A 94 0 p = 0
      · rw [if_pos c1]
        refine Sm.ret ⟨⟨p + 1, by omega, n_addR p 1, up _ p _ h1 (fun z => z c1), up _ p _ h2 (fun z => z.1 c1)⟩, ?_⟩
        first | exact m_dc (by omega) (by omega) | exact m_dd (by omega) (by omega)
      · obtain ⟨r, e1, e2⟩ := hin p f c
        rw [if_neg c1, e1, Option.bind_some]
        rcases e2 with ⟨z, z2⟩ | ⟨z, z2⟩
        · rw [if_pos z]
          refine Sm.ret ⟨⟨p + 1, by omega, n_addR p 1, here _ p c1, here _ p ⟨c1, z2⟩⟩, ?_⟩
          first | exact m_dc (by omega) (by omega) | exact m_dd (by omega) (by omega)
        · rw [if_neg (fun q => by rw [z] at q; exact absurd q (by decide))]
          refine Sm.ret ⟨⟨p + 1, by omega, n_addR p 1, here _ p c1, up _ p _ h2 (fun w => w.2 z2)⟩, ?_⟩
          first | exact m_dc (by omega) (by omega) | exact m_dd (by omega) (by omega)
    · have e : p = 8 := by omega
      subst e
      rw [if_pos (by decide)]
      exact Sm.ret ⟨h1, h2⟩
  obtain ⟨r, e1, h1, h2⟩ := hl
  unfold f149
  rw [e1, Option.bind_some]
  rcases h2 with ⟨z1, z2⟩ | ⟨g, g1, g2, g3, g4, g5⟩
  · rw [z1, if_pos (by decide)]
    exact Sm.ret (.inr ⟨fun q hq => z2 q (by omega) hq, h1⟩)
  · rw [g3, if_neg (i_nn (by omega))]
    exact Sm.ret (.inl ⟨g, g2, rfl, .inr ⟨g, g1, g2, rfl, g4, g5⟩⟩)
/-- a plugin or none -/
theorem nxs_p {A : mI} {r : Int32} (h : nxs A r) : (r = -1 ∧ ∀ p, p < 8 → A 94 0 p = 0) ∨ ∃ p, p < 8 ∧ r = Int32.ofNat p ∧ ¬ A 94 0 p = 0 := by
  rcases h with ⟨g, hg, e, h⟩ | ⟨h0, h⟩
  · rcases h with ⟨h, -⟩ | ⟨g', -, hg', e', h3, -⟩
    · rw [e] at h
      exact absurd h (i_m1 (by omega))
    · exact .inr ⟨g', hg', e', h3.1⟩
  · rcases h with ⟨h, h2⟩ | ⟨g', -, hg', e', h3, -⟩
    · refine .inl ⟨h, fun p hp => ?_⟩
      by_cases c : A 94 0 p = 0
      · exact c
      · exact absurd c (h2 p (by omega) hp)
    · exact .inr ⟨g', hg', e', h3⟩
def actb (A : mI) (p : Nat) : Bool := decide (¬ A 94 0 p = 0)
theorem cn_dn {P Q : Nat → Bool} {p : Nat} (h1 : P p = true) (h2 : Q p = false) (h3 : ∀ q, q ≠ p → Q q = P q) : ∀ N, (N ≤ p → cn Q N = cn P N) ∧ (p < N → cn Q N + 1 = cn P N) := by
  intro N
  induction N with
  | zero => exact ⟨fun _ => rfl, fun h => by omega⟩
  | succ N ih =>
    constructor
    · intro h
      simp only [cn, ih.1 (by omega), h3 N (by omega)]
    · intro h
      by_cases c : N = p
      · subst c
        rw [cn_t h1, cn_f h2, ih.1 (by omega)]
      · have := ih.2 (by omega)
        simp only [cn, h3 N c]
        omega
theorem i_sub1 (a b : Int32) : a + 1 - b = a - b + 1 := by
  rw [Int32.sub_eq_add_neg, Int32.sub_eq_add_neg, Int32.add_assoc, Int32.add_assoc, Int32.add_comm 1]
theorem sd_idle {x : Int32} {I0 I : mI} (h : f93 I = some (-1)) : ∀ m i f, i + m = 8 → m < f → ∃ r, mx_lp (b92_10 x I0) f (Int32.ofNat i, I) = some (r, I) := by
  intro m
  induction m with
  | zero =>
    intro i f hi hf
    obtain ⟨f', rfl⟩ : ∃ f', f = f' + 1 := ⟨f - 1, by omega⟩
    have e : i = 8 := by omega
    subst e
    have e2 : b92_10 x I0 (Int32.ofNat 8, I) = some (.inr (Int32.ofNat 8, I)) := by
      unfold b92_10
      simp only
      rw [if_pos (show (8 : Int32) ≤ Int32.ofNat 8 by decide)]
    simp only [mx_lp, e2]
    exact ⟨_, rfl⟩
  | succ m ih =>
    intro i f hi hf
    obtain ⟨f', rfl⟩ : ∃ f', f = f' + 1 := ⟨f - 1, by omega⟩
    have e2 : b92_10 x I0 (Int32.ofNat i, I) = some (.inl (Int32.ofNat (i + 1), I)) := by
      unfold b92_10
      simp only
      rw [if_neg (fun q => absurd ((n_leL (by decide) (by omega)).mp q) (by omega)), h, Option.bind_some, if_pos rfl, show Int32.ofNat i + 1 = Int32.ofNat (i + 1) from n_addR i 1]
    simp only [mx_lp, e2]
    exact ih (i + 1) f' (by omega) (by omega)
theorem sd_lp {x : Int32} {I0 A0 : mI} {J B : mJ} : ∀ m i fC fR (I A : mI) (n r : Int32), i + m ≤ 8 → cn (actb A) 8 ≤ m → 8 < fC + i → m < fR → g_wir I A J B → g_plug I A → g_his I A 0 16 114 41 → f149 A = some r → n = A 11 0 41 - x → Rl (mx_lp (b92_10 x I0) fC (Int32.ofNat i, I)) (mx_lp (b148_7 A0) fR (n, r, A)) (fun u v => g_plug u.2 v.2.2 ∧ g_his u.2 v.2.2 0 16 114 41 ∧ g_stp I A u.2 v.2.2 ∧ v.1 = v.2.2 11 0 41 - x) := by
  intro m
  induction m with
  | zero =>
    intro i fC fR I A n r hi hm hC hR a2 a3 hh hr hn
    obtain ⟨fR', rfl⟩ : ∃ f', fR = f' + 1 := ⟨fR - 1, by omega⟩
    obtain ⟨r1, e1, h1⟩ := f149_s a2
    obtain ⟨r2, e2, h2⟩ := f93_s a2 a3
    rw [hr] at e1
    cases e1
    have e3 := nxs_eq h1 h2
    subst e3
    rcases nxs_p h1 with ⟨rfl, -⟩ | ⟨p, hp, rfl, act⟩
    · obtain ⟨z, e4⟩ := sd_idle (x := x) (I0 := I0) e2 (8 - i) i fC (by omega) (by omega)
      have e5 : b148_7 A0 (n, (-1 : Int32), A) = some (.inr (n, -1, A)) := by
        unfold b148_7
        simp only
        rw [if_pos (by decide)]
      rw [e4]
      simp only [mx_lp, e5]
      exact Rl.ret ⟨a3, hh, g_stp.rf I A, hn⟩
    · exfalso
      have h3 : actb A p = true := decide_eq_true act
      have h4 := (cn_dn (P := actb A) (Q := fun q => if q = p then false else actb A q) h3 (by simp) (fun q hq => by simp [hq]) 8).2 hp
      omega
  | succ m ih =>
    intro i fC fR I A n r hi hm hC hR a2 a3 hh hr hn
    obtain ⟨fR', rfl⟩ : ∃ f', fR = f' + 1 := ⟨fR - 1, by omega⟩
    obtain ⟨r1, e1, h1⟩ := f149_s a2
    obtain ⟨r2, e2, h2⟩ := f93_s a2 a3
    rw [hr] at e1
    cases e1
    have e3 := nxs_eq h1 h2
    subst e3
    rcases nxs_p h1 with ⟨rfl, -⟩ | ⟨p, hp, rfl, act⟩
    · obtain ⟨z, e4⟩ := sd_idle (x := x) (I0 := I0) e2 (8 - i) i fC (by omega) (by omega)
      have e5 : b148_7 A0 (n, (-1 : Int32), A) = some (.inr (n, -1, A)) := by
        unfold b148_7
        simp only
        rw [if_pos (by decide)]
      rw [e4]
      simp only [mx_lp, e5]
      exact Rl.ret ⟨a3, hh, g_stp.rf I A, hn⟩
    · obtain ⟨fC', rfl⟩ : ∃ f', fC = f' + 1 := ⟨fC - 1, by omega⟩
      obtain ⟨I1, A1, s1, s2, s3, s4, s5, s6, s7, s8⟩ := stop1 a3 hh hp act
      have a2' : g_wir I1 A1 J B := a2.fr s5.1 (fr.rf J []) s5.2.1 (fr.rf B []) (by decide)
      obtain ⟨r3, e5, -⟩ := f149_s a2'
      have e6 : b92_10 x I0 (Int32.ofNat i, I) = some (.inl (Int32.ofNat (i + 1), I1)) := by
        unfold b92_10
        simp only
        rw [if_neg (fun q => absurd ((n_leL (by decide) (by omega)).mp q) (by omega)), e2, Option.bind_some, if_neg (i_m1 (by omega)), s1, Option.bind_some, show Int32.ofNat i + 1 = Int32.ofNat (i + 1) from n_addR i 1]
      have e7 : b148_7 A0 (n, Int32.ofNat p, A) = some (.inl (n + 1, r3, A1)) := by
        unfold b148_7
        simp only
        rw [if_neg (i_nn (by omega)), s2, Option.bind_some, e5, Option.bind_some]
      simp only [mx_lp, e6, e7]
      have h3 : actb A p = true := decide_eq_true act
      have h4 := (cn_dn (P := actb A) (Q := actb A1) h3 (by unfold actb; rw [s6]; rfl) (fun q hq => by unfold actb; rw [s7 q hq]) 8).2 hp
      refine (ih (i + 1) fC' fR' I1 A1 (n + 1) r3 (by omega) (by omega) (by omega) (by omega) a2' s3 s4 e5 (by rw [hn, s8, i_sub1])).mono ?_
      intro u v ⟨w1, w2, w3, w4⟩
      exact ⟨w1, w2, s5.tr w3, w4⟩
theorem S_shutdown {I A : mI} {J B : mJ} (h : Sim I J A B) : Rl (f25 I) (f148 A) (fun u v => u.1 = v.1 ∧ Sim u.2 J v.2 B) := by
  obtain ⟨a1, a2, a3, a4, a5, a6, a7, a8, a9, a10, a11⟩ := h
  obtain ⟨r, e1, -⟩ := f149_s a2
  have h10 : I 10 0 2 = A 11 0 41 := a11.1
  obtain ⟨u, v, e2, e3, b1, b2, ⟨c1, c2, c3, c4, c5, c6, c7⟩, b4⟩ := sd_lp (x := I 10 0 2) (I0 := I) (A0 := A) 8 0 mx_fu mx_fu I A 0 r (by decide) (cn_le _ 8) (by decide) (by decide) a2 a3 a11 e1 (by rw [h10, Int32.sub_self])
  unfold f25 f92 f148
  rw [e1, Option.bind_some]
  have e2 : mx_lp (b92_10 (I 10 0 2) I) mx_fu ((0 : Int32), I) = some u := e2
  rw [e2, e3, Option.bind_some, Option.bind_some]
  refine Rl.ret ⟨?_, a1.fr c1 c2 (c3 10 (by decide)) (by decide), a2.fr c1 (fr.rf J []) c2 (fr.rf B []) (by decide), b1, a4.fr c1 (fr.rf J []) c2 (fr.rf B []) (by decide), a5.fr c1 (fr.rf J []) (by decide), ?_, a7.fr c1 c2 (fr.rf B []) (by decide), a8.fr c1 c2 (fr.rf B []) (by decide), a9.fr c1 c2 (c3 39 (by decide)) (by decide), ?_, b2⟩
  · show u.2 10 0 2 - I 10 0 2 = v.1
    rw [b4, b2.1]
  · intro p hp
    have q := a6 p hp
    unfold g_re g_mt at q ⊢
    rw [c2 83 (by decide), c2 84 (by decide), c2 85 (by decide), c2 86 (by decide), c2 92 (by decide), c2 93 (by decide), c2 96 (by decide)]
    exact ⟨q.1, fun z => q.2 (fun z2 => z (c7 p z2))⟩
  · obtain ⟨d1, y, d2, d3, d4⟩ := a10
    refine ⟨?_, y, d2, ?_, fun k hk => ?_⟩
    · show u.2 10 1 2 = v.2.2 11 0 40
      rw [c4, c3 40 (by decide), d1]
    · show u.2 10 1 1 = _
      rw [c4, d3]
    · show u.2 81 1 _ = v.2.2 113 0 k
      rw [c5, c2 113 (by decide)]
      exact d4 k hk
