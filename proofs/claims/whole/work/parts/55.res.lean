/-! resolving -/
def metp (A : mI) (p : Nat) : Prop := ∀ n k, n ≤ 3 → A 83 0 p = Int32.ofNat n → k < n → g_mt A p k
/-- a set whose needs are met within it -/
def pf (A : mI) (R : Nat → Prop) : Prop := ∀ p, p < 8 → R p → ¬ A 92 0 p = 0 ∧ ∀ n k q, n ≤ 3 → A 83 0 p = Int32.ofNat n → k < n → q < 8 → A 84 0 (3 * p + k) = Int32.ofNat q → R q ∧ ¬ A 96 0 q < A 85 0 (3 * p + k) ∧ ¬ A 86 0 (3 * p + k) < A 96 0 q
def rs (I A I1 A1 : mI) : Prop := fr I1 I [6] ∧ fr A1 A [93] ∧ (∀ q k, k ≠ 4 → I1 6 q k = I 6 q k) ∧ (∀ q, q < 8 → I1 6 q 4 = A1 93 0 q ∧ bl (A1 93 0 q)) ∧ (∀ q, q < 8 → ¬ A1 93 0 q = 0 → ¬ A 92 0 q = 0) ∧ ∀ R, pf A R → ∀ p, p < 8 → R p → ¬ A1 93 0 p = 0
theorem metp_cg {A A1 A2 : mI} (f1 : fr A1 A [93]) (f2 : fr A2 A [93]) (h : ∀ q, q < 8 → A2 93 0 q = A1 93 0 q) (p : Nat) : metp A1 p ↔ metp A2 p := by
  unfold metp g_mt
  rw [f1 83 (by decide), f1 84 (by decide), f1 85 (by decide), f1 86 (by decide), f1 96 (by decide), f2 83 (by decide), f2 84 (by decide), f2 85 (by decide), f2 86 (by decide), f2 96 (by decide)]
  constructor
  · intro z n k hn h1 hk q hq h2
    rw [h q hq]
    exact z n k hn h1 hk q hq h2
  · intro z n k hn h1 hk q hq h2
    rw [← h q hq]
    exact z n k hn h1 hk q hq h2
theorem rs_step {I A I1 A1 : mI} {J B : mJ} (a2 : g_wir I A J B) (a7 : ∀ q, q < 8 → I 6 q 7 = A 96 0 q) (h : rs I A I1 A1) {p : Nat} (hp : p < 8) (x : Int32) (I0 A0 : mI) : ∃ I2 A2, b78_46 x I0 (Int32.ofNat p, I1) = some (.inl (Int32.ofNat p + 1, I2)) ∧ b135_36 x A0 (Int32.ofNat p, A1) = some (.inl (Int32.ofNat p + 1, A2)) ∧ rs I A I2 A2 ∧ (((A1 93 0 p = 0 ∨ metp A1 p) ∧ ∀ q, q < 8 → A2 93 0 q = A1 93 0 q) ∨ (¬ A1 93 0 p = 0 ∧ ¬ metp A1 p ∧ A2 93 0 p = 0 ∧ ∀ q, q ≠ p → A2 93 0 q = A1 93 0 q)) := by
  obtain ⟨h1, h2, h3, h4, h5, h6⟩ := h
  have g := i_g (n := p) (N := 8) hp (by decide)
  have n8 : ¬ (8 : Int32) ≤ Int32.ofNat p := fun q => absurd ((n_leL (by decide) (by omega)).mp q) (by omega)
  have same : ∀ v, v = I1 6 p 4 → rs I A (mx_u3 I1 6 p 4 v) A1 := by
    intro v hv
    refine ⟨h1.up (by decide), h2, fun q k hk => ?_, fun q hq => ?_, h5, h6⟩
    · rw [u3_at, if_neg (fun z => hk z.2)]
      exact h3 q k hk
    · rw [u3_at]
      by_cases c : q = p
      · rw [if_pos ⟨c, rfl⟩, hv, c]
        exact h4 p hp
      · rw [if_neg (fun z => c z.1)]
        exact h4 q hq
  have e78 : b78_46 x I0 (Int32.ofNat p, I1) = if A1 93 0 p = 0 then some (.inl (Int32.ofNat p + 1, mx_u3 I1 6 p 4 0)) else (f79 (Int32.ofNat p) I1).bind fun u => if u = 0 then some (.inl (Int32.ofNat p + 1, mx_u3 I1 6 p 4 1)) else some (.inl (Int32.ofNat p + 1, mx_u3 I1 6 p 4 0)) := by
    unfold b78_46
    simp only
    rw [if_neg n8, if_neg g, if_neg g, i_cl (by omega), (h4 p hp).1]
  have e135 : b135_36 x A0 (Int32.ofNat p, A1) = if A1 93 0 p = 0 then some (.inl (Int32.ofNat p + 1, A1)) else (f136 (Int32.ofNat p) A1).bind fun u => if u ≤ 0 then some (.inl (Int32.ofNat p + 1, A1)) else some (.inl (Int32.ofNat p + 1, mx_u3 A1 93 0 p 0)) := by
    unfold b135_36
    simp only
    rw [if_neg n8, if_neg g, if_neg g, i_cl (by omega), nar0]
  rw [e78, e135]
  by_cases c0 : A1 93 0 p = 0
  · rw [if_pos c0, if_pos c0]
    exact ⟨_, _, rfl, rfl, same 0 (by rw [(h4 p hp).1, c0]), .inl ⟨.inl c0, fun _ _ => rfl⟩⟩
  rw [if_neg c0, if_neg c0]
  have hnd : g_nd I1 A1 (p + 1) p := (nd_of a2 hp).fr h1 h2 (by decide)
  obtain ⟨m, hm, e1, e2, e3⟩ := um hp hnd (fun q hq => ⟨(h4 q hq).1, by rw [h3 q 7 (by decide), h2 96 (by decide)]; exact a7 q hq⟩)
  rw [e1, e2, Option.bind_some, Option.bind_some]
  by_cases cm : m = 0
  · rw [if_pos (show Int32.ofNat m = 0 by rw [cm]; rfl), if_pos (show Int32.ofNat m ≤ 0 by rw [cm]; decide)]
    have b1 : A1 93 0 p = 1 := (h4 p hp).2.resolve_left c0
    exact ⟨_, _, rfl, rfl, same 1 (by rw [(h4 p hp).1, b1]), .inl ⟨.inr (e3.mp cm), fun _ _ => rfl⟩⟩
  · rw [if_neg (fun q => cm ((n_eqR (by omega) (by decide)).mp q)), if_neg (fun q => by have := (n_leR (by omega) (by decide)).mp q; omega)]
    have nm : ¬ metp A1 p := fun z => cm (e3.mpr z)
    refine ⟨_, _, rfl, rfl, ⟨h1.up (by decide), h2.up (by decide), fun q k hk => ?_, fun q hq => ?_, fun q hq z => ?_, fun R hR q hq z => ?_⟩, .inr ⟨c0, nm, ?_, fun q hq => ?_⟩⟩
    · rw [u3_at, if_neg (fun z => hk z.2)]
      exact h3 q k hk
    · rw [u3_at, u3_at]
      by_cases c : q = p
      · rw [if_pos ⟨c, rfl⟩, if_pos ⟨rfl, c⟩]
        exact ⟨rfl, bl0⟩
      · rw [if_neg (fun z => c z.1), if_neg (fun z => c z.2)]
        exact h4 q hq
    · rw [u3_at] at z
      by_cases c : q = p
      · rw [if_pos ⟨rfl, c⟩] at z
        exact absurd rfl z
      · rw [if_neg (fun z => c z.2)] at z
        exact h5 q hq z
    · rw [u3_at]
      by_cases c : q = p
      · exfalso
        subst c
        apply nm
        intro n k hn w1 hk q2 hq2 w2
        rw [h2 83 (by decide)] at w1
        rw [h2 84 (by decide)] at w2
        obtain ⟨r1, r2, r3⟩ := (hR q hq z).2 n k q2 hn w1 hk hq2 w2
        rw [h2 96 (by decide), h2 85 (by decide), h2 86 (by decide)]
        exact ⟨h6 R hR q2 hq2 r1, r2, r3⟩
      · rw [if_neg (fun z => c z.2)]
        exact h6 R hR q hq z
    · rw [u3_eq]
    · rw [u3_at, if_neg (fun z => hq z.2)]
def resb (A : mI) (p : Nat) : Bool := decide (¬ A 93 0 p = 0)
def fixp (A : mI) : Prop := ∀ p, p < 8 → ¬ A 93 0 p = 0 → metp A p
theorem rs_sweep {I A I1 A1 : mI} {J B : mJ} (a2 : g_wir I A J B) (a7 : ∀ q, q < 8 → I 6 q 7 = A 96 0 q) (h : rs I A I1 A1) (x : Int32) (I0 A0 : mI) : Rl (mx_lp (b78_46 x I0) mx_fu ((0 : Int32), I1)) (mx_lp (b135_36 x A0) mx_fu ((0 : Int32), A1)) (fun u v => rs I A u.2 v.2 ∧ ((fixp v.2) ∨ (¬ fixp A1 ∧ cn (resb v.2) 8 < cn (resb A1) 8))) := by
  refine Rl.lp (fun s t => ∃ p, p ≤ 8 ∧ s.1 = Int32.ofNat p ∧ t.1 = Int32.ofNat p ∧ rs I A s.2 t.2 ∧ (((∀ q, q < 8 → t.2 93 0 q = A1 93 0 q) ∧ ∀ q, q < p → ¬ A1 93 0 q = 0 → metp A1 q) ∨ (¬ fixp A1 ∧ cn (resb t.2) 8 < cn (resb A1) 8))) (fun s => 8 - s.1.toNatClampNeg) ?_ mx_fu ⟨0, by omega, rfl, rfl, h, .inl ⟨fun _ _ => rfl, fun q hq => absurd hq (by omega)⟩⟩ (by show 8 - 0 < 1000; decide)
  rintro ⟨_, I2⟩ ⟨_, A2⟩ ⟨p, hp, rfl, rfl, h1, h2⟩
  simp only at h1 h2
  rcases Nat.lt_or_ge p 8 with c | c
  · obtain ⟨I3, A3, e1, e2, e3, e4⟩ := rs_step a2 a7 h1 c x I0 A0
    rw [e1, e2]
    refine Rl.next ⟨p + 1, by omega, n_addR p 1, n_addR p 1, e3, ?_⟩ (m_dd c (by omega))
    simp only
    rcases h2 with ⟨z1, z2⟩ | ⟨z1, z2⟩ <;> rcases e4 with ⟨w1, w2⟩ | ⟨w1, w2, w3, w4⟩
    · refine .inl ⟨fun q hq => (w2 q hq).trans (z1 q hq), fun q hq z => ?_⟩
      by_cases cq : q = p
      · subst cq
        rcases w1 with w | w
        · rw [z1 q c] at w
          exact absurd w z
        · exact (metp_cg h.2.1 h1.2.1 z1 q).mpr w
      · exact z2 q (by omega) z
    · right
      refine ⟨fun z => w2 ((metp_cg h.2.1 h1.2.1 z1 p).mp (z p c (by rw [← z1 p c]; exact w1))), ?_⟩
      have q1 := (cn_dn (P := resb A2) (Q := resb A3) (p := p) (decide_eq_true w1) (by unfold resb; rw [w3]; rfl) (fun q hq => by unfold resb; rw [w4 q hq]) 8).2 c
      have q2 : cn (resb A2) 8 = cn (resb A1) 8 := cn_cg (fun q hq => by unfold resb; rw [z1 q hq]) 8 (by omega)
      omega
    · refine .inr ⟨z1, ?_⟩
      have q2 : cn (resb A3) 8 = cn (resb A2) 8 := cn_cg (fun q hq => by unfold resb; rw [w2 q hq]) 8 (by omega)
      omega
    · refine .inr ⟨z1, ?_⟩
      have q1 := (cn_dn (P := resb A2) (Q := resb A3) (p := p) (decide_eq_true w1) (by unfold resb; rw [w3]; rfl) (fun q hq => by unfold resb; rw [w4 q hq]) 8).2 c
      omega
  · have e : p = 8 := by omega
    subst e
    unfold b78_46 b135_36
    simp only
    rw [if_pos (show (8 : Int32) ≤ Int32.ofNat 8 by decide), if_pos (show (8 : Int32) ≤ Int32.ofNat 8 by decide)]
    refine Rl.stop ⟨h1, ?_⟩
    rcases h2 with ⟨z1, z2⟩ | z
    · left
      intro p hp z
      simp only at z ⊢
      rw [z1 p hp] at z
      exact (metp_cg h.2.1 h1.2.1 z1 p).mp (z2 p hp z)
    · exact .inr z
theorem rs_rounds {I A I1 A1 : mI} {J B : mJ} (a2 : g_wir I A J B) (a7 : ∀ q, q < 8 → I 6 q 7 = A 96 0 q) (h : rs I A I1 A1) (I0 A0 : mI) : Rl (mx_lp (b78_38 I0) mx_fu ((0 : Int32), I1)) (mx_lp (b135_28 A0) mx_fu ((0 : Int32), A1)) (fun u v => rs I A u.2 v.2 ∧ fixp v.2) := by
  refine Rl.lp (fun s t => ∃ p, p ≤ 8 ∧ s.1 = Int32.ofNat p ∧ t.1 = Int32.ofNat p ∧ rs I A s.2 t.2 ∧ (fixp t.2 ∨ cn (resb t.2) 8 + p ≤ 8)) (fun s => 8 - s.1.toNatClampNeg) ?_ mx_fu ⟨0, by omega, rfl, rfl, h, .inr (by have := cn_le (resb A1) 8; show cn (resb A1) 8 + 0 ≤ 8; omega)⟩ (by show 8 - 0 < 1000; decide)
  rintro ⟨_, I2⟩ ⟨_, A2⟩ ⟨p, hp, rfl, rfl, h1, h2⟩
  simp only at h1 h2
  unfold b78_38 b135_28
  simp only
  rcases Nat.lt_or_ge p 8 with c | c
  · obtain ⟨u, v, e1, e2, e3, e4⟩ := rs_sweep a2 a7 h1 (Int32.ofNat p) I2 A2
    have n8 : ¬ (8 : Int32) ≤ Int32.ofNat p := fun q => absurd ((n_leL (by decide) (by omega)).mp q) (by omega)
    rw [if_neg n8, if_neg n8, e1, e2, Option.bind_some, Option.bind_some]
    refine Rl.next ⟨p + 1, by omega, n_addR p 1, n_addR p 1, e3, ?_⟩ (m_dd c (by omega))
    rcases e4 with z | ⟨z1, z2⟩
    · exact .inl z
    · rcases h2 with w | w
      · exact absurd w z1
      · right
        show cn (resb v.2) 8 + (p + 1) ≤ 8
        omega
  · have e : p = 8 := by omega
    subst e
    rw [if_pos (show (8 : Int32) ≤ Int32.ofNat 8 by decide), if_pos (show (8 : Int32) ≤ Int32.ofNat 8 by decide)]
    refine Rl.stop ⟨h1, ?_⟩
    rcases h2 with z | z
    · exact z
    · intro p hp w
      exfalso
      have q1 : resb A2 p = true := decide_eq_true w
      have q2 := (cn_dn (P := resb A2) (Q := fun q => if q = p then false else resb A2 q) q1 (by simp) (fun q hq => by simp [hq]) 8).2 hp
      omega
theorem resolve_s {I A : mI} {J B : mJ} (a2 : g_wir I A J B) (a3 : ∀ q, q < 8 → I 6 q 3 = A 92 0 q ∧ bl (A 92 0 q) ∧ I 6 q 7 = A 96 0 q) : Rl (f78 I) (f135 A) (fun I' A' => rs I A I' A' ∧ fixp A') := by
  have hl : Rl (mx_lp (b78_10 (Int32.ofNat 8) I) mx_fu ((0 : Int32), I)) (mx_lp (b135_2 A) mx_fu ((0 : Int32), A)) (fun u v => rs I A u.2 v.2) := by
    refine Rl.lp (fun s t => ∃ p, p ≤ 8 ∧ s.1 = Int32.ofNat p ∧ t.1 = Int32.ofNat p ∧ fr s.2 I [6] ∧ fr t.2 A [93] ∧ (∀ q k, k ≠ 4 → s.2 6 q k = I 6 q k) ∧ ∀ q, q < p → s.2 6 q 4 = A 92 0 q ∧ t.2 93 0 q = A 92 0 q) (fun s => 8 - s.1.toNatClampNeg) ?_ mx_fu ⟨0, by omega, rfl, rfl, fr.rf _ _, fr.rf _ _, fun _ _ _ => rfl, fun q hq => absurd hq (by omega)⟩ (by show 8 - 0 < 1000; decide)
    rintro ⟨_, I2⟩ ⟨_, A2⟩ ⟨p, hp, rfl, rfl, h1, h2, h3, h4⟩
    simp only at h1 h2 h3 h4
    unfold b78_10 b135_2
    simp only
    rcases Nat.lt_or_ge p 8 with c | c
    · have g := i_g (n := p) (N := 8) c (by decide)
      have e1 : I2 6 p 3 = A 92 0 p := (h3 p 3 (by decide)).trans (a3 p c).1
      have e2 : vp_nar .boolean (A2 92 0 p) = A 92 0 p := by
        rw [h2 92 (by decide)]
        rcases (a3 p c).2.1 with z | z <;> rw [z] <;> decide
      rw [if_neg (fun q => absurd ((i_le (by omega) (by omega)).mp q) (by omega)), if_neg (fun q => absurd ((n_leL (by decide) (by omega)).mp q) (by omega)), if_neg g, if_neg g, if_neg g, i_cl (by omega), e1, e2, if_pos (show A 92 0 p = 0 ∨ A 92 0 p = 1 from (a3 p c).2.1)]
      refine Rl.next ⟨p + 1, by omega, n_addR p 1, n_addR p 1, h1.up (by decide), h2.up (by decide), fun q k hk => ?_, fun q hq => ?_⟩ (m_dc c (by omega))
      · simp only
        rw [u3_at, if_neg (fun z => hk z.2)]
        exact h3 q k hk
      · simp only
        rw [u3_at, u3_at]
        by_cases cq : q = p
        · rw [if_pos ⟨cq, rfl⟩, if_pos ⟨rfl, cq⟩, cq]
          exact ⟨rfl, rfl⟩
        · rw [if_neg (fun z => cq z.1), if_neg (fun z => cq z.2)]
          exact h4 q (by omega)
    · have e : p = 8 := by omega
      subst e
      rw [if_pos (show Int32.ofNat 8 ≤ Int32.ofNat 8 by decide), if_pos (show (8 : Int32) ≤ Int32.ofNat 8 by decide)]
      refine Rl.stop ⟨h1, h2, h3, fun q hq => ?_, fun q hq z => ?_, fun R hR q hq z => ?_⟩
      · simp only
        rw [(h4 q hq).1, (h4 q hq).2]
        exact ⟨rfl, (a3 q hq).2.1⟩
      · rw [← (h4 q hq).2]
        exact z
      · simp only
        rw [(h4 q hq).2]
        exact (hR q hq z).1
  obtain ⟨u, v, e1, e2, e3⟩ := hl
  obtain ⟨u2, v2, e4, e5, e6, e7⟩ := rs_rounds a2 (fun q hq => (a3 q hq).2.2) e3 u.2 v.2
  unfold f78 f135
  rw [e1, e2, Option.bind_some, Option.bind_some, e4, e5]
  exact Rl.ret ⟨e6, e7⟩
