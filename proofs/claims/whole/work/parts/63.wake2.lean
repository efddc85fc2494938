/-! waking -/
theorem lp_n {σ ε : Type} {body : σ → Option (σ ⊕ ε)} {s s' : σ} {n : Nat} (h : body s = some (.inl s')) : mx_lp body (n + 1) s = mx_lp body n s' := by
  show (match body s with | none => none | some (.inl s') => mx_lp body n s' | some (.inr e) => some e) = _
  rw [h]
theorem lp_e {σ ε : Type} {body : σ → Option (σ ⊕ ε)} {s : σ} {e : ε} {n : Nat} (h : body s = some (.inr e)) : mx_lp body (n + 1) s = some e := by
  show (match body s with | none => none | some (.inl s') => mx_lp body n s' | some (.inr e) => some e) = _
  rw [h]
theorem b2i_bl (b : Bool) : bl (b2i b) := by
  cases b
  · exact bl0
  · exact bl1
def wm (I0 A0 I A : mI) : Prop := fr I I0 [6] ∧ fr A A0 [94, 95, 99, 101] ∧ (∀ q k, k ≠ 5 → k ≠ 6 → k ≠ 8 → I 6 q k = I0 6 q k) ∧ ∀ q, q < 8 → I 6 q 5 = A 95 0 q ∧ bl (A 95 0 q) ∧ I 6 q 6 = A 94 0 q ∧ bl (A 94 0 q) ∧ I 6 q 8 = A 99 0 q ∧ (¬ A 94 0 q = 0 → ¬ A0 93 0 q = 0)
def stb (A : mI) (q : Nat) : Bool := decide (¬ A 95 0 q = 0)
def wI (I : mI) (q : Nat) : mI := mx_u3 (mx_u3 I 6 q 5 1) 6 q 8 ((mx_u3 I 6 q 5 1) 6 q 8 + 1)
def wA (A : mI) (c q : Nat) : mI := mx_u3 (mx_u3 (mx_u3 A 95 0 q 1) 99 0 q (A 99 0 q + 1)) 101 0 c (Int32.ofNat q)
def vI (I : mI) (q : Nat) (b : Bool) : mI := mx_u3 (mx_u3 I 6 q 6 (b2i b)) 6 q 5 0
def vA (A : mI) (q : Nat) (b : Bool) : mI := mx_u3 (mx_u3 A 95 0 q 0) 94 0 q (b2i b)
theorem wm.st {I0 A0 I A : mI} (h : wm I0 A0 I A) (c q : Nat) : wm I0 A0 (wI I q) (wA A c q) := by
  obtain ⟨h1, h2, h3, h4⟩ := h
  refine ⟨(h1.up (by decide)).up (by decide), ((h2.up (by decide)).up (by decide)).up (by decide), fun p k k5 k6 k8 => ?_, fun p hp => ?_⟩
  · unfold wI
    rw [u3_at, if_neg (fun z => k8 z.2), u3_at, if_neg (fun z => k5 z.2), h3 p k k5 k6 k8]
  · obtain ⟨d1, d2, d3, d4, d5, d6⟩ := h4 p hp
    have e5 : wI I q 6 p 5 = if p = q then 1 else I 6 p 5 := by
      unfold wI
      rw [u3_at, if_neg (fun z => absurd z.2 (by decide)), u3_at]
      by_cases e : p = q
      · rw [if_pos ⟨e, rfl⟩, if_pos e]
      · rw [if_neg (fun z => e z.1), if_neg e]
    have e6 : wI I q 6 p 6 = I 6 p 6 := by
      unfold wI
      rw [u3_at, if_neg (fun z => absurd z.2 (by decide)), u3_at, if_neg (fun z => absurd z.2 (by decide))]
    have e8 : wI I q 6 p 8 = if p = q then I 6 p 8 + 1 else I 6 p 8 := by
      unfold wI
      by_cases e : p = q
      · subst e
        rw [u3_eq, u3_at, if_neg (fun z => absurd z.2 (by decide)), if_pos rfl]
      · rw [u3_at, if_neg (fun z => e z.1), u3_at, if_neg (fun z => absurd z.2 (by decide)), if_neg e]
    have g5 : wA A c q 95 0 p = if p = q then 1 else A 95 0 p := by
      unfold wA
      rw [u3_ne (by decide), u3_ne (by decide), u3_at]
      by_cases e : p = q
      · rw [if_pos ⟨rfl, e⟩, if_pos e]
      · rw [if_neg (fun z => e z.2), if_neg e]
    have g6 : wA A c q 94 0 p = A 94 0 p := by
      unfold wA
      rw [u3_ne (by decide), u3_ne (by decide), u3_ne (by decide)]
    have g8 : wA A c q 99 0 p = if p = q then A 99 0 p + 1 else A 99 0 p := by
      unfold wA
      rw [u3_ne (by decide), u3_at, u3_ne (by decide)]
      by_cases e : p = q
      · rw [if_pos ⟨rfl, e⟩, if_pos e, e]
      · rw [if_neg (fun z => e z.2), if_neg e]
    rw [e5, e6, e8, g5, g6, g8, d1, d3, d5]
    refine ⟨rfl, ?_, rfl, d4, rfl, d6⟩
    split
    · exact bl1
    · exact d2
theorem wm.dn {I0 A0 I A : mI} (h : wm I0 A0 I A) {q : Nat} (b : Bool) (hr : ¬ A0 93 0 q = 0) : wm I0 A0 (vI I q b) (vA A q b) := by
  obtain ⟨h1, h2, h3, h4⟩ := h
  refine ⟨(h1.up (by decide)).up (by decide), (h2.up (by decide)).up (by decide), fun p k k5 k6 k8 => ?_, fun p hp => ?_⟩
  · unfold vI
    rw [u3_at, if_neg (fun z => k5 z.2), u3_at, if_neg (fun z => k6 z.2), h3 p k k5 k6 k8]
  · obtain ⟨d1, d2, d3, d4, d5, d6⟩ := h4 p hp
    have e5 : vI I q b 6 p 5 = if p = q then 0 else I 6 p 5 := by
      unfold vI
      by_cases e : p = q
      · rw [u3_at, if_pos ⟨e, rfl⟩, if_pos e]
      · rw [u3_at, if_neg (fun z => e z.1), u3_at, if_neg (fun z => e z.1), if_neg e]
    have e6 : vI I q b 6 p 6 = if p = q then b2i b else I 6 p 6 := by
      unfold vI
      rw [u3_at, if_neg (fun z => absurd z.2 (by decide)), u3_at]
      by_cases e : p = q
      · rw [if_pos ⟨e, rfl⟩, if_pos e]
      · rw [if_neg (fun z => e z.1), if_neg e]
    have e8 : vI I q b 6 p 8 = I 6 p 8 := by
      unfold vI
      rw [u3_at, if_neg (fun z => absurd z.2 (by decide)), u3_at, if_neg (fun z => absurd z.2 (by decide))]
    have g5 : vA A q b 95 0 p = if p = q then 0 else A 95 0 p := by
      unfold vA
      rw [u3_ne (by decide), u3_at]
      by_cases e : p = q
      · rw [if_pos ⟨rfl, e⟩, if_pos e]
      · rw [if_neg (fun z => e z.2), if_neg e]
    have g6 : vA A q b 94 0 p = if p = q then b2i b else A 94 0 p := by
      unfold vA
      rw [u3_at, u3_ne (by decide)]
      by_cases e : p = q
      · rw [if_pos ⟨rfl, e⟩, if_pos e]
      · rw [if_neg (fun z => e z.2), if_neg e]
    have g8 : vA A q b 99 0 p = A 99 0 p := by
      unfold vA
      rw [u3_ne (by decide), u3_ne (by decide)]
    rw [e5, e6, e8, g5, g6, g8, d1, d3, d5]
    refine ⟨rfl, ?_, rfl, ?_, rfl, fun z => ?_⟩
    · split
      · exact bl0
      · exact d2
    · split
      · exact b2i_bl b
      · exact d4
    · by_cases e : p = q
      · rw [e]
        exact hr
      · rw [if_neg e] at z
        exact d6 z
theorem bw1 {A X : mI} {B : mJ} {c q : Nat} (b1 : Bool) (f : Nat) (hc : c < 8) (hq : q < 8) (h : A 101 0 c = Int32.ofNat q) : mx_lp (b153_161 X B) (f + 1) (b2i b1, Int32.ofNat (c + 1) - 1, A) = mx_lp (b153_161 X B) f (b2i (b1 && decide (¬ A 89 0 q = 2)), Int32.ofNat c - 1, vA A q (b1 && decide (¬ A 89 0 q = 2))) := by
  refine lp_n ?_
  have e1 : Int32.ofNat (c + 1) - 1 = Int32.ofNat c := n_subR (by show 1 ≤ c + 1; omega)
  have e2 : Int32.ofNat c + -1 = Int32.ofNat c - 1 := (Int32.sub_eq_add_neg _ _).symm
  unfold b153_161
  simp only
  rw [e1]
  have g1 := i_g hc (show 8 ≤ 2147483648 by decide)
  have g2 := i_g hq (show 8 ≤ 2147483648 by decide)
  have g3 := i_g (show q < 9 by omega) (show 9 ≤ 2147483648 by decide)
  have ec : (Int32.ofNat c).toNatClampNeg = c := i_cl (by omega)
  have eq : (Int32.ofNat q).toNatClampNeg = q := i_cl (by omega)
  rw [if_neg (i_nn (by omega)), if_neg g1]
  simp only [ec, h]
  simp only [if_neg g2, if_neg g3]
  simp only [eq, nar0, nar1, e2]
  cases b1 with
  | false =>
    rw [if_pos (show b2i false = 0 from rfl)]
    rfl
  | true =>
    rw [if_neg (by decide)]
    by_cases c1 : A 89 0 q = 2
    · rw [if_pos c1, decide_eq_false (fun z => z c1)]
      rfl
    · rw [if_neg c1, decide_eq_true c1]
      rfl
theorem f88_s {I : mI} {q k : Nat} (hq : q < 8) (hk : k < 4) : f88 (Int32.ofNat (4 * q + k)) I = some (I 69 (q + 1) k) ∧ Int32.ofNat (4 * q + k) / 4 = Int32.ofNat q := by
  have e1 : Int32.ofNat (4 * q + k) / 4 = Int32.ofNat q := by
    rw [n_divR (b := 4) (by omega) (by decide)]
    congr 1
    show (4 * q + k) / 4 = q
    omega
  have e2 : Int32.ofNat q * 4 = Int32.ofNat (q * 4) := n_mulR q 4
  have e3 : Int32.ofNat (4 * q + k) - Int32.ofNat (q * 4) = Int32.ofNat k := by
    rw [i_sub (by omega)]
    congr 1
    omega
  refine ⟨?_, e1⟩
  unfold f88 f89
  rw [Option.bind_some, e1, e2, e3, if_neg (i_g hq (by decide)), if_neg (i_g hk (by decide)), i_cl (by omega), i_cl (by omega)]
theorem kd_4 {x : Int32} (h : g_kd x) : (x &&& 4 = 0 ↔ ¬ 4 ≤ x) := by
  rcases h with rfl | rfl | rfl | rfl | rfl | rfl <;> decide
theorem f90_s {fw : Int32 → Int32 → mI → mJ → Option (Bool × mI)} {I : mI} {J : mJ} {q c : Nat} (hq : q < 8) (hc : c < 8) (h6 : I 6 q 6 = 0) (h5 : I 6 q 5 = 0) : f90 fw (Int32.ofNat q) (Int32.ofNat c) I J = (f91 fw (Int32.ofNat q) (Int32.ofNat c) (wI I q) J).bind fun u => some (u.1, vI u.2 q u.1) := by
  have g := i_g hq (show 8 ≤ 2147483648 by decide)
  have eq : (Int32.ofNat q).toNatClampNeg = q := i_cl (by omega)
  unfold f90
  rw [if_neg g]
  simp only [eq]
  rw [if_pos h6, if_pos h5, if_pos ((n_ltR (by omega) (by decide)).mpr hc)]
  congr 1
  funext u
  have e : (mx_u3 (mx_u3 u.2 6 q 6 (b2i u.1)) 6 q 5 0) 6 q 6 = b2i u.1 := by
    rw [u3_at, if_neg (fun z => absurd z.2 (by decide)), u3_eq]
  rw [e]
  obtain ⟨b, I'⟩ := u
  cases b with
  | false => rfl
  | true => rfl
theorem cn_up {A : mI} {c q d : Nat} (hq : q < 8) (h : A 95 0 q = 0) (hc : cn (stb A) 8 = c) : cn (stb (wA A d q)) 8 = c + 1 := by
  have e : ∀ p, wA A d q 95 0 p = if p = q then 1 else A 95 0 p := fun p => by
    unfold wA
    rw [u3_ne (by decide), u3_ne (by decide), u3_at]
    by_cases e : p = q
    · rw [if_pos ⟨rfl, e⟩, if_pos e]
    · rw [if_neg (fun z => e z.2), if_neg e]
  have z := (cn_dn (P := stb (wA A d q)) (Q := stb A) (p := q) (by unfold stb; rw [e, if_pos rfl]; decide) (by unfold stb; rw [h]; decide) (fun p hp => by unfold stb; rw [e, if_neg hp]) 8).2 hq
  omega
