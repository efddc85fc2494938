/-! numbers, loops and pairs of runs -/
theorem i_ti {n : Nat} (h : n < 2147483648) : (Int32.ofNat n).toInt = (n : Int) := Int32.toInt_ofNat_of_lt (by simpa using h)
theorem i_cl {n : Nat} (h : n < 2147483648) : (Int32.ofNat n).toNatClampNeg = n := by
  have h2 := i_ti h
  have h3 : (Int32.ofNat n).toNatClampNeg = (Int32.ofNat n).toInt.toNat := rfl
  rw [h3, h2]
  rfl
theorem i_lt {a b : Nat} (ha : a < 2147483648) (hb : b < 2147483648) : (Int32.ofNat a < Int32.ofNat b) ↔ a < b := by
  rw [Int32.lt_iff_toInt_lt, i_ti ha, i_ti hb]
  omega
theorem i_le {a b : Nat} (ha : a < 2147483648) (hb : b < 2147483648) : (Int32.ofNat a ≤ Int32.ofNat b) ↔ a ≤ b := by
  rw [Int32.le_iff_toInt_le, i_ti ha, i_ti hb]
  omega
theorem i_eq {a b : Nat} (ha : a < 2147483648) (hb : b < 2147483648) : (Int32.ofNat a = Int32.ofNat b) ↔ a = b := by
  constructor
  · intro h
    have h2 := congrArg Int32.toInt h
    rw [i_ti ha, i_ti hb] at h2
    omega
  · intro h
    rw [h]
theorem i_add (a b : Nat) : Int32.ofNat a + Int32.ofNat b = Int32.ofNat (a + b) := (Int32.ofNat_add a b).symm
theorem i_mul (a b : Nat) : Int32.ofNat a * Int32.ofNat b = Int32.ofNat (a * b) := (Int32.ofNat_mul a b).symm
theorem i_sub {a b : Nat} (h : b ≤ a) : Int32.ofNat a - Int32.ofNat b = Int32.ofNat (a - b) := by
  have e : Int32.ofNat a = Int32.ofNat (a - b) + Int32.ofNat b := by
    rw [i_add]
    congr 1
    omega
  rw [e, Int32.add_sub_cancel]
theorem i_div {a b : Nat} (ha : a < 2147483648) (hb : b < 2147483648) : Int32.ofNat a / Int32.ofNat b = Int32.ofNat (a / b) := by
  apply Int32.toInt_inj.mp
  have hd : a / b < 2147483648 := Nat.lt_of_le_of_lt (Nat.div_le_self a b) ha
  rw [Int32.toInt_div, i_ti ha, i_ti hb, i_ti hd]
  rw [Int.tdiv_eq_ediv_of_nonneg (by omega)]
  rw [← Int.natCast_ediv]
  generalize a / b = q at hd ⊢
  apply Int.bmod_eq_of_le <;> omega
theorem i_nn {n : Nat} (h : n < 2147483648) : ¬ (Int32.ofNat n < 0) := by
  rw [show (0 : Int32) = Int32.ofNat 0 from rfl, i_lt h (by decide)]
  omega
theorem i_ps {n : Nat} (h : n < 2147483648) : (0 : Int32) ≤ Int32.ofNat n := by
  rw [show (0 : Int32) = Int32.ofNat 0 from rfl, i_le (by decide) h]
  omega
theorem i_ofn {x : Int32} (h : ¬ (x < 0)) : ∃ n, n < 2147483648 ∧ x = Int32.ofNat n := by
  refine ⟨x.toInt.toNat, ?_, ?_⟩
  · have := Int32.toInt_lt x
    omega
  · apply Int32.toInt_inj.mp
    have h1 := Int32.toInt_lt x
    have h0 : 0 ≤ x.toInt := by
      rw [Int32.lt_iff_toInt_lt] at h
      have : (0 : Int32).toInt = 0 := rfl
      omega
    rw [i_ti (by omega)]
    omega
theorem i_g {n N : Nat} (h : n < N) (hN : N ≤ 2147483648) : ¬ (Int32.ofNat n < 0 ∨ N ≤ (Int32.ofNat n).toNatClampNeg) := by
  rw [i_cl (by omega)]
  intro q
  rcases q with q | q
  · exact i_nn (by omega) q
  · omega
theorem i_m1 {n : Nat} (h : n < 2147483648) : ¬ (Int32.ofNat n = -1) := by
  intro q
  have h2 := congrArg Int32.toInt q
  rw [i_ti h] at h2
  have : (-1 : Int32).toInt = -1 := rfl
  omega
/-- a run that ends, and how -/
def Sm {α : Type} (o : Option α) (P : α → Prop) : Prop := ∃ a, o = some a ∧ P a
theorem Sm.ret {α : Type} {a : α} {P : α → Prop} (h : P a) : Sm (some a) P := ⟨a, rfl, h⟩
theorem Sm.bind {α β : Type} {o : Option α} {f : α → Option β} {P : α → Prop} {Q : β → Prop} (h : Sm o P) (k : ∀ a, P a → Sm (f a) Q) : Sm (o.bind f) Q := by
  obtain ⟨a, rfl, ha⟩ := h
  exact k a ha
theorem Sm.mono {α : Type} {o : Option α} {P Q : α → Prop} (h : Sm o P) (k : ∀ a, P a → Q a) : Sm o Q := by
  obtain ⟨a, rfl, ha⟩ := h
  exact ⟨a, rfl, k a ha⟩
theorem Sm.eq {α : Type} {o : Option α} {P : α → Prop} {a : α} (e : o = some a) (h : P a) : Sm o P := ⟨a, e, h⟩
theorem Sm.lp {σ ε : Type} {body : σ → Option (σ ⊕ ε)} {P : ε → Prop} (Inv : σ → Prop) (m : σ → Nat)
    (step : ∀ s, Inv s → Sm (body s) (fun r => Sum.elim (fun s' => Inv s' ∧ m s' < m s) P r)) : ∀ (n : Nat) {s : σ}, Inv s → m s < n → Sm (mx_lp body n s) P := by
  intro n
  induction n with
  | zero => intro s _ h; omega
  | succ n ih =>
    intro s hs hm
    obtain ⟨r, e, hr⟩ := step s hs
    cases r with
    | inl s' =>
      simp only [mx_lp, e]
      exact ih hr.1 (by have := hr.2; omega)
    | inr x =>
      simp only [mx_lp, e]
      exact ⟨x, rfl, hr⟩
/-- two runs that end, side by side -/
def Rl {α β : Type} (o : Option α) (o2 : Option β) (P : α → β → Prop) : Prop := ∃ a b, o = some a ∧ o2 = some b ∧ P a b
theorem Rl.ret {α β : Type} {a : α} {b : β} {P : α → β → Prop} (h : P a b) : Rl (some a) (some b) P := ⟨a, b, rfl, rfl, h⟩
theorem Rl.bind {α β γ δ : Type} {o : Option α} {o2 : Option β} {f : α → Option γ} {g : β → Option δ} {P : α → β → Prop} {Q : γ → δ → Prop} (h : Rl o o2 P) (k : ∀ a b, P a b → Rl (f a) (g b) Q) : Rl (o.bind f) (o2.bind g) Q := by
  obtain ⟨a, b, rfl, rfl, hp⟩ := h
  exact k a b hp
theorem Rl.left {α β γ : Type} {o : Option α} {o2 : Option β} {f : α → Option γ} {P : α → Prop} {Q : γ → β → Prop} (h : Sm o P) (k : ∀ a, P a → Rl (f a) o2 Q) : Rl (o.bind f) o2 Q := by
  obtain ⟨a, rfl, hp⟩ := h
  exact k a hp
theorem Rl.right {α β δ : Type} {o : Option α} {o2 : Option β} {g : β → Option δ} {P : β → Prop} {Q : α → δ → Prop} (h : Sm o2 P) (k : ∀ b, P b → Rl o (g b) Q) : Rl o (o2.bind g) Q := by
  obtain ⟨b, rfl, hp⟩ := h
  exact k b hp
theorem Rl.mono {α β : Type} {o : Option α} {o2 : Option β} {P Q : α → β → Prop} (h : Rl o o2 P) (k : ∀ a b, P a b → Q a b) : Rl o o2 Q := by
  obtain ⟨a, b, rfl, rfl, hp⟩ := h
  exact ⟨a, b, rfl, rfl, k a b hp⟩
theorem Rl.both {α β : Type} {o : Option α} {o2 : Option β} {P : α → Prop} {P2 : β → Prop} {Q : α → β → Prop} (h : Sm o P) (h2 : Sm o2 P2) (k : ∀ a b, P a → P2 b → Q a b) : Rl o o2 Q := by
  obtain ⟨a, rfl, hp⟩ := h
  obtain ⟨b, rfl, hp2⟩ := h2
  exact ⟨a, b, rfl, rfl, k a b hp hp2⟩
theorem Rl.lp {σ τ ε ζ : Type} {body : σ → Option (σ ⊕ ε)} {body2 : τ → Option (τ ⊕ ζ)} {P : ε → ζ → Prop} (Inv : σ → τ → Prop) (m : σ → Nat)
    (step : ∀ s t, Inv s t → Rl (body s) (body2 t) (fun r r2 => (∃ s' t', r = .inl s' ∧ r2 = .inl t' ∧ Inv s' t' ∧ m s' < m s) ∨ ∃ x y, r = .inr x ∧ r2 = .inr y ∧ P x y)) : ∀ (n : Nat) {s : σ} {t : τ}, Inv s t → m s < n → Rl (mx_lp body n s) (mx_lp body2 n t) P := by
  intro n
  induction n with
  | zero => intro s t _ h; omega
  | succ n ih =>
    intro s t hs hm
    obtain ⟨r, r2, e, e2, hr⟩ := step s t hs
    rcases hr with ⟨s', t', rfl, rfl, h1, h2⟩ | ⟨x, y, rfl, rfl, h1⟩
    · simp only [mx_lp, e, e2]
      exact ih h1 (by omega)
    · simp only [mx_lp, e, e2]
      exact ⟨x, y, rfl, rfl, h1⟩
theorem Rl.next {σ τ ε ζ : Type} {s : σ} {t : τ} {Inv : σ → τ → Prop} {m : σ → Nat} {k : Nat} {P : ε → ζ → Prop} (h : Inv s t) (hm : m s < k) : Rl (some (.inl s : σ ⊕ ε)) (some (.inl t : τ ⊕ ζ)) (fun r r2 => (∃ s' t', r = .inl s' ∧ r2 = .inl t' ∧ Inv s' t' ∧ m s' < k) ∨ ∃ x y, r = .inr x ∧ r2 = .inr y ∧ P x y) := ⟨_, _, rfl, rfl, .inl ⟨s, t, rfl, rfl, h, hm⟩⟩
theorem Rl.stop {σ τ ε ζ : Type} {x : ε} {y : ζ} {Inv : σ → τ → Prop} {m : σ → Nat} {k : Nat} {P : ε → ζ → Prop} (h : P x y) : Rl (some (.inr x : σ ⊕ ε)) (some (.inr y : τ ⊕ ζ)) (fun r r2 => (∃ s' t', r = .inl s' ∧ r2 = .inl t' ∧ Inv s' t' ∧ m s' < k) ∨ ∃ x y, r = .inr x ∧ r2 = .inr y ∧ P x y) := ⟨_, _, rfl, rfl, .inr ⟨x, y, rfl, rfl, h⟩⟩
/-- cells -/
theorem u3_ne {α : Type} {f : Nat → Nat → Nat → α} {t i k : Nat} {v : α} {t2 : Nat} (h : t2 ≠ t) : mx_u3 f t i k v t2 = f t2 := by
  funext a b
  unfold mx_u3
  rw [if_neg (fun q => h q.1)]
theorem u3_at {α : Type} (f : Nat → Nat → Nat → α) (t i k : Nat) (v : α) (a b : Nat) : mx_u3 f t i k v t a b = if a = i ∧ b = k then v else f t a b := by
  unfold mx_u3
  simp
theorem u3_eq {α : Type} (f : Nat → Nat → Nat → α) (t i k : Nat) (v : α) : mx_u3 f t i k v t i k = v := by
  rw [u3_at, if_pos ⟨rfl, rfl⟩]
theorem c_cmp (a b : Int64) : lg_cmp a b = 0 ↔ a = b := by
  unfold lg_cmp
  split
  · rename_i h
    constructor
    · intro q; exact absurd q (by decide)
    · intro q; subst q; exact absurd h (Int64.lt_irrefl)
  · split
    · rename_i h
      exact ⟨fun _ => h, fun _ => rfl⟩
    · rename_i h
      exact ⟨fun q => absurd q (by decide), fun q => absurd q h⟩
theorem c_le (a b : Int64) : lg_cmp a b ≤ 0 ↔ ¬ b < a := by
  unfold lg_cmp
  split
  · rename_i h
    exact ⟨fun q => absurd q (by decide), fun q => absurd h q⟩
  · rename_i h
    split
    · exact ⟨fun _ => h, fun _ => by decide⟩
    · exact ⟨fun _ => h, fun _ => by decide⟩
theorem c_gt (a b : Int64) : 0 < lg_cmp a b ↔ b < a := by
  unfold lg_cmp
  split
  · rename_i h
    exact ⟨fun _ => h, fun _ => by decide⟩
  · rename_i h
    split
    · exact ⟨fun q => absurd q (by decide), fun q => absurd q h⟩
    · exact ⟨fun q => absurd q (by decide), fun q => absurd q h⟩
theorem c_lt (a b : Int64) : lg_cmp a b < 0 ↔ a < b := by
  unfold lg_cmp
  split
  · rename_i h
    refine ⟨fun q => absurd q (by decide), fun q => ?_⟩
    rw [gt_iff_lt, Int64.lt_iff_toInt_lt] at h
    rw [Int64.lt_iff_toInt_lt] at q
    omega
  · rename_i h
    split
    · rename_i h2
      subst h2
      exact ⟨fun q => absurd q (by decide), fun q => absurd q h⟩
    · rename_i h2
      refine ⟨fun _ => ?_, fun _ => by decide⟩
      by_cases h3 : a < b
      · exact h3
      · exfalso
        apply h2
        apply Int64.toInt_inj.mp
        rw [gt_iff_lt, Int64.lt_iff_toInt_lt] at h
        rw [Int64.lt_iff_toInt_lt] at h3
        omega
