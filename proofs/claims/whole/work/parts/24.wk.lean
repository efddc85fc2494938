/-! the waking: by levels -/
def wk : Nat → Int32 → Int32 → (Nat → Nat → Nat → Int32) → (Nat → Nat → Nat → Int64) → Option (Bool × (Nat → Nat → Nat → Int32))
  | 0 => fun _ _ _ _ => none
  | n + 1 => f90 (wk n)
theorem T_wk : ∀ (n : Nat) {d : Nat} {x1 : Int32} {x2 : Int32} {I : Nat → Nat → Nat → Int32} {J : Nat → Nat → Nat → Int64} {h : Nat → Nat} {μ : mx_Rg × (Nat × (Nat → Int32)) × (Nat × Nat)} {Q : Option mx_V → mx_Hp → Prop} {o : Bool × (Nat → Nat → Nat → Int32)}, wk n x1 x2 I J = some o → Q (some (mx_i (b2i o.1))) (hC o.2 J h, μ) → mx_WP (d + 3 * n + 2) 90 0 (mx_ent 90 [mx_r (some (0, 7, 0)), mx_i x1, mx_i x2]) [] (hC I J h, μ) Q := by
  intro n
  induction n with
  | zero =>
    intro d x1 x2 I J h μ Q o hf
    cases hf
  | succ n ih =>
    intro d x1 x2 I J h μ Q o hf hk
    exact T90 (d := d + 3 * n) (fw90 := wk n) (fun a b => ih a b) hf hk
def f87z (x1 : Int32) (x2 : Int32) (I : Nat → Nat → Nat → Int32) (J : Nat → Nat → Nat → Int64) : Option (Bool × (Nat → Nat → Nat → Int32)) := f87 (wk 9) x1 x2 I J
theorem T87z {d : Nat} {x1 : Int32} {x2 : Int32} {I : Nat → Nat → Nat → Int32} {J : Nat → Nat → Nat → Int64} {h : Nat → Nat} {μ : mx_Rg × (Nat × (Nat → Int32)) × (Nat × Nat)} {Q : Option mx_V → mx_Hp → Prop} {o : Bool × (Nat → Nat → Nat → Int32)} (hf : f87z x1 x2 I J = some o) (hk : Q (some (mx_i (b2i o.1))) (hC o.2 J h, μ)) : mx_WP (d + 30) 87 0 (mx_ent 87 [mx_r (some (0, 7, 0)), mx_i x1, mx_i x2]) [] (hC I J h, μ) Q := T87 (d := d + 27) (fw90 := wk 9) (fun a b => T_wk 9 (d := d) a b) hf hk
