/-! does an element have an attribute -/
theorem f133_s {A : mI} {B : mJ} {t a : Nat} (ht : t < 128) (ha : a ≤ 4) (h : A 107 0 t = Int32.ofNat a) (w : Int64) : ∃ b, f133 (Int32.ofNat t) w A B = some b ∧ (b = true ↔ ∃ i, i < a ∧ B 103 0 (4 * t + i) = w) := by
  have e4 : ∀ i, (4 : Int32) * Int32.ofNat t + Int32.ofNat i = Int32.ofNat (4 * t + i) := fun i => by
    rw [n_mulL 4 t, i_add]
  have hf := fst_lp (body := b133_3 (Int32.ofNat t) w A B) 0 0 a (fun i => decide (B 103 0 (4 * t + i) = w)) (fun _ => .inr true) (.inl (Int32.ofNat a)) (by omega) (by omega) (by omega) (fun i _ hi => by
      unfold b133_3
      rw [Nat.zero_add, if_neg (i_g ht (by decide)), i_cl (n := t) (by omega), h, if_neg (fun q => absurd ((i_le (by omega) (by omega)).mp q) (by omega)), e4, if_neg (i_g (show 4 * t + i < 512 by omega) (by decide)), i_cl (by omega)]
      by_cases c : B 103 0 (4 * t + i) = w
      · rw [if_pos ((c_cmp _ _).mpr c), decide_eq_true c, if_pos rfl]
      · rw [if_neg (fun z => c ((c_cmp _ _).mp z)), decide_eq_false c, if_neg (by decide)]) (by
      unfold b133_3
      rw [Nat.zero_add, if_neg (i_g ht (by decide)), i_cl (n := t) (by omega), h, if_pos ((i_le (by omega) (by omega)).mpr (Nat.le_refl a))])
  rcases hf with ⟨e1, e2⟩ | ⟨i, -, hi, e1, e2, -⟩
  · refine ⟨false, congrArg (fun z => Option.bind z _) e1, fun q => absurd q (by decide), fun ⟨j, hj, q⟩ => ?_⟩
    have z := e2 j (by omega) hj
    rw [decide_eq_true q] at z
    exact absurd z (by decide)
  · exact ⟨true, congrArg (fun z => Option.bind z _) e1, fun _ => ⟨i, hi, of_decide_eq_true e2⟩, fun _ => rfl⟩
theorem vof_ge {N V : Nat → Int64} {nm : Int64} {a : Nat} (hv : ∀ i, i < a → 0 ≤ V i) : ∀ r i, i + r = a → (¬ vof N V nm i r < 0 ↔ ∃ j, i ≤ j ∧ j < a ∧ N j = nm) := by
  intro r
  induction r with
  | zero =>
    intro i hi
    constructor
    · intro q
      exact absurd (show (-1 : Int64) < 0 by decide) q
    · rintro ⟨j, h1, h2, -⟩
      omega
  | succ r ih =>
    intro i hi
    unfold vof
    by_cases c : N i = nm
    · rw [if_pos c]
      refine ⟨fun _ => ⟨i, Nat.le_refl i, by omega, c⟩, fun _ q => ?_⟩
      have h2 := hv i (by omega)
      rw [Int64.le_iff_toInt_le] at h2
      rw [Int64.lt_iff_toInt_lt] at q
      omega
    · rw [if_neg c, ih (i + 1) (by omega)]
      constructor
      · rintro ⟨j, h1, h2, h3⟩
        exact ⟨j, by omega, h2, h3⟩
      · rintro ⟨j, h1, h2, h3⟩
        have h4 : j ≠ i := fun q => c (by rw [← q]; exact h3)
        exact ⟨j, by omega, h2, h3⟩
theorem f44_s {I : mI} {J : mJ} {e a : Nat} (ha : a ≤ 4) (h : I 3 e 2 = Int32.ofNat a) (hv : ∀ i, i < a → 0 ≤ J 71 e i) (w : Int64) : ∃ b, f44 e w I J = some b ∧ (b = true ↔ ∃ i, i < a ∧ J 70 e i = w) := by
  unfold f44
  rw [v_f45 w ha h, Option.bind_some]
  have hq := vof_ge (N := J 70 e) (nm := w) hv a 0 (by omega)
  by_cases c : vof (J 70 e) (J 71 e) w 0 a < 0
  · rw [if_pos ((c_lt _ _).mpr c)]
    refine ⟨false, rfl, fun q => absurd q (by decide), fun ⟨j, h1, h2⟩ => ?_⟩
    exact absurd c (hq.mpr ⟨j, by omega, h1, h2⟩)
  · rw [if_neg (fun z => c ((c_lt _ _).mp z))]
    obtain ⟨j, h1, h2, h3⟩ := hq.mp c
    exact ⟨true, rfl, fun _ => ⟨j, h2, h3⟩, fun _ => rfl⟩
section
variable {A : mI} {B : mJ} {t a L : Nat}
theorem f132_0 (ht : t < 128) (ha : a < 4) (h13 : A 11 0 13 = Int32.ofNat t) (h107 : A 107 0 t = Int32.ofNat (a + 1)) (c x : Int32) : f132 c x A B = if x = 0 then (if c = 61 then ((f133 (Int32.ofNat t) (B 103 0 (4 * t + a)) (mx_u3 A 107 0 t (Int32.ofNat a)) B).bind fun u => if u = true then j132_80 c x (Int32.ofNat (4 * t + a)) (mx_u3 A 107 0 t (Int32.ofNat a)) B else j132_81 c x (Int32.ofNat (4 * t + a)) 1 (mx_u3 A 107 0 t (Int32.ofNat a)) B) else j132_80 c x (Int32.ofNat (4 * t + a)) (mx_u3 A 107 0 t (Int32.ofNat a)) B) else if 8 ≤ A 11 0 14 then j132_81 c x (Int32.ofNat (4 * t + a)) 0 (mx_u3 A 107 0 t (Int32.ofNat a)) B else j132_81 c x (Int32.ofNat (4 * t + a)) 1 (mx_u3 A 107 0 t (Int32.ofNat a)) B := by
  have g := i_g ht (show 128 ≤ 2147483648 by decide)
  have et : (Int32.ofNat t).toNatClampNeg = t := i_cl (by omega)
  have ea : Int32.ofNat (a + 1) - 1 = Int32.ofNat a := n_subR (by show 1 ≤ a + 1; omega)
  have e4 : (4 : Int32) * Int32.ofNat t + Int32.ofNat (a + 1) - 1 = Int32.ofNat (4 * t + a) := by
    rw [n_mulL 4 t, i_add]
    exact n_subR (by show 1 ≤ 4 * t + (a + 1); omega)
  have g4 := i_g (show 4 * t + a < 512 by omega) (show 512 ≤ 2147483648 by decide)
  have e5 : (Int32.ofNat (4 * t + a)).toNatClampNeg = 4 * t + a := i_cl (by omega)
  unfold f132
  simp only [h13]
  simp only [if_neg g]
  simp only [et, h107, ea, e4]
  simp only [if_neg g4]
  simp only [e5]
/-- the end of it -/
theorem j132_e (v2 : Int32) (b : Bool) (ht : t < 128) (h13 : A 11 0 13 = Int32.ofNat t) (h107 : A 107 0 t = Int32.ofNat a) : j132_151 v2 (b2i b) A B = some (b, if v2 = 0 then mx_u3 (mx_u3 A 107 0 t (Int32.ofNat (a + 1))) 11 0 11 5 else mx_u3 A 107 0 t (Int32.ofNat (a + 1)), B) := by
  have g := i_g ht (show 128 ≤ 2147483648 by decide)
  have et : (Int32.ofNat t).toNatClampNeg = t := i_cl (by omega)
  have ea : Int32.ofNat a + 1 = Int32.ofNat (a + 1) := n_addR a 1
  unfold j132_151
  simp only [h13]
  simp only [if_neg g]
  simp only [et, h107, ea]
  by_cases c : v2 = 0
  · rw [if_pos c, if_pos c]
    cases b <;> rfl
  · rw [if_neg c, if_neg c]
    cases b <;> rfl
theorem f132_n (ht : t < 128) (ha : a < 4) (h13 : A 11 0 13 = Int32.ofNat t) (h107 : A 107 0 t = Int32.ofNat (a + 1)) (c : Int32) : ∃ b, f132 c 0 A B = some (b, mx_u3 (mx_u3 (mx_u3 A 107 0 t (Int32.ofNat a)) 107 0 t (Int32.ofNat (a + 1))) 11 0 11 5, B) ∧ (b = true ↔ c = 61 ∧ ¬ ∃ i, i < a ∧ B 103 0 (4 * t + i) = B 103 0 (4 * t + a)) := by
  rw [f132_0 ht ha h13 h107, if_pos rfl]
  have k13 : (mx_u3 A 107 0 t (Int32.ofNat a)) 11 0 13 = Int32.ofNat t := by rw [u3_ne (by decide), h13]
  have k107 : (mx_u3 A 107 0 t (Int32.ofNat a)) 107 0 t = Int32.ofNat a := u3_eq _ _ _ _ _
  have e80 : ∀ b : Bool, j132_81 c 0 (Int32.ofNat (4 * t + a)) (b2i b) (mx_u3 A 107 0 t (Int32.ofNat a)) B = some (b, mx_u3 (mx_u3 (mx_u3 A 107 0 t (Int32.ofNat a)) 107 0 t (Int32.ofNat (a + 1))) 11 0 11 5, B) := fun b => by
    unfold j132_81
    rw [if_pos rfl, j132_e 0 b ht k13 k107, if_pos rfl]
  by_cases c1 : c = 61
  · rw [if_pos c1]
    obtain ⟨b, e1, e2⟩ := f133_s (B := B) ht (show a ≤ 4 by omega) k107 (B 103 0 (4 * t + a))
    rw [e1]
    cases b with
    | true =>
      rw [bT]
      exact ⟨false, e80 false, fun q => absurd q (by decide), fun q => absurd (e2.mp rfl) q.2⟩
    | false =>
      rw [bF]
      exact ⟨true, e80 true, fun _ => ⟨c1, fun q => absurd (e2.mpr q) (by decide)⟩, fun _ => rfl⟩
  · rw [if_neg c1]
    exact ⟨false, e80 false, fun q => absurd q (by decide), fun q => absurd q.1 c1⟩
theorem f132_l (ht : t < 128) (ha : a < 4) (h13 : A 11 0 13 = Int32.ofNat t) (h107 : A 107 0 t = Int32.ofNat (a + 1)) (hL : L ≤ 8) (h14 : A 11 0 14 = Int32.ofNat L) (c : Int32) : (L = 8 → f132 c 1 A B = some (false, mx_u3 (mx_u3 A 107 0 t (Int32.ofNat a)) 107 0 t (Int32.ofNat (a + 1)), B)) ∧ (L < 8 → ∃ b, f132 c 1 A B = some (b, mx_u3 (mx_u3 (mx_u3 A 107 0 t (Int32.ofNat a)) 11 0 14 (Int32.ofNat (L + 1))) 107 0 t (Int32.ofNat (a + 1)), mx_u3 B 103 0 (4 * t + a) (app (B 103 0 (4 * t + a)) c (Int32.ofNat L))) ∧ (b = true ↔ ¬ (L + 1 = 8 ∧ ∃ i, i < a ∧ B 103 0 (4 * t + i) = app (B 103 0 (4 * t + a)) c (Int32.ofNat L)))) := by
  have k13 : (mx_u3 A 107 0 t (Int32.ofNat a)) 11 0 13 = Int32.ofNat t := by rw [u3_ne (by decide), h13]
  have k14 : (mx_u3 A 107 0 t (Int32.ofNat a)) 11 0 14 = Int32.ofNat L := by rw [u3_ne (by decide), h14]
  have k107 : (mx_u3 A 107 0 t (Int32.ofNat a)) 107 0 t = Int32.ofNat a := u3_eq _ _ _ _ _
  have eL : Int32.ofNat L + 1 = Int32.ofNat (L + 1) := n_addR L 1
  rw [f132_0 ht ha h13 h107, if_neg (by decide), h14]
  constructor
  · intro h8
    rw [if_pos ((n_leL (by decide) (by omega)).mpr (by omega))]
    unfold j132_81
    rw [if_neg (by decide), if_pos rfl]
    have z := j132_e (A := mx_u3 A 107 0 t (Int32.ofNat a)) (B := B) 1 false ht k13 k107
    rw [if_neg (by decide)] at z
    exact z
  · intro h8
    rw [if_neg (fun z => by have := (n_leL (by decide) (by omega)).mp z; omega)]
    have g4 := i_g (show 4 * t + a < 512 by omega) (show 512 ≤ 2147483648 by decide)
    have e5 : (Int32.ofNat (4 * t + a)).toNatClampNeg = 4 * t + a := i_cl (by omega)
    have m13 : (mx_u3 (mx_u3 A 107 0 t (Int32.ofNat a)) 11 0 14 (Int32.ofNat (L + 1))) 11 0 13 = Int32.ofNat t := by
      rw [u3_at, if_neg (fun z => absurd z.2 (by decide)), k13]
    have m14 : (mx_u3 (mx_u3 A 107 0 t (Int32.ofNat a)) 11 0 14 (Int32.ofNat (L + 1))) 11 0 14 = Int32.ofNat (L + 1) := u3_eq _ _ _ _ _
    have m107 : (mx_u3 (mx_u3 A 107 0 t (Int32.ofNat a)) 11 0 14 (Int32.ofNat (L + 1))) 107 0 t = Int32.ofNat a := by
      rw [u3_ne (by decide), k107]
    have fin : ∀ (b : Bool) (B' : mJ), j132_151 1 (b2i b) (mx_u3 (mx_u3 A 107 0 t (Int32.ofNat a)) 11 0 14 (Int32.ofNat (L + 1))) B' = some (b, mx_u3 (mx_u3 (mx_u3 A 107 0 t (Int32.ofNat a)) 11 0 14 (Int32.ofNat (L + 1))) 107 0 t (Int32.ofNat (a + 1)), B') := fun b B' => by
      rw [j132_e 1 b ht m13 m107, if_neg (by decide)]
    unfold j132_81
    rw [if_neg (by decide), if_neg (by decide)]
    simp only [k14, eL]
    simp only [if_neg g4]
    simp only [e5, m13, m14, u3_eq]
    by_cases c8 : L + 1 = 8
    · rw [if_neg (fun z => by have := (n_ltR (by omega) (by decide)).mp z; omega)]
      obtain ⟨b, e1, e2⟩ := f133_s (B := mx_u3 B 103 0 (4 * t + a) (app (B 103 0 (4 * t + a)) c (Int32.ofNat L))) ht (show a ≤ 4 by omega) m107 (app (B 103 0 (4 * t + a)) c (Int32.ofNat L))
      have e3 : (∃ i, i < a ∧ (mx_u3 B 103 0 (4 * t + a) (app (B 103 0 (4 * t + a)) c (Int32.ofNat L))) 103 0 (4 * t + i) = app (B 103 0 (4 * t + a)) c (Int32.ofNat L)) ↔ ∃ i, i < a ∧ B 103 0 (4 * t + i) = app (B 103 0 (4 * t + a)) c (Int32.ofNat L) := by
        constructor
        · rintro ⟨i, h1, h2⟩
          rw [u3_at, if_neg (fun z => by have := z.2; omega)] at h2
          exact ⟨i, h1, h2⟩
        · rintro ⟨i, h1, h2⟩
          exact ⟨i, h1, by rw [u3_at, if_neg (fun z => by have := z.2; omega)]; exact h2⟩
      rw [e3] at e2
      unfold app at e1 e2 ⊢
      rw [e1]
      cases b with
      | true =>
        rw [bT]
        exact ⟨false, fin false _, fun q => absurd q (by decide), fun q => absurd ⟨c8, e2.mp rfl⟩ q⟩
      | false =>
        rw [bF]
        exact ⟨true, fin true _, fun _ q => absurd (e2.mpr q.2) (by decide), fun _ => rfl⟩
    · rw [if_pos ((n_ltR (by omega) (by decide)).mpr (show L + 1 < 8 by omega))]
      exact ⟨true, fin true _, fun _ q => c8 q.1, fun _ => rfl⟩
end
