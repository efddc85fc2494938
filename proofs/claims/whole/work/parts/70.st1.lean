/-! behind <: an element begins, or one ends -/
theorem f42_s {I : mI} {J : mJ} {e x : Nat} (v : Int32) (hx : x ≠ e) : ∃ I2, f42 e x v I J = some (I2, mx_u3 J 3 e 7 0) ∧ I2 3 e 3 = v ∧ I2 3 e 4 = I 3 x 3 ∧ I2 3 e 6 = I 3 x 6 + 1 ∧ I2 3 e 5 = (if I 3 x 6 + 1 = 1 then v else I 3 x 5) ∧ I2 3 e 2 = 0 ∧ (∀ i k, i ≠ e → I2 3 i k = I 3 i k) ∧ fr I2 I [3] ∧ ∀ (I1 : mI) (C : Nat → Nat → Nat → Prop), only I I1 C → (∀ k, C 3 e k) → only I2 I1 C := by
  unfold f42
  have r1 : (mx_u3 I 3 e 3 v) 3 x 3 = I 3 x 3 := by rw [u3_at, if_neg (fun z => hx z.1)]
  rw [r1]
  have r2 : (mx_u3 (mx_u3 I 3 e 3 v) 3 e 4 (I 3 x 3)) 3 x 6 = I 3 x 6 := by rw [u3_at, if_neg (fun z => hx z.1), u3_at, if_neg (fun z => hx z.1)]
  rw [r2, u3_eq]
  have r3 : (mx_u3 (mx_u3 (mx_u3 I 3 e 3 v) 3 e 4 (I 3 x 3)) 3 e 6 (I 3 x 6 + 1)) 3 x 5 = I 3 x 5 := by rw [u3_at, if_neg (fun z => hx z.1), u3_at, if_neg (fun z => hx z.1), u3_at, if_neg (fun z => hx z.1)]
  rw [r3]
  have key : ∀ w : Int32, (mx_u3 (mx_u3 (mx_u3 (mx_u3 (mx_u3 I 3 e 3 v) 3 e 4 (I 3 x 3)) 3 e 6 (I 3 x 6 + 1)) 3 e 5 w) 3 e 2 0) 3 e 3 = v ∧ (mx_u3 (mx_u3 (mx_u3 (mx_u3 (mx_u3 I 3 e 3 v) 3 e 4 (I 3 x 3)) 3 e 6 (I 3 x 6 + 1)) 3 e 5 w) 3 e 2 0) 3 e 4 = I 3 x 3 ∧ (mx_u3 (mx_u3 (mx_u3 (mx_u3 (mx_u3 I 3 e 3 v) 3 e 4 (I 3 x 3)) 3 e 6 (I 3 x 6 + 1)) 3 e 5 w) 3 e 2 0) 3 e 6 = I 3 x 6 + 1 ∧ (mx_u3 (mx_u3 (mx_u3 (mx_u3 (mx_u3 I 3 e 3 v) 3 e 4 (I 3 x 3)) 3 e 6 (I 3 x 6 + 1)) 3 e 5 w) 3 e 2 0) 3 e 5 = w ∧ (mx_u3 (mx_u3 (mx_u3 (mx_u3 (mx_u3 I 3 e 3 v) 3 e 4 (I 3 x 3)) 3 e 6 (I 3 x 6 + 1)) 3 e 5 w) 3 e 2 0) 3 e 2 = 0 ∧ (∀ i k, i ≠ e → (mx_u3 (mx_u3 (mx_u3 (mx_u3 (mx_u3 I 3 e 3 v) 3 e 4 (I 3 x 3)) 3 e 6 (I 3 x 6 + 1)) 3 e 5 w) 3 e 2 0) 3 i k = I 3 i k) ∧ fr (mx_u3 (mx_u3 (mx_u3 (mx_u3 (mx_u3 I 3 e 3 v) 3 e 4 (I 3 x 3)) 3 e 6 (I 3 x 6 + 1)) 3 e 5 w) 3 e 2 0) I [3] ∧ ∀ (I1 : mI) (C : Nat → Nat → Nat → Prop), only I I1 C → (∀ k, C 3 e k) → only (mx_u3 (mx_u3 (mx_u3 (mx_u3 (mx_u3 I 3 e 3 v) 3 e 4 (I 3 x 3)) 3 e 6 (I 3 x 6 + 1)) 3 e 5 w) 3 e 2 0) I1 C := fun w => by
    refine ⟨?_, ?_, ?_, ?_, ?_, fun i k hi => ?_, ?_, fun I1 C hI hC => ?_⟩
    · simp [u3_at]
    · simp [u3_at]
    · simp [u3_at]
    · simp [u3_at]
    · simp [u3_at]
    · simp [u3_at, hi]
    · exact (((((fr.rf I _).up (by decide)).up (by decide)).up (by decide)).up (by decide)).up (by decide)
    · exact ((((hI.up (hC _) _).up (hC _) _).up (hC _) _).up (hC _) _).up (hC _) _
  by_cases c : I 3 x 6 + 1 = 1
  · rw [if_pos c, if_pos c]
    obtain ⟨k1, k2, k3, k4, k5, k6, k7, k8⟩ := key v
    exact ⟨_, rfl, k1, k2, k3, k4, k5, k6, k7, k8⟩
  · rw [if_neg c, if_neg c]
    obtain ⟨k1, k2, k3, k4, k5, k6, k7, k8⟩ := key (I 3 x 5)
    exact ⟨_, rfl, k1, k2, k3, k4, k5, k6, k7, k8⟩
theorem app_0 {c : Nat} (hc : c < 128) : app 0 (Int32.ofNat c) 0 = (Int32.ofNat c).toInt64 := by
  apply wn_inj
  have h := ap_n (w := 0) (L := 0) hc (by decide) (by decide)
  have h2 : wn (app 0 (Int32.ofNat c) 0) = wn (app 0 (Int32.ofNat c) (Int32.ofNat 0)) := rfl
  rw [h2, h]
  have h3 : wn (Int32.ofNat c).toInt64 = c := c_64 c hc
  rw [h3]
  show 0 + c * 2 ^ (8 * 0) = c
  omega
section
variable {I I1 A A1 : mI} {J J1 B B1 : mJ} {p n : Nat} {h : Nat → Nat}
theorem nofalse {P : Prop} : false = true → P := fun q => absurd q Bool.false_ne_true
/-- the depth that an element here would have -/
theorem hin_d {c : Int32} (hp : p < 8) (F : PF p I1 J1 A1 B1 I J A B) (h5 : g_non I1 J1) (e : el I A J B p n) (hi : hin h A p n) : ∃ d, d ≤ 4 ∧ I 3 (h p) 6 = Int32.ofNat d ∧ (A 11 0 12 < 0 ↔ d = 0) ∧ (f129 (Int32.ofNat p) c A B = j129_22 (Int32.ofNat p) c (Int32.ofNat (d + 1)) A B) ∧ (h p ≠ 1 + 16 * p + n) ∧ ((d = 0 ∧ I 3 (h p) 3 = -1 ∧ A 11 0 12 = -1) ∨ (1 ≤ d ∧ ∃ k, k < n ∧ h p = 1 + 16 * p + k ∧ I 3 (h p) 3 = Int32.ofNat k ∧ A 11 0 12 = Int32.ofNat (16 * p + k))) := by
  rcases hi with ⟨i1, i2⟩ | ⟨k, hk, i1, i2⟩
  · refine ⟨0, by omega, by rw [i1]; exact (non_0 F h5).1, ⟨fun _ => rfl, fun _ => by rw [i2]; decide⟩, ?_, by omega, .inl ⟨rfl, by rw [i1]; exact (non_0 F h5).2.1, i2⟩⟩
    unfold f129
    rw [i2, if_neg (by decide)]
    rfl
  · obtain ⟨d, d1, d2, d3, d4⟩ := dep e hk
    obtain ⟨⟨g1, -⟩, -⟩ := e.2.2.2 k hk
    have hn := e.1
    refine ⟨d, d2, by rw [i1]; exact d3, ⟨fun z => ?_, fun z => by omega⟩, ?_, by omega, .inr ⟨d1, k, hk, i1, by rw [i1]; exact g1, i2⟩⟩
    · rw [i2] at z
      exact absurd z (i_nn (by omega))
    · unfold f129
      have e1 : Int32.ofNat d + 1 = Int32.ofNat (d + 1) := n_addR d 1
      rw [i2, if_pos (i_ps (by omega)), if_neg (i_g (show 16 * p + k < 128 by omega) (by decide)), i_cl (by omega), d4, e1]
theorem j129_s {c : Int32} {d : Nat} (hp : p < 8) (e : el I A J B p n) (hd : d ≤ 4) : j129_22 (Int32.ofNat p) c (Int32.ofNat (d + 1)) A B = if n = 16 ∨ d = 4 then some (false, A, B) else some (true, mx_u3 (mx_u3 (mx_u3 (mx_u3 (mx_u3 (mx_u3 (mx_u3 A 100 0 p (Int32.ofNat (n + 1))) 11 0 13 (Int32.ofNat (16 * p + n))) 105 0 (16 * p + n) (A 11 0 12)) 106 0 (16 * p + n) (Int32.ofNat (d + 1))) 107 0 (16 * p + n) 0) 11 0 14 1) 11 0 11 2, mx_u3 B 102 0 (16 * p + n) c.toInt64) := by
  have hn := e.1
  have g := i_g hp (show 8 ≤ 2147483648 by decide)
  have ep : (Int32.ofNat p).toNatClampNeg = p := i_cl (by omega)
  have e16 : (16 : Int32) * Int32.ofNat p + Int32.ofNat n = Int32.ofNat (16 * p + n) := by
    rw [n_mulL 16 p, i_add]
  have en : Int32.ofNat n + 1 = Int32.ofNat (n + 1) := n_addR n 1
  unfold j129_22
  rw [if_neg g]
  simp only [if_neg g]
  simp only [ep, e.2.2.1, e16, en]
  by_cases c1 : n = 16
  · rw [if_pos (by rw [c1]; rfl), if_pos (.inl c1)]
  have q1 : ¬ Int32.ofNat n = 16 := fun z => c1 ((n_eqR (by omega) (by decide)).mp z)
  rw [if_neg q1]
  by_cases c2 : d = 4
  · have q2 : ¬ Int32.ofNat (d + 1) ≤ 4 := fun z => by have := (n_leR (by omega) (by decide)).mp z; omega
    rw [if_neg q2, if_pos (.inr c2)]
  have q2 : Int32.ofNat (d + 1) ≤ 4 := (n_leR (by omega) (by decide)).mpr (by show d + 1 ≤ 4; omega)
  rw [if_pos q2, if_neg (show ¬ (n = 16 ∨ d = 4) from fun z => z.elim c1 c2)]
  have r1 : (mx_u3 (mx_u3 A 100 0 p (Int32.ofNat (n + 1))) 11 0 13 (Int32.ofNat (16 * p + n))) 11 0 13 = Int32.ofNat (16 * p + n) := u3_eq _ _ _ _ _
  have r2 : (mx_u3 (mx_u3 A 100 0 p (Int32.ofNat (n + 1))) 11 0 13 (Int32.ofNat (16 * p + n))) 11 0 12 = A 11 0 12 := by
    rw [u3_at, if_neg (fun z => absurd z.2 (by decide)), u3_ne (by decide)]
  have g2 := i_g (show 16 * p + n < 128 by omega) (show 128 ≤ 2147483648 by decide)
  have et : (Int32.ofNat (16 * p + n)).toNatClampNeg = 16 * p + n := i_cl (by omega)
  simp only [r1, r2]
  simp only [if_neg g2]
  simp only [et]
theorem f60_s {c : Int32} {d : Nat} (hp : p < 8) (e : el I A J B p n) (hd : I 3 (h p) 6 = Int32.ofNat d) (hd4 : d ≤ 4) (hh : h p ≠ 1 + 16 * p + n) (hc : ¬ c = 47) (hl : f8 c = some true) : (n = 16 ∨ d = 4 → f60 p c I J h = some (false, I, J, h)) ∧ (¬ (n = 16 ∨ d = 4) → ∃ I2, f60 p c I J h = some (true, mx_u3 (mx_u3 (mx_u3 (mx_u3 I2 4 p 2 (Int32.ofNat (n + 1))) 5 p 4 0) 5 p 2 2) 5 p 4 1, mx_u3 (mx_u3 (mx_u3 (mx_u3 J 3 (1 + 16 * p + n) 7 0) 5 p 3 0) 5 p 3 (app 0 c 0)) 3 (1 + 16 * p + n) 7 (app 0 c 0), mx_u1 h p (1 + 16 * p + n)) ∧ f42 (1 + 16 * p + n) (h p) (Int32.ofNat n) I J = some (I2, mx_u3 J 3 (1 + 16 * p + n) 7 0)) := by
  have hn := e.1
  have en : Int32.ofNat n + 1 = Int32.ofNat (n + 1) := n_addR n 1
  constructor
  · intro z
    unfold f60 f49
    rw [if_neg hc, hl, bT, e.2.1]
    by_cases c1 : n = 16
    · have q : (16 : Int32) ≤ Int32.ofNat n := (n_leL (by decide) (by omega)).mpr (by omega)
      rw [if_pos q]
      rfl
    · have q : ¬ (16 : Int32) ≤ Int32.ofNat n := fun q => by have := (n_leL (by decide) (by omega)).mp q; omega
      rw [if_neg q, bT, hd, if_neg]
      intro q2
      have := (n_ltR (by omega) (by decide)).mp q2
      omega
  · intro z
    have c1 : ¬ n = 16 := fun q => z (.inl q)
    have c2 : ¬ d = 4 := fun q => z (.inr q)
    have q : ¬ (16 : Int32) ≤ Int32.ofNat n := fun q => by have := (n_leL (by decide) (by omega)).mp q; omega
    have q2 : Int32.ofNat d < 4 := (n_ltR (by omega) (by decide)).mpr (by omega)
    have g := i_g (show n < 16 by omega) (show 16 ≤ 2147483648 by decide)
    obtain ⟨I2, k1, -, -, -, -, -, -, k7, -⟩ := f42_s (I := I) (J := J) (Int32.ofNat n) hh
    refine ⟨I2, ?_, k1⟩
    have e4 : I2 4 p 2 = Int32.ofNat n := by
      rw [k7 4 (by decide)]
      exact e.2.1
    unfold f60 f50 f49
    rw [if_neg hc, hl, bT, e.2.1, if_neg q, bT, hd, if_pos q2, bT, if_neg g, i_cl (by omega), k1, Option.bind_some, Option.bind_some]
    simp only
    rw [e4, en]
    unfold f61 f58 f62 f64
    rw [hl]
    simp only [Option.bind_some, eq_self, if_true]
    have r4 : (mx_u3 (mx_u3 (mx_u3 I2 4 p 2 (Int32.ofNat (n + 1))) 5 p 4 0) 5 p 2 2) 5 p 4 = 0 := by
      rw [u3_at, if_neg (fun z => absurd z.2 (by decide)), u3_eq]
    rw [r4, if_pos (by decide), u3_eq]
    simp only [Option.bind_some]
    have r5 : (mx_u1 h p (1 + 16 * p + n)) p = 1 + 16 * p + n := by
      unfold mx_u1
      rw [if_pos rfl]
    rw [r5, u3_eq]
    rfl
end
