/-! numbers in conditions -/
theorem n_leL {a b : Nat} (ha : (OfNat.ofNat a : Nat) < 2147483648) (hb : b < 2147483648) : ((OfNat.ofNat a : Int32) ≤ Int32.ofNat b) ↔ (OfNat.ofNat a : Nat) ≤ b := i_le ha hb
theorem n_leR {a b : Nat} (ha : a < 2147483648) (hb : (OfNat.ofNat b : Nat) < 2147483648) : (Int32.ofNat a ≤ (OfNat.ofNat b : Int32)) ↔ a ≤ (OfNat.ofNat b : Nat) := i_le ha hb
theorem n_ltL {a b : Nat} (ha : (OfNat.ofNat a : Nat) < 2147483648) (hb : b < 2147483648) : ((OfNat.ofNat a : Int32) < Int32.ofNat b) ↔ (OfNat.ofNat a : Nat) < b := i_lt ha hb
theorem n_ltR {a b : Nat} (ha : a < 2147483648) (hb : (OfNat.ofNat b : Nat) < 2147483648) : (Int32.ofNat a < (OfNat.ofNat b : Int32)) ↔ a < (OfNat.ofNat b : Nat) := i_lt ha hb
theorem n_eqR {a b : Nat} (ha : a < 2147483648) (hb : (OfNat.ofNat b : Nat) < 2147483648) : (Int32.ofNat a = (OfNat.ofNat b : Int32)) ↔ a = (OfNat.ofNat b : Nat) := i_eq ha hb
theorem n_addL (a b : Nat) : (OfNat.ofNat a : Int32) + Int32.ofNat b = Int32.ofNat ((OfNat.ofNat a : Nat) + b) := i_add a b
theorem n_addR (a b : Nat) : Int32.ofNat a + (OfNat.ofNat b : Int32) = Int32.ofNat (a + (OfNat.ofNat b : Nat)) := i_add a b
theorem n_mulL (a b : Nat) : (OfNat.ofNat a : Int32) * Int32.ofNat b = Int32.ofNat ((OfNat.ofNat a : Nat) * b) := i_mul a b
theorem n_mulR (a b : Nat) : Int32.ofNat a * (OfNat.ofNat b : Int32) = Int32.ofNat (a * (OfNat.ofNat b : Nat)) := i_mul a b
theorem n_divR {a b : Nat} (ha : a < 2147483648) (hb : (OfNat.ofNat b : Nat) < 2147483648) : Int32.ofNat a / (OfNat.ofNat b : Int32) = Int32.ofNat (a / (OfNat.ofNat b : Nat)) := i_div ha hb
theorem n_subR {a b : Nat} (h : (OfNat.ofNat b : Nat) ≤ a) : Int32.ofNat a - (OfNat.ofNat b : Int32) = Int32.ofNat (a - (OfNat.ofNat b : Nat)) := i_sub h
theorem bt_nar (c : Nat) : c < 128 → vp_nar .byte (Int32.ofNat c).toInt8.toInt32 = Int32.ofNat c := by
  intro h
  have hd : ∀ c : Fin 128, vp_nar .byte (Int32.ofNat c.val).toInt8.toInt32 = Int32.ofNat c.val := by decide +kernel
  exact hd ⟨c, h⟩
/-! text -/
theorem txt_n (w : Int64) (A : mI) : Rl (mx_lp (b31_2 w) mx_fu (0 : Int32)) (mx_lp (b117_2 w A) mx_fu (0 : Int32)) (fun x y => (∃ n, n ≤ 8 ∧ x = .inl (Int32.ofNat n) ∧ y = .inl (Int32.ofNat n) ∧ ∀ i, i < n → oc w i < 128) ∨ (x = .inr 0 ∧ y = .inr (-1, A))) := by
  refine Rl.lp (fun s t => ∃ k, k ≤ 8 ∧ s = Int32.ofNat k ∧ t = Int32.ofNat k ∧ ∀ i, i < k → oc w i < 128) (fun s => 8 - s.toNatClampNeg) ?_ mx_fu ⟨0, by decide, rfl, rfl, fun i h => absurd h (by omega)⟩ (by decide)
  rintro s t ⟨k, hk, rfl, rfl, ho⟩
  unfold b31_2 b117_2
  rcases Nat.lt_or_ge k 8 with h8 | h8
  · have n1 : ¬ (8 : Int32) ≤ Int32.ofNat k := fun q => absurd ((n_leL (by decide) (by omega)).mp q) (by omega)
    rw [if_neg n1, if_neg n1, oc_f2 w k h8, oc_f118 w k h8]
    have hl := oc_lt w k
    show Rl (if Int32.ofNat (oc w k) = 0 then _ else if Int32.ofNat (oc w k) ≤ 127 then _ else _) (if Int32.ofNat (oc w k) ≤ 0 then _ else if Int32.ofNat (oc w k) ≤ 127 then _ else _) _
    by_cases c0 : oc w k = 0
    · rw [c0, if_pos (by decide), if_pos (by decide)]
      exact Rl.stop (.inl ⟨k, hk, rfl, rfl, ho⟩)
    · rw [if_neg (fun q => c0 ((n_eqR (by omega) (by omega)).mp q)), if_neg (fun q => c0 (Nat.le_zero.mp ((n_leR (by omega) (by omega)).mp q)))]
      by_cases c1 : oc w k ≤ 127
      · have q : Int32.ofNat (oc w k) ≤ (127 : Int32) := (n_leR (by omega) (by decide)).mpr c1
        rw [if_pos q, if_pos q]
        refine Rl.next ⟨k + 1, by omega, n_addR k 1, n_addR k 1, fun i hi => ?_⟩ ?_
        · by_cases hik : i = k
          · subst hik; omega
          · exact ho i (by omega)
        · rw [show Int32.ofNat k + 1 = Int32.ofNat (k + 1) from n_addR k 1, i_cl (by omega), i_cl (by omega)]
          omega
      · have q : ¬ Int32.ofNat (oc w k) ≤ (127 : Int32) := fun q => c1 ((n_leR (by omega) (by omega)).mp q)
        rw [if_neg q, if_neg q]
        exact Rl.stop (.inr ⟨rfl, rfl⟩)
  · have e : k = 8 := by omega
    subst e
    rw [if_pos (by decide), if_pos (by decide)]
    exact Rl.stop (.inl ⟨8, hk, rfl, rfl, ho⟩)
theorem txt_l {w : Int64} {I A : mI} {n m : Nat} (hm : m ≤ 8) (hnm : n + m ≤ 200) (ho : ∀ i, i < m → oc w i < 128) (h1 : I 1 0 2 = Int32.ofNat n) (h2 : A 11 0 10 = Int32.ofNat n) (h3 : ∀ k, k < n → I 64 0 k = A 82 0 k) :
    Rl (mx_lp (b30_29 w (Int32.ofNat m) I) mx_fu ((0 : Int32), I)) (mx_lp (b117_58 w (Int32.ofNat m) A) mx_fu ((0 : Int32), A)) (fun x y => fr x.2 I [64] ∧ fr y.2 A [11, 82] ∧ y.2 11 0 10 = Int32.ofNat (n + m) ∧ (∀ c, c ≠ 10 → y.2 11 0 c = A 11 0 c) ∧ ∀ k, k < n + m → x.2 64 0 k = y.2 82 0 k) := by
  refine Rl.lp (fun s t => ∃ k, k ≤ m ∧ s.1 = Int32.ofNat k ∧ t.1 = Int32.ofNat k ∧ fr s.2 I [64] ∧ fr t.2 A [11, 82] ∧ t.2 11 0 10 = Int32.ofNat (n + k) ∧ (∀ c, c ≠ 10 → t.2 11 0 c = A 11 0 c) ∧ ∀ j, j < n + k → s.2 64 0 j = t.2 82 0 j) (fun s => 8 - s.1.toNatClampNeg) ?_ mx_fu ⟨0, by omega, rfl, rfl, fr.rf _ _, fr.rf _ _, h2, fun _ _ => rfl, h3⟩ (by show 8 - 0 < 1000; decide)
  rintro ⟨_, I'⟩ ⟨_, A'⟩ ⟨k, hk, rfl, rfl, fI, fA, e10, ec, ej⟩
  simp only at fI fA e10 ec ej
  unfold b30_29 b117_58
  simp only
  rcases Nat.lt_or_ge k m with hkm | hkm
  · have n1 : ¬ Int32.ofNat m ≤ Int32.ofNat k := fun q => absurd ((i_le (by omega) (by omega)).mp q) (by omega)
    have g1 : ¬ ((I' 1 0 2) + Int32.ofNat k < 0 ∨ 200 ≤ ((I' 1 0 2) + Int32.ofNat k).toNatClampNeg) := by
      rw [fI 1 (by decide), h1, i_add]
      exact i_g (by omega) (by decide)
    have g2 : ¬ (A' 11 0 10 < 0 ∨ 200 ≤ (A' 11 0 10).toNatClampNeg) := by
      rw [e10]
      exact i_g (by omega) (by decide)
    rw [if_neg n1, if_neg n1, oc_f2 w k (by omega), oc_f118 w k (by omega)]
    show Rl (if _ then _ else _) (if _ then _ else _) _
    rw [if_neg g1, if_neg g2, bt_nar _ (ho k hkm)]
    refine Rl.next ⟨k + 1, by omega, n_addR k 1, n_addR k 1, fI.up (by decide), (fA.up (by decide)).up (by decide), ?_, ?_, ?_⟩ ?_
    · simp only
      rw [u3_ne (by decide), u3_eq, e10]
      exact n_addR _ 1
    · intro c hc
      simp only
      rw [u3_ne (by decide), u3_at, if_neg (fun q => hc q.2)]
      exact ec c hc
    · intro j hj
      simp only
      rw [u3_at, u3_at, e10, fI 1 (by decide), h1, i_add, i_cl (by omega)]
      by_cases hjk : j = n + k
      · rw [if_pos ⟨rfl, hjk⟩, if_pos ⟨rfl, hjk⟩]
      · rw [if_neg (fun q => hjk q.2), if_neg (fun q => hjk q.2), u3_ne (by decide)]
        exact ej j (by omega)
    · simp only
      rw [show Int32.ofNat k + 1 = Int32.ofNat (k + 1) from n_addR k 1, i_cl (by omega), i_cl (by omega)]
      omega
  · have e : k = m := by omega
    subst e
    have n1 : Int32.ofNat k ≤ Int32.ofNat k := (i_le (by omega) (by omega)).mpr (by omega)
    rw [if_pos n1, if_pos n1]
    exact Rl.stop ⟨fI, fA, e10, ec, ej⟩
theorem S_text {I A : mI} {J B : mJ} (w : Int64) (h : Sim I J A B) : Rl (f1 w I) (f117 w A) (fun u v => u.1 = v.1 ∧ Sim u.2 J v.2 B) := by
  obtain ⟨⟨n, hn, e1, e2, e3⟩, a2, a3, a4, a5, a6, a7, a8, a9, a10, a11⟩ := id h
  obtain ⟨x, y, ex, ey, hxy⟩ := txt_n w A
  unfold f1 f30 f31 f117
  rw [ex, ey]
  rcases hxy with ⟨m, hm, rfl, rfl, ho⟩ | ⟨rfl, rfl⟩
  · show Rl (Option.bind (Option.bind (some (Int32.ofNat m)) _) _) (j117_34 w (Int32.ofNat m) A) _
    show Rl (Option.bind (if Int32.ofNat m = 0 then _ else if I 1 0 2 + Int32.ofNat m ≤ 200 then _ else _) _) _ _
    unfold j117_34
    by_cases c0 : m = 0
    · subst c0
      rw [if_pos (by decide), if_pos (by decide)]
      exact Rl.ret ⟨rfl, h⟩
    · have n0 : ¬ Int32.ofNat m = 0 := fun q => c0 ((n_eqR (by omega) (by decide)).mp q)
      rw [if_neg n0, if_neg n0, e1, e2, i_add]
      by_cases c1 : n + m ≤ 200
      · have q : Int32.ofNat (n + m) ≤ (200 : Int32) := (n_leR (by omega) (by decide)).mpr c1
        rw [if_pos q, if_pos q]
        obtain ⟨u, v, eu, ev, fI, fA, e10, ec, ej⟩ := txt_l hm c1 ho e1 e2 e3
        rw [eu, ev]
        refine Rl.ret ⟨?_, ?_⟩
        · show mx_u3 u.2 1 0 2 (u.2 1 0 2 + Int32.ofNat m) 1 0 2 = v.2 11 0 10
          rw [u3_eq, e10, fI 1 (by decide), e1, i_add]
        · have fI2 : fr (mx_u3 u.2 1 0 2 (u.2 1 0 2 + Int32.ofNat m)) I [1, 64] := (fI.wd (by decide)).up (by decide)
          refine ⟨⟨n + m, c1, ?_, e10, ?_⟩, a2.fr fI2 (fr.rf J []) fA (fr.rf B []) (by decide), a3.fr fI2 fA (by decide), a4.fr fI2 (fr.rf J []) fA (fr.rf B []) (by decide), a5.fr fI2 (fr.rf J []) (by decide), a6.fr fA (by decide), a7.fr fI2 fA (fr.rf B []) (by decide), a8.fr fI2 fA (fr.rf B []) (by decide), a9.fr fI2 fA (ec 39 (by decide)) (by decide), a10.fr fI2 fA (ec 40 (by decide)) (by decide), a11.fr fI2 fA (ec 41 (by decide)) (by decide)⟩
          · show mx_u3 u.2 1 0 2 (u.2 1 0 2 + Int32.ofNat m) 1 0 2 = _
            rw [u3_eq, fI 1 (by decide), e1, i_add]
          · intro k hk
            show mx_u3 u.2 1 0 2 (u.2 1 0 2 + Int32.ofNat m) 64 0 k = _
            rw [u3_ne (by decide)]
            exact ej k hk
      · have q : ¬ Int32.ofNat (n + m) ≤ 200 := fun q => c1 ((n_leR (by omega) (by decide)).mp q)
        rw [if_neg q, if_neg q]
        exact Rl.ret ⟨rfl, h⟩
  · exact Rl.ret ⟨rfl, h⟩
