/-! add: what is installed -/
theorem tr_kp {I I' A A' : mI} {J J' B B' : mJ} {q : Nat} (h : g_tr I A J B q) (e4 : I' 4 q 2 = I 4 q 2) (a92 : A' 92 0 q = A 92 0 q) (a100 : A' 100 0 q = A 100 0 q) (e3 : ∀ k x, k < 16 → I' 3 (1 + 16 * q + k) x = I 3 (1 + 16 * q + k) x) (j3 : ∀ t k x, (t = 3 ∨ t = 70 ∨ t = 71) → k < 16 → J' t (1 + 16 * q + k) x = J t (1 + 16 * q + k) x) (a5 : ∀ t k, (t = 105 ∨ t = 106 ∨ t = 107) → k < 16 → A' t 0 (16 * q + k) = A t 0 (16 * q + k)) (b2 : ∀ k, k < 16 → B' 102 0 (16 * q + k) = B 102 0 (16 * q + k)) (b3 : ∀ t k i, (t = 103 ∨ t = 104) → k < 16 → i < 4 → B' t 0 (4 * (16 * q + k) + i) = B t 0 (4 * (16 * q + k) + i)) : g_tr I' A' J' B' q := by
  obtain ⟨n, hn, h1, h2, h3, h4⟩ := h
  refine ⟨n, hn, e4.trans h1, by rw [a92]; exact h2, by rw [a92, a100]; exact h3, fun k hk => ?_⟩
  obtain ⟨g1, g2⟩ := h4 k hk
  exact ⟨g1.kp (fun j x hj _ => e3 j x (by omega)) (j3 3 k 7 (by decide) (by omega)) (a5 105 k (by decide) (by omega)) (a5 106 k (by decide) (by omega)) (b2 k (by omega)), g2.kp (e3 k 2 (by omega)) (a5 107 k (by decide) (by omega)) (fun i hi => ⟨j3 70 k i (by decide) (by omega), j3 71 k i (by decide) (by omega), b3 103 k i (by decide) (by omega) hi, b3 104 k i (by decide) (by omega) hi⟩)⟩
/-- what both hold when the plugin is in, and the wiring in hand is not yet cleared -/
def ins (p : Nat) (I : mI) (J : mJ) (A : mI) (B : mJ) (I' : mI) (J' : mJ) (A' : mI) (B' : mJ) : Prop := fr I' I [2, 3, 4, 5, 6, 65, 66, 67, 69] ∧ fr A' A [11, 83, 84, 85, 86, 87, 88, 89, 92, 94, 96, 97, 98, 99, 100, 105, 106, 107] ∧ (∀ c, ¬ (11 ≤ c ∧ c ≤ 14) → A' 11 0 c = A 11 0 c) ∧ g_wir I' A' J' B' ∧ g_plug I' A' ∧ g_tree I' A' J' B' ∧ g_non I' J' ∧ (∀ q, q < 8 → q ≠ p → A' 92 0 q = A 92 0 q ∧ A' 83 0 q = A 83 0 q ∧ A' 94 0 q = A 94 0 q ∧ A' 96 0 q = A 96 0 q ∧ ∀ k, k < 3 → A' 84 0 (3 * q + k) = A 84 0 (3 * q + k) ∧ A' 85 0 (3 * q + k) = A 85 0 (3 * q + k) ∧ A' 86 0 (3 * q + k) = A 86 0 (3 * q + k)) ∧ A' 94 0 p = 0
theorem ins_s {I A : mI} {J B : mJ} {p : Nat} (h : Nat → Nat) (x : Int32) (hp : p < 8) (hs : Sim I J A B) (h92 : A 92 0 p = 0) : ∃ I' J' h' A' B', f72 p x I J h = some (I', J', h') ∧ ((mx_lp (b126_117 (Int32.ofNat p) (mx_u3 (mx_u3 (mx_u3 (mx_u3 (mx_u3 (mx_u3 (mx_u3 A 92 0 p 1) 96 0 p x) 94 0 p 0) 99 0 p 0) 83 0 p (A 83 0 8)) 87 0 p (A 87 0 8)) 89 0 p (A 89 0 8)) (mx_u3 B 91 0 p (B 91 0 8))) mx_fu ((0 : Int32), (mx_u3 (mx_u3 (mx_u3 (mx_u3 (mx_u3 (mx_u3 (mx_u3 A 92 0 p 1) 96 0 p x) 94 0 p 0) 99 0 p 0) 83 0 p (A 83 0 8)) 87 0 p (A 87 0 8)) 89 0 p (A 89 0 8)))).bind fun u126 =>
  (mx_lp (b126_187 (Int32.ofNat p) u126.2 (mx_u3 B 91 0 p (B 91 0 8))) mx_fu ((0 : Int32), u126.2, (mx_u3 B 91 0 p (B 91 0 8)))).bind fun u233 =>
  (f127 (Int32.ofNat p) u233.2.1 u233.2.2).bind fun u235 =>
  if (0 : Int32) ≤ u235.1 then (j126_266 (Int32.ofNat p) (1 : Int32) (Int32.ofNat p) (mx_u3 u235.2.1 97 0 p u235.1) u235.2.2) else j126_266 (Int32.ofNat p) (-1 : Int32) (Int32.ofNat p) (mx_u3 u235.2.1 97 0 p u235.1) u235.2.2) = j126_322 (Int32.ofNat p) A' B' ∧ ins p I J A B I' J' A' B' := by
  obtain ⟨a1, a2, a3, a4, a5, a6, a7, a8, a9, a10, a11⟩ := hs
  have g8 := i_g hp (show 8 ≤ 2147483648 by decide)
  have ep : (Int32.ofNat p).toNatClampNeg = p := i_cl (by omega)
  have h93 : A 93 0 p = 0 := by
    by_cases z : A 93 0 p = 0
    · exact z
    · exact absurd h92 ((a6 p hp).1 z).1
  have h94 : A 94 0 p = 0 := by
    by_cases z : A 94 0 p = 0
    · exact z
    · exact absurd h93 ((a6 p hp).2 z)
  obtain ⟨N, hN, tI, tA, tk⟩ := id a1
  -- the class: taking over
  obtain ⟨n, hn, n1, -⟩ := (a2 0 (by omega)).1
  obtain ⟨m, hm, m1, -⟩ := (a2 0 (by omega)).2.1
  obtain ⟨Ia, hIa⟩ : ∃ Ia, Ia = mx_u3 (mx_u3 (mx_u3 I 6 p 3 1) 6 p 7 x) 6 p 8 0 := ⟨_, rfl⟩
  have fIa : fr Ia I [6] := by
    rw [hIa]
    exact (((fr.rf I _).up (by decide)).up (by decide)).up (by decide)
  have za : ∀ k, Ia 2 0 k = I 2 0 k := fun k => fIa.c (t := 2) (by decide)
  obtain ⟨Ib, Jb, eb, b1, b2, b3, b4, b5, b6, b7, b8, b9, b10⟩ := f38_s (I := Ia) (J := J) (w := p + 1) (by omega) hn hm ((za 5).trans n1) ((za 6).trans m1)
  have fIb : fr Ib I [2, 6, 65, 66, 67, 69] := (b1.wd (by decide)).tr (fIa.wd (by decide))
  -- the reference: taking over
  obtain ⟨Aa, hAa⟩ : ∃ Aa, Aa = mx_u3 (mx_u3 (mx_u3 (mx_u3 (mx_u3 (mx_u3 (mx_u3 A 92 0 p 1) 96 0 p x) 94 0 p 0) 99 0 p 0) 83 0 p (A 83 0 8)) 87 0 p (A 87 0 8)) 89 0 p (A 89 0 8) := ⟨_, rfl⟩
  obtain ⟨Ba, hBa⟩ : ∃ Ba, Ba = mx_u3 B 91 0 p (B 91 0 8) := ⟨_, rfl⟩
  rw [← hAa, ← hBa]
  have fAa : fr Aa A [83, 87, 89, 92, 94, 96, 99] := by
    rw [hAa]
    exact (((((((fr.rf A _).up (by decide)).up (by decide)).up (by decide)).up (by decide)).up (by decide)).up (by decide)).up (by decide)
  have va : ∀ t v, ((t = 92 ∧ v = 1) ∨ (t = 96 ∧ v = x) ∨ (t = 94 ∧ v = 0) ∨ (t = 99 ∧ v = 0) ∨ (t = 83 ∧ v = A 83 0 8) ∨ (t = 87 ∧ v = A 87 0 8) ∨ (t = 89 ∧ v = A 89 0 8)) → ∀ q, Aa t 0 q = if q = p then v else A t 0 q := fun t v ht q => by
    rw [hAa]
    rcases ht with ⟨rfl, rfl⟩ | ⟨rfl, rfl⟩ | ⟨rfl, rfl⟩ | ⟨rfl, rfl⟩ | ⟨rfl, rfl⟩ | ⟨rfl, rfl⟩ | ⟨rfl, rfl⟩ <;> simp [mx_u3]
  obtain ⟨⟨y1, Ab⟩, r1, c1, c2⟩ := rc1 (A := Aa) hp Aa Ba
  simp only at c1 c2
  rw [r1, Option.bind_some]
  simp only
  obtain ⟨⟨y2, Ac, Bc⟩, r2, d1, d2, d3, d4⟩ := rc2 (A := Ab) (B := Ba) hp Ab Ba
  simp only at d1 d2 d3 d4
  rw [r2, Option.bind_some]
  simp only
  have fAc : fr Ac A [83, 84, 85, 86, 87, 88, 89, 92, 94, 96, 99] := (d1.wd (by decide)).tr ((c1.wd (by decide)).tr (fAa.wd (by decide)))
  have fBc : fr Bc B [90, 91] := (d2.wd (by decide)).tr (by rw [hBa]; exact (fr.rf B _).up (by decide))
  have vc : ∀ t v, ((t = 92 ∧ v = 1) ∨ (t = 96 ∧ v = x) ∨ (t = 94 ∧ v = 0) ∨ (t = 99 ∧ v = 0) ∨ (t = 83 ∧ v = A 83 0 8) ∨ (t = 87 ∧ v = A 87 0 8) ∨ (t = 89 ∧ v = A 89 0 8)) → ∀ q, Ac t 0 q = if q = p then v else A t 0 q := fun t v ht q => by
    have e1 : Ac t = Ab t := d1 t (by rcases ht with ⟨rfl, -⟩ | ⟨rfl, -⟩ | ⟨rfl, -⟩ | ⟨rfl, -⟩ | ⟨rfl, -⟩ | ⟨rfl, -⟩ | ⟨rfl, -⟩ <;> decide)
    have e2 : Ab t = Aa t := c1 t (by rcases ht with ⟨rfl, -⟩ | ⟨rfl, -⟩ | ⟨rfl, -⟩ | ⟨rfl, -⟩ | ⟨rfl, -⟩ | ⟨rfl, -⟩ | ⟨rfl, -⟩ <;> decide)
    rw [e1, e2]
    exact va t v ht q
  have w84 : ∀ t, (t = 84 ∨ t = 85 ∨ t = 86) → (∀ i, i < 3 → Ac t 0 (3 * p + i) = A t 0 (24 + i)) ∧ ∀ k, (k < 3 * p ∨ 3 * p + 3 ≤ k) → Ac t 0 k = A t 0 k := fun t ht => by
    obtain ⟨q1, q2⟩ := c2 t ht
    have e1 : Ac t = Ab t := d1 t (by rcases ht with rfl | rfl | rfl <;> decide)
    have e2 : Aa t = A t := fAa t (by rcases ht with rfl | rfl | rfl <;> decide)
    rw [e1, ← e2]
    exact ⟨q1, q2⟩
  have w88 : (∀ i, i < 4 → Ac 88 0 (4 * p + i) = A 88 0 (32 + i) ∧ Bc 90 0 (4 * p + i) = B 90 0 (32 + i)) ∧ ∀ k, (k < 4 * p ∨ 4 * p + 4 ≤ k) → Ac 88 0 k = A 88 0 k ∧ Bc 90 0 k = B 90 0 k := by
    have e1 : Ab 88 = A 88 := by rw [c1 88 (by decide), fAa 88 (by decide)]
    have e2 : Ba 90 = B 90 := by rw [hBa, u3_ne (by decide)]
    rw [← e1, ← e2]
    exact ⟨d3, d4⟩
  have wir : g_wir Ib Ac Jb Bc := by
    have h0 : g_wir Ia A J B := a2.fr fIa (fr.rf J []) (fr.rf A []) (fr.rf B []) (by decide)
    refine wir_up hp h0 b3 b4 (b5.trans ((za 5).trans n1).symm) (b6.trans ((za 6).trans m1).symm) b7 b8 (fun n' k _ e hk => b9 k ?_) (fun n' k _ e hk => b10 k ?_) (fun t ht => ⟨?_, fun q hq => ?_⟩) ⟨?_, fun q hq => ?_⟩ w84 w88
    · rw [(za 5).trans n1] at e
      have := (i_eq (by omega) (by omega)).mp e
      omega
    · rw [(za 6).trans m1] at e
      have := (i_eq (by omega) (by omega)).mp e
      omega
    · rw [vc t (A t 0 8) (by rcases ht with rfl | rfl | rfl <;> simp), if_pos rfl]
    · rw [vc t (A t 0 8) (by rcases ht with rfl | rfl | rfl <;> simp), if_neg hq]
    · rw [d2.c (t := 91) (by decide), hBa, u3_eq]
    · rw [d2.c (t := 91) (by decide), hBa, u3_at, if_neg (fun z => hq z.2)]
  -- reading
  have non : g_non Ib Jb := a5.fr fIb (b2.wd (us := [2, 68]) (by decide)) (by decide)
  obtain ⟨⟨fault, Id, Jd, hd⟩, ⟨fault', Ad, Bd⟩, e1, e2, q1, F, q3⟩ := read_s (I := Ib) (A := Ac) (J := Jb) (B := Bc) (N := N) h hp hN non ((fAc.c (t := 11) (by decide)).trans tA) (fun k hk => by rw [fIb.c (t := 64) (by decide), fAc.c (t := 82) (by decide)]; exact tk k hk)
  simp only at q1 F q3
  subst q1
  rw [e2, Option.bind_some]
  simp only
  unfold f72
  rw [← hIa, eb, Option.bind_some]
  simp only
  have eN : Ib 1 0 2 = Int32.ofNat N := (fIb.c (t := 1) (by decide)).trans tI
  rw [eN, e1, Option.bind_some]
  simp only
  have r9 : (mx_u3 (mx_u3 Id 6 p 9 fault) 6 p 10 (-1)) 6 p 9 = fault := by
    rw [u3_at, if_neg (fun z => absurd z.2 (by decide)), u3_eq]
  rw [r9]
  have frI : fr Id Ib [3, 4, 5] := fun t ht => by
    funext i k
    exact F.1 t i k (by simp at ht; unfold oI; omega)
  have frJ : fr Jd Jb [3, 5, 70, 71] := fun t ht => by
    funext i k
    exact F.2.1 t i k (by simp at ht; unfold oJ; omega)
  have frA : fr Ad Ac [11, 100, 105, 106, 107] := fun t ht => by
    funext i k
    exact F.2.2.1 t i k (by simp at ht; unfold oA; omega)
  have frB : fr Bd Bc [102, 103, 104] := fun t ht => by
    funext i k
    exact F.2.2.2 t i k (by simp at ht; unfold oB; omega)
  have vIa : ∀ q k, Id 6 q k = if q = p ∧ k = 8 then 0 else if q = p ∧ k = 7 then x else if q = p ∧ k = 3 then 1 else I 6 q k := fun q k => by
    rw [frI.c (t := 6) (by decide), b1.c (t := 6) (by decide), hIa, u3_at, u3_at, u3_at]
  have vd : ∀ t v, ((t = 92 ∧ v = 1) ∨ (t = 96 ∧ v = x) ∨ (t = 94 ∧ v = 0) ∨ (t = 99 ∧ v = 0) ∨ (t = 83 ∧ v = A 83 0 8)) → ∀ q, Ad t 0 q = if q = p then v else A t 0 q := fun t v ht q => by
    have e1 : Ad t = Ac t := frA t (by rcases ht with ⟨rfl, -⟩ | ⟨rfl, -⟩ | ⟨rfl, -⟩ | ⟨rfl, -⟩ | ⟨rfl, -⟩ <;> decide)
    rw [e1]
    refine vc t v ?_ q
    rcases ht with h | h | h | h | h
    · exact .inl h
    · exact .inr (.inl h)
    · exact .inr (.inr (.inl h))
    · exact .inr (.inr (.inr (.inl h)))
    · exact .inr (.inr (.inr (.inr (.inl h))))
  have fin : ∀ (I' A' : mI) (l : Int32), fr I' Id [4, 6] → (∀ q k, q ≠ p → I' 4 q k = Id 4 q k) → (∀ q k, I' 6 q k = if q = p ∧ k = 9 then fault else if q = p ∧ k = 10 then l else Id 6 q k) → fr A' Ad [97, 98, 100] → (∀ q, A' 97 0 q = if q = p then fault else Ad 97 0 q) → (∀ q, A' 98 0 q = if q = p then l else Ad 98 0 q) → (∀ q, q ≠ p → A' 100 0 q = Ad 100 0 q) → g_tr I' A' Jd Bd p → (fault = -1 ∨ 0 ≤ fault) → ins p I J A B I' Jd A' Bd := fun I' A' l f1 f2 f3 f4 f5 f6 f7 f8 f9 => by
    have xA : fr A' A [11, 83, 84, 85, 86, 87, 88, 89, 92, 94, 96, 97, 98, 99, 100, 105, 106, 107] := (f4.wd (by decide)).tr ((frA.wd (by decide)).tr (fAc.wd (by decide)))
    have ve : ∀ t v, ((t = 92 ∧ v = 1) ∨ (t = 96 ∧ v = x) ∨ (t = 94 ∧ v = 0) ∨ (t = 99 ∧ v = 0) ∨ (t = 83 ∧ v = A 83 0 8)) → ∀ q, A' t 0 q = if q = p then v else A t 0 q := fun t v ht q => by
      have e1 : A' t = Ad t := f4 t (by rcases ht with ⟨rfl, -⟩ | ⟨rfl, -⟩ | ⟨rfl, -⟩ | ⟨rfl, -⟩ | ⟨rfl, -⟩ <;> decide)
      rw [e1]
      exact vd t v ht q
    have v92 := ve 92 1 (.inl ⟨rfl, rfl⟩)
    have v96 := ve 96 x (.inr (.inl ⟨rfl, rfl⟩))
    have v94 := ve 94 0 (.inr (.inr (.inl ⟨rfl, rfl⟩)))
    have v99 := ve 99 0 (.inr (.inr (.inr (.inl ⟨rfl, rfl⟩))))
    have v83 := ve 83 _ (.inr (.inr (.inr (.inr ⟨rfl, rfl⟩))))
    refine ⟨(f1.wd (by decide)).tr ((frI.wd (by decide)).tr (fIb.wd (by decide))), xA, fun c hc => ?_, wir.fr (ts := [3, 4, 5, 6]) ((f1.wd (by decide)).tr (frI.wd (by decide))) frJ (vs := [11, 97, 98, 100, 105, 106, 107]) ((f4.wd (by decide)).tr (frA.wd (by decide))) frB (by decide), fun q hq => ?_, fun q hq => ?_, ?_, fun q hq hqp => ⟨?_, ?_, ?_, ?_, fun k hk => ⟨?_, ?_, ?_⟩⟩, ?_⟩
    · rw [f4.c (t := 11) (by decide), F.2.2.1 11 0 c (by unfold oA; omega), fAc.c (t := 11) (by decide)]
    · obtain ⟨s1, s2, s3, s4, s5, s6, s7, s8, s9, s10, s11, s12, s13⟩ := a3 q hq
      unfold g_pl
      rw [v92, v94, v96, v99, f5, f6, xA 93 (by decide), xA 95 (by decide), f3, f3, f3, f3, f3, f3, f3, f3, vIa, vIa, vIa, vIa, vIa, vIa, vIa, vIa, frA.c (t := 97) (by decide), frA.c (t := 98) (by decide), fAc.c (t := 97) (by decide), fAc.c (t := 98) (by decide)]
      by_cases e : q = p
      · subst e
        simp
        refine ⟨bl1, s3, s4, ?_, bl0, s7, s8, f9⟩
        rw [s5, h94]
      · simp [e]
        exact ⟨s1, s2, s3, s4, s5, s6, s7, s8, s9, s10, s11, s12, s13⟩
    · by_cases e : q = p
      · subst e
        exact f8
      · refine tr_kp (a4 q hq) ?_ ?_ ?_ (fun k y hk => ?_) (fun t k y ht hk => ?_) (fun t k ht hk => ?_) (fun k hk => ?_) (fun t k i ht hk hi => ?_)
        · rw [f2 q 2 e, F.1 4 q 2 (by unfold oI; omega), fIb.c (t := 4) (by decide)]
        · rw [v92, if_neg e]
        · rw [f7 q e, F.2.2.1 100 0 q (by unfold oA; omega), fAc.c (t := 100) (by decide)]
        · rw [f1.c (t := 3) (by decide), F.1 3 _ _ (by unfold oI; omega), fIb.c (t := 3) (by decide)]
        · rw [F.2.1 t _ _ (by unfold oJ; omega)]
          rcases ht with rfl | rfl | rfl
          · exact b2.c (t := 3) (by decide)
          · exact b2.c (t := 70) (by decide)
          · exact b2.c (t := 71) (by decide)
        · have e1 : A' t = Ad t := f4 t (by rcases ht with rfl | rfl | rfl <;> decide)
          have e2 : Ac t = A t := fAc t (by rcases ht with rfl | rfl | rfl <;> decide)
          rw [e1, F.2.2.1 t 0 _ (by unfold oA; omega), e2]
        · rw [F.2.2.2 102 0 _ (by unfold oB; omega), fBc.c (t := 102) (by decide)]
        · have e2 : Bc t = B t := fBc t (by rcases ht with rfl | rfl <;> decide)
          rw [F.2.2.2 t 0 _ (by unfold oB; omega), e2]
    · have z3 : ∀ k, I' 3 0 k = Ib 3 0 k := fun k => by
        rw [f1.c (t := 3) (by decide), F.1 3 0 k (by unfold oI; omega)]
      have y3 : Jd 3 0 7 = Jb 3 0 7 := F.2.1 3 0 7 (by unfold oJ; omega)
      unfold g_non
      rw [z3, z3, z3, z3, z3, y3]
      exact non
    · rw [v92, if_neg hqp]
    · rw [v83, if_neg hqp]
    · rw [v94, if_neg hqp]
    · rw [v96, if_neg hqp]
    · rw [f4.c (t := 84) (by decide), frA.c (t := 84) (by decide)]
      exact (w84 84 (by decide)).2 _ (by omega)
    · rw [f4.c (t := 85) (by decide), frA.c (t := 85) (by decide)]
      exact (w84 85 (by decide)).2 _ (by omega)
    · rw [f4.c (t := 86) (by decide), frA.c (t := 86) (by decide)]
      exact (w84 86 (by decide)).2 _ (by omega)
    · rw [v94, if_pos rfl]
  have hloop : ∀ t0 : Int32, j126_266 (Int32.ofNat p) t0 (Int32.ofNat p) (mx_u3 Ad 97 0 p fault) Bd = (mx_lp (b126_269 (Int32.ofNat p) (mx_u3 (mx_u3 Ad 97 0 p fault) 98 0 p t0) Bd) mx_fu ((0 : Int32), (mx_u3 (mx_u3 Ad 97 0 p fault) 98 0 p t0))).bind fun u => if u.2 97 0 p < 0 then j126_322 (Int32.ofNat p) u.2 Bd else j126_322 (Int32.ofNat p) (mx_u3 u.2 100 0 p 0) Bd := fun t0 => by
    unfold j126_266
    simp only [if_neg g8]
    simp only [ep]
  have r97 : ∀ t0 : Int32, (mx_u3 (mx_u3 Ad 97 0 p fault) 98 0 p t0) 97 0 p = fault := fun t0 => by
    rw [u3_ne (by decide), u3_eq]
  rcases q3 with ⟨z1, n', e3, e4⟩ | ⟨i, hi, z1⟩
  · -- no fault
    have z2 : ¬ (0 : Int32) ≤ fault := by rw [z1]; decide
    rw [if_pos z1, if_neg z2, hloop]
    have ex : mx_lp (b126_269 (Int32.ofNat p) (mx_u3 (mx_u3 Ad 97 0 p fault) 98 0 p (-1)) Bd) mx_fu ((0 : Int32), (mx_u3 (mx_u3 Ad 97 0 p fault) 98 0 p (-1))) = some ((0 : Int32), (mx_u3 (mx_u3 Ad 97 0 p fault) 98 0 p (-1))) := by
      refine lp_e (n := 999) ?_
      unfold b126_269
      simp only
      rw [if_neg g8, ep, r97, if_pos (by rw [z1]; decide)]
    rw [ex, Option.bind_some]
    simp only
    rw [r97, if_pos (by rw [z1]; decide)]
    refine ⟨_, _, _, _, _, rfl, rfl, fin _ _ (-1) (((fr.rf Id _).up (by decide)).up (by decide)) (fun q k _ => by rw [u3_ne (by decide), u3_ne (by decide)]) (fun q k => ?_) (((fr.rf Ad _).up (by decide)).up (by decide)) (fun q => ?_) (fun q => ?_) (fun q _ => by rw [u3_ne (by decide), u3_ne (by decide)]) ?_ (.inl z1)⟩
    · rw [u3_at, u3_at]
      by_cases c : q = p ∧ k = 9
      · rw [if_neg (fun z => by have := z.2; have := c.2; omega), if_pos c, if_pos c]
      · rw [if_neg c, if_neg c]
    · rw [u3_ne (by decide), u3_at]
      simp only [true_and]
    · rw [u3_at, u3_ne (by decide)]
      simp only [true_and]
    · refine ⟨n', e3.1, ?_, fun z => ?_, fun _ => ?_, fun k hk => ⟨?_, ?_⟩⟩
      · rw [u3_ne (by decide), u3_ne (by decide)]
        exact e3.2.1
      · rw [u3_ne (by decide), u3_ne (by decide), vd 92 1 (.inl ⟨rfl, rfl⟩), if_pos rfl] at z
        exact absurd z (by decide)
      · rw [u3_ne (by decide), u3_ne (by decide)]
        exact e3.2.2.1
      · exact (e3.2.2.2 k hk).1.kp (fun j y _ _ => by rw [u3_ne (by decide), u3_ne (by decide)]) rfl (by rw [u3_ne (by decide), u3_ne (by decide)]) (by rw [u3_ne (by decide), u3_ne (by decide)]) rfl
      · exact (e4 k hk).kp (by rw [u3_ne (by decide), u3_ne (by decide)]) (by rw [u3_ne (by decide), u3_ne (by decide)]) (fun _ _ => ⟨rfl, rfl, rfl, rfl⟩)
  · -- a fault
    have z2 : (0 : Int32) ≤ fault := by rw [z1]; exact i_ps (by omega)
    have z3 : ¬ fault = -1 := by rw [z1]; exact i_m1 (by omega)
    have z4 : ¬ fault < 0 := by rw [z1]; exact i_nn (by omega)
    rw [if_neg z3, if_pos z2, hloop]
    unfold f48
    rw [Option.bind_some]
    have s9 : (mx_u3 (mx_u3 (mx_u3 Id 6 p 9 fault) 6 p 10 (-1)) 4 p 2 0) 6 p 9 = fault := by
      rw [u3_ne (by decide), r9]
    rw [s9]
    unfold f73_64
    rw [z1]
    obtain ⟨⟨l, yy⟩, ⟨y3, Af⟩, k1, k2, k3, k4, k5⟩ := line_s (I := mx_u3 (mx_u3 (mx_u3 Id 6 p 9 (Int32.ofNat i)) 6 p 10 (-1)) 4 p 2 0) (A := mx_u3 (mx_u3 Ad 97 0 p (Int32.ofNat i)) 98 0 p 1) (p := p) (m := i) hp (by omega) (by rw [u3_ne (by decide), u3_eq]) (u3_eq _ _ _ _ _) (fun k hk => by
      rw [u3_ne (by decide), u3_ne (by decide), u3_ne (by decide), u3_ne (by decide), u3_ne (by decide), frI.c (t := 64) (by decide), fIb.c (t := 64) (by decide), frA.c (t := 82) (by decide), fAc.c (t := 82) (by decide)]
      exact tk k (by omega)) (mx_u3 (mx_u3 Ad 97 0 p (Int32.ofNat i)) 98 0 p 1) Bd
    simp only at k3 k4 k5
    rw [k1, k2, Option.bind_some, Option.bind_some, Option.bind_some]
    simp only
    have y97 : Af 97 0 p = fault := by
      rw [k4.c (t := 97) (by decide), u3_ne (by decide), u3_eq, z1]
    rw [y97, if_neg z4]
    rw [z1] at fin
    refine ⟨_, _, _, _, _, rfl, rfl, fin _ _ l (((((fr.rf Id _).up (by decide)).up (by decide)).up (by decide)).up (by decide)) (fun q k hq => ?_) (fun q k => ?_) ((((k4.wd (by decide)).tr (((fr.rf Ad _).up (by decide)).up (by decide))).up (by decide))) (fun q => ?_) (fun q => ?_) (fun q hq => ?_) ?_ (.inr (i_ps (by omega)))⟩
    · rw [u3_ne (by decide), u3_at, if_neg (fun z => hq z.1), u3_ne (by decide), u3_ne (by decide)]
    · rw [u3_at, u3_ne (by decide), u3_at, u3_at]
      by_cases c : q = p ∧ k = 9
      · rw [if_neg (fun z => by have := z.2; have := c.2; omega), if_neg (fun z => by have := z.2; have := c.2; omega), if_pos c, if_pos c]
      · rw [if_neg c, if_neg c]
        by_cases c2 : q = p ∧ k = 10
        · rw [if_pos c2, if_pos c2]
        · rw [if_neg c2, if_neg c2, if_neg c2]
    · rw [u3_ne (by decide), k4.c (t := 97) (by decide), u3_ne (by decide), u3_at]
      simp only [true_and]
    · rw [u3_ne (by decide)]
      by_cases c : q = p
      · rw [c, k3, if_pos rfl]
      · rw [k5 q c, if_neg c, u3_at, if_neg (fun z => c z.2), u3_ne (by decide)]
    · rw [u3_at, if_neg (fun z => hq z.2), k4.c (t := 100) (by decide), u3_ne (by decide), u3_ne (by decide)]
    · refine ⟨0, by omega, ?_, fun _ => rfl, fun _ => ?_, fun k hk => absurd hk (by omega)⟩
      · rw [u3_ne (by decide), u3_eq]
        rfl
      · rw [u3_eq]
        rfl
