theorem tr_at {I A : mI} {J B : mJ} (h : g_tree I A J B) {t : Nat} (ht : t < 128) (hi : ise A t) : ∃ n, n ≤ 16 ∧ t % 16 < n ∧ I 4 (t / 16) 2 = Int32.ofNat n ∧ A 100 0 (t / 16) = Int32.ofNat n ∧ ∀ k, k < n → g_e0 I A J B (t / 16) k ∧ g_at I A J B (t / 16) k := by
  obtain ⟨n, hn, b1, b2, b3, b4⟩ := h (t / 16) (by omega)
  have q := hi.2
  rw [b3 hi.1, i_lt (by omega) (by omega)] at q
  exact ⟨n, hn, q, b1, b3 hi.1, b4⟩
theorem S_element {I A : mI} {J B : mJ} (x y : Int32) (h : Sim I J A B) : Rl (f17 x y I) (f157 x y A) (fun u v => u = v) := by
  obtain ⟨a1, a2, a3, a4, a5, a6, a7, a8, a9, a10, a11⟩ := id h
  unfold f17 f157
  rcases hd_cs a4 x with ⟨e1, e2⟩ | ⟨t, ht, rfl, hi, e1, e2, e3⟩
  · rw [f84_out a5 e1, e2, bF, bF]
    exact Rl.ret rfl
  · obtain ⟨n, hn, hk, c1, c2, c3⟩ := tr_at a4 ht hi
    have g := i_g (n := t) (N := 128) ht (by decide)
    rw [f84_in e1 e3, e2, bT, bT, e1, Option.bind_some]
    by_cases y0 : y = 0
    · rw [if_pos y0, if_pos y0, h_81 t ht, Option.bind_some, e3.1, chn_C (by omega) hn (by omega) c1 c3]
      have hm := chn_M (by omega) hn hk hi.1 c2 (fun i hi2 hc => (ch_eq (by omega) hn (by omega) c3 i hi2).2 hc)
      rw [Nat.div_add_mod] at hm ⊢
      rw [hm]
      exact Rl.ret rfl
    rw [if_neg y0, if_neg y0]
    by_cases y1 : y = 1
    · rw [if_pos y1, if_pos y1, if_neg g, i_cl (by omega)]
      exact Rl.ret e3.2.2.2.2.2.1
    rw [if_neg y1, if_neg y1]
    by_cases y2 : y = 2
    · rw [if_pos y2, if_pos y2, if_neg g, i_cl (by omega)]
      rcases e3.2.2.2.2.1 with ⟨d1, d2, -, -⟩ | ⟨j, hj, d1, d2, -, -⟩
      · rw [d1, d2, f18_m]
        exact Rl.ret rfl
      · rw [d1, d2, f18_n ht (by omega)]
        exact Rl.ret rfl
    rw [if_neg y2, if_neg y2]
    by_cases y3 : y = 3
    · rw [if_pos y3, if_pos y3, if_neg g, i_cl (by omega)]
      exact Rl.ret e3.2.2.1
    rw [if_neg y3, if_neg y3]
    by_cases y4 : y = 4
    · obtain ⟨o, ho, d1, d2, d3, -⟩ := wthn h ht hi e1 e3
      have g2 := i_g (n := 16 * (t / 16) + o) (N := 128) (by omega) (by decide)
      rw [if_pos y4, if_pos y4, d2, d3, Option.bind_some, Option.bind_some, if_neg g2, i_cl (by omega)]
      by_cases c : A 108 0 (16 * (t / 16) + o) = 0
      · rw [if_pos c, if_neg (by simp [c])]
        exact Rl.ret rfl
      · rw [if_neg c, if_pos (by simp [c])]
        exact Rl.ret rfl
    · rw [if_neg y4, if_neg y4]
      exact Rl.ret rfl
theorem S_child {I A : mI} {J B : mJ} (x y : Int32) (h : Sim I J A B) : Rl (f20 x y I) (f160 x y A) (fun u v => u = v) := by
  obtain ⟨a1, a2, a3, a4, a5, a6, a7, a8, a9, a10, a11⟩ := id h
  unfold f20 f160
  rcases hd_cs a4 x with ⟨e1, e2⟩ | ⟨t, ht, rfl, hi, e1, e2, e3⟩
  · have e4 : mx_lp (b160_7 x y A) mx_fu ((0 : Int32), x + 1) = some (.inl (0, x + 1)) := by
      show mx_lp (b160_7 x y A) (999 + 1) ((0 : Int32), x + 1) = _
      have e5 : b160_7 x y A ((0 : Int32), x + 1) = some (.inr (.inl (0, x + 1))) := by
        unfold b160_7
        rw [e2, bF]
      simp only [mx_lp, e5]
    rw [f84_out a5 e1, bF, e4]
    exact Rl.ret rfl
  · obtain ⟨n, hn, hk, c1, c2, c3⟩ := tr_at a4 ht hi
    have hp : t / 16 < 8 := by omega
    have hk16 : t % 16 < 16 := by omega
    have et : 16 * (t / 16) + t % 16 = t := Nat.div_add_mod t 16
    rw [f84_in e1 e3, bT, h_81 t ht, Option.bind_some, e1, Option.bind_some, e3.1]
    generalize hP : chb A (t / 16) t = P
    have hPe : ∀ i, i < n → (I 3 (1 + 16 * (t / 16) + i) 4 = Int32.ofNat (t % 16) ↔ P i = true) ∧ (P i = true → t % 16 < i) := fun i hi2 => by
      have q := ch_eq hp hn hk16 c3 i hi2
      rw [et, hP] at q
      exact q
    have hC : Sm (mx_lp (b53_5 (t / 16) (Int32.ofNat (t % 16)) y I) mx_fu ((0 : Int32), (0 : Int32))) (fun r => Fi (fun i => P i = true ∧ Int32.ofNat (cn P i) = y) n (Sum.elim (fun _ => (-1 : Int32)) id r)) := by
      refine Sm.lp (fun s => ∃ i, i ≤ n ∧ s.2 = Int32.ofNat i ∧ s.1 = Int32.ofNat (cn P i) ∧ ∀ j, j < i → ¬ (P j = true ∧ Int32.ofNat (cn P j) = y)) (fun s => 16 - s.2.toNatClampNeg) ?_ mx_fu ⟨0, by omega, rfl, rfl, fun j hj => absurd hj (by omega)⟩ (by decide)
      rintro ⟨_, _⟩ ⟨i, hi2, rfl, rfl, hm⟩
      unfold b53_5
      simp only
      rw [c1]
      rcases Nat.lt_or_ge i n with c | c
      · have n1 : ¬ Int32.ofNat n ≤ Int32.ofNat i := fun q => absurd ((i_le (by omega) (by omega)).mp q) (by omega)
        have g := i_g (n := i) (N := 16) (by omega) (by decide)
        rw [if_neg n1, if_neg g, i_cl (by omega)]
        by_cases c2 : I 3 (1 + 16 * (t / 16) + i) 4 = Int32.ofNat (t % 16)
        · rw [if_pos c2]
          have hPi := (hPe i c).1.mp c2
          by_cases c4 : Int32.ofNat (cn P i) = y
          · rw [if_pos c4]
            exact Sm.ret (.inr ⟨i, c, rfl, ⟨hPi, c4⟩, hm⟩)
          · rw [if_neg c4]
            refine Sm.ret ⟨⟨i + 1, by omega, n_addR i 1, ?_, fun j hj => ?_⟩, ?_⟩
            · simp only
              rw [cn_t hPi]
              exact n_addR _ 1
            · by_cases hji : j = i
              · subst hji
                exact fun q => c4 q.2
              · exact hm j (by omega)
            · first | exact m_dc (by omega) (by omega) | exact m_dd (by omega) (by omega)
        · rw [if_neg c2]
          have hPi : P i = false := by simpa using fun q => c2 ((hPe i c).1.mpr q)
          refine Sm.ret ⟨⟨i + 1, by omega, n_addR i 1, ?_, fun j hj => ?_⟩, ?_⟩
          · simp only
            rw [cn_f hPi]
          · by_cases hji : j = i
            · subst hji
              intro q
              rw [hPi] at q
              exact absurd q.1 (by decide)
            · exact hm j (by omega)
          · first | exact m_dc (by omega) (by omega) | exact m_dd (by omega) (by omega)
      · have e : i = n := by omega
        subst e
        rw [if_pos ((i_le (by omega) (by omega)).mpr (by omega))]
        exact Sm.ret (.inl ⟨rfl, hm⟩)
    have ed : Int32.ofNat t / 16 = Int32.ofNat (t / 16) := h_dv t (by omega)
    have hM : Sm (mx_lp (b160_7 (Int32.ofNat t) y A) mx_fu ((0 : Int32), Int32.ofNat t + 1)) (fun r => (Sum.elim (fun _ => (-1 : Int32)) id r = -1 ∧ ∀ j, j < n → ¬ (P j = true ∧ Int32.ofNat (cn P j) = y)) ∨ ∃ i, i < n ∧ Sum.elim (fun _ => (-1 : Int32)) id r = Int32.ofNat (16 * (t / 16) + i) ∧ (P i = true ∧ Int32.ofNat (cn P i) = y) ∧ ∀ j, j < i → ¬ (P j = true ∧ Int32.ofNat (cn P j) = y)) := by
      refine Sm.lp (fun s => ∃ i, i ≤ n ∧ s.2 = Int32.ofNat (16 * (t / 16) + i) ∧ s.1 = Int32.ofNat (cn P i) ∧ ∀ j, j < i → ¬ (P j = true ∧ Int32.ofNat (cn P j) = y)) (fun s => 144 - s.2.toNatClampNeg) ?_ mx_fu ⟨t % 16 + 1, by omega, ?_, ?_, fun j hj => ?_⟩ ?_
      · rintro ⟨_, _⟩ ⟨i, hi2, rfl, rfl, hm⟩
        unfold b160_7
        simp only
        obtain ⟨b, f1, f2, f3⟩ := f140_n hp hn hi.1 c2 hi2
        rw [e2, bT, f1]
        rcases Nat.lt_or_ge i n with c | c
        · rw [f2 c, bT, ed, if_pos (by rw [h_dv _ (by omega)]; congr 1; omega)]
          have g := i_g (n := 16 * (t / 16) + i) (N := 128) (by omega) (by decide)
          rw [if_neg g, i_cl (by omega)]
          by_cases c2 : A 105 0 (16 * (t / 16) + i) = Int32.ofNat t
          · rw [if_pos c2]
            have hPi : P i = true := by rw [← hP]; exact decide_eq_true c2
            by_cases c4 : Int32.ofNat (cn P i) = y
            · rw [if_pos c4]
              exact Sm.ret (.inr ⟨i, c, rfl, ⟨hPi, c4⟩, hm⟩)
            · rw [if_neg c4]
              refine Sm.ret ⟨⟨i + 1, by omega, n_addR _ 1, ?_, fun j hj => ?_⟩, ?_⟩
              · simp only
                rw [cn_t hPi]
                exact n_addR _ 1
              · by_cases hji : j = i
                · subst hji
                  exact fun q => c4 q.2
                · exact hm j (by omega)
              · first | exact m_dc (by omega) (by omega) | exact m_dd (by omega) (by omega)
          · rw [if_neg c2]
            have hPi : P i = false := by rw [← hP]; exact decide_eq_false c2
            refine Sm.ret ⟨⟨i + 1, by omega, n_addR _ 1, ?_, fun j hj => ?_⟩, ?_⟩
            · simp only
              rw [cn_f hPi]
            · by_cases hji : j = i
              · subst hji
                intro q
                rw [hPi] at q
                exact absurd q.1 (by decide)
              · exact hm j (by omega)
            · first | exact m_dc (by omega) (by omega) | exact m_dd (by omega) (by omega)
        · have e : i = n := by omega
          subst e
          rcases f3 rfl with rfl | e4
          · rw [bF]
            exact Sm.ret (.inl ⟨rfl, hm⟩)
          · cases b with
            | false =>
              rw [bF]
              exact Sm.ret (.inl ⟨rfl, hm⟩)
            | true =>
              rw [bT, ed, if_neg e4]
              exact Sm.ret (.inl ⟨rfl, hm⟩)
      · show Int32.ofNat t + 1 = _
        rw [show Int32.ofNat t + 1 = Int32.ofNat (t + 1) from n_addR _ 1]
        congr 1
        omega
      · show (0 : Int32) = _
        rw [cn_0 (t % 16 + 1) (fun j hj => ?_)]
        · rfl
        · cases hb : P j with
          | false => rfl
          | true =>
            have := (hPe j (by omega)).2 hb
            omega
      · intro q
        have := (hPe j (by omega)).2 q.1
        omega
      · rw [show Int32.ofNat t + 1 = Int32.ofNat (t + 1) from n_addR _ 1, i_cl (by omega)]
        show _ < 1000
        omega
    obtain ⟨r1, f1, f2⟩ := hC
    obtain ⟨r2, f3, f4⟩ := hM
    unfold f53
    rw [f1, f3, Option.bind_some, Option.bind_some]
    have hr1 : (Sum.elim (fun w107 => some (-1 : Int32)) (fun y108 => some y108) r1) = some (Sum.elim (fun _ => (-1 : Int32)) id r1) := by cases r1 <;> rfl
    have hr2 : (Sum.elim (fun w107 => some (-1 : Int32)) (fun y108 => some y108) r2) = some (Sum.elim (fun _ => (-1 : Int32)) id r2) := by cases r2 <;> rfl
    rw [hr1, hr2, Option.bind_some]
    rcases f2 with ⟨z1, z2⟩ | ⟨i, hi3, z1, z2, z3⟩ <;> rcases f4 with ⟨w1, w2⟩ | ⟨j, hj3, w1, w2, w3⟩
    · rw [z1, w1, if_pos rfl]
      exact Rl.ret rfl
    · exact absurd w2 (z2 j hj3)
    · exact absurd z2 (w2 i hi3)
    · have hij : i = j := by
        have h1 : ¬ i < j := fun q => w3 i q z2
        have h3 : ¬ j < i := fun q => z3 j q w2
        omega
      subst hij
      rw [z1, w1, if_neg (i_m1 (by omega)), f18_n ht (by omega)]
      exact Rl.ret rfl
