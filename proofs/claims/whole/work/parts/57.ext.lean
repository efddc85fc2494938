/-! what is an extension -/
def szn (A : mI) (p : Nat) : Nat := (A 100 0 p).toNatClampNeg
theorem szn_n {I A : mI} {J B : mJ} {p n : Nat} (h : pn I A J B p n) : szn A p = n := by
  unfold szn
  rw [h.2.2.2.2.1]
  exact i_cl (by have := h.2.1; omega)
def chk (A : mI) (B : mJ) (t s : Nat) : Prop := (∃ j, j < szn A (s / 16) ∧ itb A B s (16 * (s / 16) + j) = true) → ∀ i, i < szn A (t / 16) → chb A (t / 16) t i = true → fit A B (szn A (s / 16)) (s / 16) (s % 16) (16 * (t / 16) + i)
def extp (A : mI) (B : mJ) (t : Nat) : Prop := tp A B t w_ex ∧ ∃ s, s < 128 ∧ ptq A B (vl A B t w_pt) s ∧ (∀ r, r < s → ¬ ptq A B (vl A B t w_pt) r) ∧ chk A B t s
theorem extp_1 {A : mI} {B : mJ} {t s : Nat} (h : tp A B t w_ex) (hs : s < 128) (h1 : ptq A B (vl A B t w_pt) s) (h2 : ∀ r, r < s → ¬ ptq A B (vl A B t w_pt) r) : extp A B t ↔ chk A B t s := by
  constructor
  · rintro ⟨-, r, hr, g1, g2, g3⟩
    rcases Nat.lt_trichotomy r s with q | q | q
    · exact absurd g1 (h2 r q)
    · rw [← q]; exact g3
    · exact absurd h1 (g2 s q)
  · exact fun g => ⟨h, s, hs, h1, h2, g⟩
theorem f99_s {I A : mI} {J B : mJ} (a4 : g_tree I A J B) (a5 : g_non I J) (a3 : ∀ q, q < 8 → I 6 q 4 = A 93 0 q) {t : Nat} (ht : t < 128) (nm : Int64) : ∃ b, f99 (Int32.ofNat t) nm I J = some b ∧ (b = true ↔ tp A B t nm) := by
  unfold f99 tp
  rcases hd_in a4 ht with ⟨d1, d2, -⟩ | ⟨d1, d2, -, d3⟩
  · rw [d2, Option.bind_some, a5.2.2.2.2.1, if_neg (by decide)]
    exact ⟨false, rfl, fun q => absurd q (by decide), fun q => absurd q.1 d1⟩
  · rw [d2, Option.bind_some, d3.2.2.1, d3.2.1, h_dv t (by omega), if_neg (i_g (n := t / 16) (N := 8) (by omega) (by decide)), i_cl (n := t / 16) (by omega), a3 (t / 16) (by omega)]
    by_cases c2 : A 106 0 t = 1
    · rw [if_pos c2]
      by_cases c3 : B 102 0 t = nm
      · rw [if_pos ((c_cmp _ _).mpr c3)]
        by_cases c1 : A 93 0 (t / 16) = 0
        · rw [if_pos c1]
          exact ⟨false, rfl, fun q => absurd q (by decide), fun q => absurd c1 q.2.1⟩
        · rw [if_neg c1]
          exact ⟨true, rfl, fun _ => ⟨d1, c1, c2, c3⟩, fun _ => rfl⟩
      · rw [if_neg (fun q => c3 ((c_cmp _ _).mp q))]
        exact ⟨false, rfl, fun q => absurd q (by decide), fun q => absurd q.2.2.2 c3⟩
    · rw [if_neg c2]
      exact ⟨false, rfl, fun q => absurd q (by decide), fun q => absurd q.2.2.1 c2⟩
theorem f101_s {I A : mI} {J B : mJ} (a4 : g_tree I A J B) (a7 : g_pts I A B) {t : Nat} (ht : t < 128) (h : tp A B t w_ex) : ∃ b, f101 (Int32.ofNat t) I J = some b ∧ (b = true ↔ extp A B t) := by
  obtain ⟨d1, d2⟩ := ee_at a4 ht h.1
  obtain ⟨v1, -⟩ := d2.2.2.2.2.2.2 500068609904
  obtain ⟨r, e1, -, e3⟩ := pt_eq a4 a7 (vl A B t 500068609904)
  unfold f101
  rw [d1, Option.bind_some, v1, Option.bind_some, e1, Option.bind_some]
  rcases e3 with ⟨rfl, hno⟩ | ⟨s, hs, rfl, hs1, hs2⟩
  · rw [if_pos rfl]
    exact ⟨false, rfl, fun q => absurd q (by decide), fun ⟨_, s, hs, g, _⟩ => absurd g (hno s hs)⟩
  · rw [if_neg (i_m1 (by omega))]
    have hx := extp_1 h hs hs1 hs2
    obtain ⟨n, hn1, hn⟩ := pn_at a4 hs hs1.2.1.1
    obtain ⟨m, hm1, hm⟩ := pn_at a4 ht h.1
    have es : 16 * (s / 16) + s % 16 = s := by omega
    obtain ⟨b, f1, f2⟩ := f102_s hn (show s % 16 < 16 by omega)
    rw [es] at f1 f2
    rw [f1, Option.bind_some]
    cases b with
    | false =>
      rw [if_neg (by decide)]
      refine ⟨true, rfl, fun _ => hx.mpr (fun ⟨j, hj, g⟩ => ?_), fun _ => rfl⟩
      rw [szn_n hn] at hj
      exact absurd (f2.mpr ⟨j, hj, g⟩) (by decide)
    | true =>
      rw [if_pos rfl, h_81 t ht, Option.bind_some]
      have hit := f2.mp rfl
      have hfit : ∀ i, i < m → ∃ b, f104 (1 + 16 * (t / 16) + i) (Int32.ofNat s) I J = some b ∧ (b = true ↔ fit A B n (s / 16) (s % 16) (16 * (t / 16) + i)) := fun i hi => by
        have ei := ee_of hm.1 (show i < 16 by have := hm.2.1; omega) (hm.2.2.2.2.2 i hi)
        obtain ⟨b, g1, g2⟩ := f104_s hn (show s % 16 < 16 by omega) ei
        rw [es] at g1
        exact ⟨b, by rw [Nat.add_assoc]; exact g1, g2⟩
      have hch : ∀ i, i < m → (I 3 (1 + 16 * (t / 16) + i) 4 = Int32.ofNat (t % 16) ↔ chb A (t / 16) t i = true) := fun i hi => by
        have q := (ch_eq hm.1 hm.2.1 (show t % 16 < 16 by omega) hm.2.2.2.2.2 i hi).1
        rw [show 16 * (t / 16) + t % 16 = t by omega] at q
        exact q
      have h4 := hm.2.2.2.1
      have hm16 := hm.2.1
      have hf := fst_lp (body := b101_48 (Int32.ofNat t) (Int32.ofNat s) (t / 16) I J) 0 0 m (fun i => chb A (t / 16) t i && !((f104 (1 + 16 * (t / 16) + i) (Int32.ofNat s) I J).getD false)) (fun _ => .inr false) (.inl (Int32.ofNat m)) (by omega) (by omega) (by omega) (fun i _ hi => by
          unfold b101_48
          obtain ⟨b, g1, -⟩ := hfit i hi
          rw [Nat.zero_add, h4, if_neg (fun q => absurd ((i_le (by omega) (by omega)).mp q) (by omega)), f51_s hm16 h4 hi, Option.bind_some, Option.bind_some, h_md t ht, g1, Option.bind_some]
          have hc := hch i hi
          cases d : chb A (t / 16) t i with
          | true =>
            rw [if_pos (hc.mpr d)]
            cases b <;> rfl
          | false =>
            rw [if_neg (fun q => by rw [hc.mp q] at d; exact absurd d (by decide))]
            rfl) (by
          unfold b101_48
          rw [Nat.zero_add, h4, if_pos ((i_le (by omega) (by omega)).mpr (Nat.le_refl m))])
      rcases hf with ⟨g1, g2⟩ | ⟨i, -, hi, g1, g2, -⟩
      · refine ⟨true, congrArg (fun z => Option.bind z _) g1, fun _ => hx.mpr (fun _ i hi hc => ?_), fun _ => rfl⟩
        rw [szn_n hm] at hi
        have q := g2 i (by omega) hi
        obtain ⟨b, k1, k2⟩ := hfit i hi
        rw [k1, hc] at q
        rw [szn_n hn]
        cases b with
        | true => exact k2.mp rfl
        | false => exact absurd q (by decide)
      · refine ⟨false, congrArg (fun z => Option.bind z _) g1, fun q => absurd q (by decide), fun q => ?_⟩
        obtain ⟨b, k1, k2⟩ := hfit i hi
        simp only [k1, Option.getD_some, Bool.and_eq_true, Bool.not_eq_true'] at g2
        have z := (hx.mp q) (by rw [szn_n hn]; exact hit) i (by rw [szn_n hm]; exact hi) g2.1
        rw [szn_n hn] at z
        rw [k2.mpr z] at g2
        exact absurd g2.2 (by decide)
theorem f138_s {I A : mI} {J B : mJ} (a4 : g_tree I A J B) {t : Nat} (ht : t < 128) : ∃ b, f138 (Int32.ofNat t) A B = some b ∧ (b = true ↔ extp A B t) := by
  obtain ⟨b, e1, e2⟩ := f139_s (A := A) (B := B) ht 7632997
  unfold f138
  rw [e1]
  cases b with
  | false =>
    rw [bF]
    unfold j138_27
    rw [if_neg (by decide)]
    exact ⟨false, rfl, fun q => absurd q (by decide), fun q => absurd (e2.mpr q.1) (by decide)⟩
  | true =>
    have h : tp A B t w_ex := e2.mp rfl
    obtain ⟨d1, d2⟩ := ee_at a4 ht h.1
    obtain ⟨-, v1⟩ := d2.2.2.2.2.2.2 500068609904
    obtain ⟨r, f1, f2⟩ := f142_s a4 (vl A B t 500068609904)
    rw [bT, v1, Option.bind_some, f1, Option.bind_some]
    unfold j138_27
    rcases f2 with ⟨rfl, hno⟩ | ⟨s, hs, rfl, hs1, hs2⟩
    · rw [if_neg (by decide)]
      exact ⟨false, rfl, fun q => absurd q (by decide), fun ⟨_, s, hs, g, _⟩ => absurd g (hno s hs)⟩
    · rw [if_pos (i_ps (by omega))]
      have hx := extp_1 h hs hs1 hs2
      obtain ⟨n, hn1, hn⟩ := pn_at a4 hs hs1.2.1.1
      obtain ⟨m, hm1, hm⟩ := pn_at a4 ht h.1
      have es : 16 * (s / 16) + s % 16 = s := by omega
      have et : 16 * (t / 16) + t % 16 = t := by omega
      obtain ⟨⟨x, y⟩, g1, g2⟩ := b138_s (Int32.ofNat t) hn hn1
      rw [es] at g1 g2
      rw [g1, Option.bind_some]
      simp only at g2 ⊢
      have ed : Int32.ofNat t / 16 = Int32.ofNat (t / 16) := h_dv t (by omega)
      have es1 : Int32.ofNat t + 1 = Int32.ofNat (16 * (t / 16) + (t % 16 + 1)) := by
        rw [show 16 * (t / 16) + (t % 16 + 1) = t + 1 by omega]
        exact n_addR t 1
      have hm16 := hm.2.1
      unfold j138_78
      rw [es1]
      rcases g2 with ⟨rfl, g2⟩ | ⟨rfl, g2⟩
      · have hf := fst_lp (body := b138_83 (Int32.ofNat t) (Int32.ofNat s) 0 A B) (16 * (t / 16)) (t % 16 + 1) (t % 16 + 1) (fun _ => false) (fun _ => .inr false) (.inl (Int32.ofNat (16 * (t / 16) + (t % 16 + 1)))) (by omega) (by omega) (by omega) (fun i h1 h2 => absurd h2 (by omega)) (by
            unfold b138_83
            rw [ed]
            rcases Nat.lt_or_ge (t % 16 + 1) m with c | c
            · rw [wk_in hm.1 hm.2.1 hm.2.2.1 hm.2.2.2.2.1 c, if_pos rfl]
            · have q : t % 16 + 1 = m := by omega
              rw [q, wk_end hm.1 hm.2.1 hm.2.2.1 hm.2.2.2.2.1])
        rcases hf with ⟨k1, -⟩ | ⟨i, k1, k2, -⟩
        · refine ⟨true, congrArg (fun z => Option.bind z _) k1, fun _ => hx.mpr (fun ⟨j, hj, g⟩ => ?_), fun _ => rfl⟩
          rw [szn_n hn] at hj
          exact absurd ⟨j, hj, g⟩ g2
        · omega
      · have hfit : ∀ i, i < m → ∃ b, f144 (Int32.ofNat (16 * (t / 16) + i)) (Int32.ofNat s) A B = some b ∧ (b = true ↔ fit A B n (s / 16) (s % 16) (16 * (t / 16) + i)) := fun i hi => by
          have ei := ee_of hm.1 (show i < 16 by omega) (hm.2.2.2.2.2 i hi)
          obtain ⟨b, k1, k2⟩ := f144_s hn hn1 (by omega) ei
          rw [es] at k1
          exact ⟨b, k1, k2⟩
        have hlt : ∀ i, i < m → chb A (t / 16) t i = true → t % 16 < i := fun i hi q => by
          have z := (ch_eq hm.1 hm16 (show t % 16 < 16 by omega) hm.2.2.2.2.2 i hi).2
          rw [et] at z
          exact z q
        have hf := fst_lp (body := b138_83 (Int32.ofNat t) (Int32.ofNat s) 1 A B) (16 * (t / 16)) (t % 16 + 1) m (fun i => chb A (t / 16) t i && !((f144 (Int32.ofNat (16 * (t / 16) + i)) (Int32.ofNat s) A B).getD false)) (fun _ => .inr false) (.inl (Int32.ofNat (16 * (t / 16) + m))) (by omega) (by omega) (by omega) (fun i _ hi => by
            unfold b138_83
            obtain ⟨b, k1, -⟩ := hfit i hi
            rw [ed, wk_in hm.1 hm.2.1 hm.2.2.1 hm.2.2.2.2.1 hi, if_neg (by decide), if_neg (i_g (show 16 * (t / 16) + i < 128 by omega) (by decide)), i_cl (by omega), k1, Option.bind_some]
            unfold chb
            by_cases d : A 105 0 (16 * (t / 16) + i) = Int32.ofNat t
            · rw [if_pos d, decide_eq_true d]
              cases b <;> rfl
            · rw [if_neg d, decide_eq_false d]
              rfl) (by
            unfold b138_83
            rw [ed, wk_end hm.1 hm.2.1 hm.2.2.1 hm.2.2.2.2.1])
        rcases hf with ⟨g1, g3⟩ | ⟨i, hi0, hi, g1, g3, -⟩
        · refine ⟨true, congrArg (fun z => Option.bind z _) g1, fun _ => hx.mpr (fun _ i hi hc => ?_), fun _ => rfl⟩
          rw [szn_n hm] at hi
          have q := g3 i (by have := hlt i hi hc; omega) hi
          obtain ⟨b, k1, k2⟩ := hfit i hi
          rw [k1, hc] at q
          rw [szn_n hn]
          cases b with
          | true => exact k2.mp rfl
          | false => exact absurd q (by decide)
        · refine ⟨false, congrArg (fun z => Option.bind z _) g1, fun q => absurd q (by decide), fun q => ?_⟩
          obtain ⟨b, k1, k2⟩ := hfit i hi
          simp only [k1, Option.getD_some, Bool.and_eq_true, Bool.not_eq_true'] at g3
          have z := (hx.mp q) (by rw [szn_n hn]; exact g2) i (by rw [szn_n hm]; exact hi) g3.1
          rw [szn_n hn] at z
          rw [k2.mpr z] at g3
          exact absurd g3.2 (by decide)
