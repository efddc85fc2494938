/-! from what the constructors made to the closed shapes -/
theorem sw_all {n : Nat} {f : Nat → Bool} (h : (List.range n).all f = true) {i : Nat} (hi : i < n) : f i = true := List.all_eq_true.mp h i (List.mem_range.mpr hi)
theorem sw_big {k : Nat} (hk : 40 ≤ k) (h : Nat → Nat) (t i : Nat) : hC_r h t i k = none := by
  have e : ∀ m, m < 40 → Nat.beq k m = false := fun m hm => by
    cases hb : Nat.beq k m
    · rfl
    · have := Nat.eq_of_beq_eq_true hb
      omega
  have e2 : ∀ m, m < 40 → Nat.ble k m = false := fun m hm => by
    cases hb : Nat.ble k m
    · rfl
    · have := Nat.le_of_ble_eq_true hb
      omega
  have e3 : ∀ m, m < 40 → Nat.blt k m = false := fun m hm => by
    cases hb : Nat.blt k m
    · rfl
    · rw [Nat.blt_eq] at hb
      omega
  unfold hC_r
  simp only [e 0 (by decide), e 1 (by decide), e 2 (by decide), e 3 (by decide), e 4 (by decide), e2 1 (by decide), e2 3 (by decide), e2 4 (by decide), e3 8 (by decide), e3 16 (by decide), cond_false]
  cases Nat.beq t 0 <;> cases Nat.beq t 1 <;> cases Nat.beq t 2 <;> cases Nat.beq t 3 <;> cases Nat.beq t 4 <;> cases Nat.beq t 5 <;> cases Nat.beq t 6 <;> cases Nat.beq t 7 <;> first | rfl | (cases Nat.beq t 8 <;> cases Nat.beq t 9 <;> cases Nat.beq t 10 <;> cases Nat.beq t 72 <;> cases Nat.beq t 73 <;> rfl)
theorem sw_bigM {k : Nat} (hk : 40 ≤ k) (t i : Nat) : hM_r t i k = none := by
  have e2 : ∀ m, m < 40 → Nat.ble k m = false := fun m hm => by
    cases hb : Nat.ble k m
    · rfl
    · have := Nat.le_of_ble_eq_true hb
      omega
  unfold hM_r
  simp only [e2 9 (by decide), e2 38 (by decide), cond_false, Bool.and_false]
  cases Nat.beq t 11 <;> rfl
theorem sw_kt {t : Nat} (h : 116 ≤ t) : mx_knd t = Sum.inl t ∧ mx_cls[t]? = none := by
  have h1 : Nat.blt t 63 = false := by
    cases hb : Nat.blt t 63
    · rfl
    · rw [Nat.blt_eq] at hb
      omega
  have h2 : Nat.beq t 63 = false := by
    cases hb : Nat.beq t 63
    · rfl
    · have := Nat.eq_of_beq_eq_true hb
      omega
  have h3 : mx_knT[t - 64]? = none := List.getElem?_eq_none (by show 52 ≤ t - 64; omega)
  refine ⟨?_, List.getElem?_eq_none (by show 12 ≤ t; omega)⟩
  unfold mx_knd
  rw [h1, h2, h3]
  rfl
/-- a region and its closed shape agree on the cells that are there -/
def sw_Ag (g : Nat) (r r2 : mx_Rg) : Prop := (∀ t, t < 116 → r.2.2.2.1 t = r2.2.2.2.1 t) ∧ (∀ t, 116 ≤ t → r2.2.2.2.1 t = 0) ∧
  (∀ t i k, t < 12 → i < r2.2.2.2.1 t → k < mx_fn t → ini_rd r (mx_fty t k) t i k (r2.1 t i k) (r2.2.2.1 t i k) = true ∧ r2.2.1 t i k = 0) ∧
  (∀ t i ty, t < 116 → mx_knd t = Sum.inr ty → i < r2.2.2.2.1 t → r.2.2.2.2 t i = r2.2.2.2.2 t i ∧ ∀ k, k < r2.2.2.2.2 t i → ini_rd r ty t i k (r2.1 t i k) (r2.2.2.1 t i k) = true ∧ r2.2.1 t i k = 0) ∧
  (∀ t i k b, t < 116 → i < r2.2.2.2.1 t → r2.2.2.1 t i k = some b → b.1 = g ∧ b.2.2 < r2.2.2.2.1 b.2.1)
theorem sw_i {t : Nat} (h : 12 ≤ t) (k : Nat) : ini_i t k = 0 := by
  unfold ini_i
  have : Nat.beq t 3 = false := by
    cases hb : Nat.beq t 3
    · rfl
    · have := Nat.eq_of_beq_eq_true hb
      omega
  rw [this]
  rfl
theorem sw_AgOf {g : Nat} {r : mx_Rg} {c : Nat → Nat} {N : Nat → Nat → Nat} {R : Nat → Nat → Nat → Option mx_Ad} (h1 : (List.range 116).all (fun t => Nat.beq (r.2.2.2.1 t) (c t)) = true) (h0 : ∀ t, 116 ≤ t → c t = 0) (h2 : (List.range 12).all (ini_ob r c R) = true) (h3 : (List.range 116).all (ini_ar r c N R) = true) (h4 : ini_in c R g = true) (h5 : ∀ t i k, 40 ≤ k → R t i k = none) (h6 : ∀ t ty, mx_knd t = Sum.inr ty → 12 ≤ t) : sw_Ag g r (fun t _ k => ini_i t k, fun _ _ _ => 0, R, c, N) := by
  refine ⟨fun t ht => Nat.eq_of_beq_eq_true (sw_all h1 ht), h0, fun t i k ht hi hk => ⟨?_, rfl⟩, fun t i ty ht hty hi => ?_, fun t i k b ht hi hb => ?_⟩
  · exact sw_all (sw_all (sw_all h2 ht) hi) hk
  · have h := sw_all h3 ht
    unfold ini_ar at h
    rw [hty] at h
    have h7 := sw_all h hi
    rw [Bool.and_eq_true] at h7
    refine ⟨Nat.eq_of_beq_eq_true h7.1, fun k hk => ⟨?_, rfl⟩⟩
    have h8 := sw_all h7.2 hk
    show ini_rd r ty t i k (ini_i t k) (R t i k) = true
    rw [sw_i (h6 t ty hty) k]
    exact h8
  · by_cases hk : k < 40
    · have h := sw_all (sw_all (sw_all h4 ht) hi) hk
      simp only at hb
      rw [hb] at h
      simp only [Bool.and_eq_true, Nat.beq_eq, Nat.blt_eq] at h
      exact ⟨h.1.1, h.1.2⟩
    · simp only at hb
      rw [h5 t i k (by omega)] at hb
      cases hb
theorem sw_rd {r : mx_Rg} {σ1 σ2 : mx_Hp} {g t i k : Nat} {ty : FieldType} (e1 : mx_rg σ1 g = r) (h : ini_rd r ty t i k ((mx_rg σ2 g).1 t i k) ((mx_rg σ2 g).2.2.1 t i k) = true) (h0 : (mx_rg σ2 g).2.1 t i k = 0) : mx_rd σ1 (g, t, i) ty k = mx_rd σ2 (g, t, i) ty k := by
  subst e1
  cases ty <;> simp only [ini_rd, decide_eq_true_eq] at h <;> simp only [mx_rd, mx_I, mx_J, mx_R, h, h0]
theorem sw_arrV {c : ClassId} {n : Nat} {f g : Nat → Value} (h : ∀ k, k < n → f k = g k) : arrV c n f = arrV c n g := by
  unfold arrV
  congr 1
  apply Array.ext
  · simp
  · intro i h1 h2
    simp at h1 ⊢
    exact h i h1
theorem sw_rep {D : mx_D} {z0 : Nat} {ρ : mx_Ad → Nat} {σ1 σ2 : mx_Hp} {H : Heap} (h : mx_Rep D z0 ρ σ1 H) (h0 : sw_Ag 0 (mx_rg σ1 0) (mx_rg σ2 0)) (h1 : sw_Ag 1 (mx_rg σ1 1) (mx_rg σ2 1)) (hs : σ2.2.2 = σ1.2.2) : mx_Rep D z0 ρ σ2 H := by
  have hg : ∀ g, g < 2 → sw_Ag g (mx_rg σ1 g) (mx_rg σ2 g) := fun g hg => by
    match g, hg with
    | 0, _ => exact h0
    | 1, _ => exact h1
  have hg2 : ∀ g, 2 ≤ g → mx_rg σ2 g = mx_rg σ1 g := fun g hg => by
    match g, hg with
    | 2, _ => simp only [mx_rg, hs]
    | n + 3, _ => rfl
  have hok : ∀ a, mx_ok σ2 a → mx_ok σ1 a ∧ (a.1 < 2 → a.2.1 < 116) := by
    intro a ha
    obtain ⟨g, t, i⟩ := a
    unfold mx_ok mx_C at ha ⊢
    simp only at ha ⊢
    by_cases hgl : g < 2
    · by_cases ht : t < 116
      · rw [(hg g hgl).1 t ht]
        exact ⟨ha, fun _ => ht⟩
      · rw [(hg g hgl).2.1 t (by omega)] at ha
        omega
    · rw [hg2 g (by omega)] at ha
      exact ⟨ha, fun q => absurd q hgl⟩
  refine ⟨fun a ha => ?_, fun a b ha hb => h.2.1 a b (hok a ha).1 (hok b hb).1, fun a k b ha hb => ?_, fun a ha => h.2.2.2 a (hok a ha).1⟩
  · obtain ⟨ha1, hat⟩ := hok a ha
    have hc := h.1 a ha1
    obtain ⟨g, t, i⟩ := a
    by_cases hgl : g < 2
    · refine ⟨fun q => absurd q (by simp only; omega), fun _ => ?_⟩
      have hc2 := hc.2 hgl
      have ht : t < 116 := hat hgl
      have hi : i < (mx_rg σ2 g).2.2.2.1 t := ha
      obtain ⟨-, -, a3, a4, -⟩ := hg g hgl
      simp only at hc2 ⊢
      cases hk : mx_knd t with
      | inl ci =>
        rw [hk] at hc2
        simp only at hc2 ⊢
        obtain ⟨q, hq, hO⟩ := hc2
        have hci : ci = t := by
          unfold mx_knd at hk
          cases hb1 : Nat.blt t 63 with
          | true =>
            rw [hb1] at hk
            exact (Sum.inl.inj hk).symm
          | false =>
            rw [hb1] at hk
            cases hb2 : Nat.beq t 63 with
            | true => rw [hb2] at hk; cases hk
            | false =>
              rw [hb2] at hk
              simp only [cond_false] at hk
              split at hk
              · cases hk
              · exact (Sum.inl.inj hk).symm
        subst hci
        have h12 : ci < 12 := (List.getElem?_eq_some_iff.mp hq).1
        have hfn : mx_fn ci = q.2.2 := (mx_cls_ok hq).2.2.2.2.2.2
        exact ⟨q, hq, hO.to (fun k hkq => congrArg (mx_tv ρ) (sw_rd rfl (a3 ci i k h12 hi (by rw [hfn]; exact hkq)).1 (a3 ci i k h12 hi (by rw [hfn]; exact hkq)).2))⟩
      | inr ty =>
        rw [hk] at hc2
        simp only at hc2 ⊢
        obtain ⟨b1, b2⟩ := a4 t i ty ht hk hi
        have hc3 : H[ρ (g, t, i)]? = some (arrV (D.2.2.1 ty) (mx_N σ1 (g, t, i)) (fun k => mx_tv ρ (mx_rd σ1 (g, t, i) ty k))) := hc2
        have hN : mx_N σ1 (g, t, i) = mx_N σ2 (g, t, i) := b1
        show H[ρ (g, t, i)]? = some (arrV (D.2.2.1 ty) (mx_N σ2 (g, t, i)) (fun k => mx_tv ρ (mx_rd σ2 (g, t, i) ty k)))
        rw [hc3, hN]
        exact congrArg some (sw_arrV (fun k hk2 => congrArg (mx_tv ρ) (sw_rd rfl (b2 k hk2).1 (b2 k hk2).2)))
    · refine ⟨fun q => ?_, fun q => absurd q hgl⟩
      have e := hg2 g (by omega)
      obtain ⟨c1, c2, c3, c4⟩ := hc.1 q
      refine ⟨c1, c2, ?_, fun k hk => ?_⟩
      · rw [c3]
        unfold mx_N
        rw [e]
      · have := c4 k (by unfold mx_N at hk ⊢; rw [← e]; exact hk)
        rw [this]
        unfold mx_I
        rw [e]
  · obtain ⟨ha1, hat⟩ := hok a ha
    obtain ⟨g, t, i⟩ := a
    by_cases hgl : g < 2
    · obtain ⟨c1, c2⟩ := (hg g hgl).2.2.2.2 t i k b (hat hgl) ha hb
      obtain ⟨g2, t2, i2⟩ := b
      simp only at c1 c2
      subst c1
      exact c2
    · unfold mx_R at hb
      simp only at hb
      match g, hgl, hb with
      | 2, _, hb => cases hb
      | n + 3, _, hb => cases hb
