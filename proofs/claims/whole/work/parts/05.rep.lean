/-! what the abstract heap says of the real one -/
def mx_tv (ρ : mx_Ad → Nat) : mx_V → Value
  | .inl x => .int x
  | .inr (.inl x) => .long x
  | .inr (.inr none) => .null
  | .inr (.inr (some a)) => .ref (ρ a)
def mx_ok (σ : mx_Hp) (a : mx_Ad) : Prop := a.2.2 < mx_C σ a.1 a.2.1
def mx_vk (σ : mx_Hp) : mx_V → Prop
  | .inr (.inr (some a)) => mx_ok σ a
  | _ => True
/-- classes, their fields' places, array classes, the script's cell -/
abbrev mx_D : Type := (Nat → ClassId) × (Nat → Nat → Nat) × (FieldType → ClassId) × Cell
def mx_cellO (D : mx_D) (ρ : mx_Ad → Nat) (σ : mx_Hp) (H : Heap) (a : mx_Ad) (ci : Nat) : Prop := ∃ q : vw_C, mx_cls[ci]? = some q ∧ t_OB (ρ a) (D.1 ci) q.2.2 (D.2.1 ci) H (fun k => mx_tv ρ (mx_rd σ a (mx_fty ci k) k))
def mx_cellA (D : mx_D) (ρ : mx_Ad → Nat) (σ : mx_Hp) (H : Heap) (a : mx_Ad) (ty : FieldType) : Prop := H[ρ a]? = some (arrV (D.2.2.1 ty) (mx_N σ a) (fun k => mx_tv ρ (mx_rd σ a ty k)))
def mx_cellS (D : mx_D) (ρ : mx_Ad → Nat) (σ : mx_Hp) (H : Heap) (a : mx_Ad) : Prop := H[ρ a]? = some D.2.2.2 ∧ D.2.2.2.vm ≠ .unknown ∧ D.2.2.2.slots.size = mx_N σ a ∧ ∀ k, k < mx_N σ a → D.2.2.2.slots[k]? = some (.int (mx_I σ a k))
def mx_cell (D : mx_D) (ρ : mx_Ad → Nat) (σ : mx_Hp) (H : Heap) (a : mx_Ad) : Prop := (2 ≤ a.1 → mx_cellS D ρ σ H a) ∧ (a.1 < 2 → match mx_knd a.2.1 with
  | .inl ci => mx_cellO D ρ σ H a ci
  | .inr ty => mx_cellA D ρ σ H a ty)
def mx_Rep (D : mx_D) (z0 : Nat) (ρ : mx_Ad → Nat) (σ : mx_Hp) (H : Heap) : Prop :=
  (∀ a, mx_ok σ a → mx_cell D ρ σ H a) ∧ (∀ a b, mx_ok σ a → mx_ok σ b → ρ a = ρ b → a = b) ∧ (∀ a k b, mx_ok σ a → mx_R σ a k = some b → mx_ok σ b) ∧ (∀ a, mx_ok σ a → a.1 < 2 → z0 ≤ ρ a)
def mx_Ext (ρ : mx_Ad → Nat) (σ : mx_Hp) (ρ' : mx_Ad → Nat) (σ' : mx_Hp) : Prop := ∀ a, mx_ok σ a → mx_ok σ' a ∧ ρ' a = ρ a
theorem mx_Ext.rf {ρ : mx_Ad → Nat} {σ : mx_Hp} : mx_Ext ρ σ ρ σ := fun _ h => ⟨h, rfl⟩
theorem mx_Ext.tr {ρ ρ1 ρ2 : mx_Ad → Nat} {σ σ1 σ2 : mx_Hp} (h : mx_Ext ρ σ ρ1 σ1) (h2 : mx_Ext ρ1 σ1 ρ2 σ2) : mx_Ext ρ σ ρ2 σ2 := fun a ha => ⟨(h2 a (h a ha).1).1, (h2 a (h a ha).1).2.trans (h a ha).2⟩
theorem mx_Ext.tv {ρ ρ' : mx_Ad → Nat} {σ σ' : mx_Hp} (h : mx_Ext ρ σ ρ' σ') {v : mx_V} (hv : mx_vk σ v) : mx_tv ρ' v = mx_tv ρ v ∧ mx_vk σ' v := by
  match v, hv with
  | .inl x, _ => exact ⟨rfl, trivial⟩
  | .inr (.inl x), _ => exact ⟨rfl, trivial⟩
  | .inr (.inr none), _ => exact ⟨rfl, trivial⟩
  | .inr (.inr (some a)), hv => exact ⟨congrArg Value.ref (h a hv).2, (h a hv).1⟩
/-! regions -/
theorem mx_rgs {σ : mx_Hp} {g : Nat} (hg : g < 2) (r : mx_Rg) (g' : Nat) : mx_rg (mx_sg σ g r) g' = if g' = g then r else mx_rg σ g' := by
  have h : g = 0 ∨ g = 1 := by omega
  rcases h with rfl | rfl <;> match g' with
    | 0 => simp [mx_rg, mx_sg]
    | 1 => simp [mx_rg, mx_sg]
    | 2 => simp [mx_rg, mx_sg]
    | n + 3 => simp [mx_rg, mx_sg]
theorem mx_sgK (σ : mx_Hp) (g : Nat) (r : mx_Rg) : mx_K (mx_sg σ g r) = mx_K σ ∧ mx_Z (mx_sg σ g r) = mx_Z σ := by
  match g with
  | 0 => exact ⟨rfl, rfl⟩
  | 1 => exact ⟨rfl, rfl⟩
  | n + 2 => exact ⟨rfl, rfl⟩
theorem mx_rgt (σ : mx_Hp) (z g : Nat) : mx_rg (mx_tick σ z) g = mx_rg σ g := by
  match g with
  | 0 => rfl
  | 1 => rfl
  | 2 => rfl
  | n + 3 => rfl
section MXW
variable {σ : mx_Hp} {a : mx_Ad} {k : Nat}
theorem mx_I_sI (hg : a.1 < 2) (v : Int32) (b : mx_Ad) (j : Nat) : mx_I (mx_sI σ a k v) b j = if b = a ∧ j = k then v else mx_I σ b j := by
  obtain ⟨g, t, i⟩ := a
  obtain ⟨g', t', i'⟩ := b
  simp only [mx_I, mx_sI]
  rw [mx_rgs hg]
  by_cases h : g' = g
  · subst h
    simp [mx_u3, and_assoc]
  · simp [h]
theorem mx_J_sJ (hg : a.1 < 2) (v : Int64) (b : mx_Ad) (j : Nat) : mx_J (mx_sJ σ a k v) b j = if b = a ∧ j = k then v else mx_J σ b j := by
  obtain ⟨g, t, i⟩ := a
  obtain ⟨g', t', i'⟩ := b
  simp only [mx_J, mx_sJ]
  rw [mx_rgs hg]
  by_cases h : g' = g
  · subst h
    simp [mx_u3, and_assoc]
  · simp [h]
theorem mx_R_sR (hg : a.1 < 2) (v : Option mx_Ad) (b : mx_Ad) (j : Nat) : mx_R (mx_sR σ a k v) b j = if b = a ∧ j = k then v else mx_R σ b j := by
  obtain ⟨g, t, i⟩ := a
  obtain ⟨g', t', i'⟩ := b
  simp only [mx_R, mx_sR]
  rw [mx_rgs hg]
  by_cases h : g' = g
  · subst h
    simp [mx_u3, and_assoc]
  · simp [h]
theorem mx_sI_o (hg : a.1 < 2) (v : Int32) : (∀ b j, mx_J (mx_sI σ a k v) b j = mx_J σ b j) ∧ (∀ b j, mx_R (mx_sI σ a k v) b j = mx_R σ b j) ∧ (∀ g t, mx_C (mx_sI σ a k v) g t = mx_C σ g t) ∧ (∀ b, mx_N (mx_sI σ a k v) b = mx_N σ b) ∧ mx_K (mx_sI σ a k v) = mx_K σ ∧ mx_Z (mx_sI σ a k v) = mx_Z σ := by
  refine ⟨fun b j => ?_, fun b j => ?_, fun g t => ?_, fun b => ?_, (mx_sgK _ _ _).1, (mx_sgK _ _ _).2⟩
  · simp only [mx_J, mx_sI]
    rw [mx_rgs hg]
    split <;> simp_all
  · simp only [mx_R, mx_sI]
    rw [mx_rgs hg]
    split <;> simp_all
  · simp only [mx_C, mx_sI]
    rw [mx_rgs hg]
    split <;> simp_all
  · simp only [mx_N, mx_sI]
    rw [mx_rgs hg]
    split <;> simp_all
theorem mx_sJ_o (hg : a.1 < 2) (v : Int64) : (∀ b j, mx_I (mx_sJ σ a k v) b j = mx_I σ b j) ∧ (∀ b j, mx_R (mx_sJ σ a k v) b j = mx_R σ b j) ∧ (∀ g t, mx_C (mx_sJ σ a k v) g t = mx_C σ g t) ∧ (∀ b, mx_N (mx_sJ σ a k v) b = mx_N σ b) ∧ mx_K (mx_sJ σ a k v) = mx_K σ ∧ mx_Z (mx_sJ σ a k v) = mx_Z σ := by
  refine ⟨fun b j => ?_, fun b j => ?_, fun g t => ?_, fun b => ?_, (mx_sgK _ _ _).1, (mx_sgK _ _ _).2⟩
  · simp only [mx_I, mx_sJ]
    rw [mx_rgs hg]
    split <;> simp_all
  · simp only [mx_R, mx_sJ]
    rw [mx_rgs hg]
    split <;> simp_all
  · simp only [mx_C, mx_sJ]
    rw [mx_rgs hg]
    split <;> simp_all
  · simp only [mx_N, mx_sJ]
    rw [mx_rgs hg]
    split <;> simp_all
theorem mx_sR_o (hg : a.1 < 2) (v : Option mx_Ad) : (∀ b j, mx_I (mx_sR σ a k v) b j = mx_I σ b j) ∧ (∀ b j, mx_J (mx_sR σ a k v) b j = mx_J σ b j) ∧ (∀ g t, mx_C (mx_sR σ a k v) g t = mx_C σ g t) ∧ (∀ b, mx_N (mx_sR σ a k v) b = mx_N σ b) ∧ mx_K (mx_sR σ a k v) = mx_K σ ∧ mx_Z (mx_sR σ a k v) = mx_Z σ := by
  refine ⟨fun b j => ?_, fun b j => ?_, fun g t => ?_, fun b => ?_, (mx_sgK _ _ _).1, (mx_sgK _ _ _).2⟩
  · simp only [mx_I, mx_sR]
    rw [mx_rgs hg]
    split <;> simp_all
  · simp only [mx_J, mx_sR]
    rw [mx_rgs hg]
    split <;> simp_all
  · simp only [mx_C, mx_sR]
    rw [mx_rgs hg]
    split <;> simp_all
  · simp only [mx_N, mx_sR]
    rw [mx_rgs hg]
    split <;> simp_all
end MXW
/-- a new cell -/
theorem mx_al_o {σ : mx_Hp} {g t n z : Nat} (hg : g < 2) : (∀ b j, mx_I (mx_al σ g t n z) b j = if b = (g, t, mx_C σ g t) then 0 else mx_I σ b j) ∧ (∀ b j, mx_J (mx_al σ g t n z) b j = if b = (g, t, mx_C σ g t) then 0 else mx_J σ b j) ∧ (∀ b j, mx_R (mx_al σ g t n z) b j = if b = (g, t, mx_C σ g t) then none else mx_R σ b j) ∧ (∀ g' t', mx_C (mx_al σ g t n z) g' t' = if g' = g ∧ t' = t then mx_C σ g t + 1 else mx_C σ g' t') ∧ (∀ b, mx_N (mx_al σ g t n z) b = if b = (g, t, mx_C σ g t) then n else mx_N σ b) ∧ mx_K (mx_al σ g t n z) = mx_K σ + 1 ∧ mx_Z (mx_al σ g t n z) = mx_Z σ + z := by
  refine ⟨fun b j => ?_, fun b j => ?_, fun b j => ?_, fun g' t' => ?_, fun b => ?_, ?_, ?_⟩
  · obtain ⟨g', t', i'⟩ := b
    simp only [mx_I, mx_al, mx_rgt, mx_C]
    rw [mx_rgs hg]
    by_cases h : g' = g
    · subst h
      simp only [if_pos, mx_alr, mx_u2, Prod.mk.injEq, true_and]
      split <;> rfl
    · simp [h]
  · obtain ⟨g', t', i'⟩ := b
    simp only [mx_J, mx_al, mx_rgt, mx_C]
    rw [mx_rgs hg]
    by_cases h : g' = g
    · subst h
      simp only [if_pos, mx_alr, mx_u2, Prod.mk.injEq, true_and]
      split <;> rfl
    · simp [h]
  · obtain ⟨g', t', i'⟩ := b
    simp only [mx_R, mx_al, mx_rgt, mx_C]
    rw [mx_rgs hg]
    by_cases h : g' = g
    · subst h
      simp only [if_pos, mx_alr, mx_u2, Prod.mk.injEq, true_and]
      split <;> rfl
    · simp [h]
  · simp only [mx_al, mx_rgt, mx_C]
    rw [mx_rgs hg]
    by_cases h : g' = g
    · subst h
      simp only [if_pos, mx_alr, mx_u1, true_and]
    · simp [h]
  · obtain ⟨g', t', i'⟩ := b
    simp only [mx_N, mx_al, mx_rgt, mx_C]
    rw [mx_rgs hg]
    by_cases h : g' = g
    · subst h
      simp only [if_pos, mx_alr, mx_u2, Prod.mk.injEq, true_and]
    · simp [h]
  · exact congrArg (· + 1) (mx_sgK σ g _).1
  · exact congrArg (· + z) (mx_sgK σ g _).2
theorem mx_rd_eq {σ σ' : mx_Hp} {b : mx_Ad} {k : Nat} (h1 : mx_I σ' b k = mx_I σ b k) (h2 : mx_J σ' b k = mx_J σ b k) (h3 : mx_R σ' b k = mx_R σ b k) (ty : FieldType) : mx_rd σ' b ty k = mx_rd σ b ty k := by
  cases ty <;> simp [mx_rd, h1, h2, h3]
theorem mx_cell.same {D : mx_D} {ρ ρ' : mx_Ad → Nat} {σ σ' : mx_Hp} {H H' : Heap} {b : mx_Ad} (h : mx_cell D ρ σ H b) (hρ : ρ' b = ρ b) (hH : H'[ρ b]? = H[ρ b]?) (h1 : ∀ k, mx_I σ' b k = mx_I σ b k) (h2 : ∀ k, mx_J σ' b k = mx_J σ b k) (h3 : ∀ k, mx_R σ' b k = mx_R σ b k) (h4 : mx_N σ' b = mx_N σ b) (h5 : ∀ k c, mx_R σ b k = some c → ρ' c = ρ c) : mx_cell D ρ' σ' H' b := by
  have hv : ∀ ty k, mx_tv ρ' (mx_rd σ' b ty k) = mx_tv ρ (mx_rd σ b ty k) := by
    intro ty k
    rw [mx_rd_eq (h1 k) (h2 k) (h3 k) ty]
    cases ty <;> (simp only [mx_rd]; first | rfl | skip)
    all_goals
      cases hr : mx_R σ b k with
      | none => rfl
      | some c => exact congrArg Value.ref (h5 k c hr)
  refine ⟨fun hg => ?_, fun hg => ?_⟩
  · obtain ⟨q1, q2, q3, q4⟩ := h.1 hg
    exact ⟨by rw [hρ, hH]; exact q1, q2, by rw [h4]; exact q3, fun k hk => by rw [h1 k]; exact q4 k (by rw [← h4]; exact hk)⟩
  · have hc := h.2 hg
    cases hk : mx_knd b.2.1 with
    | inl ci =>
      rw [hk] at hc
      obtain ⟨q, hq, hO⟩ := hc
      refine ⟨q, hq, ?_⟩
      rw [hρ]
      exact (hO.kept hH).to (fun k _ => (hv (mx_fty ci k) k).symm)
    | inr ty =>
      rw [hk] at hc
      show H'[ρ' b]? = _
      rw [hρ, hH, hc, h4]
      congr 2
      funext k
      exact (hv ty k).symm
/-- a write to one cell -/
theorem mx_Rep.wr {D : mx_D} {z0 : Nat} {ρ : mx_Ad → Nat} {σ σ' : mx_Hp} {H H' : Heap} {a : mx_Ad} (h : mx_Rep D z0 ρ σ H) (ha : mx_ok σ a) (hg : a.1 < 2) (hC : ∀ g t, mx_C σ' g t = mx_C σ g t)
    (h1 : ∀ b, b ≠ a → ∀ k, mx_I σ' b k = mx_I σ b k) (h2 : ∀ b, b ≠ a → ∀ k, mx_J σ' b k = mx_J σ b k) (h3 : ∀ b, b ≠ a → ∀ k, mx_R σ' b k = mx_R σ b k) (h4 : ∀ b, mx_N σ' b = mx_N σ b)
    (hcell : match mx_knd a.2.1 with
      | .inl ci => mx_cellO D ρ σ' H' a ci
      | .inr ty => mx_cellA D ρ σ' H' a ty)
    (hR : ∀ k b, mx_R σ' a k = some b → mx_ok σ b) (hH : ∀ q, q ≠ ρ a → H'[q]? = H[q]?) : mx_Rep D z0 ρ σ' H' := by
  have hok : ∀ b, mx_ok σ' b ↔ mx_ok σ b := fun b => by unfold mx_ok; rw [hC]
  refine ⟨fun b hb => ?_, fun b c hb hc => h.2.1 b c ((hok b).mp hb) ((hok c).mp hc), fun b k c hb hr => ?_, fun b hb => h.2.2.2 b ((hok b).mp hb)⟩
  · by_cases hba : b = a
    · subst hba
      exact ⟨fun q => absurd q (by omega), fun _ => hcell⟩
    · exact (h.1 b ((hok b).mp hb)).same rfl (hH _ (fun q => hba (h.2.1 b a ((hok b).mp hb) ha q))) (h1 b hba) (h2 b hba) (h3 b hba) (h4 b) (fun _ _ _ => rfl)
  · rw [hok]
    by_cases hba : b = a
    · subst hba
      exact hR k c hr
    · exact h.2.2.1 b k c ((hok b).mp hb) (by rw [← h3 b hba]; exact hr)
/-- where a new cell stands -/
def mx_ext (ρ : mx_Ad → Nat) (a : mx_Ad) (q : Nat) : mx_Ad → Nat := fun b => if b = a then q else ρ b
theorem mx_Rep.lt {D : mx_D} {z0 : Nat} {ρ : mx_Ad → Nat} {σ : mx_Hp} {H : Heap} (h : mx_Rep D z0 ρ σ H) {a : mx_Ad} (ha : mx_ok σ a) : ρ a < H.size := by
  have hc := h.1 a ha
  by_cases hg : a.1 < 2
  · have hc := hc.2 hg
    cases hk : mx_knd a.2.1 with
    | inl ci =>
      rw [hk] at hc
      obtain ⟨q, hq, cell, h1, -⟩ := hc
      exact (Array.getElem?_eq_some_iff.mp h1).1
    | inr ty =>
      rw [hk] at hc
      exact (Array.getElem?_eq_some_iff.mp hc).1
  · exact (Array.getElem?_eq_some_iff.mp (hc.1 (by omega)).1).1
theorem mx_Rep.al {D : mx_D} {z0 : Nat} {ρ : mx_Ad → Nat} {σ : mx_Hp} {H H' : Heap} {g t n z : Nat} (h : mx_Rep D z0 ρ σ H) (hg : g < 2) (hz : z0 ≤ H.size)
    (hcell : match mx_knd t with
      | .inl ci => mx_cellO D (mx_ext ρ (g, t, mx_C σ g t) H.size) (mx_al σ g t n z) H' (g, t, mx_C σ g t) ci
      | .inr ty => mx_cellA D (mx_ext ρ (g, t, mx_C σ g t) H.size) (mx_al σ g t n z) H' (g, t, mx_C σ g t) ty)
    (hH : ∀ q, q < H.size → H'[q]? = H[q]?) : mx_Rep D z0 (mx_ext ρ (g, t, mx_C σ g t) H.size) (mx_al σ g t n z) H' ∧ mx_Ext ρ σ (mx_ext ρ (g, t, mx_C σ g t) H.size) (mx_al σ g t n z) ∧ mx_ok (mx_al σ g t n z) (g, t, mx_C σ g t) := by
  obtain ⟨o1, o2, o3, o4, o5, -, -⟩ := mx_al_o (σ := σ) (t := t) (n := n) (z := z) hg
  have hnew : mx_ok (mx_al σ g t n z) (g, t, mx_C σ g t) := by
    unfold mx_ok
    rw [o4, if_pos ⟨rfl, rfl⟩]
    exact Nat.lt_succ_self _
  have hold : ∀ b, mx_ok σ b → b ≠ (g, t, mx_C σ g t) := fun b hb e => by
    rw [e] at hb
    exact Nat.lt_irrefl _ hb
  have hok : ∀ b, mx_ok (mx_al σ g t n z) b → b = (g, t, mx_C σ g t) ∨ mx_ok σ b := by
    intro b hb
    obtain ⟨g', t', i'⟩ := b
    unfold mx_ok at hb ⊢
    rw [o4] at hb
    by_cases hc : g' = g ∧ t' = t
    · obtain ⟨rfl, rfl⟩ := hc
      rw [if_pos ⟨rfl, rfl⟩] at hb
      simp only at hb ⊢
      by_cases hi : i' = mx_C σ g' t'
      · subst hi
        exact Or.inl rfl
      · exact Or.inr (by omega)
    · rw [if_neg hc] at hb
      exact Or.inr hb
  have hup : ∀ b, mx_ok σ b → mx_ok (mx_al σ g t n z) b := by
    intro b hb
    obtain ⟨g', t', i'⟩ := b
    unfold mx_ok at hb ⊢
    rw [o4]
    simp only at hb ⊢
    split
    · rename_i hc
      obtain ⟨rfl, rfl⟩ := hc
      omega
    · exact hb
  have hE : mx_Ext ρ σ (mx_ext ρ (g, t, mx_C σ g t) H.size) (mx_al σ g t n z) := fun b hb => ⟨hup b hb, by unfold mx_ext; rw [if_neg (hold b hb)]⟩
  refine ⟨⟨fun b hb => ?_, fun b c hb hc hbc => ?_, fun b k c hb hr => ?_, fun b hb hb2 => ?_⟩, hE, hnew⟩
  · rcases hok b hb with rfl | hb0
    · exact ⟨fun q => absurd q (by show ¬ 2 ≤ g; omega), fun _ => hcell⟩
    · have hne := hold b hb0
      exact (h.1 b hb0).same (hE b hb0).2 (hH _ (h.lt hb0)) (fun k => by rw [o1, if_neg hne]) (fun k => by rw [o2, if_neg hne]) (fun k => by rw [o3, if_neg hne]) (by rw [o5, if_neg hne]) (fun k c hc => (hE c (h.2.2.1 b k c hb0 hc)).2)
  · rcases hok b hb with rfl | hb0 <;> rcases hok c hc with rfl | hc0
    · rfl
    · rw [(hE c hc0).2] at hbc
      simp only [mx_ext, if_true] at hbc
      have := h.lt hc0
      omega
    · rw [(hE b hb0).2] at hbc
      simp only [mx_ext, if_true] at hbc
      have := h.lt hb0
      omega
    · rw [(hE b hb0).2, (hE c hc0).2] at hbc
      exact h.2.1 b c hb0 hc0 hbc
  · rcases hok b hb with rfl | hb0
    · rw [o3, if_pos rfl] at hr
      cases hr
    · rw [o3, if_neg (hold b hb0)] at hr
      exact hup c (h.2.2.1 b k c hb0 hr)
  · rcases hok b hb with rfl | hb0
    · simp only [mx_ext, if_true]
      exact hz
    · rw [(hE b hb0).2]
      exact h.2.2.2 b hb0 hb2
/-! locals -/
def mx_Lr (ρ : mx_Ad → Nat) (L : mx_L) (ls : Array Slot) (nL : Nat) : Prop := ls.size = nL ∧ lv_wf ls ∧ ∀ (i : Nat) (v : mx_V), L[i]? = some (some v) → mx_hb L i v = true → ls[i]? = some (.val (mx_tv ρ v))
def mx_lv (ρ : mx_Ad → Nat) (L : mx_L) : List (Nat × Value) := (List.range L.length).filterMap (fun i => match L[i]? with
  | some (some v) => bif mx_hb L i v then some (i, mx_tv ρ v) else none
  | _ => none)
theorem mx_lv_mem {ρ : mx_Ad → Nat} {L : mx_L} {q : Nat × Value} : q ∈ mx_lv ρ L ↔ ∃ v, L[q.1]? = some (some v) ∧ mx_hb L q.1 v = true ∧ q.2 = mx_tv ρ v := by
  unfold mx_lv
  rw [List.mem_filterMap]
  constructor
  · rintro ⟨i, -, hi⟩
    split at hi
    · rename_i v hv
      cases hb : mx_hb L i v with
      | false => rw [hb] at hi; cases hi
      | true =>
        rw [hb] at hi
        cases hi
        exact ⟨v, hv, hb, rfl⟩
    · cases hi
  · rintro ⟨v, h1, hb, h2⟩
    refine ⟨q.1, List.mem_range.mpr (List.getElem?_eq_some_iff.mp h1).1, ?_⟩
    rw [h1]
    obtain ⟨q1, q2⟩ := q
    simp only at h2 hb ⊢
    rw [h2, hb]
    rfl
theorem mx_Lr.has {ρ : mx_Ad → Nat} {L : mx_L} {ls : Array Slot} {nL : Nat} (h : mx_Lr ρ L ls nL) : lv_has ls nL (mx_lv ρ L) := ⟨h.1, h.2.1, fun q hq => by
  obtain ⟨v, h1, hb, h2⟩ := mx_lv_mem.mp hq
  rw [h2]
  exact h.2.2 q.1 v h1 hb⟩
theorem mx_tv_cat (ρ : mx_Ad → Nat) (v : mx_V) : (mx_tv ρ v).category = mx_w v := by
  match v with
  | .inl x => rfl
  | .inr (.inl x) => rfl
  | .inr (.inr none) => rfl
  | .inr (.inr (some a)) => rfl
theorem mx_hb_1 {L : mx_L} {i : Nat} {v : mx_V} (h : ¬ mx_w v = 2) : mx_hb L i v = true := by
  match v, h with
  | .inl x, _ => rfl
  | .inr (.inr x), _ => rfl
  | .inr (.inl x), h => exact absurd rfl h
theorem mx_hb_2 {L : mx_L} {i : Nat} {v : mx_V} (h : mx_w v = 2) (hb : mx_hb L i v = true) : L[i + 1]? = some none := by
  match v, h, hb with
  | .inr (.inl x), _, hb =>
    have hb : (match L[i + 1]? with | some none => true | _ => false) = true := hb
    split at hb
    · assumption
    · cases hb
  | .inl x, h, _ => exact absurd (show (1 : Nat) = 2 from h) (by decide)
  | .inr (.inr x), h, _ => exact absurd (show (1 : Nat) = 2 from h) (by decide)
theorem mx_hb_of {L : mx_L} {i : Nat} {v : mx_V} (h : L[i + 1]? = some none) : mx_hb L i v = true := by
  match v with
  | .inr (.inl x) => unfold mx_hb; rw [h]
  | .inl x => rfl
  | .inr (.inr x) => rfl
theorem mx_put1_get {L : mx_L} {i j : Nat} {v w : mx_V} (h : (mx_put1 L i v)[j]? = some (some w)) : (j = i ∧ w = v) ∨ (j ≠ i ∧ L[j]? = some (some w)) := by
  simp only [mx_put1, List.getElem?_set] at h
  by_cases e : i = j
  · rw [if_pos e] at h
    split at h
    · simp at h
      exact Or.inl ⟨e.symm, h.symm⟩
    · simp at h
  · rw [if_neg e] at h
    exact Or.inr ⟨fun q => e q.symm, h⟩
theorem mx_put1_hb {L : mx_L} {i j : Nat} {v w : mx_V} (h : mx_hb (mx_put1 L i v) j w = true) : mx_hb L j w = true ∧ ¬ (j + 1 = i ∧ mx_w w = 2) := by
  by_cases hw : mx_w w = 2
  · have h2 := mx_hb_2 hw h
    simp only [mx_put1, List.getElem?_set] at h2
    by_cases e : i = j + 1
    · rw [if_pos e] at h2
      split at h2 <;> simp at h2
    · rw [if_neg e] at h2
      exact ⟨mx_hb_of h2, fun q => e q.1.symm⟩
  · exact ⟨mx_hb_1 hw, fun q => hw q.2⟩
theorem mx_put2_get {L : mx_L} {i j : Nat} {v w : mx_V} (h : (mx_put2 L i v)[j]? = some (some w)) : (j = i ∧ w = v) ∨ (j ≠ i ∧ j ≠ i + 1 ∧ L[j]? = some (some w)) := by
  simp only [mx_put2] at h
  rw [List.getElem?_set] at h
  by_cases e : i + 1 = j
  · rw [if_pos e] at h
    split at h <;> simp at h
  · rw [if_neg e, List.getElem?_set] at h
    by_cases e2 : i = j
    · rw [if_pos e2] at h
      split at h
      · simp at h
        exact Or.inl ⟨e2.symm, h.symm⟩
      · simp at h
    · rw [if_neg e2] at h
      exact Or.inr ⟨fun q => e2 q.symm, fun q => e q.symm, h⟩
theorem mx_put2_hb {L : mx_L} {i j : Nat} {v w : mx_V} (hj : j ≠ i) (h : mx_hb (mx_put2 L i v) j w = true) : mx_hb L j w = true ∧ ¬ (j + 1 = i ∧ mx_w w = 2) := by
  by_cases hw : mx_w w = 2
  · have h2 := mx_hb_2 hw h
    simp only [mx_put2] at h2
    rw [List.getElem?_set, if_neg (by omega), List.getElem?_set] at h2
    by_cases e : i = j + 1
    · rw [if_pos e] at h2
      split at h2 <;> simp at h2
    · rw [if_neg e] at h2
      exact ⟨mx_hb_of h2, fun q => e q.1.symm⟩
  · exact ⟨mx_hb_1 hw, fun q => hw q.2⟩
theorem mx_Lr.put1 {ρ : mx_Ad → Nat} {L : mx_L} {ls' : Array Slot} {nL i : Nat} {v : mx_V} (h : lv_has ls' nL ((i, mx_tv ρ v) :: (mx_lv ρ L).filter (fun q => !(q.1 == i) && !(q.1 + 1 == i && q.2.category == 2)))) : mx_Lr ρ (mx_put1 L i v) ls' nL := by
  refine ⟨h.1, h.2.1, fun j w hj hb => ?_⟩
  rcases mx_put1_get hj with ⟨rfl, rfl⟩ | ⟨h1, h2⟩
  · exact h.2.2 (j, mx_tv ρ w) List.mem_cons_self
  · obtain ⟨hb2, h3⟩ := mx_put1_hb hb
    refine h.2.2 (j, mx_tv ρ w) (List.mem_cons_of_mem _ (List.mem_filter.mpr ⟨mx_lv_mem.mpr ⟨w, h2, hb2, rfl⟩, ?_⟩))
    simp only [mx_tv_cat, Bool.and_eq_true, Bool.not_eq_true', beq_eq_false_iff_ne, ne_eq, Bool.and_eq_false_iff]
    exact ⟨h1, by by_cases q : j + 1 = i <;> simp_all⟩
theorem mx_Lr.put2 {ρ : mx_Ad → Nat} {L : mx_L} {ls' : Array Slot} {nL i : Nat} {v : mx_V} (h : lv_has ls' nL ((i, mx_tv ρ v) :: (mx_lv ρ L).filter (fun q => !(q.1 == i) && (!(q.1 == i + 1) && !(q.1 + 1 == i && q.2.category == 2))))) : mx_Lr ρ (mx_put2 L i v) ls' nL := by
  refine ⟨h.1, h.2.1, fun j w hj hb => ?_⟩
  rcases mx_put2_get hj with ⟨rfl, rfl⟩ | ⟨h1, h0, h2⟩
  · exact h.2.2 (j, mx_tv ρ w) List.mem_cons_self
  · obtain ⟨hb2, h3⟩ := mx_put2_hb h1 hb
    refine h.2.2 (j, mx_tv ρ w) (List.mem_cons_of_mem _ (List.mem_filter.mpr ⟨mx_lv_mem.mpr ⟨w, h2, hb2, rfl⟩, ?_⟩))
    simp only [mx_tv_cat, Bool.and_eq_true, Bool.not_eq_true', beq_eq_false_iff_ne, ne_eq, Bool.and_eq_false_iff]
    exact ⟨h1, h0, by by_cases q : j + 1 = i <;> simp_all⟩
/-- references in the frame are of cells that are there -/
def mx_Fk (σ : mx_Hp) (L : mx_L) (st : List mx_V) : Prop := (∀ v ∈ st, mx_vk σ v) ∧ ∀ (i : Nat) (v : mx_V), L[i]? = some (some v) → mx_vk σ v
theorem mx_Lr.mv {ρ ρ' : mx_Ad → Nat} {σ σ' : mx_Hp} {L : mx_L} {st : List mx_V} {ls : Array Slot} {nL : Nat} (h : mx_Lr ρ L ls nL) (hF : mx_Fk σ L st) (hE : mx_Ext ρ σ ρ' σ') : mx_Lr ρ' L ls nL := ⟨h.1, h.2.1, fun i v hi hb => by
  rw [(hE.tv (hF.2 i v hi)).1]
  exact h.2.2 i v hi hb⟩
theorem mx_Fk.mv {ρ ρ' : mx_Ad → Nat} {σ σ' : mx_Hp} {L : mx_L} {st : List mx_V} (hF : mx_Fk σ L st) (hE : mx_Ext ρ σ ρ' σ') : mx_Fk σ' L st ∧ st.map (mx_tv ρ') = st.map (mx_tv ρ) := ⟨⟨fun v hv => (hE.tv (hF.1 v hv)).2, fun i v hi => (hE.tv (hF.2 i v hi)).2⟩, List.map_congr_left (fun v hv => (hE.tv (hF.1 v hv)).1)⟩
theorem mx_Fk.st {σ : mx_Hp} {L : mx_L} {st st' : List mx_V} (hF : mx_Fk σ L st) (h : ∀ v ∈ st', v ∈ st ∨ mx_vk σ v) : mx_Fk σ L st' := ⟨fun v hv => (h v hv).elim (hF.1 v) id, hF.2⟩
theorem mx_Fk.put1 {σ : mx_Hp} {L : mx_L} {st st' : List mx_V} {i : Nat} {v : mx_V} (hF : mx_Fk σ L st) (hv : mx_vk σ v) (h : ∀ v ∈ st', v ∈ st) : mx_Fk σ (mx_put1 L i v) st' := ⟨fun w hw => hF.1 w (h w hw), fun j w hj => by
  rcases mx_put1_get hj with ⟨-, rfl⟩ | ⟨-, h2⟩
  · exact hv
  · exact hF.2 j w h2⟩
theorem mx_Fk.put2 {σ : mx_Hp} {L : mx_L} {st st' : List mx_V} {i : Nat} {v : mx_V} (hF : mx_Fk σ L st) (hv : mx_vk σ v) (h : ∀ v ∈ st', v ∈ st) : mx_Fk σ (mx_put2 L i v) st' := ⟨fun w hw => hF.1 w (h w hw), fun j w hj => by
  rcases mx_put2_get hj with ⟨-, rfl⟩ | ⟨-, -, h2⟩
  · exact hv
  · exact hF.2 j w h2⟩
