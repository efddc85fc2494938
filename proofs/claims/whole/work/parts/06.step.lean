/-! one instruction of the abstract machine is one of the real machine -/
def mx_SW (D : mx_D) (s : State) : Prop := va_K (D.1, D.2.1) mx_cls [] s ∧ (∀ ty ∈ mx_aty, ArrOfT s (D.2.2.1 ty) ty ∧ va_RA s (D.2.2.1 ty) ty) ∧ (∀ w ∈ mx_nf, va_Nw (.fieldLinkNest w.1 w.2.1 w.2.2.1 w.2.2.2.1 w.2.2.2.2.1 w.2.2.2.2.2) s) ∧ (∀ w ∈ mx_nm, va_Nw (.methodLinkNest w.1 w.2.1 w.2.2.1 w.2.2.2) s) ∧ (∀ C ∈ mx_ao, va_AO C s) ∧ s.isArrayOf D.2.2.2 .int
theorem mx_SW.warm {D : mx_D} {s U : State} (hW : s.WarmedH U.vm) (h : mx_SW D s) : mx_SW D U := ⟨va_K.moved hW.alike h.1, fun ty ht => ⟨arrOfT_moved hW.alike (h.2.1 ty ht).1, (h.2.1 ty ht).2.moved hW.alike⟩, fun w hw => va_Nw.warmF hW (h.2.2.1 w hw), fun w hw => va_Nw.warmM hW (h.2.2.2.1 w hw), fun C hC => (h.2.2.2.2.1 C hC).moved hW.alike, State.isArrayOf_alike hW.alike h.2.2.2.2.2⟩
theorem mx_SW.calling {D : mx_D} {U : State} (g : JFrame) (mk : MethodId) (a : Array Value) (h : mx_SW D U) : mx_SW D (U.calling g mk a) := ⟨va_K.moved (u := U) (U := U.calling g mk a) (Vm.Alike.refl U.vm) h.1, fun ty ht => ⟨arrOfT_moved (u := U) (E := U.calling g mk a) (Vm.Alike.refl U.vm) (h.2.1 ty ht).1, va_RA.moved (u := U) (U := U.calling g mk a) (Vm.Alike.refl U.vm) (h.2.1 ty ht).2⟩, fun w hw => va_Nw.same rfl rfl (h.2.2.1 w hw), fun w hw => va_Nw.same rfl rfl (h.2.2.2.1 w hw), fun C hC => va_AO.moved (u := U) (U := U.calling g mk a) (Vm.Alike.refl U.vm) (h.2.2.2.2.1 C hC), State.isArrayOf_alike (s := U) (T := U.calling g mk a) (Vm.Alike.refl U.vm) h.2.2.2.2.2⟩
def mx_Cx (p : Program) (s : State) (m : MethodId) (args : Array Value) (meth : Method) (c : Code) (R : Room) (D : mx_D) (mid d : Nat) : Prop :=
  p.tables.exec = Jvm.exec ∧ c.code = mx_mb mid ∧ c.maxLocals = mx_mL mid ∧ s.vm.findClass (mx_own (mx_mc mid)) = some m.cls ∧ (∀ w ∈ mx_GT, w.before args s = true) ∧ mx_SW D s ∧ (mx_mi mid = true → meth.name = "<init>") ∧ d + 1 ≤ R.frames ∧ (d + 1) * 64 ≤ R.locals
def mx_At (D : mx_D) (z0 K0 Z0 nL : Nat) (ρ : mx_Ad → Nat) (σ : mx_Hp) (L : mx_L) (st : List mx_V) (H : Heap) (locs : List Loc) (cells slots : Nat) (ls : Array Slot) : Prop :=
  mx_Rep D z0 ρ σ H ∧ mx_Lr ρ L ls nL ∧ mx_Fk σ L st ∧ (∀ q ∈ locs, z0 ≤ q.base) ∧ cells + K0 = mx_K σ ∧ slots + Z0 = mx_Z σ ∧ z0 ≤ H.size
/-! inversions -/
theorem mx_ildc_i {L : mx_L} {i q : Nat} {st : List mx_V} {σ : mx_Hp} {o : mx_Rs} (h : mx_ildc L i q st σ = some o) : ∃ x, L[i]? = some (some (.inl x)) ∧ o = .inl (q, L, .inl x :: st, σ) := by
  unfold mx_ildc at h
  split at h
  · cases h
    exact ⟨_, by assumption, rfl⟩
  · cases h
theorem mx_lldc_i {L : mx_L} {i q : Nat} {st : List mx_V} {σ : mx_Hp} {o : mx_Rs} (h : mx_lldc L i q st σ = some o) : ∃ x, L[i]? = some (some (.inr (.inl x))) ∧ mx_hb L i (.inr (.inl x)) = true ∧ o = .inl (q, L, .inr (.inl x) :: st, σ) := by
  unfold mx_lldc at h
  split at h
  · cases hb : mx_hb L i (.inr (.inl (by assumption))) with
    | false =>
      rw [hb] at h
      cases h
    | true =>
      rw [hb] at h
      cases h
      exact ⟨_, by assumption, hb, rfl⟩
  · cases h
theorem mx_aldc_i {L : mx_L} {i q : Nat} {st : List mx_V} {σ : mx_Hp} {o : mx_Rs} (h : mx_aldc L i q st σ = some o) : ∃ x, L[i]? = some (some (.inr (.inr x))) ∧ o = .inl (q, L, .inr (.inr x) :: st, σ) := by
  unfold mx_aldc at h
  split at h
  · cases h
    exact ⟨_, by assumption, rfl⟩
  · cases h
theorem mx_bif {α : Type} {b : Bool} {x y : Option α} {o : α} (h : (bif b then x else y) = some o) (hy : y = none) : b = true ∧ x = some o := by
  cases b
  · rw [hy] at h
    cases h
  · exact ⟨rfl, h⟩
theorem mx_istc_i {nL : Nat} {L : mx_L} {i q : Nat} {st : List mx_V} {σ : mx_Hp} {o : mx_Rs} (h : mx_istc nL L i q st σ = some o) : ∃ x r, st = .inl x :: r ∧ i < nL ∧ o = .inl (q, mx_put1 L i (.inl x), r, σ) := by
  unfold mx_istc at h
  split at h
  · obtain ⟨h1, h2⟩ := mx_bif h rfl
    cases h2
    exact ⟨_, _, rfl, by simpa [Nat.blt_eq] using h1, rfl⟩
  · cases h
theorem mx_lstc_i {nL : Nat} {L : mx_L} {i q : Nat} {st : List mx_V} {σ : mx_Hp} {o : mx_Rs} (h : mx_lstc nL L i q st σ = some o) : ∃ x r, st = .inr (.inl x) :: r ∧ i + 1 < nL ∧ o = .inl (q, mx_put2 L i (.inr (.inl x)), r, σ) := by
  unfold mx_lstc at h
  split at h
  · obtain ⟨h1, h2⟩ := mx_bif h rfl
    cases h2
    exact ⟨_, _, rfl, by simpa [Nat.blt_eq] using h1, rfl⟩
  · cases h
theorem mx_astc_i {nL : Nat} {L : mx_L} {i q : Nat} {st : List mx_V} {σ : mx_Hp} {o : mx_Rs} (h : mx_astc nL L i q st σ = some o) : ∃ x r, st = .inr (.inr x) :: r ∧ i < nL ∧ o = .inl (q, mx_put1 L i (.inr (.inr x)), r, σ) := by
  unfold mx_astc at h
  split at h
  · obtain ⟨h1, h2⟩ := mx_bif h rfl
    cases h2
    exact ⟨_, _, rfl, by simpa [Nat.blt_eq] using h1, rfl⟩
  · cases h
theorem mx_b2_i {f : Int32 → Int32 → Int32} {q : Nat} {L : mx_L} {st : List mx_V} {σ : mx_Hp} {o : mx_Rs} (h : mx_b2 f q L st σ = some o) : ∃ x y r, st = .inl y :: .inl x :: r ∧ o = .inl (q, L, .inl (f x y) :: r, σ) := by
  unfold mx_b2 at h
  split at h
  · cases h
    exact ⟨_, _, _, rfl, rfl⟩
  · cases h
theorem mx_d2_i {f : Int32 → Int32 → Int32} {q : Nat} {L : mx_L} {st : List mx_V} {σ : mx_Hp} {o : mx_Rs} (h : mx_d2 f q L st σ = some o) : ∃ x y r, st = .inl y :: .inl x :: r ∧ ¬ y = 0 ∧ o = .inl (q, L, .inl (f x y) :: r, σ) := by
  unfold mx_d2 at h
  split at h
  · split at h
    · cases h
    · cases h
      exact ⟨_, _, _, rfl, by assumption, rfl⟩
  · cases h
theorem mx_m2_i {f : Int64 → Int64 → Int64} {q : Nat} {L : mx_L} {st : List mx_V} {σ : mx_Hp} {o : mx_Rs} (h : mx_m2 f q L st σ = some o) : ∃ x y r, st = .inr (.inl y) :: .inr (.inl x) :: r ∧ o = .inl (q, L, .inr (.inl (f x y)) :: r, σ) := by
  unfold mx_m2 at h
  split at h
  · cases h
    exact ⟨_, _, _, rfl, rfl⟩
  · cases h
theorem mx_s2_i {f : Int64 → Int32 → Int64} {q : Nat} {L : mx_L} {st : List mx_V} {σ : mx_Hp} {o : mx_Rs} (h : mx_s2 f q L st σ = some o) : ∃ x y r, st = .inl y :: .inr (.inl x) :: r ∧ o = .inl (q, L, .inr (.inl (f x y)) :: r, σ) := by
  unfold mx_s2 at h
  split at h
  · cases h
    exact ⟨_, _, _, rfl, rfl⟩
  · cases h
theorem mx_b1_i {f : Int32 → mx_V} {q : Nat} {L : mx_L} {st : List mx_V} {σ : mx_Hp} {o : mx_Rs} (h : mx_b1 f q L st σ = some o) : ∃ x r, st = .inl x :: r ∧ o = .inl (q, L, f x :: r, σ) := by
  unfold mx_b1 at h
  split at h
  · cases h
    exact ⟨_, _, rfl, rfl⟩
  · cases h
theorem mx_m1_i {f : Int64 → mx_V} {q : Nat} {L : mx_L} {st : List mx_V} {σ : mx_Hp} {o : mx_Rs} (h : mx_m1 f q L st σ = some o) : ∃ x r, st = .inr (.inl x) :: r ∧ o = .inl (q, L, f x :: r, σ) := by
  unfold mx_m1 at h
  split at h
  · cases h
    exact ⟨_, _, rfl, rfl⟩
  · cases h
theorem mx_to_i {pc q : Nat} {off : Int} (h : mx_to pc off = some q) : (pc : Int) + off = (q : Int) := by
  unfold mx_to at h
  split at h
  · rename_i q' hq
    cases h
    exact hq
  · cases h
theorem mx_br_i {b : Bool} {pc : Nat} {off : Int} {L : mx_L} {st : List mx_V} {σ : mx_Hp} {o : mx_Rs} (h : mx_br b pc off L st σ = some o) : ∃ q : Nat, (pc : Int) + off = (q : Int) ∧ o = .inl (bif b then q else pc + 3, L, st, σ) := by
  unfold mx_br at h
  split at h
  · cases h
    exact ⟨_, mx_to_i (by assumption), rfl⟩
  · cases h
theorem mx_sw_i {w : Option Int} {pc : Nat} {L : mx_L} {r : List mx_V} {σ : mx_Hp} {o : mx_Rs} (h : mx_sw w pc L r σ = some o) : ∃ (off : Int) (q : Nat), w = some off ∧ (pc : Int) + off = (q : Int) ∧ o = .inl (q, L, r, σ) := by
  unfold mx_sw at h
  split at h
  · split at h
    · cases h
      exact ⟨_, _, rfl, mx_to_i (by assumption), rfl⟩
    · cases h
  · cases h
theorem mx_at_i {σ : mx_Hp} {a : mx_Ad} {i : Int32} (h : mx_at σ a i = true) : ¬ (i < 0 ∨ mx_N σ a ≤ i.toNatClampNeg) := by
  unfold mx_at at h
  simpa using h
theorem mx_ald_i {ty : FieldType → Bool} {q : Nat} {L : mx_L} {st : List mx_V} {σ : mx_Hp} {o : mx_Rs} (h : mx_ald ty q L st σ = some o) : ∃ i a r t, st = .inl i :: .inr (.inr (some a)) :: r ∧ mx_knd a.2.1 = .inr t ∧ ty t = true ∧ ¬ (i < 0 ∨ mx_N σ a ≤ i.toNatClampNeg) ∧ o = .inl (q, L, mx_rd σ a t i.toNatClampNeg :: r, σ) := by
  unfold mx_ald at h
  split at h
  · split at h
    · obtain ⟨h1, h2⟩ := mx_bif h rfl
      cases h2
      rw [Bool.and_eq_true] at h1
      exact ⟨_, _, _, _, rfl, by assumption, h1.1, mx_at_i h1.2, rfl⟩
    · cases h
  · cases h
theorem mx_iast_i {q : Nat} {L : mx_L} {st : List mx_V} {σ : mx_Hp} {o : mx_Rs} (h : mx_iast q L st σ = some o) : ∃ x i a r, st = .inl x :: .inl i :: .inr (.inr (some a)) :: r ∧ mx_knd a.2.1 = .inr .int ∧ a.1 < 2 ∧ ¬ (i < 0 ∨ mx_N σ a ≤ i.toNatClampNeg) ∧ o = .inl (q, L, r, mx_sI σ a i.toNatClampNeg x) := by
  unfold mx_iast at h
  split at h
  · split at h
    · obtain ⟨h1, h2⟩ := mx_bif h rfl
      cases h2
      rw [Bool.and_eq_true] at h1
      exact ⟨_, _, _, _, rfl, by assumption, by simpa [Nat.blt_eq] using h1.1, mx_at_i h1.2, rfl⟩
    · cases h
  · cases h
theorem mx_bast_i {q : Nat} {L : mx_L} {st : List mx_V} {σ : mx_Hp} {o : mx_Rs} (h : mx_bast q L st σ = some o) : ∃ x i a r ty, st = .inl x :: .inl i :: .inr (.inr (some a)) :: r ∧ mx_knd a.2.1 = .inr ty ∧ (ty = .byte ∨ ty = .boolean) ∧ a.1 < 2 ∧ ¬ (i < 0 ∨ mx_N σ a ≤ i.toNatClampNeg) ∧ o = .inl (q, L, r, mx_sI σ a i.toNatClampNeg (vp_nar ty x)) := by
  unfold mx_bast at h
  split at h
  · split at h
    · obtain ⟨h1, h2⟩ := mx_bif h rfl
      cases h2
      rw [Bool.and_eq_true] at h1
      exact ⟨_, _, _, _, _, rfl, by assumption, Or.inl rfl, by simpa [Nat.blt_eq] using h1.1, mx_at_i h1.2, rfl⟩
    · obtain ⟨h1, h2⟩ := mx_bif h rfl
      cases h2
      rw [Bool.and_eq_true] at h1
      exact ⟨_, _, _, _, _, rfl, by assumption, Or.inr rfl, by simpa [Nat.blt_eq] using h1.1, mx_at_i h1.2, rfl⟩
    · cases h
  · cases h
theorem mx_last_i {q : Nat} {L : mx_L} {st : List mx_V} {σ : mx_Hp} {o : mx_Rs} (h : mx_last q L st σ = some o) : ∃ x i a r, st = .inr (.inl x) :: .inl i :: .inr (.inr (some a)) :: r ∧ mx_knd a.2.1 = .inr .long ∧ a.1 < 2 ∧ ¬ (i < 0 ∨ mx_N σ a ≤ i.toNatClampNeg) ∧ o = .inl (q, L, r, mx_sJ σ a i.toNatClampNeg x) := by
  unfold mx_last at h
  split at h
  · split at h
    · obtain ⟨h1, h2⟩ := mx_bif h rfl
      cases h2
      rw [Bool.and_eq_true] at h1
      exact ⟨_, _, _, _, rfl, by assumption, by simpa [Nat.blt_eq] using h1.1, mx_at_i h1.2, rfl⟩
    · cases h
  · cases h
theorem mx_aast_i {q : Nat} {L : mx_L} {st : List mx_V} {σ : mx_Hp} {o : mx_Rs} (h : mx_aast q L st σ = some o) : ∃ b i a r C ci, st = .inr (.inr (some b)) :: .inl i :: .inr (.inr (some a)) :: r ∧ mx_knd a.2.1 = .inr (.object C) ∧ mx_knd b.2.1 = .inl ci ∧ a.1 < 2 ∧ b.1 < 2 ∧ ¬ (i < 0 ∨ mx_N σ a ≤ i.toNatClampNeg) ∧ (mx_cls[ci]?).map (fun q => q.1) = some C ∧ o = .inl (q, L, r, mx_sR σ a i.toNatClampNeg (some b)) := by
  unfold mx_aast at h
  split at h
  · split at h
    · obtain ⟨h1, h2⟩ := mx_bif h rfl
      cases h2
      simp only [Bool.and_eq_true, decide_eq_true_eq, Nat.blt_eq] at h1
      exact ⟨_, _, _, _, _, _, rfl, by assumption, by assumption, h1.1.1.1, h1.1.1.2, mx_at_i h1.1.2, h1.2, rfl⟩
    · cases h
  · cases h
theorem mx_len_i {q : Nat} {L : mx_L} {st : List mx_V} {σ : mx_Hp} {o : mx_Rs} (h : mx_len q L st σ = some o) : ∃ a r t, st = .inr (.inr (some a)) :: r ∧ mx_knd a.2.1 = .inr t ∧ o = .inl (q, L, mx_i (Int32.ofNat (mx_N σ a)) :: r, σ) := by
  unfold mx_len at h
  split at h
  · split at h
    · cases h
      exact ⟨_, _, _, rfl, by assumption, rfl⟩
    · cases h
  · cases h
theorem mx_get_i {mid idx q : Nat} {L : mx_L} {st : List mx_V} {σ : mx_Hp} {o : mx_Rs} (h : mx_get mid idx q L st σ = some o) : ∃ ci k nst g i r, mx_fld (mx_mc mid) idx = some (ci, k, nst) ∧ st = .inr (.inr (some (g, ci, i))) :: r ∧ g < 2 ∧ o = .inl (q, L, mx_rd σ (g, ci, i) (mx_fty ci k) k :: r, σ) := by
  unfold mx_get at h
  split at h
  · obtain ⟨h1, h2⟩ := mx_bif h rfl
    cases h2
    simp only [Bool.and_eq_true, Nat.blt_eq, Nat.beq_eq] at h1
    obtain ⟨rfl, h1⟩ := h1
    exact ⟨_, _, _, _, _, _, by assumption, rfl, h1, rfl⟩
  · cases h
theorem mx_pt_i {mid idx q : Nat} {L : mx_L} {st : List mx_V} {σ : mx_Hp} {o : mx_Rs} (h : mx_pt mid idx q L st σ = some o) : ∃ ci k nst g i r v σ', mx_fld (mx_mc mid) idx = some (ci, k, nst) ∧ st = v :: .inr (.inr (some (g, ci, i))) :: r ∧ g < 2 ∧ (mx_fin ci k = false ∨ (mx_mi mid = true ∧ mx_mc mid = ci ∧ nst = false)) ∧ mx_wr σ (g, ci, i) (mx_fty ci k) k v = some σ' ∧ o = .inl (q, L, r, σ') := by
  unfold mx_pt at h
  split at h
  · obtain ⟨h1, h2⟩ := mx_bif h rfl
    simp only [Bool.and_eq_true, Nat.blt_eq, Nat.beq_eq, Bool.or_eq_true, Bool.not_eq_true'] at h1
    obtain ⟨⟨rfl, h1⟩, h3⟩ := h1
    split at h2
    · cases h2
      refine ⟨_, _, _, _, _, _, _, _, by assumption, rfl, h1, ?_, by assumption, rfl⟩
      rcases h3 with h3 | ⟨⟨h3, h4⟩, h5⟩
      · exact Or.inl h3
      · exact Or.inr ⟨h3, h4, h5⟩
    · cases h2
  · cases h
theorem mx_nw_i {mid idx q : Nat} {L : mx_L} {st : List mx_V} {σ : mx_Hp} {o : mx_Rs} (h : mx_nw mid idx q L st σ = some o) : ∃ ci, mx_new (mx_mc mid) idx = some ci ∧ mx_crg ci < 2 ∧ o = .inl (q, L, mx_r (some (mx_crg ci, ci, mx_C σ (mx_crg ci) ci)) :: st, mx_al σ (mx_crg ci) ci 0 (mx_fn ci)) := by
  unfold mx_nw at h
  split at h
  · obtain ⟨h1, h2⟩ := mx_bif h rfl
    cases h2
    exact ⟨_, by assumption, by simpa [Nat.blt_eq] using h1, rfl⟩
  · cases h
theorem mx_na_i {mid pc : Nat} {ty : FieldType} {q : Nat} {L : mx_L} {st : List mx_V} {σ : mx_Hp} {o : mx_Rs} (h : mx_na mid pc ty q L st σ = some o) : ∃ g t n r, st = .inl n :: r ∧ g < 2 ∧ mx_knd t = .inr ty ∧ ¬ n < 0 ∧ n.toNatClampNeg ≤ 65536 ∧ o = .inl (q, L, mx_r (some (g, t, mx_C σ g t)) :: r, mx_al σ g t n.toNatClampNeg n.toNatClampNeg) := by
  unfold mx_na at h
  split at h
  · obtain ⟨h1, h2⟩ := mx_bif h rfl
    cases h2
    simp only [Bool.and_eq_true, Nat.blt_eq, decide_eq_true_eq, Bool.not_eq_true', decide_eq_false_iff_not, Nat.ble_eq] at h1
    exact ⟨_, _, _, _, rfl, h1.1.1.1, h1.1.1.2, h1.1.2, h1.2, rfl⟩
  · cases h
theorem mx_dup_i {q : Nat} {L : mx_L} {st : List mx_V} {σ : mx_Hp} {o : mx_Rs} (h : mx_dup q L st σ = some o) : ∃ v r, st = v :: r ∧ mx_w v = 1 ∧ o = .inl (q, L, v :: v :: r, σ) := by
  unfold mx_dup at h
  split at h
  · cases h
    exact ⟨_, _, rfl, rfl, rfl⟩
  · cases h
    exact ⟨_, _, rfl, rfl, rfl⟩
  · cases h
theorem mx_popc_i {q : Nat} {L : mx_L} {st : List mx_V} {σ : mx_Hp} {o : mx_Rs} (h : mx_popc q L st σ = some o) : ∃ v r, st = v :: r ∧ mx_w v = 1 ∧ o = .inl (q, L, r, σ) := by
  unfold mx_popc at h
  split at h
  · cases h
    exact ⟨_, _, rfl, rfl, rfl⟩
  · cases h
    exact ⟨_, _, rfl, rfl, rfl⟩
  · cases h
theorem mx_ldcc_i {w : Option Int32} {q : Nat} {L : mx_L} {st : List mx_V} {σ : mx_Hp} {o : mx_Rs} (h : mx_ldcc w q L st σ = some o) : ∃ v, w = some v ∧ o = .inl (q, L, mx_i v :: st, σ) := by
  unfold mx_ldcc at h
  split at h
  · cases h
    exact ⟨_, rfl, rfl⟩
  · cases h
theorem mx_ldlc_i {w : Option Int64} {q : Nat} {L : mx_L} {st : List mx_V} {σ : mx_Hp} {o : mx_Rs} (h : mx_ldlc w q L st σ = some o) : ∃ v, w = some v ∧ o = .inl (q, L, mx_l v :: st, σ) := by
  unfold mx_ldlc at h
  split at h
  · cases h
    exact ⟨_, rfl, rfl⟩
  · cases h
theorem mx_iincc_i {nL : Nat} {L : mx_L} {k : Nat} {n : Int} {q : Nat} {st : List mx_V} {σ : mx_Hp} {o : mx_Rs} (h : mx_iincc nL L k n q st σ = some o) : ∃ x, L[k]? = some (some (.inl x)) ∧ k < nL ∧ o = .inl (q, mx_put1 L k (.inl (x + Int32.ofInt n)), st, σ) := by
  unfold mx_iincc at h
  split at h
  · obtain ⟨h1, h2⟩ := mx_bif h rfl
    cases h2
    exact ⟨_, by assumption, by simpa [Nat.blt_eq] using h1, rfl⟩
  · cases h
theorem mx_lcmpc_i {q : Nat} {L : mx_L} {st : List mx_V} {σ : mx_Hp} {o : mx_Rs} (h : mx_lcmpc q L st σ = some o) : ∃ x y r, st = .inr (.inl y) :: .inr (.inl x) :: r ∧ o = .inl (q, L, mx_i (lg_cmp x y) :: r, σ) := by
  unfold mx_lcmpc at h
  split at h
  · cases h
    exact ⟨_, _, _, rfl, rfl⟩
  · cases h
theorem mx_ifcc_i {cd : Jvm.ClassFile.Cond} {pc : Nat} {off : Int} {L : mx_L} {st : List mx_V} {σ : mx_Hp} {o : mx_Rs} (h : mx_ifcc cd pc off L st σ = some o) : ∃ x r, ∃ q : Nat, st = .inl x :: r ∧ (pc : Int) + off = (q : Int) ∧ o = .inl (bif mx_cd cd x 0 then q else pc + 3, L, r, σ) := by
  unfold mx_ifcc at h
  split at h
  · obtain ⟨q, h1, h2⟩ := mx_br_i h
    exact ⟨_, _, q, rfl, h1, h2⟩
  · cases h
theorem mx_icmc_i {cd : Jvm.ClassFile.Cond} {pc : Nat} {off : Int} {L : mx_L} {st : List mx_V} {σ : mx_Hp} {o : mx_Rs} (h : mx_icmc cd pc off L st σ = some o) : ∃ x y r, ∃ q : Nat, st = .inl y :: .inl x :: r ∧ (pc : Int) + off = (q : Int) ∧ o = .inl (bif mx_cd cd x y then q else pc + 3, L, r, σ) := by
  unfold mx_icmc at h
  split at h
  · obtain ⟨q, h1, h2⟩ := mx_br_i h
    exact ⟨_, _, _, q, rfl, h1, h2⟩
  · cases h
theorem mx_tswc_i {dflt lo hi : Int} {offs : Array Int} {pc : Nat} {L : mx_L} {st : List mx_V} {σ : mx_Hp} {o : mx_Rs} (h : mx_tswc dflt lo hi offs pc L st σ = some o) : ∃ x r, ∃ off : Int, ∃ q : Nat, st = .inl x :: r ∧ mx_tsw dflt lo hi offs x = some off ∧ (pc : Int) + off = (q : Int) ∧ o = .inl (q, L, r, σ) := by
  unfold mx_tswc at h
  split at h
  · obtain ⟨off, q, h1, h2, h3⟩ := mx_sw_i h
    exact ⟨_, _, off, q, rfl, h1, h2, h3⟩
  · cases h
theorem mx_lswc_i {dflt : Int} {ps : Array (Int × Int)} {pc : Nat} {L : mx_L} {st : List mx_V} {σ : mx_Hp} {o : mx_Rs} (h : mx_lswc dflt ps pc L st σ = some o) : ∃ x r, ∃ q : Nat, st = .inl x :: r ∧ (ps.toList.zip (ps.toList.drop 1)).all (fun (a, next) => a.1 < next.1) = true ∧ (pc : Int) + Op.lookupswitch.offset ps.toList dflt x.toInt = (q : Int) ∧ o = .inl (q, L, r, σ) := by
  unfold mx_lswc at h
  split at h
  · obtain ⟨h1, h2⟩ := mx_bif h rfl
    obtain ⟨off, q, h3, h4, h5⟩ := mx_sw_i h2
    cases h3
    exact ⟨_, _, q, rfl, h1, h4, h5⟩
  · cases h
theorem mx_anwc_i {w : Option String} {mid pc q : Nat} {L : mx_L} {st : List mx_V} {σ : mx_Hp} {o : mx_Rs} (h : mx_anwc w mid pc q L st σ = some o) : ∃ C, w = some C ∧ mx_na mid pc (.object C) q L st σ = some o := by
  unfold mx_anwc at h
  split at h
  · exact ⟨_, rfl, h⟩
  · cases h
theorem mx_wd_map (ρ : mx_Ad → Nat) (r : List mx_V) : ((r.map (mx_tv ρ)).map fun v => v.category).sum = mx_wd r := by
  induction r with
  | nil => rfl
  | cons v r ih => simp only [List.map_cons, List.sum_cons, mx_tv_cat, mx_wd, ih]
theorem mx_callS_i {mid idx q : Nat} {st : List mx_V} {o : mx_Rs} (h : mx_callS mid idx q st = some o) : ∃ y nst as r, mx_cal (mx_mc mid) idx = some (y, nst) ∧ mx_ms y = true ∧ mx_pop (mx_mn y) st [] = some (as, r) ∧ mx_wd r ≤ 8 ∧ o = .inr (.inl (y, as, q, r)) := by
  unfold mx_callS at h
  split at h
  · obtain ⟨h1, h2⟩ := mx_bif h rfl
    split at h2
    · obtain ⟨h3, h4⟩ := mx_bif h2 rfl
      cases h4
      exact ⟨_, _, _, _, by assumption, h1, by assumption, by simpa [Nat.ble_eq] using h3, rfl⟩
    · cases h2
  · cases h
theorem mx_callV_i {mid idx q : Nat} {st : List mx_V} {o : mx_Rs} (h : mx_callV mid idx q st = some o) : ∃ y nst as g i r, mx_cal (mx_mc mid) idx = some (y, nst) ∧ mx_ms y = false ∧ mx_mi y = false ∧ mx_pop (mx_mn y) st [] = some (as, .inr (.inr (some (g, mx_mc y, i))) :: r) ∧ g < 2 ∧ mx_wd r ≤ 8 ∧ o = .inr (.inl (y, mx_r (some (g, mx_mc y, i)) :: as, q, r)) := by
  unfold mx_callV at h
  split at h
  · obtain ⟨h1, h2⟩ := mx_bif h rfl
    simp only [Bool.and_eq_true, Bool.not_eq_true'] at h1
    split at h2
    · obtain ⟨h3, h4⟩ := mx_bif h2 rfl
      cases h4
      simp only [Bool.and_eq_true, Nat.beq_eq, Nat.blt_eq, Nat.ble_eq] at h3
      obtain ⟨⟨rfl, h5⟩, h6⟩ := h3
      exact ⟨_, _, _, _, _, _, by assumption, h1.1, h1.2, by assumption, h5, h6, rfl⟩
    · cases h2
  · cases h
theorem mx_callI_i {mid idx q : Nat} {L : mx_L} {st : List mx_V} {σ : mx_Hp} {o : mx_Rs} (h : mx_callI mid idx q L st σ = some o) : (∃ a r, mx_obi (mx_mc mid) idx = true ∧ st = .inr (.inr (some a)) :: r ∧ mx_wd r ≤ 8 ∧ o = .inl (q, L, r, σ)) ∨ ∃ y nst as a r, mx_cal (mx_mc mid) idx = some (y, nst) ∧ mx_ms y = false ∧ mx_mi y = true ∧ mx_pop (mx_mn y) st [] = some (as, .inr (.inr (some a)) :: r) ∧ mx_wd r ≤ 8 ∧ o = .inr (.inl (y, mx_r (some a) :: as, q, r)) := by
  unfold mx_callI at h
  cases hob : mx_obi (mx_mc mid) idx with
  | true =>
    rw [hob] at h
    simp only [cond_true] at h
    split at h
    · obtain ⟨h1, h2⟩ := mx_bif h rfl
      cases h2
      exact Or.inl ⟨_, _, rfl, rfl, by simpa [Nat.ble_eq] using h1, rfl⟩
    · cases h
  | false =>
    rw [hob] at h
    simp only [cond_false] at h
    split at h
    · obtain ⟨h1, h2⟩ := mx_bif h rfl
      simp only [Bool.and_eq_true, Bool.not_eq_true'] at h1
      split at h2
      · obtain ⟨h3, h4⟩ := mx_bif h2 rfl
        cases h4
        exact Or.inr ⟨_, _, _, _, _, by assumption, h1.1, h1.2, by assumption, by simpa [Nat.ble_eq] using h3, rfl⟩
      · cases h2
    · cases h
theorem mx_callI_o {mid idx q : Nat} {L : mx_L} {st : List mx_V} {σ : mx_Hp} {x : mx_St} (h : mx_callI mid idx q L st σ = some (.inl x)) : ∃ a r, mx_obi (mx_mc mid) idx = true ∧ st = .inr (.inr (some a)) :: r ∧ mx_wd r ≤ 8 ∧ x = (q, L, r, σ) := by
  rcases mx_callI_i h with ⟨a, r, h1, h2, h3, h4⟩ | ⟨y, nst, as, a, r, h1, h2, h3, h4, h5, h6⟩
  · exact ⟨a, r, h1, h2, h3, Sum.inl.inj h4⟩
  · cases h6
theorem mx_callS_n {mid idx q : Nat} {st : List mx_V} {x : mx_St} : ¬ mx_callS mid idx q st = some (.inl x) := fun h => by
  obtain ⟨_, _, _, _, _, _, _, _, ho⟩ := mx_callS_i h
  cases ho
theorem mx_callV_n {mid idx q : Nat} {st : List mx_V} {x : mx_St} : ¬ mx_callV mid idx q st = some (.inl x) := fun h => by
  obtain ⟨_, _, _, _, _, _, _, _, _, _, _, _, ho⟩ := mx_callV_i h
  cases ho
theorem mx_ireturn_i {mid : Nat} {st : List mx_V} {o : mx_Rs} (h : mx_ireturn mid st = some o) : ∃ x, st = [.inl x] ∧ (mx_mr mid = some .int ∨ (mx_mr mid = some .boolean ∧ (x = 0 ∨ x = 1))) ∧ o = .inr (.inr (some (.inl x))) := by
  unfold mx_ireturn at h
  split at h
  · cases h
    exact ⟨_, rfl, Or.inl (by assumption), rfl⟩
  · split at h
    · cases h
      exact ⟨_, rfl, Or.inr ⟨by assumption, by assumption⟩, rfl⟩
    · cases h
  · cases h
theorem mx_lreturn_i {mid : Nat} {st : List mx_V} {o : mx_Rs} (h : mx_lreturn mid st = some o) : ∃ x, st = [.inr (.inl x)] ∧ mx_mr mid = some .long ∧ o = .inr (.inr (some (.inr (.inl x)))) := by
  unfold mx_lreturn at h
  split at h
  · cases h
    exact ⟨_, rfl, by assumption, rfl⟩
  · cases h
theorem mx_areturn_i {mid : Nat} {st : List mx_V} {o : mx_Rs} (h : mx_areturn mid st = some o) : ∃ x, st = [.inr (.inr x)] ∧ ((∃ n, mx_mr mid = some (.object n)) ∨ ∃ t, mx_mr mid = some (.array t)) ∧ o = .inr (.inr (some (.inr (.inr x)))) := by
  unfold mx_areturn at h
  split at h
  · cases h
    exact ⟨_, rfl, Or.inl ⟨_, by assumption⟩, rfl⟩
  · cases h
    exact ⟨_, rfl, Or.inr ⟨_, by assumption⟩, rfl⟩
  · cases h
theorem mx_vreturn_i {mid : Nat} {st : List mx_V} {o : mx_Rs} (h : mx_vreturn mid st = some o) : st = [] ∧ mx_mr mid = none ∧ o = .inr (.inr none) := by
  unfold mx_vreturn at h
  split at h
  · cases h
    exact ⟨rfl, by assumption, rfl⟩
  · cases h
theorem mx_ret_n {mid : Nat} {st : List mx_V} {x : mx_St} : (¬ mx_ireturn mid st = some (.inl x)) ∧ (¬ mx_lreturn mid st = some (.inl x)) ∧ (¬ mx_areturn mid st = some (.inl x)) ∧ ¬ mx_vreturn mid st = some (.inl x) := by
  refine ⟨fun h => ?_, fun h => ?_, fun h => ?_, fun h => ?_⟩
  · obtain ⟨_, _, _, ho⟩ := mx_ireturn_i h
    cases ho
  · obtain ⟨_, _, _, ho⟩ := mx_lreturn_i h
    cases ho
  · obtain ⟨_, _, _, ho⟩ := mx_areturn_i h
    cases ho
  · obtain ⟨_, _, ho⟩ := mx_vreturn_i h
    cases ho
theorem mx_c1_w {v : mx_V} (h : mx_c1 v = true) : mx_w v = 1 := by
  match v, h with
  | .inl x, _ => rfl
  | .inr (.inr x), _ => rfl
theorem mx_dx1_i {q : Nat} {L : mx_L} {st : List mx_V} {σ : mx_Hp} {o : mx_Rs} (h : mx_dx1 q L st σ = some o) : ∃ a b r, st = a :: b :: r ∧ mx_w a = 1 ∧ mx_w b = 1 ∧ o = .inl (q, L, a :: b :: a :: r, σ) := by
  unfold mx_dx1 at h
  split at h
  · obtain ⟨h1, h2⟩ := mx_bif h rfl
    cases h2
    rw [Bool.and_eq_true] at h1
    exact ⟨_, _, _, rfl, mx_c1_w h1.1, mx_c1_w h1.2, rfl⟩
  · cases h
theorem mx_dx2_i {q : Nat} {L : mx_L} {st : List mx_V} {σ : mx_Hp} {o : mx_Rs} (h : mx_dx2 q L st σ = some o) : ∃ a b c r, st = a :: b :: c :: r ∧ mx_w a = 1 ∧ mx_w b = 1 ∧ mx_w c = 1 ∧ o = .inl (q, L, a :: b :: c :: a :: r, σ) := by
  unfold mx_dx2 at h
  split at h
  · obtain ⟨h1, h2⟩ := mx_bif h rfl
    cases h2
    rw [Bool.and_eq_true, Bool.and_eq_true] at h1
    exact ⟨_, _, _, _, rfl, mx_c1_w h1.1.1, mx_c1_w h1.1.2, mx_c1_w h1.2, rfl⟩
  · cases h
theorem mx_dpp_i {q : Nat} {L : mx_L} {st : List mx_V} {σ : mx_Hp} {o : mx_Rs} (h : mx_dpp q L st σ = some o) : ∃ a b r, st = a :: b :: r ∧ mx_w a = 1 ∧ mx_w b = 1 ∧ o = .inl (q, L, a :: b :: a :: b :: r, σ) := by
  unfold mx_dpp at h
  split at h
  · obtain ⟨h1, h2⟩ := mx_bif h rfl
    cases h2
    rw [Bool.and_eq_true] at h1
    exact ⟨_, _, _, rfl, mx_c1_w h1.1, mx_c1_w h1.2, rfl⟩
  · cases h
