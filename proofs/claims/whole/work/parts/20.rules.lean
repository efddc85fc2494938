/-! rules for branches and arrays -/
section MXR
variable {d mid pc : Nat} {L : mx_L} {r : List mx_V} {σ : mx_Hp} {Q : Option mx_V → mx_Hp → Prop} {x y : Int32} {q p3 : Nat}
theorem mx_WP.bb {b : Bool} {st : List mx_V} (hs : mx_step mid pc L st σ = some (.inl (bif b then q else p3, L, r, σ))) (h1 : b = true → mx_WP d mid q L r σ Q) (h2 : b = false → mx_WP d mid p3 L r σ Q) : mx_WP d mid pc L st σ Q := by
  cases b
  · exact mx_WP.next hs (h2 rfl)
  · exact mx_WP.next hs (h1 rfl)
theorem mx_WP.beq {st : List mx_V} (hs : mx_step mid pc L st σ = some (.inl (bif mx_cd .eq x y then q else p3, L, r, σ))) (h1 : x = y → mx_WP d mid q L r σ Q) (h2 : ¬ x = y → mx_WP d mid p3 L r σ Q) : mx_WP d mid pc L st σ Q := mx_WP.bb hs (fun h => h1 (of_decide_eq_true h)) (fun h => h2 (of_decide_eq_false h))
theorem mx_WP.bne {st : List mx_V} (hs : mx_step mid pc L st σ = some (.inl (bif mx_cd .ne x y then q else p3, L, r, σ))) (h1 : ¬ x = y → mx_WP d mid q L r σ Q) (h2 : ¬ ¬ x = y → mx_WP d mid p3 L r σ Q) : mx_WP d mid pc L st σ Q := mx_WP.bb hs (fun h => h1 (by simpa [mx_cd] using h)) (fun h => h2 (by simpa [mx_cd] using h))
theorem mx_WP.blt {st : List mx_V} (hs : mx_step mid pc L st σ = some (.inl (bif mx_cd .lt x y then q else p3, L, r, σ))) (h1 : x < y → mx_WP d mid q L r σ Q) (h2 : ¬ x < y → mx_WP d mid p3 L r σ Q) : mx_WP d mid pc L st σ Q := mx_WP.bb hs (fun h => h1 (of_decide_eq_true h)) (fun h => h2 (of_decide_eq_false h))
theorem mx_WP.bge {st : List mx_V} (hs : mx_step mid pc L st σ = some (.inl (bif mx_cd .ge x y then q else p3, L, r, σ))) (h1 : y ≤ x → mx_WP d mid q L r σ Q) (h2 : ¬ y ≤ x → mx_WP d mid p3 L r σ Q) : mx_WP d mid pc L st σ Q := mx_WP.bb hs (fun h => h1 (of_decide_eq_true h)) (fun h => h2 (of_decide_eq_false h))
theorem mx_WP.bgt {st : List mx_V} (hs : mx_step mid pc L st σ = some (.inl (bif mx_cd .gt x y then q else p3, L, r, σ))) (h1 : y < x → mx_WP d mid q L r σ Q) (h2 : ¬ y < x → mx_WP d mid p3 L r σ Q) : mx_WP d mid pc L st σ Q := mx_WP.bb hs (fun h => h1 (of_decide_eq_true h)) (fun h => h2 (of_decide_eq_false h))
theorem mx_WP.ble {st : List mx_V} (hs : mx_step mid pc L st σ = some (.inl (bif mx_cd .le x y then q else p3, L, r, σ))) (h1 : x ≤ y → mx_WP d mid q L r σ Q) (h2 : ¬ x ≤ y → mx_WP d mid p3 L r σ Q) : mx_WP d mid pc L st σ Q := mx_WP.bb hs (fun h => h1 (of_decide_eq_true h)) (fun h => h2 (of_decide_eq_false h))
theorem mx_atn {a : mx_Ad} {i : Int32} {k : Nat} (hi : i = nI k) (hk : k < mx_N σ a ∧ mx_N σ a < 2147483648) : mx_at σ a i = true ∧ i.toNatClampNeg = k := by
  subst hi
  have h1 : (nI k).toNatClampNeg = k := nI_clamp (by omega)
  refine ⟨?_, h1⟩
  have h2 : ¬ nI k < 0 := nI_pos (by omega)
  unfold mx_at
  rw [h1, decide_eq_false h2, decide_eq_false (by omega)]
  rfl
theorem mx_WP.ald {f : FieldType → Bool} {a : mx_Ad} {i : Int32} {k : Nat} {ty : FieldType} (hs : mx_step mid pc L (.inl i :: .inr (.inr (some a)) :: r) σ = mx_ald f (pc + 1) L (.inl i :: .inr (.inr (some a)) :: r) σ) (hk : mx_knd a.2.1 = .inr ty) (hf : f ty = true) (hi : i = nI k) (hn : k < mx_N σ a ∧ mx_N σ a < 2147483648) (h : mx_WP d mid (pc + 1) L (mx_rd σ a ty k :: r) σ Q) : mx_WP d mid pc L (.inl i :: .inr (.inr (some a)) :: r) σ Q := by
  obtain ⟨h1, h2⟩ := mx_atn hi hn
  refine mx_WP.next (hs.trans ?_) h
  simp only [mx_ald, hk, hf, h1, Bool.and_self, cond_true, h2]
theorem mx_WP.iald {a : mx_Ad} {i : Int32} {k : Nat} (hi : i = nI k) (hn : k < mx_N σ a ∧ mx_N σ a < 2147483648) (h : mx_WP d mid (pc + 1) L (mx_i (mx_I σ a k) :: r) σ Q) (hs : mx_code mid pc = some .iaload := by rfl) (hk : mx_knd a.2.1 = .inr .int := by rfl) : mx_WP d mid pc L (.inl i :: .inr (.inr (some a)) :: r) σ Q := mx_WP.ald (f := mx_isI) (by unfold mx_step; rw [hs]; rfl) hk rfl hi hn h
theorem mx_WP.bald {a : mx_Ad} {i : Int32} {k : Nat} (hi : i = nI k) (hn : k < mx_N σ a ∧ mx_N σ a < 2147483648) (h : mx_WP d mid (pc + 1) L (mx_i (mx_I σ a k) :: r) σ Q) (hs : mx_code mid pc = some .baload := by rfl) (hk : mx_knd a.2.1 = .inr .byte ∨ mx_knd a.2.1 = .inr .boolean := by first | exact Or.inl rfl | exact Or.inr rfl) : mx_WP d mid pc L (.inl i :: .inr (.inr (some a)) :: r) σ Q := by
  rcases hk with hk | hk
  · exact mx_WP.ald (f := mx_isB) (by unfold mx_step; rw [hs]; rfl) hk rfl hi hn h
  · exact mx_WP.ald (f := mx_isB) (by unfold mx_step; rw [hs]; rfl) hk rfl hi hn h
theorem mx_WP.lald {a : mx_Ad} {i : Int32} {k : Nat} (hi : i = nI k) (hn : k < mx_N σ a ∧ mx_N σ a < 2147483648) (h : mx_WP d mid (pc + 1) L (mx_l (mx_J σ a k) :: r) σ Q) (hs : mx_code mid pc = some .laload := by rfl) (hk : mx_knd a.2.1 = .inr .long := by rfl) : mx_WP d mid pc L (.inl i :: .inr (.inr (some a)) :: r) σ Q := mx_WP.ald (f := mx_isJ) (by unfold mx_step; rw [hs]; rfl) hk rfl hi hn h
theorem mx_WP.aald {a : mx_Ad} {i : Int32} {k : Nat} {C : String} (hi : i = nI k) (hn : k < mx_N σ a ∧ mx_N σ a < 2147483648) (h : mx_WP d mid (pc + 1) L (mx_r (mx_R σ a k) :: r) σ Q) (hs : mx_code mid pc = some .aaload := by rfl) (hk : mx_knd a.2.1 = .inr (.object C) := by rfl) : mx_WP d mid pc L (.inl i :: .inr (.inr (some a)) :: r) σ Q := mx_WP.ald (f := mx_isA) (by unfold mx_step; rw [hs]; rfl) hk rfl hi hn h
theorem mx_WP.iast {a : mx_Ad} {i v : Int32} {k : Nat} (hi : i = nI k) (hn : k < mx_N σ a ∧ mx_N σ a < 2147483648) (h : mx_WP d mid (pc + 1) L r (mx_sI σ a k v) Q) (hs : mx_code mid pc = some .iastore := by rfl) (hk : mx_knd a.2.1 = .inr .int := by rfl) (hg : Nat.blt a.1 2 = true := by rfl) : mx_WP d mid pc L (.inl v :: .inl i :: .inr (.inr (some a)) :: r) σ Q := by
  obtain ⟨h1, h2⟩ := mx_atn hi hn
  refine mx_WP.next ?_ h
  unfold mx_step
  rw [hs]
  show mx_iast (pc + 1) L (.inl v :: .inl i :: .inr (.inr (some a)) :: r) σ = _
  simp only [mx_iast, hk, hg, h1, Bool.and_self, cond_true, h2]
theorem mx_WP.bast {a : mx_Ad} {i v : Int32} {k : Nat} {ty : FieldType} (hi : i = nI k) (hn : k < mx_N σ a ∧ mx_N σ a < 2147483648) (h : mx_WP d mid (pc + 1) L r (mx_sI σ a k (vp_nar ty v)) Q) (hs : mx_code mid pc = some .bastore := by rfl) (hk : mx_knd a.2.1 = .inr ty := by rfl) (hty : ty = .byte ∨ ty = .boolean := by first | exact Or.inl rfl | exact Or.inr rfl) (hg : Nat.blt a.1 2 = true := by rfl) : mx_WP d mid pc L (.inl v :: .inl i :: .inr (.inr (some a)) :: r) σ Q := by
  obtain ⟨h1, h2⟩ := mx_atn hi hn
  refine mx_WP.next ?_ h
  unfold mx_step
  rw [hs]
  show mx_bast (pc + 1) L (.inl v :: .inl i :: .inr (.inr (some a)) :: r) σ = _
  rcases hty with rfl | rfl <;> simp only [mx_bast, hk, hg, h1, Bool.and_self, cond_true, h2]
theorem mx_WP.last {a : mx_Ad} {i : Int32} {v : Int64} {k : Nat} (hi : i = nI k) (hn : k < mx_N σ a ∧ mx_N σ a < 2147483648) (h : mx_WP d mid (pc + 1) L r (mx_sJ σ a k v) Q) (hs : mx_code mid pc = some .lastore := by rfl) (hk : mx_knd a.2.1 = .inr .long := by rfl) (hg : Nat.blt a.1 2 = true := by rfl) : mx_WP d mid pc L (.inr (.inl v) :: .inl i :: .inr (.inr (some a)) :: r) σ Q := by
  obtain ⟨h1, h2⟩ := mx_atn hi hn
  refine mx_WP.next ?_ h
  unfold mx_step
  rw [hs]
  show mx_last (pc + 1) L (.inr (.inl v) :: .inl i :: .inr (.inr (some a)) :: r) σ = _
  simp only [mx_last, hk, hg, h1, Bool.and_self, cond_true, h2]
end MXR
/-! rules for functions out of the code -/
def b2i (b : Bool) : Int32 := bif b then 1 else 0
theorem b2i_01 (b : Bool) : b2i b = 0 ∨ b2i b = 1 := by
  cases b
  · exact Or.inl rfl
  · exact Or.inr rfl
/-- a loop: its body goes on or ends -/
def mx_lp {σ ε : Type} (body : σ → Option (σ ⊕ ε)) : Nat → σ → Option ε
  | 0, _ => none
  | n + 1, s => match body s with
    | none => none
    | some (.inl s') => mx_lp body n s'
    | some (.inr e) => some e
def mx_fu : Nat := 1000
theorem mx_lp_ok {σ ε : Type} {body : σ → Option (σ ⊕ ε)} {P : σ → Prop} {E : ε → Prop} (hb : ∀ s o, body s = some o → Sum.elim P E o → P s) : ∀ n s e, mx_lp body n s = some e → E e → P s := by
  intro n
  induction n with
  | zero =>
    intro s e h
    cases h
  | succ n ih =>
    intro s e h he
    simp only [mx_lp] at h
    cases hs : body s with
    | none => rw [hs] at h; cases h
    | some o =>
      rw [hs] at h
      cases o with
      | inl s' => exact hb s _ hs (ih s' e h he)
      | inr e' =>
        cases h
        exact hb s _ hs he
section MXF
variable {d mid pc : Nat} {L : mx_L} {r : List mx_V} {σ : mx_Hp} {Q : Option mx_V → mx_Hp → Prop} {q p3 : Nat}
theorem mx_WP.zeq {b : Bool} {st : List mx_V} (hs : mx_step mid pc L st σ = some (.inl (bif mx_cd .eq (b2i b) 0 then q else p3, L, r, σ))) (h1 : b = false → mx_WP d mid q L r σ Q) (h2 : b = true → mx_WP d mid p3 L r σ Q) : mx_WP d mid pc L st σ Q := by
  cases b
  · exact mx_WP.next hs (h1 rfl)
  · exact mx_WP.next hs (h2 rfl)
theorem mx_WP.zne {b : Bool} {st : List mx_V} (hs : mx_step mid pc L st σ = some (.inl (bif mx_cd .ne (b2i b) 0 then q else p3, L, r, σ))) (h1 : b = true → mx_WP d mid q L r σ Q) (h2 : b = false → mx_WP d mid p3 L r σ Q) : mx_WP d mid pc L st σ Q := by
  cases b
  · exact mx_WP.next hs (h2 rfl)
  · exact mx_WP.next hs (h1 rfl)
theorem mx_atx {a : mx_Ad} {i : Int32} (h : ¬ (i < 0 ∨ mx_N σ a ≤ i.toNatClampNeg)) : mx_at σ a i = true := by
  unfold mx_at
  simpa using h
theorem mx_WP.aldx {f : FieldType → Bool} {a : mx_Ad} {i : Int32} {ty : FieldType} (hs : mx_step mid pc L (.inl i :: .inr (.inr (some a)) :: r) σ = mx_ald f (pc + 1) L (.inl i :: .inr (.inr (some a)) :: r) σ) (hk : mx_knd a.2.1 = .inr ty) (hf : f ty = true) (hn : ¬ (i < 0 ∨ mx_N σ a ≤ i.toNatClampNeg)) (h : mx_WP d mid (pc + 1) L (mx_rd σ a ty i.toNatClampNeg :: r) σ Q) : mx_WP d mid pc L (.inl i :: .inr (.inr (some a)) :: r) σ Q := by
  refine mx_WP.next (hs.trans ?_) h
  simp only [mx_ald, hk, hf, mx_atx hn, Bool.and_self, cond_true]
theorem mx_WP.ialdx {a : mx_Ad} {i : Int32} (hn : ¬ (i < 0 ∨ mx_N σ a ≤ i.toNatClampNeg)) (h : mx_WP d mid (pc + 1) L (mx_i (mx_I σ a i.toNatClampNeg) :: r) σ Q) (hs : mx_code mid pc = some .iaload := by rfl) (hk : mx_knd a.2.1 = .inr .int := by rfl) : mx_WP d mid pc L (.inl i :: .inr (.inr (some a)) :: r) σ Q := mx_WP.aldx (f := mx_isI) (by unfold mx_step; rw [hs]; rfl) hk rfl hn h
theorem mx_WP.baldx {a : mx_Ad} {i : Int32} (hn : ¬ (i < 0 ∨ mx_N σ a ≤ i.toNatClampNeg)) (h : mx_WP d mid (pc + 1) L (mx_i (mx_I σ a i.toNatClampNeg) :: r) σ Q) (hs : mx_code mid pc = some .baload := by rfl) (hk : mx_knd a.2.1 = .inr .byte ∨ mx_knd a.2.1 = .inr .boolean := by first | exact Or.inl rfl | exact Or.inr rfl) : mx_WP d mid pc L (.inl i :: .inr (.inr (some a)) :: r) σ Q := by
  rcases hk with hk | hk
  · exact mx_WP.aldx (f := mx_isB) (by unfold mx_step; rw [hs]; rfl) hk rfl hn h
  · exact mx_WP.aldx (f := mx_isB) (by unfold mx_step; rw [hs]; rfl) hk rfl hn h
theorem mx_WP.laldx {a : mx_Ad} {i : Int32} (hn : ¬ (i < 0 ∨ mx_N σ a ≤ i.toNatClampNeg)) (h : mx_WP d mid (pc + 1) L (mx_l (mx_J σ a i.toNatClampNeg) :: r) σ Q) (hs : mx_code mid pc = some .laload := by rfl) (hk : mx_knd a.2.1 = .inr .long := by rfl) : mx_WP d mid pc L (.inl i :: .inr (.inr (some a)) :: r) σ Q := mx_WP.aldx (f := mx_isJ) (by unfold mx_step; rw [hs]; rfl) hk rfl hn h
theorem mx_WP.aaldx {a : mx_Ad} {i : Int32} {C : String} (hn : ¬ (i < 0 ∨ mx_N σ a ≤ i.toNatClampNeg)) (h : mx_WP d mid (pc + 1) L (mx_r (mx_R σ a i.toNatClampNeg) :: r) σ Q) (hs : mx_code mid pc = some .aaload := by rfl) (hk : mx_knd a.2.1 = .inr (.object C) := by rfl) : mx_WP d mid pc L (.inl i :: .inr (.inr (some a)) :: r) σ Q := mx_WP.aldx (f := mx_isA) (by unfold mx_step; rw [hs]; rfl) hk rfl hn h
theorem mx_WP.iastx {a : mx_Ad} {i v : Int32} (hn : ¬ (i < 0 ∨ mx_N σ a ≤ i.toNatClampNeg)) (h : mx_WP d mid (pc + 1) L r (mx_sI σ a i.toNatClampNeg v) Q) (hs : mx_code mid pc = some .iastore := by rfl) (hk : mx_knd a.2.1 = .inr .int := by rfl) (hg : Nat.blt a.1 2 = true := by rfl) : mx_WP d mid pc L (.inl v :: .inl i :: .inr (.inr (some a)) :: r) σ Q := by
  refine mx_WP.next ?_ h
  unfold mx_step
  rw [hs]
  show mx_iast (pc + 1) L (.inl v :: .inl i :: .inr (.inr (some a)) :: r) σ = _
  simp only [mx_iast, hk, hg, mx_atx hn, Bool.and_self, cond_true]
theorem mx_WP.bastx {a : mx_Ad} {i v : Int32} {ty : FieldType} (hn : ¬ (i < 0 ∨ mx_N σ a ≤ i.toNatClampNeg)) (h : mx_WP d mid (pc + 1) L r (mx_sI σ a i.toNatClampNeg (vp_nar ty v)) Q) (hs : mx_code mid pc = some .bastore := by rfl) (hk : mx_knd a.2.1 = .inr ty := by rfl) (hty : ty = .byte ∨ ty = .boolean := by first | exact Or.inl rfl | exact Or.inr rfl) (hg : Nat.blt a.1 2 = true := by rfl) : mx_WP d mid pc L (.inl v :: .inl i :: .inr (.inr (some a)) :: r) σ Q := by
  refine mx_WP.next ?_ h
  unfold mx_step
  rw [hs]
  show mx_bast (pc + 1) L (.inl v :: .inl i :: .inr (.inr (some a)) :: r) σ = _
  rcases hty with rfl | rfl <;> simp only [mx_bast, hk, hg, mx_atx hn, Bool.and_self, cond_true]
theorem mx_WP.lastx {a : mx_Ad} {i : Int32} {v : Int64} (hn : ¬ (i < 0 ∨ mx_N σ a ≤ i.toNatClampNeg)) (h : mx_WP d mid (pc + 1) L r (mx_sJ σ a i.toNatClampNeg v) Q) (hs : mx_code mid pc = some .lastore := by rfl) (hk : mx_knd a.2.1 = .inr .long := by rfl) (hg : Nat.blt a.1 2 = true := by rfl) : mx_WP d mid pc L (.inr (.inl v) :: .inl i :: .inr (.inr (some a)) :: r) σ Q := by
  refine mx_WP.next ?_ h
  unfold mx_step
  rw [hs]
  show mx_last (pc + 1) L (.inr (.inl v) :: .inl i :: .inr (.inr (some a)) :: r) σ = _
  simp only [mx_last, hk, hg, mx_atx hn, Bool.and_self, cond_true]
theorem mx_WP.retz {v : Int32} (hz : v = 0 ∨ v = 1) (hs : mx_code mid pc = some .ireturn) (hr : mx_mr mid = some .boolean) (h : Q (some (.inl v)) σ) : mx_WP d mid pc L [.inl v] σ Q := by
  refine mx_WP.ret ?_ h
  unfold mx_step
  rw [hs]
  show mx_ireturn mid [.inl v] = _
  simp only [mx_ireturn, hr, if_pos hz]
theorem mx_WP.putz {g t i k idx : Nat} {nst : Bool} {v : Int32} (hz : v = 0 ∨ v = 1) (hs : mx_code mid pc = some (.putfield idx)) (hf : mx_fld (mx_mc mid) idx = some (t, k, nst)) (hb : (Nat.beq t t && Nat.blt g 2 && (!mx_fin t k || (mx_mi mid && Nat.beq (mx_mc mid) t && !nst))) = true) (ht : mx_fty t k = .boolean) (h : mx_WP d mid (pc + 3) L r (mx_sI σ (g, t, i) k v) Q) : mx_WP d mid pc L (.inl v :: .inr (.inr (some (g, t, i))) :: r) σ Q := by
  refine mx_WP.next ?_ h
  unfold mx_step
  rw [hs]
  show mx_pt mid idx (pc + 3) L (.inl v :: .inr (.inr (some (g, t, i))) :: r) σ = _
  simp only [mx_pt, hf, hb, cond_true, mx_wr, ht, if_pos hz]
theorem mx_WP.d2 {x y : Int32} {f : Int32 → Int32 → Int32} (hy : ¬ y = 0) (hs : mx_step mid pc L (.inl y :: .inl x :: r) σ = mx_d2 f (pc + 1) L (.inl y :: .inl x :: r) σ) (h : mx_WP d mid (pc + 1) L (.inl (f x y) :: r) σ Q) : mx_WP d mid pc L (.inl y :: .inl x :: r) σ Q := by
  refine mx_WP.next (hs.trans ?_) h
  simp only [mx_d2, if_neg hy]
theorem mx_WP.sw {x c : Int32} (hx : x = c) (hs : mx_step mid pc L (.inl c :: r) σ = some (.inl (q, L, r, σ))) (h : mx_WP d mid q L r σ Q) : mx_WP d mid pc L (.inl x :: r) σ Q := by
  subst hx
  exact mx_WP.next hs h
theorem mx_WP.swt {x : Int32} {dflt hi : Int} {offs : Array Int} (ho : x.toInt < 0 ∨ hi < x.toInt) (hs : mx_code mid pc = some (.tableswitch dflt 0 hi offs)) (hq : mx_to pc dflt = some q) (h : mx_WP d mid q L r σ Q) : mx_WP d mid pc L (.inl x :: r) σ Q := by
  refine mx_WP.next ?_ h
  unfold mx_step
  rw [hs]
  show mx_tswc dflt 0 hi offs pc L (.inl x :: r) σ = _
  simp only [mx_tswc, mx_tsw, if_pos ho, mx_sw, hq]
theorem mx_WP.swl2 {x a b : Int32} {dflt o1 o2 k1 k2 : Int} (h1 : ¬ x = a) (h2 : ¬ x = b) (hs : mx_code mid pc = some (.lookupswitch dflt #[(k1, o1), (k2, o2)]) ∧ k1 = a.toInt ∧ k2 = b.toInt) (hq : mx_to pc dflt = some q) (hl : (decide (k1 < k2)) = true) (h : mx_WP d mid q L r σ Q) : mx_WP d mid pc L (.inl x :: r) σ Q := by
  obtain ⟨hs, rfl, rfl⟩ := hs
  have e1 : ¬ x.toInt = a.toInt := fun e => h1 (Int32.toInt_inj.mp e)
  have e2 : ¬ x.toInt = b.toInt := fun e => h2 (Int32.toInt_inj.mp e)
  refine mx_WP.next ?_ h
  unfold mx_step
  rw [hs]
  show mx_lswc dflt #[(a.toInt, o1), (b.toInt, o2)] pc L (.inl x :: r) σ = _
  have e3 : Op.lookupswitch.offset [(a.toInt, o1), (b.toInt, o2)] dflt x.toInt = dflt := by
    simp [Op.lookupswitch.offset, Ne.symm e1, Ne.symm e2, e1, e2]
  have e4 : a.toInt < b.toInt := of_decide_eq_true hl
  simp [mx_lswc, mx_sw, hq, e3, e4]
end MXF
theorem mx_tso {x : Int32} {n : Nat} (hn : n < 1000) (h : ∀ k : Nat, k ≤ n → ¬ x = nI k) : x.toInt < 0 ∨ (n : Int) < x.toInt := by
  by_cases h0 : x.toInt < 0
  · exact Or.inl h0
  · refine Or.inr ?_
    by_cases h1 : (n : Int) < x.toInt
    · exact h1
    · exfalso
      refine h x.toInt.toNat (by omega) (Int32.toInt_inj.mp ?_)
      rw [nI_toInt (by omega)]
      omega
theorem mx_tso3 {x : Int32} (h0 : ¬ x = 0) (h1 : ¬ x = 1) (h2 : ¬ x = 2) : x.toInt < 0 ∨ (2 : Int) < x.toInt := mx_tso (n := 2) (by decide) (fun k hk => by match k, hk with | 0, _ => exact h0 | 1, _ => exact h1 | 2, _ => exact h2 | n + 3, hk => omega)
theorem mx_tso5 {x : Int32} (h0 : ¬ x = 0) (h1 : ¬ x = 1) (h2 : ¬ x = 2) (h3 : ¬ x = 3) (h4 : ¬ x = 4) : x.toInt < 0 ∨ (4 : Int) < x.toInt := mx_tso (n := 4) (by decide) (fun k hk => by match k, hk with | 0, _ => exact h0 | 1, _ => exact h1 | 2, _ => exact h2 | 3, _ => exact h3 | 4, _ => exact h4 | n + 5, hk => omega)
theorem mx_tso7 {x : Int32} (h0 : ¬ x = 0) (h1 : ¬ x = 1) (h2 : ¬ x = 2) (h3 : ¬ x = 3) (h4 : ¬ x = 4) (h5 : ¬ x = 5) (h6 : ¬ x = 6) : x.toInt < 0 ∨ (6 : Int) < x.toInt := mx_tso (n := 6) (by decide) (fun k hk => by match k, hk with | 0, _ => exact h0 | 1, _ => exact h1 | 2, _ => exact h2 | 3, _ => exact h3 | 4, _ => exact h4 | 5, _ => exact h5 | 6, _ => exact h6 | n + 7, hk => omega)
theorem mx_tso10 {x : Int32} (h0 : ¬ x = 0) (h1 : ¬ x = 1) (h2 : ¬ x = 2) (h3 : ¬ x = 3) (h4 : ¬ x = 4) (h5 : ¬ x = 5) (h6 : ¬ x = 6) (h7 : ¬ x = 7) (h8 : ¬ x = 8) (h9 : ¬ x = 9) : x.toInt < 0 ∨ (9 : Int) < x.toInt := mx_tso (n := 9) (by decide) (fun k hk => by match k, hk with | 0, _ => exact h0 | 1, _ => exact h1 | 2, _ => exact h2 | 3, _ => exact h3 | 4, _ => exact h4 | 5, _ => exact h5 | 6, _ => exact h6 | 7, _ => exact h7 | 8, _ => exact h8 | 9, _ => exact h9 | n + 10, hk => omega)
/-! the shape of both heaps after their constructors -/
def hC_r (h : Nat → Nat) (t i k : Nat) : Option mx_Ad :=
  bif Nat.beq t 0 then (bif Nat.beq k 0 then some (0, 1, 0) else bif Nat.beq k 1 then some (0, 7, 0) else bif Nat.beq k 2 then some (0, 8, 0) else bif Nat.beq k 3 then some (0, 9, 0) else bif Nat.beq k 4 then some (0, 10, 1) else none) else
  bif Nat.beq t 1 then (bif Nat.beq k 0 then some (0, 64, 0) else bif Nat.beq k 1 then some (0, 2, 0) else none) else
  bif Nat.beq t 2 then (bif Nat.ble k 4 then some (0, 65 + k, i) else none) else
  bif Nat.beq t 3 then (bif Nat.ble k 1 then some (0, 70 + k, i) else none) else
  bif Nat.beq t 4 then (bif Nat.beq k 0 then some (0, 72, i) else bif Nat.beq k 1 then some (0, 3, 0) else none) else
  bif Nat.beq t 5 then (bif Nat.beq k 0 then some (0, 4, i) else bif Nat.beq k 1 then some (0, 3, h i) else none) else
  bif Nat.beq t 6 then (bif Nat.beq k 0 then some (0, 2, i + 1) else bif Nat.beq k 1 then some (0, 4, i) else bif Nat.beq k 2 then some (0, 5, i) else none) else
  bif Nat.beq t 7 then (bif Nat.beq k 0 then some (0, 73, 0) else bif Nat.beq k 1 then some (0, 3, 0) else bif Nat.beq k 2 then some (0, 10, 0) else none) else
  bif Nat.beq t 8 then (bif Nat.beq k 0 then some (0, 7, 0) else bif Nat.ble k 3 then some (0, 73 + k, 0) else none) else
  bif Nat.beq t 9 then (bif Nat.ble k 3 then some (0, 77 + k, 0) else none) else
  bif Nat.beq t 10 then (bif Nat.beq k 0 then some (0, 81, i) else none) else
  bif Nat.beq t 72 then (bif Nat.blt k 16 then some (0, 3, 1 + 16 * i + k) else none) else
  bif Nat.beq t 73 then (bif Nat.blt k 8 then some (0, 6, k) else none) else none
def hC_n (t i : Nat) : Nat :=
  bif Nat.beq t 64 then 200 else bif Nat.beq t 65 then 3 else bif Nat.beq t 66 then 3 else bif Nat.beq t 67 then 3 else bif Nat.beq t 68 then 4 else bif Nat.beq t 69 then 4 else
  bif Nat.beq t 70 then 4 else bif Nat.beq t 71 then 4 else bif Nat.beq t 72 then 16 else bif Nat.beq t 73 then 8 else bif Nat.ble t 76 then 128 else bif Nat.ble t 80 then 24 else bif Nat.beq i 0 then 16 else 32
def hC_c (t : Nat) : Nat :=
  bif Nat.ble t 1 then 1 else bif Nat.beq t 2 then 9 else bif Nat.beq t 3 then 129 else bif Nat.ble t 6 then 8 else bif Nat.ble t 9 then 1 else bif Nat.beq t 10 then 2 else
  bif Nat.beq t 64 then 1 else bif Nat.ble t 64 then 0 else bif Nat.ble t 69 then 9 else bif Nat.ble t 71 then 129 else bif Nat.beq t 72 then 8 else bif Nat.ble t 80 then 1 else bif Nat.beq t 81 then 2 else 0
def hC (I : Nat → Nat → Nat → Int32) (J : Nat → Nat → Nat → Int64) (h : Nat → Nat) : mx_Rg := (I, J, hC_r h, hC_c, hC_n)
def hM_r (t i k : Nat) : Option mx_Ad := bif Nat.beq t 11 then (bif Nat.ble k 9 then some (1, 82 + k, 0) else bif Nat.ble 15 k && Nat.ble k 38 then some (1, 77 + k, 0) else none) else none
def hM_n (t : Nat) (i : Nat) : Nat := (([200, 9, 27, 27, 27, 9, 36, 9, 36, 9, 8, 8, 8, 8, 8, 8, 8, 8, 8, 8, 128, 512, 512, 128, 128, 128, 128, 128, 24, 24, 24, 32, 16, 24] : List Nat)[t - 82]?).getD 0
def hM_c (t : Nat) : Nat := bif Nat.beq t 11 then 1 else bif Nat.ble 82 t && Nat.ble t 115 then 1 else 0
def hM (I : Nat → Nat → Nat → Int32) (J : Nat → Nat → Nat → Int64) : mx_Rg := (I, J, hM_r, hM_c, hM_n)
theorem hC_here (h : Nat → Nat) (p e : Nat) : mx_u3 (hC_r h) 5 p 1 (some (0, 3, e)) = hC_r (mx_u1 h p e) := by
  funext t i k
  unfold mx_u3 mx_u1
  by_cases ht : t = 5
  · subst ht
    by_cases hk : k = 1
    · subst hk
      by_cases hi : i = p
      · subst hi
        rw [if_pos ⟨rfl, rfl, rfl⟩]
        show _ = some (0, 3, if i = i then e else h i)
        rw [if_pos rfl]
      · rw [if_neg (fun q => hi q.2.1)]
        show some (0, 3, h i) = some (0, 3, if i = p then e else h i)
        rw [if_neg hi]
    · rw [if_neg (fun q => hk q.2.2)]
      have e1 : Nat.beq k 1 = false := by
        cases hb : Nat.beq k 1
        · rfl
        · exact absurd (Nat.eq_of_beq_eq_true hb) hk
      show (bif Nat.beq k 0 then some (0, 4, i) else bif Nat.beq k 1 then some (0, 3, h i) else none) = (bif Nat.beq k 0 then some (0, 4, i) else bif Nat.beq k 1 then some (0, 3, if i = p then e else h i) else none)
      rw [e1]
      rfl
  · rw [if_neg (fun q => ht q.1)]
    have e5 : Nat.beq t 5 = false := by
      cases hb : Nat.beq t 5
      · rfl
      · exact absurd (Nat.eq_of_beq_eq_true hb) ht
    simp only [hC_r, e5, cond_false]
theorem mx_WP.puth {d mid pc : Nat} {L : mx_L} {r : List mx_V} {Q : Option mx_V → mx_Hp → Prop} {I : Nat → Nat → Nat → Int32} {J : Nat → Nat → Nat → Int64} {h : Nat → Nat} {μ : mx_Rg × (Nat × (Nat → Int32)) × (Nat × Nat)} {p e : Nat} (hs : mx_step mid pc L (mx_r (some (0, 3, e)) :: mx_r (some (0, 5, p)) :: r) (hC I J h, μ) = some (.inl (pc + 3, L, r, mx_sR (hC I J h, μ) (0, 5, p) 1 (some (0, 3, e))))) (k : mx_WP d mid (pc + 3) L r (hC I J (mx_u1 h p e), μ) Q) : mx_WP d mid pc L (mx_r (some (0, 3, e)) :: mx_r (some (0, 5, p)) :: r) (hC I J h, μ) Q := by
  refine mx_WP.next hs ?_
  have e1 : mx_sR (hC I J h, μ) (0, 5, p) 1 (some (0, 3, e)) = (hC I J (mx_u1 h p e), μ) := by
    show ((I, J, mx_u3 (hC_r h) 5 p 1 (some (0, 3, e)), hC_c, hC_n), μ) = _
    rw [hC_here]
    rfl
  rw [e1]
  exact k
theorem mx_WP.aal72 {d mid pc : Nat} {L : mx_L} {r : List mx_V} {Q : Option mx_V → mx_Hp → Prop} {I : Nat → Nat → Nat → Int32} {J : Nat → Nat → Nat → Int64} {h : Nat → Nat} {μ : mx_Rg × (Nat × (Nat → Int32)) × (Nat × Nat)} {ii : Nat} {i : Int32} (hn : ¬ (i < 0 ∨ 16 ≤ i.toNatClampNeg)) (k : mx_WP d mid (pc + 1) L (mx_r (some (0, 3, 1 + 16 * ii + i.toNatClampNeg)) :: r) (hC I J h, μ) Q) (hs : mx_code mid pc = some .aaload := by rfl) : mx_WP d mid pc L (.inl i :: mx_r (some (0, 72, ii)) :: r) (hC I J h, μ) Q := by
  refine mx_WP.aaldx (C := "PluginHall$Element") hn ?_ hs rfl
  have e1 : Nat.blt i.toNatClampNeg 16 = true := by
    rw [Nat.blt_eq]
    exact Nat.not_le.mp fun q => hn (Or.inr q)
  have e : mx_R (hC I J h, μ) (0, 72, ii) i.toNatClampNeg = some (0, 3, 1 + 16 * ii + i.toNatClampNeg) := by
    show (bif Nat.blt i.toNatClampNeg 16 then some (0, 3, 1 + 16 * ii + i.toNatClampNeg) else none) = _
    rw [e1]
    rfl
  rw [e]
  exact k
theorem mx_WP.aal73 {d mid pc : Nat} {L : mx_L} {r : List mx_V} {Q : Option mx_V → mx_Hp → Prop} {I : Nat → Nat → Nat → Int32} {J : Nat → Nat → Nat → Int64} {h : Nat → Nat} {μ : mx_Rg × (Nat × (Nat → Int32)) × (Nat × Nat)} {i : Int32} (hn : ¬ (i < 0 ∨ 8 ≤ i.toNatClampNeg)) (k : mx_WP d mid (pc + 1) L (mx_r (some (0, 6, i.toNatClampNeg)) :: r) (hC I J h, μ) Q) (hs : mx_code mid pc = some .aaload := by rfl) : mx_WP d mid pc L (.inl i :: mx_r (some (0, 73, 0)) :: r) (hC I J h, μ) Q := by
  refine mx_WP.aaldx (C := "PluginHall$Plugin") hn ?_ hs rfl
  have e1 : Nat.blt i.toNatClampNeg 8 = true := by
    rw [Nat.blt_eq]
    exact Nat.not_le.mp fun q => hn (Or.inr q)
  have e : mx_R (hC I J h, μ) (0, 73, 0) i.toNatClampNeg = some (0, 6, i.toNatClampNeg) := by
    show (bif Nat.blt i.toNatClampNeg 8 then some (0, 6, i.toNatClampNeg) else none) = _
    rw [e1]
    rfl
  rw [e]
  exact k
