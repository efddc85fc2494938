/-! rules for branches and arrays -/
section MXR
variable {d mid pc : Nat} {L : mx_L} {r : List mx_V} {σ : mx_Hp} {Q : Option mx_V → mx_Hp → Prop} {x y : Int32} {q p3 : Nat}
theorem mx_WP.bb {b : Bool} {st : List mx_V} (hs : mx_step mid pc L st σ = some (.inl (bif b then q else p3, L, r, σ))) (h1 : b = true → mx_WP d mid q L r σ Q) (h2 : b = false → mx_WP d mid p3 L r σ Q) : mx_WP d mid pc L st σ Q := by
  cases b
  · exact mx_WP.next hs (h2 rfl)
  · exact mx_WP.next hs (h1 rfl)
theorem mx_WP.beq {st : List mx_V} (hs : mx_step mid pc L st σ = some (.inl (bif mx_cd .eq x y then q else p3, L, r, σ))) (h1 : x = y → mx_WP d mid q L r σ Q) (h2 : ¬ x = y → mx_WP d mid p3 L r σ Q) : mx_WP d mid pc L st σ Q := mx_WP.bb hs (fun h => h1 (of_decide_eq_true h)) (fun h => h2 (of_decide_eq_false h))
theorem mx_WP.bne {st : List mx_V} (hs : mx_step mid pc L st σ = some (.inl (bif mx_cd .ne x y then q else p3, L, r, σ))) (h1 : ¬ x = y → mx_WP d mid q L r σ Q) (h2 : ¬ ¬ x = y → mx_WP d mid p3 L r σ Q) : mx_WP d mid pc L st σ Q := mx_WP.bb hs (fun h => h1 (by simpa [mx_cd] using h)) (fun h => h2 (by simpa [mx_cd] using h))
theorem mx_WP.blt {st : List mx_V} (hs : mx_step mid pc L st σ = some (.inl (bif mx_cd .lt x y then q else p3, L, r, σ))) (h1 : x < y → mx_WP d mid q L r σ Q) (h2 : ¬ x < y → mx_WP d mid p3 L r σ Q) : mx_WP d mid pc L st σ Q := mx_WP.bb hs (fun h => h1 (of_decide_eq_true h)) (fun h => h2 (of_decide_eq_false h))
theorem mx_WP.bge {st : List mx_V} (hs : mx_step mid pc L st σ = some (.inl (bif mx_cd .ge x y then q else p3, L, r, σ))) (h1 : y ≤ x → mx_WP d mid q L r σ Q) (h2 : ¬ y ≤ x → mx_WP d mid p3 L r σ Q) : mx_WP d mid pc L st σ Q := mx_WP.bb hs (fun h => h1 (of_decide_eq_true h)) (fun h => h2 (of_decide_eq_false h))
theorem mx_WP.bgt {st : List mx_V} (hs : mx_step mid pc L st σ = some (.inl (bif mx_cd .gt x y then q else p3, L, r, σ))) (h1 : y < x → mx_WP d mid q L r σ Q) (h2 : ¬ y < x → mx_WP d mid p3 L r σ Q) : mx_WP d mid pc L st σ Q := mx_WP.bb hs (fun h => h1 (of_decide_eq_true h)) (fun h => h2 (of_decide_eq_false h))
theorem mx_WP.ble {st : List mx_V} (hs : mx_step mid pc L st σ = some (.inl (bif mx_cd .le x y then q else p3, L, r, σ))) (h1 : x ≤ y → mx_WP d mid q L r σ Q) (h2 : ¬ x ≤ y → mx_WP d mid p3 L r σ Q) : mx_WP d mid pc L st σ Q := mx_WP.bb hs (fun h => h1 (of_decide_eq_true h)) (fun h => h2 (of_decide_eq_false h))
theorem mx_atn {a : mx_Ad} {i : Int32} {k : Nat} (hi : i = nI k) (hk : k < mx_N σ a ∧ mx_N σ a < 2147483648) : mx_at σ a i = true ∧ i.toNatClampNeg = k := by
  subst hi
  have h1 : (nI k).toNatClampNeg = k := nI_clamp (by omega)
  refine ⟨?_, h1⟩
  have h2 : ¬ nI k < 0 := nI_pos (by omega)
  unfold mx_at
  rw [h1, decide_eq_false h2, decide_eq_false (by omega)]
  rfl
theorem mx_WP.ald {f : FieldType → Bool} {a : mx_Ad} {i : Int32} {k : Nat} {ty : FieldType} (hs : mx_step mid pc L (.inl i :: .inr (.inr (some a)) :: r) σ = mx_ald f (pc + 1) L (.inl i :: .inr (.inr (some a)) :: r) σ) (hk : mx_knd a.2.1 = .inr ty) (hf : f ty = true) (hi : i = nI k) (hn : k < mx_N σ a ∧ mx_N σ a < 2147483648) (h : mx_WP d mid (pc + 1) L (mx_rd σ a ty k :: r) σ Q) : mx_WP d mid pc L (.inl i :: .inr (.inr (some a)) :: r) σ Q := by
  obtain ⟨h1, h2⟩ := mx_atn hi hn
  refine mx_WP.next (hs.trans ?_) h
  simp only [mx_ald, hk, hf, h1, Bool.and_self, cond_true, h2]
theorem mx_WP.iald {a : mx_Ad} {i : Int32} {k : Nat} (hi : i = nI k) (hn : k < mx_N σ a ∧ mx_N σ a < 2147483648) (h : mx_WP d mid (pc + 1) L (mx_i (mx_I σ a k) :: r) σ Q) (hs : mx_code mid pc = some .iaload := by rfl) (hk : mx_knd a.2.1 = .inr .int := by rfl) : mx_WP d mid pc L (.inl i :: .inr (.inr (some a)) :: r) σ Q := mx_WP.ald (f := mx_isI) (by unfold mx_step; rw [hs]; rfl) hk rfl hi hn h
theorem mx_WP.bald {a : mx_Ad} {i : Int32} {k : Nat} (hi : i = nI k) (hn : k < mx_N σ a ∧ mx_N σ a < 2147483648) (h : mx_WP d mid (pc + 1) L (mx_i (mx_I σ a k) :: r) σ Q) (hs : mx_code mid pc = some .baload := by rfl) (hk : mx_knd a.2.1 = .inr .byte ∨ mx_knd a.2.1 = .inr .boolean := by first | exact Or.inl rfl | exact Or.inr rfl) : mx_WP d mid pc L (.inl i :: .inr (.inr (some a)) :: r) σ Q := by
  rcases hk with hk | hk
  · exact mx_WP.ald (f := mx_isB) (by unfold mx_step; rw [hs]; rfl) hk rfl hi hn h
  · exact mx_WP.ald (f := mx_isB) (by unfold mx_step; rw [hs]; rfl) hk rfl hi hn h
theorem mx_WP.lald {a : mx_Ad} {i : Int32} {k : Nat} (hi : i = nI k) (hn : k < mx_N σ a ∧ mx_N σ a < 2147483648) (h : mx_WP d mid (pc + 1) L (mx_l (mx_J σ a k) :: r) σ Q) (hs : mx_code mid pc = some .laload := by rfl) (hk : mx_knd a.2.1 = .inr .long := by rfl) : mx_WP d mid pc L (.inl i :: .inr (.inr (some a)) :: r) σ Q := mx_WP.ald (f := mx_isJ) (by unfold mx_step; rw [hs]; rfl) hk rfl hi hn h
theorem mx_WP.aald {a : mx_Ad} {i : Int32} {k : Nat} {C : String} (hi : i = nI k) (hn : k < mx_N σ a ∧ mx_N σ a < 2147483648) (h : mx_WP d mid (pc + 1) L (mx_r (mx_R σ a k) :: r) σ Q) (hs : mx_code mid pc = some .aaload := by rfl) (hk : mx_knd a.2.1 = .inr (.object C) := by rfl) : mx_WP d mid pc L (.inl i :: .inr (.inr (some a)) :: r) σ Q := mx_WP.ald (f := mx_isA) (by unfold mx_step; rw [hs]; rfl) hk rfl hi hn h
theorem mx_WP.iast {a : mx_Ad} {i v : Int32} {k : Nat} (hi : i = nI k) (hn : k < mx_N σ a ∧ mx_N σ a < 2147483648) (h : mx_WP d mid (pc + 1) L r (mx_sI σ a k v) Q) (hs : mx_code mid pc = some .iastore := by rfl) (hk : mx_knd a.2.1 = .inr .int := by rfl) (hg : Nat.blt a.1 2 = true := by rfl) : mx_WP d mid pc L (.inl v :: .inl i :: .inr (.inr (some a)) :: r) σ Q := by
  obtain ⟨h1, h2⟩ := mx_atn hi hn
  refine mx_WP.next ?_ h
  unfold mx_step
  rw [hs]
  show mx_iast (pc + 1) L (.inl v :: .inl i :: .inr (.inr (some a)) :: r) σ = _
  simp only [mx_iast, hk, hg, h1, Bool.and_self, cond_true, h2]
theorem mx_WP.bast {a : mx_Ad} {i v : Int32} {k : Nat} {ty : FieldType} (hi : i = nI k) (hn : k < mx_N σ a ∧ mx_N σ a < 2147483648) (h : mx_WP d mid (pc + 1) L r (mx_sI σ a k (vp_nar ty v)) Q) (hs : mx_code mid pc = some .bastore := by rfl) (hk : mx_knd a.2.1 = .inr ty := by rfl) (hty : ty = .byte ∨ ty = .boolean := by first | exact Or.inl rfl | exact Or.inr rfl) (hg : Nat.blt a.1 2 = true := by rfl) : mx_WP d mid pc L (.inl v :: .inl i :: .inr (.inr (some a)) :: r) σ Q := by
  obtain ⟨h1, h2⟩ := mx_atn hi hn
  refine mx_WP.next ?_ h
  unfold mx_step
  rw [hs]
  show mx_bast (pc + 1) L (.inl v :: .inl i :: .inr (.inr (some a)) :: r) σ = _
  rcases hty with rfl | rfl <;> simp only [mx_bast, hk, hg, h1, Bool.and_self, cond_true, h2]
theorem mx_WP.last {a : mx_Ad} {i : Int32} {v : Int64} {k : Nat} (hi : i = nI k) (hn : k < mx_N σ a ∧ mx_N σ a < 2147483648) (h : mx_WP d mid (pc + 1) L r (mx_sJ σ a k v) Q) (hs : mx_code mid pc = some .lastore := by rfl) (hk : mx_knd a.2.1 = .inr .long := by rfl) (hg : Nat.blt a.1 2 = true := by rfl) : mx_WP d mid pc L (.inr (.inl v) :: .inl i :: .inr (.inr (some a)) :: r) σ Q := by
  obtain ⟨h1, h2⟩ := mx_atn hi hn
  refine mx_WP.next ?_ h
  unfold mx_step
  rw [hs]
  show mx_last (pc + 1) L (.inr (.inl v) :: .inl i :: .inr (.inr (some a)) :: r) σ = _
  simp only [mx_last, hk, hg, h1, Bool.and_self, cond_true, h2]
end MXR
/-! the shape of both heaps after their constructors -/
def hC_r (h : Nat → Option mx_Ad) (t i k : Nat) : Option mx_Ad :=
  bif Nat.beq t 0 then (bif Nat.beq k 0 then some (0, 1, 0) else bif Nat.beq k 1 then some (0, 7, 0) else bif Nat.beq k 2 then some (0, 8, 0) else bif Nat.beq k 3 then some (0, 9, 0) else some (0, 10, 1)) else
  bif Nat.beq t 1 then (bif Nat.beq k 0 then some (0, 64, 0) else some (0, 2, 0)) else
  bif Nat.beq t 2 then some (0, 65 + k, i) else
  bif Nat.beq t 3 then some (0, 70 + k, i) else
  bif Nat.beq t 4 then (bif Nat.beq k 0 then some (0, 72, i) else some (0, 3, 0)) else
  bif Nat.beq t 5 then (bif Nat.beq k 0 then some (0, 4, i) else h i) else
  bif Nat.beq t 6 then (bif Nat.beq k 0 then some (0, 2, i + 1) else bif Nat.beq k 1 then some (0, 4, i) else some (0, 5, i)) else
  bif Nat.beq t 7 then (bif Nat.beq k 0 then some (0, 73, 0) else bif Nat.beq k 1 then some (0, 3, 0) else some (0, 10, 0)) else
  bif Nat.beq t 8 then (bif Nat.beq k 0 then some (0, 7, 0) else some (0, 73 + k, 0)) else
  bif Nat.beq t 9 then some (0, 77 + k, 0) else
  bif Nat.beq t 10 then some (0, 81, i) else
  bif Nat.beq t 72 then some (0, 3, 1 + 16 * i + k) else
  bif Nat.beq t 73 then some (0, 6, k) else none
def hC_n (t i : Nat) : Nat :=
  bif Nat.beq t 64 then 200 else bif Nat.beq t 65 then 3 else bif Nat.beq t 66 then 3 else bif Nat.beq t 67 then 3 else bif Nat.beq t 68 then 4 else bif Nat.beq t 69 then 4 else
  bif Nat.beq t 70 then 4 else bif Nat.beq t 71 then 4 else bif Nat.beq t 72 then 16 else bif Nat.beq t 73 then 8 else bif Nat.ble t 76 then 128 else bif Nat.ble t 80 then 24 else bif Nat.beq i 0 then 16 else 32
def hC_c (t : Nat) : Nat :=
  bif Nat.ble t 1 then 1 else bif Nat.beq t 2 then 9 else bif Nat.beq t 3 then 129 else bif Nat.ble t 6 then 8 else bif Nat.ble t 9 then 1 else bif Nat.beq t 10 then 2 else
  bif Nat.beq t 64 then 1 else bif Nat.ble t 64 then 0 else bif Nat.ble t 69 then 9 else bif Nat.ble t 71 then 129 else bif Nat.beq t 72 then 8 else bif Nat.ble t 80 then 1 else bif Nat.beq t 81 then 2 else 0
def hC (I : Nat → Nat → Nat → Int32) (J : Nat → Nat → Nat → Int64) (h : Nat → Option mx_Ad) : mx_Rg := (I, J, hC_r h, hC_c, hC_n)
def hM_r (t i k : Nat) : Option mx_Ad := bif Nat.ble k 9 then some (1, 82 + k, 0) else some (1, 77 + k, 0)
def hM_n (t : Nat) (i : Nat) : Nat := (([200, 9, 27, 27, 27, 9, 36, 9, 36, 9, 8, 8, 8, 8, 8, 8, 8, 8, 8, 8, 128, 512, 512, 128, 128, 128, 128, 128, 24, 24, 24, 32, 16, 24] : List Nat)[t - 82]?).getD 0
def hM_c (t : Nat) : Nat := bif Nat.beq t 11 then 1 else bif Nat.ble 82 t && Nat.ble t 115 then 1 else 0
def hM (I : Nat → Nat → Nat → Int32) (J : Nat → Nat → Nat → Int64) : mx_Rg := (I, J, hM_r, hM_c, hM_n)
