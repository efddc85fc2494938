/-! the class and the reference hold the same -/
def fr {α : Type} (f' f : Nat → Nat → Nat → α) (ts : List Nat) : Prop := ∀ t, t ∉ ts → f' t = f t
theorem fr.rf {α : Type} (f : Nat → Nat → Nat → α) (ts : List Nat) : fr f f ts := fun _ _ => rfl
theorem fr.tr {α : Type} {a b c : Nat → Nat → Nat → α} {ts : List Nat} (h : fr a b ts) (h2 : fr b c ts) : fr a c ts := fun t ht => (h t ht).trans (h2 t ht)
theorem fr.up {α : Type} {a b : Nat → Nat → Nat → α} {ts : List Nat} (h : fr a b ts) {t i k : Nat} {v : α} (ht : t ∈ ts) : fr (mx_u3 a t i k v) b ts := by
  intro t2 h2
  have h3 : t2 ≠ t := fun q => h2 (by rw [q]; exact ht)
  exact (u3_ne h3).trans (h t2 h2)
theorem fr.wd {α : Type} {a b : Nat → Nat → Nat → α} {ts us : List Nat} (h : fr a b ts) (hs : ∀ t ∈ ts, t ∈ us) : fr a b us := fun t ht => h t (fun q => ht (hs t q))
abbrev mI := Nat → Nat → Nat → Int32
abbrev mJ := Nat → Nat → Nat → Int64
def bl (x : Int32) : Prop := x = 0 ∨ x = 1
def g_txt (I A : mI) : Prop := ∃ n, n ≤ 200 ∧ I 1 0 2 = Int32.ofNat n ∧ A 11 0 10 = Int32.ofNat n ∧ ∀ k, k < n → I 64 0 k = A 82 0 k
def g_nd (I A : mI) (w m : Nat) : Prop := ∃ n, n ≤ 3 ∧ I 2 w 5 = Int32.ofNat n ∧ A 83 0 m = Int32.ofNat n ∧ ∀ k, k < n → (∃ q, q < 8 ∧ I 65 w k = Int32.ofNat q ∧ A 84 0 (3 * m + k) = Int32.ofNat q) ∧ I 66 w k = A 85 0 (3 * m + k) ∧ I 67 w k = A 86 0 (3 * m + k)
def g_kd (x : Int32) : Prop := x = 0 ∨ x = 1 ∨ x = 2 ∨ x = 4 ∨ x = 5 ∨ x = 6
def g_cl (I A : mI) (J B : mJ) (w m : Nat) : Prop := ∃ n, n ≤ 4 ∧ I 2 w 6 = Int32.ofNat n ∧ A 87 0 m = Int32.ofNat n ∧ ∀ k, k < n → J 68 w k = B 90 0 (4 * m + k) ∧ I 69 w k = A 88 0 (4 * m + k) ∧ g_kd (A 88 0 (4 * m + k))
def g_st (I A : mI) (J B : mJ) (w m : Nat) : Prop := I 2 w 7 = A 89 0 m ∧ (A 89 0 m = 0 ∨ A 89 0 m = 1 ∨ A 89 0 m = 2) ∧ J 2 w 8 = if A 89 0 m = 0 then 0 else B 91 0 m
def rx (w : Nat) : Nat := if w = 0 then 8 else w - 1
def g_wir (I A : mI) (J B : mJ) : Prop := ∀ w, w < 9 → g_nd I A w (rx w) ∧ g_cl I A J B w (rx w) ∧ g_st I A J B w (rx w)
def g_pl (I A : mI) (p : Nat) : Prop := I 6 p 3 = A 92 0 p ∧ bl (A 92 0 p) ∧ I 6 p 4 = A 93 0 p ∧ bl (A 93 0 p) ∧ I 6 p 6 = A 94 0 p ∧ bl (A 94 0 p) ∧ I 6 p 5 = 0 ∧ A 95 0 p = 0 ∧ I 6 p 7 = A 96 0 p ∧ I 6 p 8 = A 99 0 p ∧ I 6 p 9 = A 97 0 p ∧ I 6 p 10 = A 98 0 p ∧ (A 97 0 p = -1 ∨ 0 ≤ A 97 0 p)
def g_plug (I A : mI) : Prop := ∀ p, p < 8 → g_pl I A p
def g_at (I A : mI) (J B : mJ) (p k : Nat) : Prop := ∃ a, a ≤ 4 ∧ I 3 (1 + 16 * p + k) 2 = Int32.ofNat a ∧ A 107 0 (16 * p + k) = Int32.ofNat a ∧ ∀ i, i < a → J 70 (1 + 16 * p + k) i = B 103 0 (4 * (16 * p + k) + i) ∧ J 71 (1 + 16 * p + k) i = B 104 0 (4 * (16 * p + k) + i) ∧ 0 ≤ B 104 0 (4 * (16 * p + k) + i)
/-- an element but for its attributes -/
def g_e0 (I A : mI) (J B : mJ) (p k : Nat) : Prop := I 3 (1 + 16 * p + k) 3 = Int32.ofNat k ∧ J 3 (1 + 16 * p + k) 7 = B 102 0 (16 * p + k) ∧ I 3 (1 + 16 * p + k) 6 = A 106 0 (16 * p + k) ∧ (∃ d, 1 ≤ d ∧ d ≤ 4 ∧ A 106 0 (16 * p + k) = Int32.ofNat d) ∧
  ((I 3 (1 + 16 * p + k) 4 = -1 ∧ A 105 0 (16 * p + k) = -1 ∧ I 3 (1 + 16 * p + k) 5 = Int32.ofNat k ∧ A 106 0 (16 * p + k) = 1) ∨ ∃ j, j < k ∧ I 3 (1 + 16 * p + k) 4 = Int32.ofNat j ∧ A 105 0 (16 * p + k) = Int32.ofNat (16 * p + j) ∧ I 3 (1 + 16 * p + k) 5 = I 3 (1 + 16 * p + j) 5 ∧ ¬ A 106 0 (16 * p + k) = 1)
def g_tr (I A : mI) (J B : mJ) (p : Nat) : Prop := ∃ n, n ≤ 16 ∧ I 4 p 2 = Int32.ofNat n ∧ (A 92 0 p = 0 → n = 0) ∧ (¬ A 92 0 p = 0 → A 100 0 p = Int32.ofNat n) ∧ ∀ k, k < n → g_e0 I A J B p k ∧ g_at I A J B p k
def g_tree (I A : mI) (J B : mJ) : Prop := ∀ p, p < 8 → g_tr I A J B p
def g_non (I : mI) (J : mJ) : Prop := I 3 0 2 = 0 ∧ I 3 0 3 = -1 ∧ I 3 0 4 = -1 ∧ I 3 0 5 = -1 ∧ I 3 0 6 = 0 ∧ J 3 0 7 = 0
/-- a need is met -/
def g_mt (A : mI) (p k : Nat) : Prop := ∀ q, q < 8 → A 84 0 (3 * p + k) = Int32.ofNat q → ¬ A 93 0 q = 0 ∧ ¬ A 96 0 q < A 85 0 (3 * p + k) ∧ ¬ A 86 0 (3 * p + k) < A 96 0 q
def g_re (A : mI) (p : Nat) : Prop := (¬ A 93 0 p = 0 → ¬ A 92 0 p = 0 ∧ ∀ n k, n ≤ 3 → A 83 0 p = Int32.ofNat n → k < n → g_mt A p k) ∧ (¬ A 94 0 p = 0 → ¬ A 93 0 p = 0)
def g_res (A : mI) : Prop := ∀ p, p < 8 → g_re A p
/-- the value of an attribute -/
def vof (N V : Nat → Int64) (nm : Int64) : Nat → Nat → Int64
  | _, 0 => -1
  | i, r + 1 => if N i = nm then V i else vof N V nm (i + 1) r
def vl (A : mI) (B : mJ) (t : Nat) (nm : Int64) : Int64 := vof (fun i => B 103 0 (4 * t + i)) (fun i => B 104 0 (4 * t + i)) nm 0 (A 107 0 t).toNatClampNeg
/-- an element is there -/
def ise (A : mI) (t : Nat) : Prop := ¬ A 92 0 (t / 16) = 0 ∧ Int32.ofNat (t % 16) < A 100 0 (t / 16)
/-- an outermost element of a resolved plugin -/
def tp (A : mI) (B : mJ) (t : Nat) (nm : Int64) : Prop := ise A t ∧ ¬ A 93 0 (t / 16) = 0 ∧ A 106 0 t = 1 ∧ B 102 0 t = nm
def Fi (P : Nat → Prop) (N : Nat) (r : Int32) : Prop := (r = -1 ∧ ∀ t, t < N → ¬ P t) ∨ ∃ t, t < N ∧ r = Int32.ofNat t ∧ P t ∧ ∀ s, s < t → ¬ P s
def w_pt : Int64 := 500068609904
def w_id : Int64 := 25705
def w_ex : Int64 := 7632997
def ptq (A : mI) (B : mJ) (w : Int64) (t : Nat) : Prop := 0 < w ∧ tp A B t w_pt ∧ vl A B t w_id = w
/-- the first point of its word -/
def isp (A : mI) (B : mJ) (t : Nat) : Prop := 0 < vl A B t w_id ∧ tp A B t w_pt ∧ ∀ s, s < t → ¬ ptq A B (vl A B t w_id) s
def g_pts (I A : mI) (B : mJ) : Prop := ∀ t, t < 128 → bl (I 74 0 t) ∧ (¬ I 74 0 t = 0 ↔ isp A B t)
def g_ext (I A : mI) (B : mJ) : Prop := ∀ t, t < 128 → I 75 0 t = A 108 0 t ∧ bl (A 108 0 t) ∧ (¬ A 108 0 t = 0 → tp A B t w_ex ∧ ∃ s, s < 128 ∧ ptq A B (vl A B t w_pt) s)
def g_mad (I A : mI) : Prop := ∃ n, n ≤ 24 ∧ I 9 0 4 = Int32.ofNat n ∧ A 11 0 39 = Int32.ofNat n ∧ (∀ k, k < n → I 77 0 k = A 110 0 k ∧ I 79 0 k = A 111 0 k ∧ I 78 0 k = A 112 0 k ∧ I 80 0 k = A 115 0 k ∧ bl (A 115 0 k) ∧ ∃ t, t < 128 ∧ A 112 0 k = Int32.ofNat t ∧ (A 115 0 k = 0 → ¬ A 108 0 t = 0)) ∧ ∀ k, n ≤ k → k < 24 → I 80 0 k = 0
def g_his (I A : mI) (i N a c : Nat) : Prop := I 10 i 2 = A 11 0 c ∧ ∃ x, x < N ∧ I 10 i 1 = Int32.ofNat x ∧ ∀ k, k < N → I 81 i ((x + (N - 1) - k) % N) = A a 0 k
def Sim (I : mI) (J : mJ) (A : mI) (B : mJ) : Prop := g_txt I A ∧ g_wir I A J B ∧ g_plug I A ∧ g_tree I A J B ∧ g_non I J ∧ g_res A ∧ g_pts I A B ∧ g_ext I A B ∧ g_mad I A ∧ g_his I A 1 32 113 40 ∧ g_his I A 0 16 114 41
/-! frames -/
section
variable {I I' A A' : mI} {J J' B B' : mJ} {ts us vs ws : List Nat}
theorem g_txt.fr (hI : fr I' I ts) (hA : fr A' A vs) (h10 : A' 11 0 10 = A 11 0 10) (d : (∀ t ∈ [1, 64], t ∉ ts) ∧ ∀ t ∈ [82], t ∉ vs) (h : g_txt I A) : g_txt I' A' := by
  unfold g_txt at h ⊢
  rw [hI 1 (d.1 1 (by decide)), hI 64 (d.1 64 (by decide)), hA 82 (d.2 82 (by decide)), h10]
  exact h
theorem g_nd.fr {w m : Nat} (hI : fr I' I ts) (hA : fr A' A vs) (d : (∀ t ∈ [2, 65, 66, 67], t ∉ ts) ∧ ∀ t ∈ [83, 84, 85, 86], t ∉ vs) (h : g_nd I A w m) : g_nd I' A' w m := by
  unfold g_nd at h ⊢
  rw [hI 2 (d.1 2 (by decide)), hI 65 (d.1 65 (by decide)), hI 66 (d.1 66 (by decide)), hI 67 (d.1 67 (by decide)), hA 83 (d.2 83 (by decide)), hA 84 (d.2 84 (by decide)), hA 85 (d.2 85 (by decide)), hA 86 (d.2 86 (by decide))]
  exact h
theorem g_cl.fr {w m : Nat} (hI : fr I' I ts) (hJ : fr J' J us) (hA : fr A' A vs) (hB : fr B' B ws) (d : (∀ t ∈ [2, 69], t ∉ ts) ∧ (∀ t ∈ [68], t ∉ us) ∧ (∀ t ∈ [87, 88], t ∉ vs) ∧ ∀ t ∈ [90], t ∉ ws) (h : g_cl I A J B w m) : g_cl I' A' J' B' w m := by
  unfold g_cl at h ⊢
  rw [hI 2 (d.1 2 (by decide)), hI 69 (d.1 69 (by decide)), hJ 68 (d.2.1 68 (by decide)), hA 87 (d.2.2.1 87 (by decide)), hA 88 (d.2.2.1 88 (by decide)), hB 90 (d.2.2.2 90 (by decide))]
  exact h
theorem g_st.fr {w m : Nat} (hI : fr I' I ts) (hJ : fr J' J us) (hA : fr A' A vs) (hB : fr B' B ws) (d : (∀ t ∈ [2], t ∉ ts) ∧ (∀ t ∈ [2], t ∉ us) ∧ (∀ t ∈ [89], t ∉ vs) ∧ ∀ t ∈ [91], t ∉ ws) (h : g_st I A J B w m) : g_st I' A' J' B' w m := by
  unfold g_st at h ⊢
  rw [hI 2 (d.1 2 (by decide)), hJ 2 (d.2.1 2 (by decide)), hA 89 (d.2.2.1 89 (by decide)), hB 91 (d.2.2.2 91 (by decide))]
  exact h
theorem g_wir.fr (hI : fr I' I ts) (hJ : fr J' J us) (hA : fr A' A vs) (hB : fr B' B ws) (d : (∀ t ∈ [2, 65, 66, 67, 69], t ∉ ts) ∧ (∀ t ∈ [2, 68], t ∉ us) ∧ (∀ t ∈ [83, 84, 85, 86, 87, 88, 89], t ∉ vs) ∧ ∀ t ∈ [90, 91], t ∉ ws) (h : g_wir I A J B) : g_wir I' A' J' B' := by
  intro w hw
  obtain ⟨h1, h2, h3⟩ := h w hw
  refine ⟨h1.fr hI hA ⟨fun t ht => d.1 t ?_, fun t ht => d.2.2.1 t ?_⟩, h2.fr hI hJ hA hB ⟨fun t ht => d.1 t ?_, fun t ht => d.2.1 t ?_, fun t ht => d.2.2.1 t ?_, fun t ht => d.2.2.2 t ?_⟩, h3.fr hI hJ hA hB ⟨fun t ht => d.1 t ?_, fun t ht => d.2.1 t ?_, fun t ht => d.2.2.1 t ?_, fun t ht => d.2.2.2 t ?_⟩⟩ <;> simp at ht ⊢ <;> omega
theorem g_plug.fr (hI : fr I' I ts) (hA : fr A' A vs) (d : (∀ t ∈ [6], t ∉ ts) ∧ ∀ t ∈ [92, 93, 94, 95, 96, 97, 98, 99], t ∉ vs) (h : g_plug I A) : g_plug I' A' := by
  intro p hp
  have h2 := h p hp
  unfold g_pl at h2 ⊢
  rw [hI 6 (d.1 6 (by decide)), hA 92 (d.2 92 (by decide)), hA 93 (d.2 93 (by decide)), hA 94 (d.2 94 (by decide)), hA 95 (d.2 95 (by decide)), hA 96 (d.2 96 (by decide)), hA 97 (d.2 97 (by decide)), hA 98 (d.2 98 (by decide)), hA 99 (d.2 99 (by decide))]
  exact h2
theorem g_tr.fr {p : Nat} (hI : fr I' I ts) (hJ : fr J' J us) (hA : fr A' A vs) (hB : fr B' B ws) (d : (∀ t ∈ [3, 4], t ∉ ts) ∧ (∀ t ∈ [3, 70, 71], t ∉ us) ∧ (∀ t ∈ [92, 100, 105, 106, 107], t ∉ vs) ∧ ∀ t ∈ [102, 103, 104], t ∉ ws) (h : g_tr I A J B p) : g_tr I' A' J' B' p := by
  unfold g_tr g_e0 g_at at h ⊢
  rw [hI 3 (d.1 3 (by decide)), hI 4 (d.1 4 (by decide)), hJ 3 (d.2.1 3 (by decide)), hJ 70 (d.2.1 70 (by decide)), hJ 71 (d.2.1 71 (by decide)), hA 92 (d.2.2.1 92 (by decide)), hA 100 (d.2.2.1 100 (by decide)), hA 105 (d.2.2.1 105 (by decide)), hA 106 (d.2.2.1 106 (by decide)), hA 107 (d.2.2.1 107 (by decide)), hB 102 (d.2.2.2 102 (by decide)), hB 103 (d.2.2.2 103 (by decide)), hB 104 (d.2.2.2 104 (by decide))]
  exact h
theorem g_tree.fr (hI : fr I' I ts) (hJ : fr J' J us) (hA : fr A' A vs) (hB : fr B' B ws) (d : (∀ t ∈ [3, 4], t ∉ ts) ∧ (∀ t ∈ [3, 70, 71], t ∉ us) ∧ (∀ t ∈ [92, 100, 105, 106, 107], t ∉ vs) ∧ ∀ t ∈ [102, 103, 104], t ∉ ws) (h : g_tree I A J B) : g_tree I' A' J' B' := fun p hp => (h p hp).fr hI hJ hA hB d
theorem g_non.fr (hI : fr I' I ts) (hJ : fr J' J us) (d : (∀ t ∈ [3], t ∉ ts) ∧ ∀ t ∈ [3], t ∉ us) (h : g_non I J) : g_non I' J' := by
  unfold g_non at h ⊢
  rw [hI 3 (d.1 3 (by decide)), hJ 3 (d.2 3 (by decide))]
  exact h
theorem g_res.fr (hA : fr A' A vs) (d : ∀ t ∈ [83, 84, 85, 86, 92, 93, 94, 96], t ∉ vs) (h : g_res A) : g_res A' := by
  intro p hp
  have h2 := h p hp
  unfold g_re g_mt at h2 ⊢
  rw [hA 83 (d 83 (by decide)), hA 84 (d 84 (by decide)), hA 85 (d 85 (by decide)), hA 86 (d 86 (by decide)), hA 92 (d 92 (by decide)), hA 93 (d 93 (by decide)), hA 94 (d 94 (by decide)), hA 96 (d 96 (by decide))]
  exact h2
theorem tp_fr (hA : fr A' A vs) (hB : fr B' B ws) (d : (∀ t ∈ [92, 93, 100, 106, 107], t ∉ vs) ∧ ∀ t ∈ [102, 103, 104], t ∉ ws) : tp A' B' = tp A B ∧ vl A' B' = vl A B := by
  unfold tp vl ise
  rw [hA 92 (d.1 92 (by decide)), hA 93 (d.1 93 (by decide)), hA 100 (d.1 100 (by decide)), hA 106 (d.1 106 (by decide)), hA 107 (d.1 107 (by decide)), hB 102 (d.2 102 (by decide)), hB 103 (d.2 103 (by decide)), hB 104 (d.2 104 (by decide))]
  exact ⟨rfl, rfl⟩
theorem g_pts.fr (hI : fr I' I ts) (hA : fr A' A vs) (hB : fr B' B ws) (d : (∀ t ∈ [74], t ∉ ts) ∧ (∀ t ∈ [92, 93, 100, 106, 107], t ∉ vs) ∧ ∀ t ∈ [102, 103, 104], t ∉ ws) (h : g_pts I A B) : g_pts I' A' B' := by
  obtain ⟨e1, e2⟩ := tp_fr hA hB d.2
  unfold g_pts isp ptq at h ⊢
  rw [hI 74 (d.1 74 (by decide)), e1, e2]
  exact h
theorem g_ext.fr (hI : fr I' I ts) (hA : fr A' A vs) (hB : fr B' B ws) (d : (∀ t ∈ [75], t ∉ ts) ∧ (∀ t ∈ [92, 93, 100, 106, 107, 108], t ∉ vs) ∧ ∀ t ∈ [102, 103, 104], t ∉ ws) (h : g_ext I A B) : g_ext I' A' B' := by
  obtain ⟨e1, e2⟩ := tp_fr hA hB ⟨fun t ht => d.2.1 t (by simp at ht ⊢; omega), d.2.2⟩
  unfold g_ext ptq at h ⊢
  rw [hI 75 (d.1 75 (by decide)), hA 108 (d.2.1 108 (by decide)), e1, e2]
  exact h
theorem g_mad.fr (hI : fr I' I ts) (hA : fr A' A vs) (h39 : A' 11 0 39 = A 11 0 39) (d : (∀ t ∈ [9, 77, 78, 79, 80], t ∉ ts) ∧ ∀ t ∈ [108, 110, 111, 112, 115], t ∉ vs) (h : g_mad I A) : g_mad I' A' := by
  unfold g_mad at h ⊢
  rw [hI 9 (d.1 9 (by decide)), hI 77 (d.1 77 (by decide)), hI 78 (d.1 78 (by decide)), hI 79 (d.1 79 (by decide)), hI 80 (d.1 80 (by decide)), hA 108 (d.2 108 (by decide)), hA 110 (d.2 110 (by decide)), hA 111 (d.2 111 (by decide)), hA 112 (d.2 112 (by decide)), hA 115 (d.2 115 (by decide)), h39]
  exact h
theorem g_his.fr {i N a c : Nat} (hI : fr I' I ts) (hA : fr A' A vs) (hc : A' 11 0 c = A 11 0 c) (d : (∀ t ∈ [10, 81], t ∉ ts) ∧ a ∉ vs) (h : g_his I A i N a c) : g_his I' A' i N a c := by
  unfold g_his at h ⊢
  rw [hI 10 (d.1 10 (by decide)), hI 81 (d.1 81 (by decide)), hA a d.2, hc]
  exact h
end
theorem Sim.ini : Sim (fun t _ k => ini_i t k) (fun _ _ _ => 0) (fun t _ k => ini_i t k) (fun _ _ _ => 0) := by
  refine ⟨⟨0, by decide, rfl, rfl, fun k h => absurd h (by omega)⟩, fun w hw => ⟨⟨0, by decide, rfl, rfl, fun k h => absurd h (by omega)⟩, ⟨0, by decide, rfl, rfl, fun k h => absurd h (by omega)⟩, rfl, .inl rfl, rfl⟩, fun p hp => ⟨rfl, .inl rfl, rfl, .inl rfl, rfl, .inl rfl, rfl, rfl, rfl, rfl, rfl, rfl, .inr (show (0 : Int32) ≤ 0 by decide)⟩, fun p hp => ⟨0, by decide, rfl, fun _ => rfl, fun _ => rfl, fun k h => absurd h (by omega)⟩, ⟨rfl, rfl, rfl, rfl, rfl, rfl⟩, fun p hp => ⟨fun h => absurd rfl h, fun h => absurd rfl h⟩, fun t ht => ⟨.inl rfl, fun h => absurd rfl h, fun h => absurd rfl h.2.1.1.1⟩, fun t ht => ⟨rfl, .inl rfl, fun h => absurd rfl h⟩, ⟨0, by decide, rfl, rfl, fun k h => absurd h (by omega), fun k _ _ => rfl⟩, ⟨rfl, 0, by decide, rfl, fun k _ => rfl⟩, ⟨rfl, 0, by decide, rfl, fun k _ => rfl⟩⟩
