/-! constructors: rules -/
def rg_R (r : mx_Rg) (t i k : Nat) (v : Option mx_Ad) : mx_Rg := (r.1, r.2.1, mx_u3 r.2.2.1 t i k v, r.2.2.2)
def rg_I (r : mx_Rg) (t i k : Nat) (v : Int32) : mx_Rg := (mx_u3 r.1 t i k v, r.2)
def rg_let {α : Type} (r : mx_Rg) (f : mx_Rg → Option α) : Option α := f r
def oget (o : Option mx_Ad) (t : Nat) : Option Nat := match o with
  | some (0, t', j) => if t' = t then some j else none
  | _ => none
theorem oget_ok {o : Option mx_Ad} {t j : Nat} (h : oget o t = some j) : o = some (0, t, j) := by
  unfold oget at h
  split at h
  · split at h
    · rename_i e
      subst e
      cases h
      rfl
    · cases h
  · cases h
theorem mx_WP.gr {d mid pc pc' : Nat} {L : mx_L} {st r : List mx_V} {σ : mx_Hp} {Q : Option mx_V → mx_Hp → Prop} {o : Option mx_Ad} {a : mx_Ad} (hs : mx_step mid pc L st σ = some (.inl (pc', L, mx_r o :: r, σ))) (ho : o = some a) (h : mx_WP d mid pc' L (mx_r (some a) :: r) σ Q) : mx_WP d mid pc L st σ Q := by
  subst ho
  exact mx_WP.next hs h
theorem mx_WP.aastx {d mid pc : Nat} {L : mx_L} {r : List mx_V} {σ : mx_Hp} {Q : Option mx_V → mx_Hp → Prop} {a b : mx_Ad} {i : Int32} {C : String} {ci : Nat} (hn : ¬ (i < 0 ∨ mx_N σ a ≤ i.toNatClampNeg)) (h : mx_WP d mid (pc + 1) L r (mx_sR σ a i.toNatClampNeg (some b)) Q) (hs : mx_code mid pc = some .aastore := by rfl) (hk : mx_knd a.2.1 = .inr (.object C) := by rfl) (hkb : mx_knd b.2.1 = .inl ci := by rfl) (hg : Nat.blt a.1 2 = true := by rfl) (hgb : Nat.blt b.1 2 = true := by rfl) (hC : (mx_cls[ci]?).map (fun q => q.1) = some C := by rfl) : mx_WP d mid pc L (.inr (.inr (some b)) :: .inl i :: .inr (.inr (some a)) :: r) σ Q := by
  refine mx_WP.next ?_ h
  unfold mx_step
  rw [hs]
  show mx_aast (pc + 1) L (.inr (.inr (some b)) :: .inl i :: .inr (.inr (some a)) :: r) σ = _
  simp only [mx_aast, hk, hkb, hg, hgb, mx_atx hn, hC, decide_true, Bool.and_self, cond_true]
