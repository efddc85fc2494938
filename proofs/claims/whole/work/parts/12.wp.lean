/-! runs of the abstract machine, from their ends -/
theorem mx_ev_up : ∀ (n : Nat) {d d2 mid pc : Nat} {L : mx_L} {st : List mx_V} {σ : mx_Hp} {o : Option mx_V × mx_Hp}, mx_ev n d mid pc L st σ = some o → d ≤ d2 → ∀ k, mx_ev (n + k) d2 mid pc L st σ = some o := by
  intro n
  induction n with
  | zero =>
    intro d d2 mid pc L st σ o h
    simp only [mx_ev] at h
    cases h
  | succ n ih =>
    intro d d2 mid pc L st σ o h hd k
    rw [show n + 1 + k = (n + k) + 1 by omega]
    simp only [mx_ev] at h ⊢
    cases hs : mx_step mid pc L st σ with
    | none =>
      rw [hs] at h
      cases h
    | some x =>
      rw [hs] at h
      match x, h with
      | .inl (pc1, L1, st1, σ1), h => exact ih h hd k
      | .inr (.inr v), h => exact h
      | .inr (.inl (y, as, pc1, r)), h =>
        match d, d2, h, hd with
        | 0, _, h, _ => cases h
        | d1 + 1, 0, h, hd => omega
        | d1 + 1, d3 + 1, h, hd =>
          simp only at h ⊢
          obtain ⟨hb, h⟩ := mx_bif h rfl
          rw [hb]
          simp only [cond_true]
          cases hc : mx_ev n d1 y 0 (mx_ent y as) [] σ with
          | none =>
            rw [hc] at h
            cases h
          | some z =>
            rw [hc] at h
            rw [ih hc (by omega) k]
            obtain ⟨v1, σ1⟩ := z
            exact ih h hd k
def mx_WP (d mid pc : Nat) (L : mx_L) (st : List mx_V) (σ : mx_Hp) (Q : Option mx_V → mx_Hp → Prop) : Prop := ∃ n v σ', mx_ev n d mid pc L st σ = some (v, σ') ∧ Q v σ'
section MXP
variable {d mid pc : Nat} {L : mx_L} {st : List mx_V} {σ : mx_Hp} {Q : Option mx_V → mx_Hp → Prop}
theorem mx_WP.mono {Q' : Option mx_V → mx_Hp → Prop} (h : mx_WP d mid pc L st σ Q) (hq : ∀ v σ', Q v σ' → Q' v σ') : mx_WP d mid pc L st σ Q' := by
  obtain ⟨n, v, σ', h1, h2⟩ := h
  exact ⟨n, v, σ', h1, hq v σ' h2⟩
theorem mx_WP.up {d2 : Nat} (h : mx_WP d mid pc L st σ Q) (hd : d ≤ d2) : mx_WP d2 mid pc L st σ Q := by
  obtain ⟨n, v, σ', h1, h2⟩ := h
  exact ⟨n, v, σ', mx_ev_up n h1 hd 0, h2⟩
theorem mx_WP.next {pc' : Nat} {L' : mx_L} {st' : List mx_V} {σ' : mx_Hp} (hs : mx_step mid pc L st σ = some (.inl (pc', L', st', σ'))) (h : mx_WP d mid pc' L' st' σ' Q) : mx_WP d mid pc L st σ Q := by
  obtain ⟨n, v, σ2, h1, h2⟩ := h
  refine ⟨n + 1, v, σ2, ?_, h2⟩
  simp only [mx_ev, hs]
  exact h1
theorem mx_WP.ret {v : Option mx_V} (hs : mx_step mid pc L st σ = some (.inr (.inr v))) (h : Q v σ) : mx_WP d mid pc L st σ Q := by
  refine ⟨1, v, σ, ?_, h⟩
  simp only [mx_ev, hs]
theorem mx_WP.call {y : Nat} {as : List mx_V} {pc' : Nat} {r : List mx_V} (hs : mx_step mid pc L st σ = some (.inr (.inl (y, as, pc', r)))) (hl : Nat.ble (mx_args as).length (mx_mL y) = true) (h : mx_WP d y 0 (mx_ent y as) [] σ (fun v σ' => mx_WP (d + 1) mid pc' L (mx_psh v r) σ' Q)) : mx_WP (d + 1) mid pc L st σ Q := by
  obtain ⟨n, v, σ1, h1, n2, v2, σ2, h2, h3⟩ := h
  refine ⟨n + n2 + 1, v2, σ2, ?_, h3⟩
  simp only [mx_ev, hs, hl, cond_true]
  rw [mx_ev_up n h1 (Nat.le_refl _) n2, Nat.add_comm n n2]
  exact mx_ev_up n2 h2 (Nat.le_refl _) n
/-- some steps at once -/
def mx_go : Nat → Nat → Nat → mx_L → List mx_V → mx_Hp → Option mx_St
  | 0, _, pc, L, st, σ => some (pc, L, st, σ)
  | n + 1, mid, pc, L, st, σ => match mx_step mid pc L st σ with
    | some (.inl (pc', L', st', σ')) => mx_go n mid pc' L' st' σ'
    | _ => none
theorem mx_WP.go : ∀ (n : Nat) {pc : Nat} {L : mx_L} {st : List mx_V} {σ : mx_Hp} {pc' : Nat} {L' : mx_L} {st' : List mx_V} {σ' : mx_Hp}, mx_go n mid pc L st σ = some (pc', L', st', σ') → mx_WP d mid pc' L' st' σ' Q → mx_WP d mid pc L st σ Q := by
  intro n
  induction n with
  | zero =>
    intro pc L st σ pc' L' st' σ' h k
    simp only [mx_go] at h
    cases h
    exact k
  | succ n ih =>
    intro pc L st σ pc' L' st' σ' h k
    simp only [mx_go] at h
    split at h
    · rename_i pc1 L1 st1 σ1 hs
      exact mx_WP.next hs (ih h k)
    · cases h
end MXP
