theorem mx_nmU {D : mx_D} {s : State} (h : mx_SW D s) {a : String} {i : Nat} {y : MethodName} {host : String} (hh : (a, i, y, host) ∈ mx_nm) : va_Nw (.methodLinkNest a i y host) s := by
  obtain ⟨-, -, -, h4, -⟩ := h
  exact h4 _ hh
theorem mx_pop_i : ∀ (n : Nat) (st acc : List mx_V) {as r : List mx_V}, mx_pop n st acc = some (as, r) → ∃ xs, as = xs ++ acc ∧ xs.length = n ∧ st = xs.reverse ++ r := by
  intro n
  induction n with
  | zero =>
    intro st acc as r h
    simp only [mx_pop] at h
    cases h
    exact ⟨[], rfl, rfl, rfl⟩
  | succ n ih =>
    intro st acc as r h
    cases st with
    | nil =>
      simp only [mx_pop] at h
      cases h
    | cons v st =>
      simp only [mx_pop] at h
      obtain ⟨xs, h1, h2, h3⟩ := ih st (v :: acc) h
      exact ⟨xs ++ [v], by simp [h1], by simp [h2], by simp [h3]⟩
theorem mx_step_i {mid pc : Nat} {L : mx_L} {st : List mx_V} {σ : mx_Hp} {o : mx_Rs} (h : mx_step mid pc L st σ = some o) : ∃ i, mx_code mid pc = some i ∧ mx_exec mid pc i L st σ = some o := by
  unfold mx_step at h
  split at h
  · exact ⟨_, by assumption, h⟩
  · cases h
/-- how a run begins -/
theorem mx_ev_i {n d mid pc : Nat} {L : mx_L} {st : List mx_V} {σ σ' : mx_Hp} {v : Option mx_V} (h : mx_ev (n + 1) d mid pc L st σ = some (v, σ')) :
    (∃ i pc1 L1 st1 σ1, mx_code mid pc = some i ∧ mx_exec mid pc i L st σ = some (.inl (pc1, L1, st1, σ1)) ∧ mx_ev n d mid pc1 L1 st1 σ1 = some (v, σ')) ∨
    (∃ i y as pc1 r d1 v1 σ1, d = d1 + 1 ∧ mx_code mid pc = some i ∧ mx_exec mid pc i L st σ = some (.inr (.inl (y, as, pc1, r))) ∧ (mx_args as).length ≤ mx_mL y ∧ mx_ev n d1 y 0 (mx_ent y as) [] σ = some (v1, σ1) ∧ mx_ev n d mid pc1 L (mx_psh v1 r) σ1 = some (v, σ')) ∨
    (∃ i, mx_code mid pc = some i ∧ mx_exec mid pc i L st σ = some (.inr (.inr v)) ∧ σ' = σ) := by
  simp only [mx_ev] at h
  split at h
  · cases h
  · rename_i pc1 L1 st1 σ1 hs
    obtain ⟨i, h1, h2⟩ := mx_step_i hs
    exact Or.inl ⟨i, pc1, L1, st1, σ1, h1, h2, h⟩
  · rename_i y as pc1 r hs
    obtain ⟨i, h1, h2⟩ := mx_step_i hs
    split at h
    · cases h
    · rename_i d1
      obtain ⟨hb, h⟩ := mx_bif h rfl
      split at h
      · cases h
      · rename_i v1 σ1 h3
        exact Or.inr (Or.inl ⟨i, y, as, pc1, r, d1, v1, σ1, rfl, h1, h2, by simpa [Nat.ble_eq] using hb, h3, h⟩)
  · rename_i v1 hs
    obtain ⟨i, h1, h2⟩ := mx_step_i hs
    cases h
    exact Or.inr (Or.inr ⟨i, h1, h2, rfl⟩)
theorem mx_ev_K : ∀ (n : Nat) {d mid pc : Nat} {L : mx_L} {st : List mx_V} {σ σ' : mx_Hp} {v : Option mx_V}, mx_ev n d mid pc L st σ = some (v, σ') → mx_K σ ≤ mx_K σ' ∧ mx_Z σ ≤ mx_Z σ' := by
  intro n
  induction n with
  | zero =>
    intro d mid pc L st σ σ' v h
    simp only [mx_ev] at h
    cases h
  | succ n ih =>
    intro d mid pc L st σ σ' v h
    rcases mx_ev_i h with ⟨i, pc1, L1, st1, σ1, h1, h2, h3⟩ | ⟨i, y, as, pc1, r, d1, v1, σ1, rfl, h1, h2, h3, h4, h5⟩ | ⟨i, h1, h2, rfl⟩
    · have a1 := mx_exec_K h2
      have a2 := ih h3
      exact ⟨Nat.le_trans a1.1 a2.1, Nat.le_trans a1.2 a2.2⟩
    · have a1 := ih h4
      have a2 := ih h5
      exact ⟨Nat.le_trans a1.1 a2.1, Nat.le_trans a1.2 a2.2⟩
    · exact ⟨Nat.le_refl _, Nat.le_refl _⟩
/-- words, room, start and end of a method -/
def mx_wsy (y : Nat) : List Cond := Cond.code (mx_my y) (mx_mb y) (mx_mL y) (mx_mr y) :: mx_GT
def mx_rm (d : Nat) (σ σ' : mx_Hp) : Room := { frames := d + 1, cells := mx_K σ' - mx_K σ, slots := mx_Z σ' - mx_Z σ, locals := (d + 1) * 64 }
def mx_Pc (D : mx_D) (z0 : Nat) (ρ : mx_Ad → Nat) (σ : mx_Hp) (as : List mx_V) : Array Value → State → Prop := fun v U => v = (as.map (mx_tv ρ)).toArray ∧ mx_Rep D z0 ρ σ U.heap ∧ mx_SW D U ∧ (∀ x ∈ as, mx_vk σ x) ∧ z0 ≤ U.heap.size
def mx_Qc (D : mx_D) (z0 : Nat) (ρ : mx_Ad → Nat) (σ : mx_Hp) (v : Option mx_V) (σ' : mx_Hp) : Array Value → State → Outcome → State → Prop := fun _ _ o t => ∃ ρ', o = .returned (v.map (mx_tv ρ')) ∧ mx_Rep D z0 ρ' σ' t.heap ∧ mx_Ext ρ σ ρ' σ' ∧ (∀ w, v = some w → mx_vk σ' w) ∧ z0 ≤ t.heap.size
theorem mx_good (y : Nat) (hy : y < mx_NM) : GoodIn mx_GT (mx_wsy y) := by
  intro w hw
  have hin : w ∈ mx_GT := by
    rcases List.mem_cons.mp hw with rfl | h
    · exact (mx_meth_ok hy).1
    · exact h
  exact ⟨hin, mx_GT_ok w hin⟩
/-- what is claimed of runs of n steps -/
def mx_Wk (n : Nat) : Prop := ∀ (d mid pc : Nat) (L : mx_L) (st : List mx_V) (σ : mx_Hp) (v : Option mx_V) (σ' : mx_Hp), mx_ev n d mid pc L st σ = some (v, σ') →
  ∀ (p : Program) (l : Launch) (e : Env) (R : Room) (s : State) (m : MethodId) (args : Array Value) (below : List Frame) (meth : Method) (c : Code) (H : Heap) (locs : List Loc) (cells slots : Nat) (Q : State → Prop) (ls : Array Slot) (D : mx_D) (z0 K0 Z0 : Nat) (ρ : mx_Ad → Nat),
    mx_Cx p s m args meth c R D mid d → mx_At D z0 K0 Z0 (mx_mL mid) ρ σ L st H locs cells slots ls → mx_K σ' ≤ R.cells + K0 → mx_Z σ' ≤ R.slots + Z0 →
    (∀ (ρ' : mx_Ad → Nat) (pc' : Nat) (ls' : Array Slot) (H' : Heap) (locs' : List Loc) (cells' slots' : Nat) (L' : mx_L), mx_At D z0 K0 Z0 (mx_mL mid) ρ' σ' L' v.toList H' locs' cells' slots' ls' → mx_Ext ρ σ ρ' σ' → mx_isR mid pc' v → W p l e R s m args below meth c H' locs' cells' slots' Q (F0 m pc' ls' (v.toList.map (mx_tv ρ')))) →
    W p l e R s m args below meth c H locs cells slots Q (F0 m pc ls (st.map (mx_tv ρ)))
theorem mx_args_len (ρ : mx_Ad → Nat) (as : List mx_V) : (lg_sl (as.map (mx_tv ρ))).length = (mx_args as).length := by
  induction as with
  | nil => rfl
  | cons v as ih =>
    unfold lg_sl at ih ⊢
    rw [List.map_cons, List.flatMap_cons, List.length_append, ih, mx_tv_cat]
    match v with
    | .inl x => simp [mx_w, mx_args]; omega
    | .inr (.inl x) => simp [mx_w, mx_args]; omega
    | .inr (.inr x) => simp [mx_w, mx_args]; omega
theorem mx_args_get (ρ : mx_Ad → Nat) : ∀ (as : List mx_V) (j i : Nat) (v : mx_V), (mx_args as)[i]? = some (some v) → (j + i, mx_tv ρ v) ∈ lv_args j (as.map (mx_tv ρ)) ∧ v ∈ as := by
  intro as
  induction as with
  | nil =>
    intro j i v h
    simp [mx_args] at h
  | cons w as ih =>
    intro j i v h
    rw [List.map_cons]
    simp only [lv_args, mx_tv_cat]
    match w, h with
    | .inl x, h =>
      match i, h with
      | 0, h =>
        simp [mx_args] at h
        subst h
        exact ⟨List.mem_cons_self, List.mem_cons_self⟩
      | i + 1, h =>
        simp only [mx_args, List.getElem?_cons_succ] at h
        have h2 := ih (j + 1) i v h
        refine ⟨List.mem_cons_of_mem _ ?_, List.mem_cons_of_mem _ h2.2⟩
        rw [if_neg (by simp [mx_w]), show j + (i + 1) = j + 1 + i by omega]
        exact h2.1
    | .inr (.inr x), h =>
      match i, h with
      | 0, h =>
        simp [mx_args] at h
        subst h
        exact ⟨List.mem_cons_self, List.mem_cons_self⟩
      | i + 1, h =>
        simp only [mx_args, List.getElem?_cons_succ] at h
        have h2 := ih (j + 1) i v h
        refine ⟨List.mem_cons_of_mem _ ?_, List.mem_cons_of_mem _ h2.2⟩
        rw [if_neg (by simp [mx_w]), show j + (i + 1) = j + 1 + i by omega]
        exact h2.1
    | .inr (.inl x), h =>
      match i, h with
      | 0, h =>
        simp [mx_args] at h
        subst h
        exact ⟨List.mem_cons_self, List.mem_cons_self⟩
      | 1, h => simp [mx_args] at h
      | i + 2, h =>
        simp only [mx_args, List.getElem?_cons_succ] at h
        have h2 := ih (j + 2) i v h
        refine ⟨List.mem_cons_of_mem _ ?_, List.mem_cons_of_mem _ h2.2⟩
        rw [if_pos (by simp [mx_w]), show j + (i + 2) = j + 2 + i by omega]
        exact h2.1
theorem mx_ent_get {ρ : mx_Ad → Nat} {y : Nat} {as : List mx_V} {i : Nat} {v : mx_V} (h : (mx_ent y as)[i]? = some (some v)) : (i, mx_tv ρ v) ∈ lv_args 0 (as.map (mx_tv ρ)) ∧ v ∈ as := by
  unfold mx_ent at h
  rw [List.getElem?_append] at h
  split at h
  · have h2 := mx_args_get ρ as 0 i v h
    rw [Nat.zero_add] at h2
    exact h2
  · have hm := List.mem_of_getElem? h
    rw [List.mem_replicate] at hm
    cases hm.2
set_option maxHeartbeats 4000000 in
/-- a method's contract, out of its run -/
theorem mx_metOf {n : Nat} (ih : mx_Wk n) {d y : Nat} {as : List mx_V} {σ : mx_Hp} {v : Option mx_V} {σ' : mx_Hp} (h : mx_ev n d y 0 (mx_ent y as) [] σ = some (v, σ')) (hy : y < mx_NM) (hlen : (mx_args as).length ≤ mx_mL y) (l : Launch) (D : mx_D) (z0 : Nat) (ρ : mx_Ad → Nat) :
    Met l (mx_my y) (mx_wsy y) (mx_rm d σ σ') (mx_Pc D z0 ρ σ as) (mx_Qc D z0 ρ σ v σ') (mx_K σ' - mx_K σ) (mx_Z σ' - mx_Z σ) (fun q => z0 ≤ q) := by
  obtain ⟨hm1, hm2, hm3, hm4, hm5, hm6, hm7, hm8, hm9, hm10, hm11⟩ := mx_meth_ok hy
  have hKm := mx_ev_K n h
  refine va_MetF (cc := mx_mb y) (maxL := mx_mL y) (ret := mx_mr y) hm2 rfl ?_
  intro p e s m args below meth c s₁ B hml hv
  obtain ⟨rfl, hRep, hSW, hvk, hz⟩ := hv
  have hx := B.exec
  have hb := B.bytes
  have hr := B.returns
  have hlocks := B.notSynchronized
  have hts := atoms_spec (ws := mx_wsy y) B.pre
  have hown : s.vm.findClass (mx_own (mx_mc y)) = some m.cls := by
    rw [hm9]
    exact findClass_of_methodNamed B.named
  have hnm : meth.name = (mx_my y).name := (name_of_methodNamed B.named B.method).1
  rw [lg_entry_eq]
  have hl := lv_entry (as.map (mx_tv ρ)) (n := mx_mL y) (by rw [mx_args_len]; exact hlen)
  generalize (lg_sl (as.map (mx_tv ρ)) ++ List.replicate (mx_mL y - (lg_sl (as.map (mx_tv ρ))).length) Slot.unset).toArray = ls at hl ⊢
  have hA : mx_At D z0 (mx_K σ) (mx_Z σ) (mx_mL y) ρ σ (mx_ent y as) [] s.heap [] 0 0 ls :=
    ⟨hRep, ⟨hl.1, hl.2.1, fun i w hw _ => hl.2.2 _ (mx_ent_get hw).1⟩, ⟨fun w hw => (by cases hw), fun i w hw => hvk w (mx_ent_get (ρ := ρ) hw).2⟩, fun q hq => (by cases hq), Nat.zero_add _, Nat.zero_add _, hz⟩
  have Cx : mx_Cx p s m (as.map (mx_tv ρ)).toArray meth c (headSpec (mx_wsy y) (mx_rm d σ σ')).room D y d :=
    ⟨hx, hb, hml, hown, fun w hw => hts w (List.mem_cons_of_mem _ hw), hSW, fun hi => by rw [hnm]; exact hm8 hi, Nat.le_refl _, Nat.le_refl _⟩
  refine ih d y 0 (mx_ent y as) [] σ v σ' h p l e _ s m _ below meth c s.heap [] 0 0 _ ls D z0 (mx_K σ) (mx_Z σ) ρ Cx hA ?_ ?_ ?_
  · show mx_K σ' ≤ (mx_K σ' - mx_K σ) + mx_K σ
    omega
  · show mx_Z σ' ≤ (mx_Z σ' - mx_Z σ) + mx_Z σ
    omega
  · intro ρ' pc' ls' H' locs' cells' slots' L' hA' hE hR
    obtain ⟨r1, r2, r3, r4, r5, r6, r7⟩ := hA'
    have e1 : cells' = mx_K σ' - mx_K σ := by omega
    have e2 : slots' = mx_Z σ' - mx_Z σ := by omega
    subst e1
    subst e2
    have hQ : ∀ t : State, t.heap = H' → s.WarmedH t.vm → mx_Qc D z0 ρ σ v σ' (as.map (mx_tv ρ)).toArray s (.returned (v.map (mx_tv ρ'))) t := fun t ht _ => ⟨ρ', rfl, by rw [ht]; exact r1, hE, fun w hw => r3.1 w (by rw [hw]; exact List.mem_cons_self), by rw [ht]; exact r7⟩
    rcases hR with ⟨rfl, h2, h3⟩ | ⟨x, rfl, h2, h3⟩ | ⟨x, rfl, h2, h3⟩ | ⟨x, rfl, h2, h3⟩
    · exact W.vret hx hb (hr.trans h2) hQ r4 h3
    · rcases h2 with h2 | ⟨h2, h4⟩
      · exact W.iret hx hb (hr.trans h2) hQ r4 h3
      · exact W.zret hx hb (hr.trans h2) (by rcases h4 with rfl | rfl <;> decide) hQ r4 h3
    · exact W.lret hx hb (hr.trans h2) hQ r4 h3
    · rcases h2 with ⟨nm, h2⟩ | ⟨t, h2⟩
      · refine W.aret hx hb (hr.trans h2) (Or.inl ⟨nm, rfl⟩) ?_ hQ r4 h3
        cases x with
        | none => exact Or.inl rfl
        | some a => exact Or.inr ⟨_, rfl⟩
      · refine W.aret hx hb (hr.trans h2) (Or.inr ⟨t, rfl⟩) ?_ hQ r4 h3
        cases x with
        | none => exact Or.inl rfl
        | some a => exact Or.inr ⟨_, rfl⟩
theorem mx_blind (D : mx_D) (z0 : Nat) (ρ : mx_Ad → Nat) (σ : mx_Hp) (as : List mx_V) : FrameBlind (mx_Pc D z0 ρ σ as) := fun a U g mk h => ⟨h.1, h.2.1, h.2.2.1.calling g mk a, h.2.2.2.1, h.2.2.2.2⟩
/-- behind a call -/
theorem mx_callW {p : Program} {l : Launch} {e : Env} {R : Room} {s : State} {m : MethodId} {args : Array Value} {below : List Frame} {meth : Method} {c : Code} {H : Heap} {locs : List Loc} {cells slots mc ms : Nat} {Q : State → Prop} {pc : Nat} {ls : Array Slot} {D : mx_D} {z0 : Nat} {ρ : mx_Ad → Nat} {σ σ1 : mx_Hp} {v : Option mx_V} {st0 rest : List Value} {a : Array Value}
    (hrun : va_Run p l e R s m args below meth c H locs cells slots mc ms (F0 m pc ls st0) rest (mx_Qc D z0 ρ σ v σ1 a) (fun q => z0 ≤ q)) (hloc : ∀ q ∈ locs, z0 ≤ q.base)
    (kk : ∀ (ρ' : mx_Ad → Nat) (H' : Heap) (locs' : List Loc), mx_Rep D z0 ρ' σ1 H' → mx_Ext ρ σ ρ' σ1 → (∀ w, v = some w → mx_vk σ1 w) → (∀ q ∈ locs', z0 ≤ q.base) → z0 ≤ H'.size → W p l e R s m args below meth c H' locs' (cells + mc) (slots + ms) Q (F0 m (pc + 3) ls ((v.map (mx_tv ρ')).toList ++ rest))) :
    W p l e R s m args below meth c H locs cells slots Q (F0 m pc ls st0) := by
  intro T hT X
  obtain ⟨w, st₀, t, T', Lc, h0, X', hL, e1, e2, ⟨ρ', hv, hRep, hE, hvk, hz⟩, hgo⟩ := hrun T hT X
  cases hv
  obtain ⟨t2, a1, b1⟩ := kk ρ' T'.heap (locs ++ Lc) (by rw [e1]; exact hRep) hE hvk (fun q hq => by
    rcases List.mem_append.mp hq with h | h
    · exact hloc q h
    · exact hL q h) (by rw [e1]; exact hz) T' rfl X'
  exact ⟨t2, hgo t2 a1, b1⟩
set_option maxHeartbeats 4000000 in
/-- THE ABSTRACT MACHINE IS RIGHT -/
theorem mx_walk : ∀ n : Nat, mx_Wk n := by
  intro n
  induction n with
  | zero =>
    intro d mid pc L st σ v σ' h
    simp only [mx_ev] at h
    cases h
  | succ n ih =>
    intro d mid pc L st σ v σ' h p l e R s m args below meth c H locs cells slots Q ls D z0 K0 Z0 ρ Cx hA hKe hZe fin
    rcases mx_ev_i h with ⟨i, pc1, L1, st1, σ1, h1, h2, h3⟩ | ⟨i, y, as, pc1, r, d1, v1, σ1, rfl, h1, h2, h3, h4, h5⟩ | ⟨i, h1, h2, rfl⟩
    · have hm := mx_ev_K n h3
      exact mx_stp Cx h1 h2 hA (Nat.le_trans hm.1 hKe) (Nat.le_trans hm.2 hZe) (fun ρ1 ls1 H1 locs1 cells1 slots1 hA1 hE1 => ih d mid pc1 L1 st1 σ1 v σ' h3 p l e R s m args below meth c H1 locs1 cells1 slots1 Q ls1 D z0 K0 Z0 ρ1 Cx hA1 hKe hZe (fun ρ2 pc2 ls2 H2 locs2 cells2 slots2 L2 hA2 hE2 => fin ρ2 pc2 ls2 H2 locs2 cells2 slots2 L2 hA2 (hE1.tr hE2)))
    · obtain ⟨hx, hb, hml, hown, hts, hSW, hini, hfr, hlo⟩ := id Cx
      obtain ⟨rfl, hwd, idx, nst, hcal, hkind⟩ := mx_exec_C h1 h2
      obtain ⟨hy, hcin, hw1, hw2⟩ := mx_cal_ok hcal
      obtain ⟨hm1, hm2, hm3, hm4, hm5, hm6, hm7, hm8, hm9, hm10, hm11⟩ := mx_meth_ok hy
      have hk1 := mx_ev_K n h4
      have hk2 := mx_ev_K n h5
      obtain ⟨q1, q2, q3, q4, q5, q6, q7⟩ := id hA
      have hM := mx_metOf ih h4 hy h3 l D z0 ρ
      have hasF : (∀ x ∈ as, mx_vk σ x) ∧ (∀ x ∈ r, x ∈ st) ∧ (mx_r (none) = mx_r none) := by
        refine ⟨?_, ?_, rfl⟩
        · rcases hkind with ⟨-, -, hp⟩ | ⟨-, -, -, bs, g, j, -, rfl, hp⟩ | ⟨-, -, -, bs, a, rfl, hp⟩
          · obtain ⟨xs, e1, -, e3⟩ := mx_pop_i _ _ _ hp
            rw [List.append_nil] at e1
            subst e1
            intro x hx2
            exact q3.1 x (by rw [e3]; simp [hx2])
          · obtain ⟨xs, e1, -, e3⟩ := mx_pop_i _ _ _ hp
            rw [List.append_nil] at e1
            subst e1
            intro x hx2
            refine q3.1 x ?_
            rw [e3]
            rcases List.mem_cons.mp hx2 with rfl | h9
            · simp
            · simp [h9]
          · obtain ⟨xs, e1, -, e3⟩ := mx_pop_i _ _ _ hp
            rw [List.append_nil] at e1
            subst e1
            intro x hx2
            refine q3.1 x ?_
            rw [e3]
            rcases List.mem_cons.mp hx2 with rfl | h9
            · simp
            · simp [h9]
        · rcases hkind with ⟨-, -, hp⟩ | ⟨-, -, -, bs, g, j, -, rfl, hp⟩ | ⟨-, -, -, bs, a, rfl, hp⟩
          · obtain ⟨xs, -, -, e3⟩ := mx_pop_i _ _ _ hp
            intro x hx2
            rw [e3]
            simp [hx2]
          · obtain ⟨xs, -, -, e3⟩ := mx_pop_i _ _ _ hp
            intro x hx2
            rw [e3]
            simp [hx2]
          · obtain ⟨xs, -, -, e3⟩ := mx_pop_i _ _ _ hp
            intro x hx2
            rw [e3]
            simp [hx2]
      have hpre : ∀ U : State, U.heap = H → s.WarmedH U.vm → mx_Pc D z0 ρ σ as ((as.map (mx_tv ρ)).toArray) U := fun U hU hW => ⟨rfl, by rw [hU]; exact q1, hSW.warm hW, hasF.1, by rw [hU]; exact q7⟩
      have hroom : (mx_rm d1 σ σ1).frames + 1 ≤ R.frames ∧ 8 + (mx_mL y + 11) + (mx_rm d1 σ σ1).locals ≤ R.locals := by
        refine ⟨?_, ?_⟩
        · show d1 + 1 + 1 ≤ R.frames
          exact hfr
        · show 8 + (mx_mL y + 11) + (d1 + 1) * 64 ≤ R.locals
          omega
      have hbud : cells + (mx_K σ1 - mx_K σ) ≤ R.cells ∧ slots + (mx_Z σ1 - mx_Z σ) ≤ R.slots := by
        omega
      have hwdr : 2 * (F0 m pc ls (st.map (mx_tv ρ))).monitorRoom + ((r.map (mx_tv ρ)).map fun v => v.category).sum ≤ 8 := by
        rw [mx_wd_map]
        show 2 * 0 + mx_wd r ≤ 8
        omega
      have S : CallFix p m c (mx_mb mid) (mx_mL mid) s args mx_GT (mx_own (mx_mc mid)) := ⟨hx, hb, hml, hown, hts⟩
      have kk : ∀ (ρ' : mx_Ad → Nat) (H' : Heap) (locs' : List Loc), mx_Rep D z0 ρ' σ1 H' → mx_Ext ρ σ ρ' σ1 → (∀ w, v1 = some w → mx_vk σ1 w) → (∀ q ∈ locs', z0 ≤ q.base) → z0 ≤ H'.size → W p l e R s m args below meth c H' locs' (cells + (mx_K σ1 - mx_K σ)) (slots + (mx_Z σ1 - mx_Z σ)) Q (F0 m (pc + 3) ls ((v1.map (mx_tv ρ')).toList ++ r.map (mx_tv ρ))) := by
        intro ρ' H' locs' hR' hE' hv' hl' hz'
        have hF0 := q3.st (st' := r) (fun w hw => Or.inl (hasF.2.1 w hw))
        have hF := hF0.mv hE'
        have hF1 : mx_Fk σ1 L (mx_psh v1 r) := by
          cases v1 with
          | none => exact hF.1
          | some w => exact hF.1.st (mx_m0 (hv' w rfl))
        have hA1 : mx_At D z0 K0 Z0 (mx_mL mid) ρ' σ1 L (mx_psh v1 r) H' locs' (cells + (mx_K σ1 - mx_K σ)) (slots + (mx_Z σ1 - mx_Z σ)) ls := ⟨hR', q2.mv q3 hE', hF1, hl', by omega, by omega, hz'⟩
        have go := ih (d1 + 1) mid (pc + 3) L (mx_psh v1 r) σ1 v σ' h5 p l e R s m args below meth c H' locs' _ _ Q ls D z0 K0 Z0 ρ' Cx hA1 hKe hZe (fun ρ2 pc2 ls2 H2 locs2 cells2 slots2 L2 hA2 hE2 => fin ρ2 pc2 ls2 H2 locs2 cells2 slots2 L2 hA2 (hE'.tr hE2))
        have est : (mx_psh v1 r).map (mx_tv ρ') = (v1.map (mx_tv ρ')).toList ++ r.map (mx_tv ρ) := by
          cases v1 with
          | none => exact hF.2
          | some w =>
            show mx_tv ρ' w :: r.map (mx_tv ρ') = _
            rw [hF.2]
            rfl
        rw [est] at go
        exact go
      rcases hkind with ⟨hs, hdec, hp⟩ | ⟨hs, hni, hdec, bs, g, j, hg, rfl, hp⟩ | ⟨hs, hni, hdec, bs, a, rfl, hp⟩
      · obtain ⟨xs, e1, e2, e3⟩ := mx_pop_i _ _ _ hp
        rw [List.append_nil] at e1
        subst e1
        have hstk : (F0 m pc ls (st.map (mx_tv ρ))).stack = (as.map (mx_tv ρ)).reverse ++ r.map (mx_tv ρ) := by
          show st.map (mx_tv ρ) = _
          rw [e3, List.map_append, List.map_reverse]
        cases nst with
        | false => exact mx_callW (va_runS S hM ⟨callB_of (mx_mn y) hts (mx_good y hy) rfl rfl rfl (hts _ hcin) (hts _ (hw1 rfl)) ⟨hm3.1, hm3.2, hm4⟩ hroom, hts _ (hm5 hs)⟩ ⟨mx_blind D z0 ρ σ as, hpre⟩ rfl (by rw [List.length_map]; exact e2) q2.1 hstk hwdr hdec hbud) q4 kk
        | true =>
          obtain ⟨host, hh⟩ := hw2 rfl
          exact mx_callW (va_runSN S hM ⟨va_cnB (mx_mn y) hts (mx_good y hy) rfl rfl rfl (mx_nmU hSW hh) (hts _ hcin) ⟨hm3.1, hm3.2, hm4⟩ hroom, hts _ (hm5 hs), trivial⟩ ⟨mx_blind D z0 ρ σ as, hpre⟩ rfl (by rw [List.length_map]; exact e2) q2.1 hstk hwdr hdec hbud) q4 kk
      · obtain ⟨xs, e1, e2, e3⟩ := mx_pop_i _ _ _ hp
        rw [List.append_nil] at e1
        subst e1
        obtain ⟨qc, hqc⟩ := hm11 hs
        have hstk : (F0 m pc ls (st.map (mx_tv ρ))).stack = (bs.map (mx_tv ρ)).reverse ++ .ref (ρ (g, mx_mc y, j)) :: r.map (mx_tv ρ) := by
          show st.map (mx_tv ρ) = _
          rw [e3, List.map_append, List.map_reverse]
          rfl
        have hak : mx_ok σ (g, mx_mc y, j) := hasF.1 _ List.mem_cons_self
        have hcn : (mx_my y).cls = qc.1 := by rw [← hm9]; exact (mx_cls_ok hqc).2.2.2.2.1
        have hrecv : ∃ cellB : Cell, H[ρ (g, mx_mc y, j)]? = some cellB ∧ cellB.vm.isStatics = false ∧ s.vm.findClass (mx_my y).cls = some cellB.cls := by
          obtain ⟨cell, c1, c2, c3, -⟩ := mx_objc q1 hak hg hqc
          exact ⟨cell, c1, by rw [c3]; rfl, by rw [c2, hcn]; exact (hSW.1.1 _ qc hqc).2.1⟩
        cases nst with
        | false => exact mx_callW (va_runV S hM ⟨callB_of (mx_mn y) hts (mx_good y hy) rfl rfl rfl (hts _ hcin) (hts _ (hw1 rfl)) ⟨hm3.1, hm3.2, hm4⟩ hroom, hts _ (hm6 hs), hts _ (hm7 hs hni)⟩ ⟨mx_blind D z0 ρ σ _, hrecv, hpre⟩ rfl (by rw [List.length_map]; exact e2) q2.1 hstk hwdr hdec hbud) q4 kk
        | true =>
          obtain ⟨host, hh⟩ := hw2 rfl
          exact mx_callW (va_runVN S hM ⟨va_cnB (mx_mn y) hts (mx_good y hy) rfl rfl rfl (mx_nmU hSW hh) (hts _ hcin) ⟨hm3.1, hm3.2, hm4⟩ hroom, hts _ (hm6 hs), hts _ (hm7 hs hni)⟩ ⟨mx_blind D z0 ρ σ _, hrecv, hpre⟩ rfl (by rw [List.length_map]; exact e2) q2.1 hstk hwdr hdec hbud) q4 kk
      · obtain ⟨xs, e1, e2, e3⟩ := mx_pop_i _ _ _ hp
        rw [List.append_nil] at e1
        subst e1
        have hstk : (F0 m pc ls (st.map (mx_tv ρ))).stack = (bs.map (mx_tv ρ)).reverse ++ .ref (ρ a) :: r.map (mx_tv ρ) := by
          show st.map (mx_tv ρ) = _
          rw [e3, List.map_append, List.map_reverse]
          rfl
        have hret := (mx_init_ok hy hni).1
        have hM2 := hM
        have hcB := callB_of (own := mx_own (mx_mc mid)) (index := idx) (R := R) (rm := mx_rm d1 σ σ1) (mc := mx_K σ1 - mx_K σ) (ms := mx_Z σ1 - mx_Z σ) (ret := none) (ws' := mx_GT) (bytes := mx_mb y) (maxL := mx_mL y) (mx_mn y) hts (mx_good y hy) (by unfold mx_wsy; rw [hret]) rfl rfl (hts _ hcin)
        cases nst with
        | false => exact mx_callW (va_runI S hM ⟨hcB (hts _ (hw1 rfl)) ⟨hm3.1, hm3.2, hm4⟩ hroom, (mx_init_ok hy hni).2, hts _ (hm6 hs)⟩ ⟨mx_blind D z0 ρ σ _, hpre⟩ rfl (by rw [List.length_map]; exact e2) q2.1 hstk hwdr hdec hbud) q4 kk
        | true =>
          obtain ⟨host, hh⟩ := hw2 rfl
          exact mx_callW (va_runIN S hM ⟨va_cnB (ret := none) (ws' := mx_GT) (mx_mn y) hts (mx_good y hy) (by unfold mx_wsy; rw [hret]) rfl rfl (mx_nmU hSW hh) (hts _ hcin) ⟨hm3.1, hm3.2, hm4⟩ hroom, (mx_init_ok hy hni).2, hts _ (hm6 hs)⟩ ⟨mx_blind D z0 ρ σ _, hpre⟩ rfl (by rw [List.length_map]; exact e2) q2.1 hstk hwdr hdec hbud) q4 kk
    · obtain ⟨hR, rfl⟩ := mx_exec_R h1 h2
      exact fin ρ pc ls H locs cells slots L hA mx_Ext.rf hR
