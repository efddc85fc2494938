/-! the law from its entry -/
set_option maxHeartbeats 4000000 in
/-- a call of the abstract machine, then the rest -/
theorem mx_cstp {p : Program} {l : Launch} {e : Env} {R : Room} {s : State} {m : MethodId} {args : Array Value} {below : List Frame} {meth : Method} {c : Code} {H : Heap} {locs : List Loc} {cells slots : Nat} {Q : State → Prop} {pc : Nat} {ls : Array Slot} {D : mx_D} {z0 K0 Z0 mid d1 n : Nat} {ρ : mx_Ad → Nat} {σ σ1 : mx_Hp} {L : mx_L} {st : List mx_V} {i : Jvm.ClassFile.Instr} {y : Nat} {as : List mx_V} {pc1 : Nat} {r : List mx_V} {v1 : Option mx_V}
    (Cx : mx_Cx p s m args meth c R D mid (d1 + 1)) (h1 : mx_code mid pc = some i) (h2 : mx_exec mid pc i L st σ = some (.inr (.inl (y, as, pc1, r)))) (h3 : (mx_args as).length ≤ mx_mL y) (h4 : mx_ev n d1 y 0 (mx_ent y as) [] σ = some (v1, σ1))
    (hA : mx_At D z0 K0 Z0 (mx_mL mid) ρ σ L st H locs cells slots ls) (hKe : mx_K σ1 ≤ R.cells + K0) (hZe : mx_Z σ1 ≤ R.slots + Z0)
    (kk0 : ∀ (ρ' : mx_Ad → Nat) (H' : Heap) (locs' : List Loc) (cells' slots' : Nat), mx_At D z0 K0 Z0 (mx_mL mid) ρ' σ1 L (mx_psh v1 r) H' locs' cells' slots' ls → mx_Ext ρ σ ρ' σ1 → W p l e R s m args below meth c H' locs' cells' slots' Q (F0 m pc1 ls ((mx_psh v1 r).map (mx_tv ρ')))) :
    W p l e R s m args below meth c H locs cells slots Q (F0 m pc ls (st.map (mx_tv ρ))) := by
  obtain ⟨hx, hb, hml, hown, hts, hSW, hini, hfr, hlo⟩ := id Cx
  obtain ⟨rfl, hwd, idx, nst, hcal, hkind⟩ := mx_exec_C h1 h2
  obtain ⟨hy, hcin, hw1, hw2⟩ := mx_cal_ok hcal
  obtain ⟨hm1, hm2, hm3, hm4, hm5, hm6, hm7, hm8, hm9, hm10, hm11⟩ := mx_meth_ok hy
  have hk1 := mx_ev_K n h4
  obtain ⟨q1, q2, q3, q4, q5, q6, q7⟩ := id hA
  have hM := mx_metOf (mx_walk n) h4 hy h3 l D z0 ρ
  have hasF : (∀ x ∈ as, mx_vk σ x) ∧ (∀ x ∈ r, x ∈ st) ∧ (mx_r (none) = mx_r none) := by
    refine ⟨?_, ?_, rfl⟩
    · rcases hkind with ⟨-, -, hp⟩ | ⟨-, -, -, bs, g, j, -, rfl, hp⟩ | ⟨-, -, -, bs, a, rfl, hp⟩
      · obtain ⟨xs, e1, -, e3⟩ := mx_pop_i _ _ _ hp
        rw [List.append_nil] at e1
        subst e1
        intro x hx2
        exact q3.1 x (by rw [e3]; simp [hx2])
      · obtain ⟨xs, e1, -, e3⟩ := mx_pop_i _ _ _ hp
        rw [List.append_nil] at e1
        subst e1
        intro x hx2
        refine q3.1 x ?_
        rw [e3]
        rcases List.mem_cons.mp hx2 with rfl | h9
        · simp
        · simp [h9]
      · obtain ⟨xs, e1, -, e3⟩ := mx_pop_i _ _ _ hp
        rw [List.append_nil] at e1
        subst e1
        intro x hx2
        refine q3.1 x ?_
        rw [e3]
        rcases List.mem_cons.mp hx2 with rfl | h9
        · simp
        · simp [h9]
    · rcases hkind with ⟨-, -, hp⟩ | ⟨-, -, -, bs, g, j, -, rfl, hp⟩ | ⟨-, -, -, bs, a, rfl, hp⟩
      · obtain ⟨xs, -, -, e3⟩ := mx_pop_i _ _ _ hp
        intro x hx2
        rw [e3]
        simp [hx2]
      · obtain ⟨xs, -, -, e3⟩ := mx_pop_i _ _ _ hp
        intro x hx2
        rw [e3]
        simp [hx2]
      · obtain ⟨xs, -, -, e3⟩ := mx_pop_i _ _ _ hp
        intro x hx2
        rw [e3]
        simp [hx2]
  have hpre : ∀ U : State, U.heap = H → s.WarmedH U.vm → mx_Pc D z0 ρ σ as ((as.map (mx_tv ρ)).toArray) U := fun U hU hW => ⟨rfl, by rw [hU]; exact q1, hSW.warm hW, hasF.1, by rw [hU]; exact q7⟩
  have hroom : (mx_rm d1 σ σ1).frames + 1 ≤ R.frames ∧ 8 + (mx_mL y + 11) + (mx_rm d1 σ σ1).locals ≤ R.locals := by
    refine ⟨?_, ?_⟩
    · show d1 + 1 + 1 ≤ R.frames
      exact hfr
    · show 8 + (mx_mL y + 11) + (d1 + 1) * 64 ≤ R.locals
      omega
  have hbud : cells + (mx_K σ1 - mx_K σ) ≤ R.cells ∧ slots + (mx_Z σ1 - mx_Z σ) ≤ R.slots := by
    omega
  have hwdr : 2 * (F0 m pc ls (st.map (mx_tv ρ))).monitorRoom + ((r.map (mx_tv ρ)).map fun v => v.category).sum ≤ 8 := by
    rw [mx_wd_map]
    show 2 * 0 + mx_wd r ≤ 8
    omega
  have S : CallFix p m c (mx_mb mid) (mx_mL mid) s args mx_GT (mx_own (mx_mc mid)) := ⟨hx, hb, hml, hown, hts⟩
  have kk : ∀ (ρ' : mx_Ad → Nat) (H' : Heap) (locs' : List Loc), mx_Rep D z0 ρ' σ1 H' → mx_Ext ρ σ ρ' σ1 → (∀ w, v1 = some w → mx_vk σ1 w) → (∀ q ∈ locs', z0 ≤ q.base) → z0 ≤ H'.size → W p l e R s m args below meth c H' locs' (cells + (mx_K σ1 - mx_K σ)) (slots + (mx_Z σ1 - mx_Z σ)) Q (F0 m (pc + 3) ls ((v1.map (mx_tv ρ')).toList ++ r.map (mx_tv ρ))) := by
    intro ρ' H' locs' hR' hE' hv' hl' hz'
    have hF0 := q3.st (st' := r) (fun w hw => Or.inl (hasF.2.1 w hw))
    have hF := hF0.mv hE'
    have hF1 : mx_Fk σ1 L (mx_psh v1 r) := by
      cases v1 with
      | none => exact hF.1
      | some w => exact hF.1.st (mx_m0 (hv' w rfl))
    have hA1 : mx_At D z0 K0 Z0 (mx_mL mid) ρ' σ1 L (mx_psh v1 r) H' locs' (cells + (mx_K σ1 - mx_K σ)) (slots + (mx_Z σ1 - mx_Z σ)) ls := ⟨hR', q2.mv q3 hE', hF1, hl', by omega, by omega, hz'⟩
    have go := kk0 ρ' H' locs' _ _ hA1 hE'
    have est : (mx_psh v1 r).map (mx_tv ρ') = (v1.map (mx_tv ρ')).toList ++ r.map (mx_tv ρ) := by
      cases v1 with
      | none => exact hF.2
      | some w =>
        show mx_tv ρ' w :: r.map (mx_tv ρ') = _
        rw [hF.2]
        rfl
    rw [est] at go
    exact go
  rcases hkind with ⟨hs, hdec, hp⟩ | ⟨hs, hni, hdec, bs, g, j, hg, rfl, hp⟩ | ⟨hs, hni, hdec, bs, a, rfl, hp⟩
  · obtain ⟨xs, e1, e2, e3⟩ := mx_pop_i _ _ _ hp
    rw [List.append_nil] at e1
    subst e1
    have hstk : (F0 m pc ls (st.map (mx_tv ρ))).stack = (as.map (mx_tv ρ)).reverse ++ r.map (mx_tv ρ) := by
      show st.map (mx_tv ρ) = _
      rw [e3, List.map_append, List.map_reverse]
    cases nst with
    | false => exact mx_callW (va_runS S hM ⟨callB_of (mx_mn y) hts (mx_good y hy) rfl rfl rfl (hts _ hcin) (hts _ (hw1 rfl)) ⟨hm3.1, hm3.2, hm4⟩ hroom, hts _ (hm5 hs)⟩ ⟨mx_blind D z0 ρ σ as, hpre⟩ rfl (by rw [List.length_map]; exact e2) q2.1 hstk hwdr hdec hbud) q4 kk
    | true =>
      obtain ⟨host, hh⟩ := hw2 rfl
      exact mx_callW (va_runSN S hM ⟨va_cnB (mx_mn y) hts (mx_good y hy) rfl rfl rfl (mx_nmU hSW hh) (hts _ hcin) ⟨hm3.1, hm3.2, hm4⟩ hroom, hts _ (hm5 hs), trivial⟩ ⟨mx_blind D z0 ρ σ as, hpre⟩ rfl (by rw [List.length_map]; exact e2) q2.1 hstk hwdr hdec hbud) q4 kk
  · obtain ⟨xs, e1, e2, e3⟩ := mx_pop_i _ _ _ hp
    rw [List.append_nil] at e1
    subst e1
    obtain ⟨qc, hqc⟩ := hm11 hs
    have hstk : (F0 m pc ls (st.map (mx_tv ρ))).stack = (bs.map (mx_tv ρ)).reverse ++ .ref (ρ (g, mx_mc y, j)) :: r.map (mx_tv ρ) := by
      show st.map (mx_tv ρ) = _
      rw [e3, List.map_append, List.map_reverse]
      rfl
    have hak : mx_ok σ (g, mx_mc y, j) := hasF.1 _ List.mem_cons_self
    have hcn : (mx_my y).cls = qc.1 := by rw [← hm9]; exact (mx_cls_ok hqc).2.2.2.2.1
    have hrecv : ∃ cellB : Cell, H[ρ (g, mx_mc y, j)]? = some cellB ∧ cellB.vm.isStatics = false ∧ s.vm.findClass (mx_my y).cls = some cellB.cls := by
      obtain ⟨cell, c1, c2, c3, -⟩ := mx_objc q1 hak hg hqc
      exact ⟨cell, c1, by rw [c3]; rfl, by rw [c2, hcn]; exact (hSW.1.1 _ qc hqc).2.1⟩
    cases nst with
    | false => exact mx_callW (va_runV S hM ⟨callB_of (mx_mn y) hts (mx_good y hy) rfl rfl rfl (hts _ hcin) (hts _ (hw1 rfl)) ⟨hm3.1, hm3.2, hm4⟩ hroom, hts _ (hm6 hs), hts _ (hm7 hs hni)⟩ ⟨mx_blind D z0 ρ σ _, hrecv, hpre⟩ rfl (by rw [List.length_map]; exact e2) q2.1 hstk hwdr hdec hbud) q4 kk
    | true =>
      obtain ⟨host, hh⟩ := hw2 rfl
      exact mx_callW (va_runVN S hM ⟨va_cnB (mx_mn y) hts (mx_good y hy) rfl rfl rfl (mx_nmU hSW hh) (hts _ hcin) ⟨hm3.1, hm3.2, hm4⟩ hroom, hts _ (hm6 hs), hts _ (hm7 hs hni)⟩ ⟨mx_blind D z0 ρ σ _, hrecv, hpre⟩ rfl (by rw [List.length_map]; exact e2) q2.1 hstk hwdr hdec hbud) q4 kk
  · obtain ⟨xs, e1, e2, e3⟩ := mx_pop_i _ _ _ hp
    rw [List.append_nil] at e1
    subst e1
    have hstk : (F0 m pc ls (st.map (mx_tv ρ))).stack = (bs.map (mx_tv ρ)).reverse ++ .ref (ρ a) :: r.map (mx_tv ρ) := by
      show st.map (mx_tv ρ) = _
      rw [e3, List.map_append, List.map_reverse]
      rfl
    have hret := (mx_init_ok hy hni).1
    have hM2 := hM
    have hcB := callB_of (own := mx_own (mx_mc mid)) (index := idx) (R := R) (rm := mx_rm d1 σ σ1) (mc := mx_K σ1 - mx_K σ) (ms := mx_Z σ1 - mx_Z σ) (ret := none) (ws' := mx_GT) (bytes := mx_mb y) (maxL := mx_mL y) (mx_mn y) hts (mx_good y hy) (by unfold mx_wsy; rw [hret]) rfl rfl (hts _ hcin)
    cases nst with
    | false => exact mx_callW (va_runI S hM ⟨hcB (hts _ (hw1 rfl)) ⟨hm3.1, hm3.2, hm4⟩ hroom, (mx_init_ok hy hni).2, hts _ (hm6 hs)⟩ ⟨mx_blind D z0 ρ σ _, hpre⟩ rfl (by rw [List.length_map]; exact e2) q2.1 hstk hwdr hdec hbud) q4 kk
    | true =>
      obtain ⟨host, hh⟩ := hw2 rfl
      exact mx_callW (va_runIN S hM ⟨va_cnB (ret := none) (ws' := mx_GT) (mx_mn y) hts (mx_good y hy) (by unfold mx_wsy; rw [hret]) rfl rfl (mx_nmU hSW hh) (hts _ hcin) ⟨hm3.1, hm3.2, hm4⟩ hroom, (mx_init_ok hy hni).2, hts _ (hm6 hs)⟩ ⟨mx_blind D z0 ρ σ _, hpre⟩ rfl (by rw [List.length_map]; exact e2) q2.1 hstk hwdr hdec hbud) q4 kk
theorem mx_go_K : ∀ (n : Nat) {mid pc : Nat} {L : mx_L} {st : List mx_V} {σ : mx_Hp} {pc' : Nat} {L' : mx_L} {st' : List mx_V} {σ' : mx_Hp}, mx_go n mid pc L st σ = some (pc', L', st', σ') → mx_K σ ≤ mx_K σ' ∧ mx_Z σ ≤ mx_Z σ' := by
  intro n
  induction n with
  | zero =>
    intro mid pc L st σ pc' L' st' σ' h
    simp only [mx_go] at h
    cases h
    exact ⟨Nat.le_refl _, Nat.le_refl _⟩
  | succ n ih =>
    intro mid pc L st σ pc' L' st' σ' h
    simp only [mx_go] at h
    split at h
    · rename_i pc1 L1 st1 σ1 hs
      obtain ⟨i, h1, h2⟩ := mx_step_i hs
      have a1 := mx_exec_K h2
      have a2 := ih h
      exact ⟨Nat.le_trans a1.1 a2.1, Nat.le_trans a1.2 a2.2⟩
    · cases h
set_option maxHeartbeats 4000000 in
/-- some plain steps, then the rest -/
theorem mx_gow {p : Program} {l : Launch} {e : Env} {R : Room} {s : State} {m : MethodId} {args : Array Value} {below : List Frame} {meth : Method} {c : Code} {Q : State → Prop} {D : mx_D} {z0 K0 Z0 mid d : Nat} (Cx : mx_Cx p s m args meth c R D mid d) :
    ∀ (n : Nat) {pc : Nat} {L : mx_L} {st : List mx_V} {σ : mx_Hp} {pc' : Nat} {L' : mx_L} {st' : List mx_V} {σ' : mx_Hp} {ρ : mx_Ad → Nat} {H : Heap} {locs : List Loc} {cells slots : Nat} {ls : Array Slot}, mx_go n mid pc L st σ = some (pc', L', st', σ') → mx_At D z0 K0 Z0 (mx_mL mid) ρ σ L st H locs cells slots ls → mx_K σ' ≤ R.cells + K0 → mx_Z σ' ≤ R.slots + Z0 →
      (∀ (ρ' : mx_Ad → Nat) (ls' : Array Slot) (H' : Heap) (locs' : List Loc) (cells' slots' : Nat), mx_At D z0 K0 Z0 (mx_mL mid) ρ' σ' L' st' H' locs' cells' slots' ls' → W p l e R s m args below meth c H' locs' cells' slots' Q (F0 m pc' ls' (st'.map (mx_tv ρ')))) →
      W p l e R s m args below meth c H locs cells slots Q (F0 m pc ls (st.map (mx_tv ρ))) := by
  intro n
  induction n with
  | zero =>
    intro pc L st σ pc' L' st' σ' ρ H locs cells slots ls h hA _ _ kk
    simp only [mx_go] at h
    cases h
    exact kk ρ ls H locs cells slots hA
  | succ n ih =>
    intro pc L st σ pc' L' st' σ' ρ H locs cells slots ls h hA hK hZ kk
    simp only [mx_go] at h
    split at h
    · rename_i pc1 L1 st1 σ1 hs
      obtain ⟨i, h1, h2⟩ := mx_step_i hs
      have a2 := mx_go_K n h
      exact mx_stp Cx h1 h2 hA (Nat.le_trans a2.1 hK) (Nat.le_trans a2.2 hZ) (fun ρ1 ls1 H1 locs1 cells1 slots1 hA1 _ => ih h hA1 hK hZ kk)
    · cases h
