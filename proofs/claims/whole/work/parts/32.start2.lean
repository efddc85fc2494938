/-! the law from its entry to its loop, and through -/
theorem sw_C0 (t : Nat) (h : 116 ≤ t) : hC_c t = 0 := by
  have e : ∀ m, m < 116 → Nat.beq t m = false := fun m hm => by
    cases hb : Nat.beq t m
    · rfl
    · have := Nat.eq_of_beq_eq_true hb
      omega
  have e2 : ∀ m, m < 116 → Nat.ble t m = false := fun m hm => by
    cases hb : Nat.ble t m
    · rfl
    · have := Nat.le_of_ble_eq_true hb
      omega
  unfold hC_c
  simp only [e 2 (by decide), e 3 (by decide), e 10 (by decide), e 64 (by decide), e 72 (by decide), e 81 (by decide), e2 1 (by decide), e2 6 (by decide), e2 9 (by decide), e2 64 (by decide), e2 69 (by decide), e2 71 (by decide), e2 80 (by decide), cond_false]
theorem sw_M0 (t : Nat) (h : 116 ≤ t) : hM_c t = 0 := by
  have e : ∀ m, m < 116 → Nat.beq t m = false := fun m hm => by
    cases hb : Nat.beq t m
    · rfl
    · have := Nat.eq_of_beq_eq_true hb
      omega
  have e2 : ∀ m, m < 116 → Nat.ble t m = false := fun m hm => by
    cases hb : Nat.ble t m
    · rfl
    · have := Nat.le_of_ble_eq_true hb
      omega
  unfold hM_c
  simp only [e 11 (by decide), e2 115 (by decide), cond_false, Bool.and_false]
set_option maxHeartbeats 4000000 in
theorem mx_start2 {p : Program} {e : Env} {s : State} {m : MethodId} {below : List Frame} {meth : Method} {c : Code} (l : Launch) {b L : Nat} {xs : Nat → Int32} (C0 : lw_At p s m meth c b L xs)
    (hrun : f168 L xs (fun t _ k => ini_i t k) (fun _ _ _ => 0) ini_h (fun t _ k => ini_i t k) (fun _ _ _ => 0) = some true) :
    W p l e room_1 s m #[Value.ref b] below meth c s.heap [] 0 0 (lw_Z below #[Value.ref b] s) (entryFrame m ([Value.ref b] : List Value).toArray 4) := by
  obtain ⟨hx, hb, hr, hml, hown, hts, ⟨scr, hX1, hX2, hX3, hX4, hX5⟩, hbl, hlocks, hgv⟩ := C0
  have hGT : ∀ w ∈ mx_GT, w.before #[Value.ref b] s = true := fun w hw => hts w (List.mem_filter.mp hw).1
  have hkn : ∀ ci : Nat, ∃ (cC : ClassId) (iS : Nat → Nat), ∀ q : vw_C, mx_cls[ci]? = some q → u_Kn s q.1 q.2.1 q.2.2 cC iS := by
    intro ci
    cases hq : mx_cls[ci]? with
    | none => exact ⟨0, fun _ => 0, fun q h => by cases h⟩
    | some q0 =>
      obtain ⟨cC, iS, h⟩ := u_known hGT (mx_cls_ok hq).1 (hGT _ (mx_inst_ok hq))
      refine ⟨cC, iS, fun q h2 => ?_⟩
      cases h2
      exact h
  have har : ∀ ty : FieldType, ∃ cA : ClassId, ty ∈ mx_aty → ArrOfT s cA ty ∧ va_RA s cA ty := by
    intro ty
    by_cases h : ty ∈ mx_aty
    · obtain ⟨cA, h2⟩ := mx_aty_in hts ty h
      exact ⟨cA, fun _ => h2⟩
    · exact ⟨0, fun h2 => absurd h2 h⟩
  obtain ⟨dC, hdC⟩ : ∃ dC : Nat → ClassId, ∀ ci, ∃ iS : Nat → Nat, ∀ q : vw_C, mx_cls[ci]? = some q → u_Kn s q.1 q.2.1 q.2.2 (dC ci) iS := ⟨fun ci => Classical.choose (hkn ci), fun ci => Classical.choose_spec (hkn ci)⟩
  obtain ⟨dI, hdI⟩ : ∃ dI : Nat → Nat → Nat, ∀ ci, ∀ q : vw_C, mx_cls[ci]? = some q → u_Kn s q.1 q.2.1 q.2.2 (dC ci) (dI ci) := ⟨fun ci => Classical.choose (hdC ci), fun ci => Classical.choose_spec (hdC ci)⟩
  obtain ⟨dA, hdA⟩ : ∃ dA : FieldType → ClassId, ∀ ty, ty ∈ mx_aty → ArrOfT s (dA ty) ty ∧ va_RA s (dA ty) ty := ⟨fun ty => Classical.choose (har ty), fun ty => Classical.choose_spec (har ty)⟩
  have hSW : mx_SW (dC, dI, dA, scr) s := ⟨⟨fun ci q hq => hdI ci q hq, fun k q h => by simp at h⟩, hdA, fun w hw => va_Nw.of rfl (hts _ (mx_nf_in w hw)), fun w hw => va_Nw.of rfl (hts _ (mx_nm_in w hw)), fun C hC => va_AO.of (hts _ (mx_ao_in C hC)), hX2⟩
  have hRep : mx_Rep (dC, dI, dA, scr) s.heap.size (fun _ => b) (mx_s0 L xs) s.heap := by
    refine ⟨fun a ha => ?_, fun a a2 ha ha2 _ => (mx_ok0 ha).trans (mx_ok0 ha2).symm, fun a k a2 ha hR => ?_, fun a ha hg => ?_⟩
    · rw [mx_ok0 ha]
      exact ⟨fun _ => ⟨hX1, hX3, hX4, hX5⟩, fun h => absurd h (by decide)⟩
    · rw [mx_ok0 ha] at hR
      cases hR
    · rw [mx_ok0 ha] at hg
      exact absurd hg (by decide)
  have hl := lv_entry ([.ref b]) (n := 4) (Nat.le_of_ble_eq_true rfl)
  rw [lg_entry_eq]
  generalize (lg_sl ([.ref b]) ++ List.replicate (4 - (lg_sl ([.ref b])).length) Slot.unset).toArray = ls at hl ⊢
  have hA : mx_At (dC, dI, dA, scr) s.heap.size 0 0 (mx_mL 168) (fun _ => b) (mx_s0 L xs) (mx_ent 168 [mx_r (some (2, 63, 0))]) [] s.heap [] 0 0 ls := by
    refine ⟨hRep, ⟨hl.1, hl.2.1, fun i w hw _ => ?_⟩, ⟨fun w hw => (by cases hw), fun i w hw => ?_⟩, fun q hq => (by cases hq), rfl, rfl, Nat.le_refl _⟩
    · exact hl.2.2 _ (mx_ent_get (ρ := fun _ => b) hw).1
    · have h2 := (mx_ent_get (ρ := fun _ => b) hw).2
      rw [List.mem_singleton.mp h2]
      show 0 < mx_C (mx_s0 L xs) 2 63
      exact Nat.zero_lt_one
  have Cx : mx_Cx p s m #[Value.ref b] meth c room_1 (dC, dI, dA, scr) 168 1000 :=
    ⟨hx, hb, hml, hown, hGT, hSW, (fun h => by cases h), by decide, by decide⟩
  -- what the constructors make
  cases eC : ini_C with
  | none =>
    have h := ini_t1
    rw [eC] at h
    cases h
  | some oC =>
  cases eM : ini_M with
  | none =>
    have h := ini_t2
    rw [eM] at h
    cases h
  | some oM =>
  have t1 := ini_t1
  rw [eC] at t1
  simp only [Bool.and_eq_true] at t1
  have hk491 : oC.2.1 = 491 := Nat.eq_of_beq_eq_true t1.2
  have t2 := ini_t2
  rw [eM] at t2
  simp only [Bool.and_eq_true] at t2
  have hKM : oM.2.1 ≤ 600000 := Nat.le_of_ble_eq_true t2.1.2
  have hZM : oM.2.2 ≤ 7302250 := Nat.le_of_ble_eq_true t2.2
  have t3 := ini_t3
  rw [eM] at t3
  simp only [Bool.and_eq_true] at t3
  have t4 := ini_t4
  rw [eC] at t4
  have t5 := ini_t5
  rw [eC] at t5
  have eM2 : f116 0 (mx_alr mx_e0 11 0) (oC.2.1 + 1) (oC.2.2 + 42) = some oM := by
    have h : ini_M = f116 0 (mx_alr mx_e0 11 0) (491 + 1) (((ini_C.map (fun o => o.2.2)).getD 0) + 42) := rfl
    rw [eC] at h
    rw [hk491, ← eM, h]
    rfl
  have w1 : mx_WP 999 0 0 (mx_ent 0 [mx_r (some (0, 0, 0))]) [] (mx_alr mx_e0 0 0, mx_e0, (L, xs), (1, 5)) (fun v σ' => v = none ∧ σ' = (oC.1, mx_e0, (L, xs), (oC.2.1, oC.2.2))) :=
    T0 (d := 995) (x0 := 0) (show f0 0 (mx_alr mx_e0 0 0) 1 5 = some oC from eC) ⟨rfl, rfl⟩
  have w2 : mx_WP 999 116 0 (mx_ent 116 [mx_r (some (1, 11, 0))]) [] (oC.1, mx_alr mx_e0 11 0, (L, xs), (oC.2.1 + 1, oC.2.2 + 42)) (fun v σ' => v = none ∧ σ' = (oC.1, oM.1, (L, xs), (oM.2.1, oM.2.2))) :=
    T116 (d := 999) (x0 := 0) eM2 ⟨rfl, rfl⟩
  obtain ⟨n1, v1, σ1, ev1, rfl, rfl⟩ := w1
  obtain ⟨n2, v2, σ2, ev2, rfl, rfl⟩ := w2
  have m1 := mx_ev_K n1 ev1
  have m2 := mx_ev_K n2 ev2
  have m1K : 1 ≤ oC.2.1 := m1.1
  have m1Z : 5 ≤ oC.2.2 := m1.2
  have m2K : oC.2.1 + 1 ≤ oM.2.1 := m2.1
  have m2Z : oC.2.2 + 42 ≤ oM.2.2 := m2.2
  refine mx_gow Cx 2 (pc' := 4) (L' := mx_ent 168 [mx_r (some (2, 63, 0))]) (st' := [mx_r (some (0, 0, 0)), mx_r (some (0, 0, 0))]) (σ' := (mx_alr mx_e0 0 0, mx_e0, (L, xs), (1, 5))) rfl hA (by show 1 ≤ 600000 + 0; omega) (by show 5 ≤ 7302250 + 0; omega) ?_
  intro ρ1 ls1 H1 locs1 cells1 slots1 hA1
  refine mx_cstp Cx (d1 := 999) (n := n1) (y := 0) (as := [mx_r (some (0, 0, 0))]) (pc1 := 7) (r := [mx_r (some (0, 0, 0))]) (v1 := none) rfl rfl (by decide) ev1 hA1 (by show oC.2.1 ≤ 600000 + 0; omega) (by show oC.2.2 ≤ 7302250 + 0; omega) ?_
  intro ρ2 H2 locs2 cells2 slots2 hA2 _
  refine mx_gow Cx 3 (pc' := 12) (L' := [some (mx_r (some (2, 63, 0))), some (mx_r (some (0, 0, 0))), none, none]) (st' := [mx_r (some (1, 11, 0)), mx_r (some (1, 11, 0))]) (σ' := (oC.1, mx_alr mx_e0 11 0, (L, xs), (oC.2.1 + 1, oC.2.2 + 42))) rfl hA2 (by show oC.2.1 + 1 ≤ 600000 + 0; omega) (by show oC.2.2 + 42 ≤ 7302250 + 0; omega) ?_
  intro ρ3 ls3 H3 locs3 cells3 slots3 hA3
  refine mx_cstp Cx (d1 := 999) (n := n2) (y := 116) (as := [mx_r (some (1, 11, 0))]) (pc1 := 15) (r := [mx_r (some (1, 11, 0))]) (v1 := none) rfl rfl (by decide) ev2 hA3 (by show oM.2.1 ≤ 600000 + 0; omega) (by show oM.2.2 ≤ 7302250 + 0; omega) ?_
  intro ρ4 H4 locs4 cells4 slots4 hA4 _
  refine mx_gow Cx 3 (pc' := 18) (L' := [some (mx_r (some (2, 63, 0))), some (mx_r (some (0, 0, 0))), some (mx_r (some (1, 11, 0))), some (mx_i (0 : Int32))]) (st' := []) (σ' := (oC.1, oM.1, (L, xs), (oM.2.1, oM.2.2))) rfl hA4 (by show oM.2.1 ≤ 600000 + 0; omega) (by show oM.2.2 ≤ 7302250 + 0; omega) ?_
  intro ρ5 ls5 H5 locs5 cells5 slots5 hA5
  -- over to the closed shapes
  have kin : ∀ t ty, mx_knd t = Sum.inr ty → 12 ≤ t := by
    intro t ty h
    by_cases h12 : t < 12
    · exfalso
      unfold mx_knd at h
      have hb : Nat.blt t 63 = true := by rw [Nat.blt_eq]; omega
      rw [hb] at h
      cases h
    · omega
  have g0 := sw_AgOf (g := 0) t1.1 sw_C0 t4 t5 ini_t6.1 (fun t i k hk => sw_big hk ini_h t i) kin
  have g1 := sw_AgOf (g := 1) t2.1.1 sw_M0 t3.1 t3.2 ini_t6.2 (fun t i k hk => sw_bigM hk t i) kin
  obtain ⟨q1, q2, q3, q4, q5, q6, q7⟩ := hA5
  have hR2 : mx_Rep (dC, dI, dA, scr) s.heap.size ρ5 (hC (fun t _ k => ini_i t k) (fun _ _ _ => 0) ini_h, hM (fun t _ k => ini_i t k) (fun _ _ _ => 0), (L, xs), (oM.2.1, oM.2.2)) H5 := sw_rep q1 g0 g1 rfl
  have hA6 : mx_At (dC, dI, dA, scr) s.heap.size 0 0 (mx_mL 168) ρ5 (hC (fun t _ k => ini_i t k) (fun _ _ _ => 0) ini_h, hM (fun t _ k => ini_i t k) (fun _ _ _ => 0), (L, xs), (oM.2.1, oM.2.2)) [some (mx_r (some (2, 63, 0))), some (mx_r (some (0, 0, 0))), some (mx_r (some (1, 11, 0))), some (mx_i (0 : Int32))] [] H5 locs5 cells5 slots5 ls5 := by
    refine ⟨hR2, q2, ⟨fun w hw => (by cases hw), fun i w hw => ?_⟩, q4, q5, q6, q7⟩
    match i, hw with
    | 0, hw => cases hw; exact Nat.zero_lt_one
    | 1, hw => cases hw; exact Nat.zero_lt_one
    | 2, hw => cases hw; exact Nat.zero_lt_one
    | 3, hw => cases hw; exact trivial
    | n + 4, hw => cases hw
  have w3 : mx_WP 1000 168 18 [some (mx_r (some (2, 63, 0))), some (mx_r (some (0, 0, 0))), some (mx_r (some (1, 11, 0))), some (mx_i (0 : Int32))] [] (hC (fun t _ k => ini_i t k) (fun _ _ _ => 0) ini_h, hM (fun t _ k => ini_i t k) (fun _ _ _ => 0), (L, xs), (oM.2.1, oM.2.2)) (fun v σ' => v = some (mx_i 1) ∧ mx_K σ' ≤ 600000 ∧ mx_Z σ' ≤ 7302250) :=
    T168 (d := 967) hrun (fun _ _ _ _ _ => ⟨rfl, hKM, hZM⟩)
  obtain ⟨n, v, σ', hev, rfl, hK, hZ⟩ := w3
  refine mx_walk n 1000 168 18 _ [] _ _ σ' hev p l e room_1 s m _ below meth c H5 locs5 cells5 slots5 _ ls5 (dC, dI, dA, scr) s.heap.size 0 0 ρ5 Cx hA6 hK hZ ?_
  intro ρ' pc' ls' H' locs' cells' slots' L' hA' hE hR
  obtain ⟨r1, r2, r3, r4, r5, r6, r7⟩ := hA'
  rcases hR with ⟨h1, h2, h3⟩ | ⟨x, h1, h2, h3⟩ | ⟨x, h1, h2, h3⟩ | ⟨x, h1, h2, h3⟩
  · cases h1
  · cases h1
    refine va_forget r4 ?_
    refine W.widen (k := 600000) (n := 7302250) (by omega) (by omega) ?_
    exact lw_ret hx hb hr hlocks h3
  · cases h1
  · cases h1
