/-! the law out of a run of the abstract machine -/
def mx_e0 : mx_Rg := (fun _ _ _ => 0, fun _ _ _ => 0, fun _ _ _ => none, fun _ => 0, fun _ _ => 0)
def mx_s0 (L : Nat) (xs : Nat → Int32) : mx_Hp := (mx_e0, mx_e0, (L, xs), (0, 0))
theorem mx_ok0 {L : Nat} {xs : Nat → Int32} {a : mx_Ad} (h : mx_ok (mx_s0 L xs) a) : a = (2, 63, 0) := by
  obtain ⟨g, t, i⟩ := a
  unfold mx_ok mx_C mx_rg at h
  match g, h with
  | 0, h => simp [mx_s0, mx_e0] at h
  | 1, h => simp [mx_s0, mx_e0] at h
  | 2, h =>
    simp only at h
    by_cases ht : t = 63
    · subst ht
      rw [if_pos rfl] at h
      have : i = 0 := by omega
      subst this
      rfl
    · rw [if_neg ht] at h
      omega
  | n + 3, h => simp at h
set_option maxHeartbeats 4000000 in
theorem mx_start {p : Program} {e : Env} {s : State} {m : MethodId} {below : List Frame} {meth : Method} {c : Code} (l : Launch) {b L : Nat} {xs : Nat → Int32} (C0 : lw_At p s m meth c b L xs)
    (run : mx_WP 1000 168 0 (mx_ent 168 [mx_r (some (2, 63, 0))]) [] (mx_s0 L xs) (fun v σ' => v = some (mx_i 1) ∧ mx_K σ' ≤ 600000 ∧ mx_Z σ' ≤ 7302250)) :
    W p l e room_1 s m #[Value.ref b] below meth c s.heap [] 0 0 (lw_Z below #[Value.ref b] s) (entryFrame m ([Value.ref b] : List Value).toArray 4) := by
  obtain ⟨hx, hb, hr, hml, hown, hts, ⟨scr, hX1, hX2, hX3, hX4, hX5⟩, hbl, hlocks, hgv⟩ := C0
  have hGT : ∀ w ∈ mx_GT, w.before #[Value.ref b] s = true := fun w hw => hts w (List.mem_filter.mp hw).1
  have hkn : ∀ ci : Nat, ∃ (cC : ClassId) (iS : Nat → Nat), ∀ q : vw_C, mx_cls[ci]? = some q → u_Kn s q.1 q.2.1 q.2.2 cC iS := by
    intro ci
    cases hq : mx_cls[ci]? with
    | none => exact ⟨0, fun _ => 0, fun q h => by cases h⟩
    | some q0 =>
      obtain ⟨cC, iS, h⟩ := u_known hGT (mx_cls_ok hq).1 (hGT _ (mx_inst_ok hq))
      refine ⟨cC, iS, fun q h2 => ?_⟩
      cases h2
      exact h
  have har : ∀ ty : FieldType, ∃ cA : ClassId, ty ∈ mx_aty → ArrOfT s cA ty ∧ va_RA s cA ty := by
    intro ty
    by_cases h : ty ∈ mx_aty
    · obtain ⟨cA, h2⟩ := mx_aty_in hts ty h
      exact ⟨cA, fun _ => h2⟩
    · exact ⟨0, fun h2 => absurd h2 h⟩
  obtain ⟨dC, hdC⟩ : ∃ dC : Nat → ClassId, ∀ ci, ∃ iS : Nat → Nat, ∀ q : vw_C, mx_cls[ci]? = some q → u_Kn s q.1 q.2.1 q.2.2 (dC ci) iS := ⟨fun ci => Classical.choose (hkn ci), fun ci => Classical.choose_spec (hkn ci)⟩
  obtain ⟨dI, hdI⟩ : ∃ dI : Nat → Nat → Nat, ∀ ci, ∀ q : vw_C, mx_cls[ci]? = some q → u_Kn s q.1 q.2.1 q.2.2 (dC ci) (dI ci) := ⟨fun ci => Classical.choose (hdC ci), fun ci => Classical.choose_spec (hdC ci)⟩
  obtain ⟨dA, hdA⟩ : ∃ dA : FieldType → ClassId, ∀ ty, ty ∈ mx_aty → ArrOfT s (dA ty) ty ∧ va_RA s (dA ty) ty := ⟨fun ty => Classical.choose (har ty), fun ty => Classical.choose_spec (har ty)⟩
  have hSW : mx_SW (dC, dI, dA, scr) s := ⟨⟨fun ci q hq => hdI ci q hq, fun k q h => by simp at h⟩, hdA, fun w hw => va_Nw.of rfl (hts _ (mx_nf_in w hw)), fun w hw => va_Nw.of rfl (hts _ (mx_nm_in w hw)), fun C hC => va_AO.of (hts _ (mx_ao_in C hC)), hX2⟩
  have hRep : mx_Rep (dC, dI, dA, scr) s.heap.size (fun _ => b) (mx_s0 L xs) s.heap := by
    refine ⟨fun a ha => ?_, fun a a2 ha ha2 _ => (mx_ok0 ha).trans (mx_ok0 ha2).symm, fun a k a2 ha hR => ?_, fun a ha hg => ?_⟩
    · rw [mx_ok0 ha]
      exact ⟨fun _ => ⟨hX1, hX3, hX4, hX5⟩, fun h => absurd h (by decide)⟩
    · rw [mx_ok0 ha] at hR
      cases hR
    · rw [mx_ok0 ha] at hg
      exact absurd hg (by decide)
  obtain ⟨n, v, σ', hev, rfl, hK, hZ⟩ := run
  have hl := lv_entry ([.ref b]) (n := 4) (Nat.le_of_ble_eq_true rfl)
  rw [lg_entry_eq]
  generalize (lg_sl ([.ref b]) ++ List.replicate (4 - (lg_sl ([.ref b])).length) Slot.unset).toArray = ls at hl ⊢
  have hA : mx_At (dC, dI, dA, scr) s.heap.size 0 0 (mx_mL 168) (fun _ => b) (mx_s0 L xs) (mx_ent 168 [mx_r (some (2, 63, 0))]) [] s.heap [] 0 0 ls := by
    refine ⟨hRep, ⟨hl.1, hl.2.1, fun i w hw _ => ?_⟩, ⟨fun w hw => (by cases hw), fun i w hw => ?_⟩, fun q hq => (by cases hq), rfl, rfl, Nat.le_refl _⟩
    · exact hl.2.2 _ (mx_ent_get (ρ := fun _ => b) hw).1
    · have h2 := (mx_ent_get (ρ := fun _ => b) hw).2
      rw [List.mem_singleton.mp h2]
      show 0 < mx_C (mx_s0 L xs) 2 63
      exact Nat.zero_lt_one
  have Cx : mx_Cx p s m #[Value.ref b] meth c room_1 (dC, dI, dA, scr) 168 1000 :=
    ⟨hx, hb, hml, hown, hGT, hSW, (fun h => by cases h), by decide, by decide⟩
  refine mx_walk n 1000 168 0 _ [] _ _ σ' hev p l e room_1 s m _ below meth c s.heap [] 0 0 _ ls (dC, dI, dA, scr) s.heap.size 0 0 (fun _ => b) Cx hA hK hZ ?_
  intro ρ' pc' ls' H' locs' cells' slots' L' hA' hE hR
  obtain ⟨r1, r2, r3, r4, r5, r6, r7⟩ := hA'
  rcases hR with ⟨h1, h2, h3⟩ | ⟨x, h1, h2, h3⟩ | ⟨x, h1, h2, h3⟩ | ⟨x, h1, h2, h3⟩
  · cases h1
  · cases h1
    refine va_forget r4 ?_
    refine W.widen (k := 600000) (n := 7302250) (by omega) (by omega) ?_
    exact lw_ret hx hb hr hlocks h3
  · cases h1
  · cases h1
