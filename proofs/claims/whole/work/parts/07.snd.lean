/-! the rows: a step of the abstract machine, then the rest -/
theorem mx_nwf {a : String} {i : Nat} {b n d h : String} {args : Array Value} {s : State} (hZ : va_Nw (.fieldLinkNest a i b n d h) s) : (Cond.fieldLinkNest a i b n d h).before args s = true := va_Nw.use rfl hZ
theorem mx_nfU {D : mx_D} {s : State} {args : Array Value} (h : mx_SW D s) {a : String} {i : Nat} {b n d host : String} (hh : (a, i, b, n, d, host) ∈ mx_nf) : (Cond.fieldLinkNest a i b n d host).before args s = true := by
  obtain ⟨-, -, h3, -⟩ := h
  exact mx_nwf (h3 _ hh)
section MXS
variable {p : Program} {l : Launch} {e : Env} {R : Room} {s : State} {m : MethodId} {args : Array Value} {below : List Frame} {meth : Method} {c : Code} {H : Heap} {locs : List Loc} {cells slots : Nat} {Q : State → Prop}
variable {cc : ByteArray} {pc : Nat} {ls : Array Slot} {rest : List Value}
theorem mx_ifc (hexec : p.tables.exec = Jvm.exec) (hb : c.code = cc) {x : Int32} {cd : Jvm.ClassFile.Cond} {off : Int} {tgt : Nat} (hdg : decode cc pc = .ok (.ifCond cd off, 3)) (ht : (pc : Int) + off = (tgt : Int))
    (k : W p l e R s m args below meth c H locs cells slots Q (F0 m (bif mx_cd cd x 0 then tgt else pc + 3) ls rest)) : W p l e R s m args below meth c H locs cells slots Q (F0 m pc ls (.int x :: rest)) := by
  cases cd
  · exact lv_if_eq hexec hb hdg ht (fun h => by simpa [mx_cd, h] using k) (fun h => by simpa [mx_cd, h] using k)
  · exact lv_if_ne hexec hb hdg ht (fun h => by simpa [mx_cd, h] using k) (fun h => by simpa [mx_cd, h] using k)
  · exact lv_if_lt hexec hb hdg ht (fun h => by simpa [mx_cd, h] using k) (fun h => by rw [show mx_cd .lt x 0 = false from decide_eq_false h] at k; exact k)
  · exact lv_if_ge hexec hb hdg ht (fun h => by rw [show mx_cd .ge x 0 = true from decide_eq_true h] at k; exact k) (fun h => by rw [show mx_cd .ge x 0 = false from decide_eq_false h] at k; exact k)
  · exact lv_if_gt hexec hb hdg ht (fun h => by rw [show mx_cd .gt x 0 = true from decide_eq_true h] at k; exact k) (fun h => by rw [show mx_cd .gt x 0 = false from decide_eq_false h] at k; exact k)
  · exact lv_if_le hexec hb hdg ht (fun h => by rw [show mx_cd .le x 0 = true from decide_eq_true h] at k; exact k) (fun h => by rw [show mx_cd .le x 0 = false from decide_eq_false h] at k; exact k)
theorem mx_icc (hexec : p.tables.exec = Jvm.exec) (hb : c.code = cc) {x y : Int32} {cd : Jvm.ClassFile.Cond} {off : Int} {tgt : Nat} (hdg : decode cc pc = .ok (.if_icmp cd off, 3)) (ht : (pc : Int) + off = (tgt : Int))
    (k : W p l e R s m args below meth c H locs cells slots Q (F0 m (bif mx_cd cd x y then tgt else pc + 3) ls rest)) : W p l e R s m args below meth c H locs cells slots Q (F0 m pc ls (.int y :: .int x :: rest)) := by
  cases cd
  · exact lv_icmp_eq hexec hb hdg ht (fun h => by rw [show mx_cd .eq x y = true from decide_eq_true h] at k; exact k) (fun h => by rw [show mx_cd .eq x y = false from decide_eq_false h] at k; exact k)
  · exact lv_icmp_ne hexec hb hdg ht (fun h => by rw [show mx_cd .ne x y = true by simp [mx_cd, h]] at k; exact k) (fun h => by rw [show mx_cd .ne x y = false by simp [mx_cd, h]] at k; exact k)
  · exact lv_icmp_lt hexec hb hdg ht (fun h => by rw [show mx_cd .lt x y = true from decide_eq_true h] at k; exact k) (fun h => by rw [show mx_cd .lt x y = false from decide_eq_false h] at k; exact k)
  · exact lv_icmp_ge hexec hb hdg ht (fun h => by rw [show mx_cd .ge x y = true from decide_eq_true h] at k; exact k) (fun h => by rw [show mx_cd .ge x y = false from decide_eq_false h] at k; exact k)
  · exact lv_icmp_gt hexec hb hdg ht (fun h => by rw [show mx_cd .gt x y = true from decide_eq_true h] at k; exact k) (fun h => by rw [show mx_cd .gt x y = false from decide_eq_false h] at k; exact k)
  · exact lv_icmp_le hexec hb hdg ht (fun h => by rw [show mx_cd .le x y = true from decide_eq_true h] at k; exact k) (fun h => by rw [show mx_cd .le x y = false from decide_eq_false h] at k; exact k)
variable {D : mx_D} {z0 K0 Z0 mid d nL : Nat} {ρ : mx_Ad → Nat} {σ : mx_Hp} {L : mx_L} {st : List mx_V}
/-- the stack alone changes -/
theorem mx_At.stk {st' : List mx_V} (h : mx_At D z0 K0 Z0 nL ρ σ L st H locs cells slots ls) (hs : ∀ v ∈ st', v ∈ st ∨ mx_vk σ v) : mx_At D z0 K0 Z0 nL ρ σ L st' H locs cells slots ls := ⟨h.1, h.2.1, h.2.2.1.st hs, h.2.2.2⟩
theorem mx_m0 {v : mx_V} {r : List mx_V} (hv : mx_vk σ v) : ∀ w ∈ v :: r, w ∈ r ∨ mx_vk σ w := fun w hw => by
  rcases List.mem_cons.mp hw with rfl | h
  · exact Or.inr hv
  · exact Or.inl h
theorem mx_mm1 {v x : mx_V} {r : List mx_V} (hv : mx_vk σ v) : ∀ w ∈ v :: r, w ∈ x :: r ∨ mx_vk σ w := fun w hw => by
  rcases List.mem_cons.mp hw with rfl | h
  · exact Or.inr hv
  · exact Or.inl (List.mem_cons_of_mem _ h)
theorem mx_mm2 {v x y : mx_V} {r : List mx_V} (hv : mx_vk σ v) : ∀ w ∈ v :: r, w ∈ y :: x :: r ∨ mx_vk σ w := fun w hw => by
  rcases List.mem_cons.mp hw with rfl | h
  · exact Or.inr hv
  · exact Or.inl (List.mem_cons_of_mem _ (List.mem_cons_of_mem _ h))
theorem mx_p1 {x : mx_V} {r : List mx_V} : ∀ w ∈ r, w ∈ x :: r ∨ mx_vk σ w := fun _ h => Or.inl (List.mem_cons_of_mem _ h)
theorem mx_p2 {x y : mx_V} {r : List mx_V} : ∀ w ∈ r, w ∈ y :: x :: r ∨ mx_vk σ w := fun _ h => Or.inl (List.mem_cons_of_mem _ (List.mem_cons_of_mem _ h))
theorem mx_p3 {x y z : mx_V} {r : List mx_V} : ∀ w ∈ r, w ∈ z :: y :: x :: r ∨ mx_vk σ w := fun _ h => Or.inl (List.mem_cons_of_mem _ (List.mem_cons_of_mem _ (List.mem_cons_of_mem _ h)))
/-- locals -/
theorem mx_ldk {i : Nat} {x : mx_V} (h : mx_At D z0 K0 Z0 nL ρ σ L st H locs cells slots ls) (hl : L[i]? = some (some x)) (hb : mx_hb L i x = true) : ls[i]? = some (.val (mx_tv ρ x)) ∧ mx_At D z0 K0 Z0 nL ρ σ L (x :: st) H locs cells slots ls := ⟨h.2.1.2.2 i x hl hb, h.stk (mx_m0 (h.2.2.1.2 i x hl))⟩
theorem mx_store1 {i : Nat} {x : mx_V} {r : List mx_V} {ls' : Array Slot} (h : mx_At D z0 K0 Z0 nL ρ σ L (x :: r) H locs cells slots ls) (hl : lv_has ls' nL ((i, mx_tv ρ x) :: (mx_lv ρ L).filter (fun q => !(q.1 == i) && !(q.1 + 1 == i && q.2.category == 2)))) : mx_At D z0 K0 Z0 nL ρ σ (mx_put1 L i x) r H locs cells slots ls' := ⟨h.1, mx_Lr.put1 hl, h.2.2.1.put1 (h.2.2.1.1 x List.mem_cons_self) (fun _ q => List.mem_cons_of_mem _ q), h.2.2.2⟩
theorem mx_store2 {i : Nat} {x : mx_V} {r : List mx_V} {ls' : Array Slot} (h : mx_At D z0 K0 Z0 nL ρ σ L (x :: r) H locs cells slots ls) (hl : lv_has ls' nL ((i, mx_tv ρ x) :: (mx_lv ρ L).filter (fun q => !(q.1 == i) && (!(q.1 == i + 1) && !(q.1 + 1 == i && q.2.category == 2))))) : mx_At D z0 K0 Z0 nL ρ σ (mx_put2 L i x) r H locs cells slots ls' := ⟨h.1, mx_Lr.put2 hl, h.2.2.1.put2 (h.2.2.1.1 x List.mem_cons_self) (fun _ q => List.mem_cons_of_mem _ q), h.2.2.2⟩
/-- reading -/
theorem mx_rdk (h : mx_Rep D z0 ρ σ H) {a : mx_Ad} (ha : mx_ok σ a) (ty : FieldType) (k : Nat) : mx_vk σ (mx_rd σ a ty k) := by
  cases ty <;> (simp only [mx_rd]; first | trivial | skip)
  all_goals
    cases hr : mx_R σ a k with
    | none => trivial
    | some b => exact h.2.2.1 a k b ha hr
theorem mx_fitsO {ty : FieldType} {v : mx_V} {σ' : mx_Hp} {a : mx_Ad} {k : Nat} (h : mx_wr σ a ty k v = some σ') : narrow ty (mx_tv ρ v) = mx_tv ρ v ∧ fits ty (mx_tv ρ v) = true := by
  unfold mx_wr at h
  split at h
  · exact ⟨rfl, rfl⟩
  · rename_i x
    cases x <;> exact ⟨rfl, rfl⟩
  · rename_i x
    cases x <;> exact ⟨rfl, rfl⟩
  · exact ⟨rfl, rfl⟩
  · split at h
    · rename_i hx
      rcases hx with rfl | rfl
      · exact ⟨show narrow .boolean (.int 0) = .int 0 by decide, show fits .boolean (.int 0) = true by decide⟩
      · exact ⟨show narrow .boolean (.int 1) = .int 1 by decide, show fits .boolean (.int 1) = true by decide⟩
    · cases h
  · cases h
/-- what a write does to the abstract heap -/
theorem mx_wr_o {ty : FieldType} {v : mx_V} {σ' : mx_Hp} {a : mx_Ad} {k : Nat} (h : mx_wr σ a ty k v = some σ') (hg : a.1 < 2) (hv : mx_vk σ v) (hR : ∀ k b, mx_R σ a k = some b → mx_ok σ b) :
    (∀ g t, mx_C σ' g t = mx_C σ g t) ∧ (∀ b, b ≠ a → ∀ k, mx_I σ' b k = mx_I σ b k) ∧ (∀ b, b ≠ a → ∀ k, mx_J σ' b k = mx_J σ b k) ∧ (∀ b, b ≠ a → ∀ k, mx_R σ' b k = mx_R σ b k) ∧ (∀ b, mx_N σ' b = mx_N σ b) ∧ (∀ k b, mx_R σ' a k = some b → mx_ok σ b) ∧ mx_K σ' = mx_K σ ∧ mx_Z σ' = mx_Z σ ∧ mx_rd σ' a ty k = v ∧ (∀ ty' j, j ≠ k → mx_rd σ' a ty' j = mx_rd σ a ty' j) := by
  unfold mx_wr at h
  split at h
  · cases h
    rename_i x
    obtain ⟨o1, o2, o3, o4, o5, o6⟩ := mx_sJ_o (σ := σ) (k := k) hg x
    refine ⟨o3, fun b _ j => o1 b j, fun b hb j => ?_, fun b _ j => o2 b j, o4, fun j b => by rw [o2]; exact hR j b, o5, o6, ?_, fun ty' j hj => mx_rd_eq (o1 a j) ?_ (o2 a j) ty'⟩
    · rw [mx_J_sJ hg, if_neg (fun q => hb q.1)]
    · simp only [mx_rd]
      rw [mx_J_sJ hg, if_pos ⟨rfl, rfl⟩]
    · rw [mx_J_sJ hg, if_neg (fun q => hj q.2)]
  · cases h
    rename_i x
    obtain ⟨o1, o2, o3, o4, o5, o6⟩ := mx_sR_o (σ := σ) (k := k) hg x
    refine ⟨o3, fun b _ j => o1 b j, fun b _ j => o2 b j, fun b hb j => ?_, o4, fun j b => ?_, o5, o6, ?_, fun ty' j hj => mx_rd_eq (o1 a j) (o2 a j) ?_ ty'⟩
    · rw [mx_R_sR hg, if_neg (fun q => hb q.1)]
    · rw [mx_R_sR hg]
      split
      · intro hx
        subst hx
        exact hv
      · exact hR j b
    · simp only [mx_rd]
      rw [mx_R_sR hg, if_pos ⟨rfl, rfl⟩]
    · rw [mx_R_sR hg, if_neg (fun q => hj q.2)]
  · cases h
    rename_i x
    obtain ⟨o1, o2, o3, o4, o5, o6⟩ := mx_sR_o (σ := σ) (k := k) hg x
    refine ⟨o3, fun b _ j => o1 b j, fun b _ j => o2 b j, fun b hb j => ?_, o4, fun j b => ?_, o5, o6, ?_, fun ty' j hj => mx_rd_eq (o1 a j) (o2 a j) ?_ ty'⟩
    · rw [mx_R_sR hg, if_neg (fun q => hb q.1)]
    · rw [mx_R_sR hg]
      split
      · intro hx
        subst hx
        exact hv
      · exact hR j b
    · simp only [mx_rd]
      rw [mx_R_sR hg, if_pos ⟨rfl, rfl⟩]
    · rw [mx_R_sR hg, if_neg (fun q => hj q.2)]
  · cases h
    rename_i x
    obtain ⟨o1, o2, o3, o4, o5, o6⟩ := mx_sI_o (σ := σ) (k := k) hg x
    refine ⟨o3, fun b hb j => ?_, fun b _ j => o1 b j, fun b _ j => o2 b j, o4, fun j b => by rw [o2]; exact hR j b, o5, o6, ?_, fun ty' j hj => mx_rd_eq ?_ (o1 a j) (o2 a j) ty'⟩
    · rw [mx_I_sI hg, if_neg (fun q => hb q.1)]
    · simp only [mx_rd]
      rw [mx_I_sI hg, if_pos ⟨rfl, rfl⟩]
    · rw [mx_I_sI hg, if_neg (fun q => hj q.2)]
  · split at h
    · cases h
      rename_i x _
      obtain ⟨o1, o2, o3, o4, o5, o6⟩ := mx_sI_o (σ := σ) (k := k) hg x
      refine ⟨o3, fun b hb j => ?_, fun b _ j => o1 b j, fun b _ j => o2 b j, o4, fun j b => by rw [o2]; exact hR j b, o5, o6, ?_, fun ty' j hj => mx_rd_eq ?_ (o1 a j) (o2 a j) ty'⟩
      · rw [mx_I_sI hg, if_neg (fun q => hb q.1)]
      · simp only [mx_rd]
        rw [mx_I_sI hg, if_pos ⟨rfl, rfl⟩]
      · rw [mx_I_sI hg, if_neg (fun q => hj q.2)]
    · cases h
  · cases h
/-- the cell behind a field -/
theorem mx_objc (h : mx_Rep D z0 ρ σ H) {g ci i : Nat} (ha : mx_ok σ (g, ci, i)) (hg : g < 2) {q : vw_C} (hq : mx_cls[ci]? = some q) : t_OB (ρ (g, ci, i)) (D.1 ci) q.2.2 (D.2.1 ci) H (fun k => mx_tv ρ (mx_rd σ (g, ci, i) (mx_fty ci k) k)) := by
  have h1 := (h.1 _ ha).2 hg
  have h2 : mx_knd ci = .inl ci := (mx_cls_ok hq).2.2.2.2.2.1
  simp only [h2] at h1
  obtain ⟨q', hq', hO⟩ := h1
  cases hq.symm.trans hq'
  exact hO
/-- getfield -/
theorem mx_getS (Cx : mx_Cx p s m args meth c R D mid d) (hA : mx_At D z0 K0 Z0 nL ρ σ L st H locs cells slots ls) {idx q : Nat} {o : mx_Rs} (hq : q = pc + 3) (hd : decode (mx_mb mid) pc = .ok (.getfield idx, 3)) (h : mx_get mid idx q L st σ = some o)
    (kk : ∀ st', o = .inl (q, L, st', σ) → mx_At D z0 K0 Z0 nL ρ σ L st' H locs cells slots ls → W p l e R s m args below meth c H locs cells slots Q (F0 m q ls (st'.map (mx_tv ρ)))) : W p l e R s m args below meth c H locs cells slots Q (F0 m pc ls (st.map (mx_tv ρ))) := by
  subst hq
  obtain ⟨hx, hb, hml, hown, hts, hSW, -⟩ := Cx
  obtain ⟨ci, k, nst, g, i, r, hf, rfl, hg, rfl⟩ := mx_get_i h
  obtain ⟨qc, hqc, hkN, hw1, hw2⟩ := mx_fld_ok hf
  have ha : mx_ok σ (g, ci, i) := hA.2.2.1.1 _ List.mem_cons_self
  obtain ⟨cell, c1, c2, c3, c4⟩ := mx_objc hA.1 ha hg hqc
  obtain ⟨hin, -⟩ := mx_cls_ok hqc
  obtain ⟨hS, hfc, kC, hkC, hkind⟩ := hSW.1.1 ci _ hqc
  obtain ⟨cf, kf, fi, f, hi, hsl⟩ := hS k hkN
  have hst := (u_facts hfc hkC (u_lays hts hin hkN) hi).1
  have hdl : (qc.2.1 k).1 = qc.1 := ((mx_cls_ok hqc).2.2.2.1 k hkN).2.1
  have hi' := hi
  rw [hdl] at hi'
  have go := kk _ rfl (hA.stk (mx_mm1 (mx_rdk hA.1 ha (mx_fty ci k) k)))
  cases nst with
  | false => exact W.getf hx hb hown (hts _ (hw1 rfl)) hi' hst c1 (by rw [c3]; exact fun h => by cases h) (by rw [hsl, c4 k hkN]) rfl rfl hd go
  | true =>
    obtain ⟨host, hh⟩ := hw2 rfl
    have hn : (Cond.fieldLinkNest (mx_own (mx_mc mid)) idx qc.1 (qc.2.1 k).2.1 (qc.2.1 k).2.2.1 host).before args s = true := mx_nfU hSW hh
    exact va_Wgetf hx hb hown hn hi' hst c1 (by rw [c3]; exact fun h => by cases h) (by rw [hsl, c4 k hkN]) rfl rfl hd go
/-- putfield -/
theorem mx_ptS (Cx : mx_Cx p s m args meth c R D mid d) (hA : mx_At D z0 K0 Z0 nL ρ σ L st H locs cells slots ls) {idx q : Nat} {o : mx_Rs} (hq : q = pc + 3) (hd : decode (mx_mb mid) pc = .ok (.putfield idx, 3)) (h : mx_pt mid idx q L st σ = some o)
    (kk : ∀ st' σ' H' locs', o = .inl (q, L, st', σ') → mx_At D z0 K0 Z0 nL ρ σ' L st' H' locs' cells slots ls → mx_Ext ρ σ ρ σ' → W p l e R s m args below meth c H' locs' cells slots Q (F0 m q ls (st'.map (mx_tv ρ)))) : W p l e R s m args below meth c H locs cells slots Q (F0 m pc ls (st.map (mx_tv ρ))) := by
  subst hq
  obtain ⟨hx, hb, hml, hown, hts, hSW, hin0, -⟩ := Cx
  obtain ⟨ci, k, nst, g, i, r, v, σ', hf, rfl, hg, hfinal, hwr, rfl⟩ := mx_pt_i h
  obtain ⟨qc, hqc, hkN, hw1, hw2⟩ := mx_fld_ok hf
  have hvk : mx_vk σ v := hA.2.2.1.1 _ List.mem_cons_self
  have ha : mx_ok σ (g, ci, i) := hA.2.2.1.1 _ (List.mem_cons_of_mem _ List.mem_cons_self)
  have hO := mx_objc hA.1 ha hg hqc
  obtain ⟨cell, c1, c2, c3, c4⟩ := hO
  obtain ⟨hin, hnm, hty, hrest, hcn, hknd, -⟩ := mx_cls_ok hqc
  have hap := va_apart (own := mx_own (mx_mc mid)) hts hin (mx_fty ci) hty hnm hSW.1 hqc
  obtain ⟨hS, hfc, kC, hkC, hkind⟩ := hSW.1.1 ci _ hqc
  obtain ⟨cf, kf, fi, f, hi, hsl⟩ := hS k hkN
  have hlays := u_lays hts hin hkN
  have hst := (u_facts hfc hkC hlays hi).1
  obtain ⟨hfin, hdl, -⟩ := hrest k hkN
  have hi' := hi
  rw [hdl] at hi'
  obtain ⟨hn, hfit⟩ := mx_fitsO (ρ := ρ) hwr
  obtain ⟨w1, w2, w3, w4, w5, w6, w7, w8, w9, w10⟩ := mx_wr_o hwr hg hvk (fun j b => hA.1.2.2.1 _ j b ha)
  have go : ∀ H' : Heap, H'[ρ (g, ci, i)]? = some (cell.setSlot f.slot (mx_tv ρ v)) → H'.size = H.size → (∀ q, q ≠ ρ (g, ci, i) → H'[q]? = H[q]?) → W p l e R s m args below meth c H' (locs ++ [⟨ρ (g, ci, i), f.slot⟩]) cells slots Q (F0 m (pc + 3) ls (r.map (mx_tv ρ))) := by
    intro H' e1 e2 e3
    rw [hsl] at e1 ⊢
    have hE : mx_Ext ρ σ ρ σ' := fun b hb => ⟨by unfold mx_ok at hb ⊢; rw [w1]; exact hb, rfl⟩
    refine kk r σ' H' _ rfl ⟨?_, hA.2.1, ?_, ?_, by rw [w7]; exact hA.2.2.2.2.1, by rw [w8]; exact hA.2.2.2.2.2.1, by rw [e2]; exact hA.2.2.2.2.2.2⟩ hE
    · refine hA.1.wr ha hg w1 w2 w3 w4 w5 ?_ w6 e3
      simp only [hknd]
      refine ⟨qc, hqc, t_OB.to (V := updV (fun k => mx_tv ρ (mx_rd σ (g, ci, i) (mx_fty ci k) k)) k (mx_tv ρ v)) ⟨_, e1, c2, c3, t_set c4 hap hkN _⟩ (fun j _ => ?_)⟩
      unfold updV
      by_cases hj : j = k
      · subst hj
        rw [if_pos rfl, w9]
      · rw [if_neg hj, w10 _ j hj]
    · exact ((hA.2.2.1.st (st' := r) mx_p2).mv hE).1
    · intro x hx2
      rcases List.mem_append.mp hx2 with h1 | h1
      · exact hA.2.2.2.1 x h1
      · rw [List.mem_singleton.mp h1]
        exact hA.1.2.2.2 _ ha hg
  rcases hfinal with hff | ⟨hmi, hmc, hnst⟩
  · have hlay := hts _ (hin _ (u_in_lay hkN))
    unfold u_lay at hlay
    rw [if_neg (by rw [hfin, hff]; decide)] at hlay
    have h6 := u_store hfc hkC hkind hlay hi (hty k hkN) hn hfit
    cases nst with
    | false => exact W.putK hx hb (f := f) ⟨hown, hts _ (hw1 rfl), ⟨_, _, _, hi'⟩, hst⟩ (by rw [c2]; exact h6) c1 c3 (by rw [hsl]; exact k2_hasslot (c4 k hkN)) rfl rfl hd go
    | true =>
      obtain ⟨host, hh⟩ := hw2 rfl
      have hn : (Cond.fieldLinkNest (mx_own (mx_mc mid)) idx qc.1 (qc.2.1 k).2.1 (qc.2.1 k).2.2.1 host).before args s = true := mx_nfU hSW hh
      exact va_WputK hx hb (f := f) hown hn hi' hst (by rw [c2]; exact h6) c1 c3 (by rw [hsl]; exact k2_hasslot (c4 k hkN)) rfl rfl hd go
  · by_cases hff : mx_fin ci k = true
    · have hlay := hts _ (hin _ (u_in_lay hkN))
      unfold u_lay at hlay
      rw [if_pos (by rw [hfin, hff])] at hlay
      have hcf : m.cls = cf := by
        obtain ⟨_, _, c', _, _, _, -, -, hf', -, -, -, hown2, -⟩ := Cond.laysFinal_spec hlay
        have e1 : c' = cf := by have := hi.symm.trans hf'; simp at this; exact this.1.symm
        rw [hdl, ← hcn, ← hmc] at hown2
        rw [← e1]; exact Option.some.inj (hown.symm.trans hown2)
      have h6 := u_fits hfc hkC hkind (Or.inr hlay) hi (hty k hkN) hn hfit
      exact W.putFinK hx hb hown (hts _ (hw1 hnst)) hi' hst hcf (hin0 hmi) (by rw [c2]; exact h6) c1 c3 (by rw [hsl]; exact k2_hasslot (c4 k hkN)) rfl rfl hd go
    · have hff : mx_fin ci k = false := by simpa using hff
      have hlay := hts _ (hin _ (u_in_lay hkN))
      unfold u_lay at hlay
      rw [if_neg (by rw [hfin, hff]; decide)] at hlay
      have h6 := u_store hfc hkC hkind hlay hi (hty k hkN) hn hfit
      exact W.putK hx hb (f := f) ⟨hown, hts _ (hw1 hnst), ⟨_, _, _, hi'⟩, hst⟩ (by rw [c2]; exact h6) c1 c3 (by rw [hsl]; exact k2_hasslot (c4 k hkN)) rfl rfl hd go
/-- an array's cell -/
theorem mx_arrc (h : mx_Rep D z0 ρ σ H) (hSW : mx_SW D s) {a : mx_Ad} (ha : mx_ok σ a) {ty : FieldType} (hk : mx_knd a.2.1 = .inr ty) : ∃ cell : Cell, H[ρ a]? = some cell ∧ s.isArrayOf cell ty ∧ cell.vm ≠ .unknown ∧ cell.slots.size = mx_N σ a ∧ ∀ k, k < mx_N σ a → cell.slots[k]? = some (mx_tv ρ (mx_rd σ a ty k)) := by
  by_cases hg : a.1 < 2
  · have h1 := (h.1 a ha).2 hg
    simp only [hk] at h1
    have h1 : H[ρ a]? = some (arrV (D.2.2.1 ty) (mx_N σ a) (fun k => mx_tv ρ (mx_rd σ a ty k))) := h1
    refine ⟨arrV (D.2.2.1 ty) (mx_N σ a) (fun k => mx_tv ρ (mx_rd σ a ty k)), h1, (hSW.2.1 ty (mx_knd_ok hk)).1 _ _, ?_, arrV_size _ _ _, fun k hkn => arrV_read _ _ hkn⟩
    intro q
    cases q
  · obtain ⟨h1, h2, h3, h4⟩ := (h.1 a ha).1 (by omega)
    have hs : a.2.1 = 63 := by
      obtain ⟨g, t, i⟩ := a
      unfold mx_ok mx_C mx_rg at ha
      simp only at ha hg ⊢
      match g, hg with
      | 2, _ =>
        simp only at ha
        by_cases ht : t = 63
        · exact ht
        · rw [if_neg ht] at ha
          omega
      | n + 3, _ => simp only at ha; omega
    rw [hs, mx_knd_scr] at hk
    cases hk
    exact ⟨_, h1, hSW.2.2.2.2.2, h2, h3, fun k hkn => h4 k hkn⟩
theorem mx_aldS (Cx : mx_Cx p s m args meth c R D mid d) (hA : mx_At D z0 K0 Z0 nL ρ σ L st H locs cells slots ls) {ty : FieldType → Bool} {q : Nat} {o : mx_Rs} (hq : q = pc + 1) (h : mx_ald ty q L st σ = some o)
    (row : ∀ (t : FieldType) (a : Nat) (cell : Cell) (j : Int32) (v : Value) (rest : List Value), ty t = true → H[a]? = some cell → s.isArrayOf cell t → cell.vm ≠ .unknown → ¬ (j < 0 ∨ cell.slots.size ≤ j.toNatClampNeg) → cell.slots[j.toNatClampNeg]? = some v → W p l e R s m args below meth c H locs cells slots Q (F0 m (pc + 1) ls (v :: rest)) → W p l e R s m args below meth c H locs cells slots Q (F0 m pc ls (.int j :: .ref a :: rest)))
    (kk : ∀ st', o = .inl (q, L, st', σ) → mx_At D z0 K0 Z0 nL ρ σ L st' H locs cells slots ls → W p l e R s m args below meth c H locs cells slots Q (F0 m q ls (st'.map (mx_tv ρ)))) : W p l e R s m args below meth c H locs cells slots Q (F0 m pc ls (st.map (mx_tv ρ))) := by
  subst hq
  obtain ⟨i, a, r, t, rfl, hk, hty, hin, rfl⟩ := mx_ald_i h
  have ha : mx_ok σ a := hA.2.2.1.1 _ (List.mem_cons_of_mem _ List.mem_cons_self)
  obtain ⟨cell, c1, c2, c3, c4, c5⟩ := mx_arrc hA.1 Cx.2.2.2.2.2.1 ha hk
  have hlt : i.toNatClampNeg < mx_N σ a := Nat.not_le.mp fun q => hin (Or.inr q)
  exact row t (ρ a) cell i _ _ hty c1 c2 c3 (by rw [c4]; exact hin) (c5 _ hlt) (kk _ rfl (hA.stk (mx_mm2 (mx_rdk hA.1 ha t _))))
/-- a store into an array -/
theorem mx_astS (Cx : mx_Cx p s m args meth c R D mid d) (hA : mx_At D z0 K0 Z0 nL ρ σ L st H locs cells slots ls) {a : mx_Ad} {i : Int32} {ty : FieldType} {v : mx_V} {r : List mx_V} {σ' : mx_Hp} (ha : mx_ok σ a) (hg : a.1 < 2) (hk : mx_knd a.2.1 = .inr ty) (hin : ¬ (i < 0 ∨ mx_N σ a ≤ i.toNatClampNeg)) (hr : ∀ w ∈ r, w ∈ st)
    (w1 : ∀ g t, mx_C σ' g t = mx_C σ g t) (w2 : ∀ b, b ≠ a → ∀ k, mx_I σ' b k = mx_I σ b k) (w3 : ∀ b, b ≠ a → ∀ k, mx_J σ' b k = mx_J σ b k) (w4 : ∀ b, b ≠ a → ∀ k, mx_R σ' b k = mx_R σ b k) (w5 : ∀ b, mx_N σ' b = mx_N σ b) (w6 : ∀ k b, mx_R σ' a k = some b → mx_ok σ b) (w7 : mx_K σ' = mx_K σ) (w8 : mx_Z σ' = mx_Z σ) (w9 : mx_rd σ' a ty i.toNatClampNeg = v) (w10 : ∀ j, j ≠ i.toNatClampNeg → mx_rd σ' a ty j = mx_rd σ a ty j)
    (kk : ∀ H' locs', mx_At D z0 K0 Z0 nL ρ σ' L r H' locs' cells slots ls → mx_Ext ρ σ ρ σ' → W p l e R s m args below meth c H' locs' cells slots Q (F0 m (pc + 1) ls (r.map (mx_tv ρ)))) :
    ∀ H' : Heap, H'[ρ a]? = some ((arrV (D.2.2.1 ty) (mx_N σ a) (fun k => mx_tv ρ (mx_rd σ a ty k))).setSlot i.toNatClampNeg (mx_tv ρ v)) → H'.size = H.size → (∀ q, q ≠ ρ a → H'[q]? = H[q]?) → W p l e R s m args below meth c H' (locs ++ [⟨ρ a, i.toNatClampNeg⟩]) cells slots Q (F0 m (pc + 1) ls (r.map (mx_tv ρ))) := by
  intro H' e1 e2 e3
  have hE : mx_Ext ρ σ ρ σ' := fun b hb => ⟨by unfold mx_ok at hb ⊢; rw [w1]; exact hb, rfl⟩
  refine kk H' _ ⟨?_, hA.2.1, ?_, ?_, by rw [w7]; exact hA.2.2.2.2.1, by rw [w8]; exact hA.2.2.2.2.2.1, by rw [e2]; exact hA.2.2.2.2.2.2⟩ hE
  · refine hA.1.wr ha hg w1 w2 w3 w4 w5 ?_ w6 e3
    simp only [hk]
    show H'[ρ a]? = _
    rw [e1, arrV_store, w5]
    congr 2
    funext j
    unfold updV
    by_cases hj : j = i.toNatClampNeg
    · subst hj
      rw [if_pos rfl, w9]
    · rw [if_neg hj, w10 j hj]
  · exact ((hA.2.2.1.st (st' := r) (fun w hw => Or.inl (hr w hw))).mv hE).1
  · intro x hx2
    rcases List.mem_append.mp hx2 with h1 | h1
    · exact hA.2.2.2.1 x h1
    · rw [List.mem_singleton.mp h1]
      exact hA.1.2.2.2 _ ha hg
end MXS
