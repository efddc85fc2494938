section MXT
variable {p : Program} {l : Launch} {e : Env} {R : Room} {s : State} {m : MethodId} {args : Array Value} {below : List Frame} {meth : Method} {c : Code} {H : Heap} {locs : List Loc} {cells slots : Nat} {Q : State → Prop}
variable {pc : Nat} {ls : Array Slot} {D : mx_D} {z0 K0 Z0 mid d nL : Nat} {ρ : mx_Ad → Nat} {σ : mx_Hp} {L : mx_L} {st : List mx_V}
theorem mx_arrw (h : mx_Rep D z0 ρ σ H) {a : mx_Ad} (ha : mx_ok σ a) (hg : a.1 < 2) {ty : FieldType} (hk : mx_knd a.2.1 = .inr ty) : H[ρ a]? = some (arrV (D.2.2.1 ty) (mx_N σ a) (fun k => mx_tv ρ (mx_rd σ a ty k))) := by
  have h1 := (h.1 a ha).2 hg
  simp only [hk] at h1
  exact h1
theorem mx_iastS (Cx : mx_Cx p s m args meth c R D mid d) (hA : mx_At D z0 K0 Z0 nL ρ σ L st H locs cells slots ls) {o : mx_Rs} (hd : decode (mx_mb mid) pc = .ok (.iastore, 1)) (h : mx_iast (pc + 1) L st σ = some o)
    (kk : ∀ st' σ' H' locs', o = .inl (pc + 1, L, st', σ') → mx_At D z0 K0 Z0 nL ρ σ' L st' H' locs' cells slots ls → mx_Ext ρ σ ρ σ' → W p l e R s m args below meth c H' locs' cells slots Q (F0 m (pc + 1) ls (st'.map (mx_tv ρ)))) : W p l e R s m args below meth c H locs cells slots Q (F0 m pc ls (st.map (mx_tv ρ))) := by
  obtain ⟨hx, hb, -⟩ := id Cx
  obtain ⟨x, i, a, r, rfl, hk, hg, hin, rfl⟩ := mx_iast_i h
  have ha : mx_ok σ a := hA.2.2.1.1 _ (List.mem_cons_of_mem _ (List.mem_cons_of_mem _ List.mem_cons_self))
  obtain ⟨o1, o2, o3, o4, o5, o6⟩ := mx_sI_o (σ := σ) (k := i.toNatClampNeg) hg x
  have hc := mx_arrw hA.1 ha hg hk
  refine W.iast hx hb hc ((Cx.2.2.2.2.2.1.2.1 .int (mx_knd_ok hk)).1 _ _) (fun q => by cases q) (by rw [arrV_size]; exact hin) rfl rfl hd ?_
  refine mx_astS (v := .inl x) Cx hA ha hg hk hin (fun w hw => by simp [hw]) o3 (fun b hb2 j => by rw [mx_I_sI hg, if_neg (fun q => hb2 q.1)]) (fun b _ j => o1 b j) (fun b _ j => o2 b j) o4 (fun j b => by rw [o2]; exact hA.1.2.2.1 _ j b ha) o5 o6 (by simp only [mx_rd]; rw [mx_I_sI hg, if_pos ⟨rfl, rfl⟩]) (fun j hj => by simp only [mx_rd]; rw [mx_I_sI hg, if_neg (fun q => hj q.2)]) (fun H' locs' => kk r _ H' locs' rfl)
theorem mx_lastS (Cx : mx_Cx p s m args meth c R D mid d) (hA : mx_At D z0 K0 Z0 nL ρ σ L st H locs cells slots ls) {o : mx_Rs} (hd : decode (mx_mb mid) pc = .ok (.lastore, 1)) (h : mx_last (pc + 1) L st σ = some o)
    (kk : ∀ st' σ' H' locs', o = .inl (pc + 1, L, st', σ') → mx_At D z0 K0 Z0 nL ρ σ' L st' H' locs' cells slots ls → mx_Ext ρ σ ρ σ' → W p l e R s m args below meth c H' locs' cells slots Q (F0 m (pc + 1) ls (st'.map (mx_tv ρ)))) : W p l e R s m args below meth c H locs cells slots Q (F0 m pc ls (st.map (mx_tv ρ))) := by
  obtain ⟨hx, hb, -⟩ := id Cx
  obtain ⟨x, i, a, r, rfl, hk, hg, hin, rfl⟩ := mx_last_i h
  have ha : mx_ok σ a := hA.2.2.1.1 _ (List.mem_cons_of_mem _ (List.mem_cons_of_mem _ List.mem_cons_self))
  obtain ⟨o1, o2, o3, o4, o5, o6⟩ := mx_sJ_o (σ := σ) (k := i.toNatClampNeg) hg x
  have hc := mx_arrw hA.1 ha hg hk
  refine W.last hx hb hc ((Cx.2.2.2.2.2.1.2.1 .long (mx_knd_ok hk)).1 _ _) (fun q => by cases q) (by rw [arrV_size]; exact hin) rfl rfl hd ?_
  refine mx_astS (v := .inr (.inl x)) Cx hA ha hg hk hin (fun w hw => by simp [hw]) o3 (fun b _ j => o1 b j) (fun b hb2 j => by rw [mx_J_sJ hg, if_neg (fun q => hb2 q.1)]) (fun b _ j => o2 b j) o4 (fun j b => by rw [o2]; exact hA.1.2.2.1 _ j b ha) o5 o6 (by simp only [mx_rd]; rw [mx_J_sJ hg, if_pos ⟨rfl, rfl⟩]) (fun j hj => by simp only [mx_rd]; rw [mx_J_sJ hg, if_neg (fun q => hj q.2)]) (fun H' locs' => kk r _ H' locs' rfl)
theorem mx_bastS (Cx : mx_Cx p s m args meth c R D mid d) (hA : mx_At D z0 K0 Z0 nL ρ σ L st H locs cells slots ls) {o : mx_Rs} (hd : decode (mx_mb mid) pc = .ok (.bastore, 1)) (h : mx_bast (pc + 1) L st σ = some o)
    (kk : ∀ st' σ' H' locs', o = .inl (pc + 1, L, st', σ') → mx_At D z0 K0 Z0 nL ρ σ' L st' H' locs' cells slots ls → mx_Ext ρ σ ρ σ' → W p l e R s m args below meth c H' locs' cells slots Q (F0 m (pc + 1) ls (st'.map (mx_tv ρ)))) : W p l e R s m args below meth c H locs cells slots Q (F0 m pc ls (st.map (mx_tv ρ))) := by
  obtain ⟨hx, hb, -⟩ := id Cx
  obtain ⟨x, i, a, r, ty, rfl, hk, hty, hg, hin, rfl⟩ := mx_bast_i h
  have ha : mx_ok σ a := hA.2.2.1.1 _ (List.mem_cons_of_mem _ (List.mem_cons_of_mem _ List.mem_cons_self))
  obtain ⟨o1, o2, o3, o4, o5, o6⟩ := mx_sI_o (σ := σ) (k := i.toNatClampNeg) hg (vp_nar ty x)
  have hc := mx_arrw hA.1 ha hg hk
  have hrd : ∀ (τ : mx_Hp) (j : Nat), mx_rd τ a ty j = mx_i (mx_I τ a j) := fun τ j => by rcases hty with rfl | rfl <;> rfl
  have go := mx_astS (v := .inl (vp_nar ty x)) Cx hA ha hg hk hin (r := r) (pc := pc) (l := l) (e := e) (below := below) (Q := Q) (fun w hw => by simp [hw]) o3 (fun b hb2 j => by rw [mx_I_sI hg, if_neg (fun q => hb2 q.1)]) (fun b _ j => o1 b j) (fun b _ j => o2 b j) o4 (fun j b => by rw [o2]; exact hA.1.2.2.1 _ j b ha) o5 o6 (by rw [hrd, mx_I_sI hg, if_pos ⟨rfl, rfl⟩]) (fun j hj => by rw [hrd, hrd, mx_I_sI hg, if_neg (fun q => hj q.2)]) (fun H' locs' => kk r _ H' locs' rfl)
  rcases hty with rfl | rfl
  · exact W.bast hx hb hc ((Cx.2.2.2.2.2.1.2.1 .byte (mx_knd_ok hk)).1 _ _) (fun q => by cases q) (by rw [arrV_size]; exact hin) rfl rfl hd go
  · exact W.zast hx hb hc ((Cx.2.2.2.2.2.1.2.1 .boolean (mx_knd_ok hk)).1 _ _) (fun q => by cases q) (by rw [arrV_size]; exact hin) rfl rfl hd go
theorem mx_aastS (Cx : mx_Cx p s m args meth c R D mid d) (hA : mx_At D z0 K0 Z0 nL ρ σ L st H locs cells slots ls) {o : mx_Rs} (hd : decode (mx_mb mid) pc = .ok (.aastore, 1)) (h : mx_aast (pc + 1) L st σ = some o)
    (kk : ∀ st' σ' H' locs', o = .inl (pc + 1, L, st', σ') → mx_At D z0 K0 Z0 nL ρ σ' L st' H' locs' cells slots ls → mx_Ext ρ σ ρ σ' → W p l e R s m args below meth c H' locs' cells slots Q (F0 m (pc + 1) ls (st'.map (mx_tv ρ)))) : W p l e R s m args below meth c H locs cells slots Q (F0 m pc ls (st.map (mx_tv ρ))) := by
  obtain ⟨hx, hb, -⟩ := id Cx
  have hSW := Cx.2.2.2.2.2.1
  obtain ⟨b, i, a, r, C, ci, rfl, hk, hkb, hg, hgb, hin, hC, rfl⟩ := mx_aast_i h
  have ha : mx_ok σ a := hA.2.2.1.1 _ (List.mem_cons_of_mem _ (List.mem_cons_of_mem _ List.mem_cons_self))
  have hbk : mx_ok σ b := hA.2.2.1.1 _ List.mem_cons_self
  obtain ⟨o1, o2, o3, o4, o5, o6⟩ := mx_sR_o (σ := σ) (k := i.toNatClampNeg) hg (some b)
  have hc := mx_arrw hA.1 ha hg hk
  have hbc := (hA.1.1 b hbk).2 hgb
  simp only [hkb] at hbc
  obtain ⟨q, hq, cellV, g1, g2, g3, -⟩ := hbc
  have hqC : q.1 = C := by
    rw [hq] at hC
    exact Option.some.inj hC
  subst hqC
  have hcls := (hSW.1.1 ci q hq).2
  obtain ⟨kA, comp, k1, k2, k3, -⟩ := (hSW.2.1 _ (mx_knd_ok hk)).2
  have hcomp : comp = D.1 ci := Option.some.inj (k3.symm.trans hcls.1)
  subst hcomp
  obtain ⟨kC, hkC, -⟩ := hcls.2
  have h0 : ¬ i < 0 := fun q => hin (Or.inl q)
  have hlt : i.toNatClampNeg < mx_N σ a := Nat.not_le.mp fun q => hin (Or.inr q)
  refine W.aast hx hb hc (fun q h => by cases h) (fun h => by cases h) k1 k2 rfl hkC ⟨h0, by rw [arrV_size]; exact hlt⟩ g1 (fun q h => by rw [g3] at h; cases h) (by rw [g2]; exact hkC) (by rw [g2]; exact va_assign hcls) rfl rfl hd ?_
  refine mx_astS (v := .inr (.inr (some b))) Cx hA ha hg hk hin (fun w hw => by simp [hw]) o3 (fun b2 _ j => o1 b2 j) (fun b2 _ j => o2 b2 j) (fun b2 hb2 j => by rw [mx_R_sR hg, if_neg (fun q => hb2 q.1)]) o4 (fun j b2 => ?_) o5 o6 (by simp only [mx_rd]; rw [mx_R_sR hg, if_pos ⟨rfl, rfl⟩]) (fun j hj => by simp only [mx_rd]; rw [mx_R_sR hg, if_neg (fun q => hj q.2)]) (fun H' locs' => kk r _ H' locs' rfl)
  rw [mx_R_sR hg]
  split
  · intro hx2
    cases hx2
    exact hbk
  · exact hA.1.2.2.1 _ j b2 ha
/-- new -/
theorem mx_nwS (Cx : mx_Cx p s m args meth c R D mid d) (hA : mx_At D z0 K0 Z0 nL ρ σ L st H locs cells slots ls) {idx : Nat} {o : mx_Rs} (hd : decode (mx_mb mid) pc = .ok (.new idx, 3)) (h : mx_nw mid idx (pc + 3) L st σ = some o)
    (hKe : ∀ st' σ', o = .inl (pc + 3, L, st', σ') → mx_K σ' ≤ R.cells + K0 ∧ mx_Z σ' ≤ R.slots + Z0)
    (kk : ∀ ρ' st' σ' H' cells' slots', o = .inl (pc + 3, L, st', σ') → mx_At D z0 K0 Z0 nL ρ' σ' L st' H' locs cells' slots' ls → mx_Ext ρ σ ρ' σ' → W p l e R s m args below meth c H' locs cells' slots' Q (F0 m (pc + 3) ls (st'.map (mx_tv ρ')))) : W p l e R s m args below meth c H locs cells slots Q (F0 m pc ls (st.map (mx_tv ρ))) := by
  obtain ⟨hx, hb, hml, hown, hts, hSW, -⟩ := id Cx
  obtain ⟨ci, hci, hg, rfl⟩ := mx_nw_i h
  obtain ⟨q, hq, hw1, hw2, hw3⟩ := mx_new_ok hci
  obtain ⟨hin, hnm, hty, hrest, hcn, hknd, hfn⟩ := mx_cls_ok hq
  obtain ⟨o1, o2, o3, o4, o5, o6, o7⟩ := mx_al_o (σ := σ) (t := ci) (n := 0) (z := mx_fn ci) hg
  obtain ⟨hKe, hZe⟩ := hKe _ _ rfl
  have hKn := hSW.1.1 ci q hq
  have hK := hA.2.2.2.2.1
  have hZ := hA.2.2.2.2.2.1
  have hz := hA.2.2.2.2.2.2
  refine W.newcK (n := q.2.2) hx hb hown (hts _ hw1) (hts _ hw2) (hts _ hw3) rfl hd (by omega) (by omega) hKn.2.1 rfl fun H1 kC hkC e1 z1 q1 => ?_
  have hcell : match mx_knd ci with
      | .inl cj => mx_cellO D (mx_ext ρ (mx_crg ci, ci, mx_C σ (mx_crg ci) ci) H.size) (mx_al σ (mx_crg ci) ci 0 (mx_fn ci)) H1 (mx_crg ci, ci, mx_C σ (mx_crg ci) ci) cj
      | .inr ty => mx_cellA D (mx_ext ρ (mx_crg ci, ci, mx_C σ (mx_crg ci) ci) H.size) (mx_al σ (mx_crg ci) ci 0 (mx_fn ci)) H1 (mx_crg ci, ci, mx_C σ (mx_crg ci) ci) ty := by
    simp only [hknd]
    refine ⟨q, hq, ?_⟩
    have hb0 := u_born (mx_fty ci) hts hin hKn hkC e1 hty
    have e0 : mx_ext ρ (mx_crg ci, ci, mx_C σ (mx_crg ci) ci) H.size (mx_crg ci, ci, mx_C σ (mx_crg ci) ci) = H.size := if_pos rfl
    rw [e0]
    refine hb0.to (fun k hk => ?_)
    have hgt := (hrest k hk).2.2
    cases hft : mx_fty ci k <;> (rw [hft] at hgt; simp only [mx_rd, o1, o2, o3, if_true, defaultValue]; first | rfl | (exact absurd hgt (by decide)))
  obtain ⟨hR, hE, hnew⟩ := hA.1.al (n := 0) (z := mx_fn ci) hg hA.2.2.2.2.2.2 hcell q1
  have hst := hA.2.2.1.mv hE
  have go := kk _ _ _ H1 (cells + 1) (slots + q.2.2) rfl ⟨hR, hA.2.1.mv hA.2.2.1 hE, hst.1.st (mx_m0 hnew), hA.2.2.2.1, by omega, by omega, by omega⟩ hE
  rw [List.map_cons, hst.2] at go
  have e0 : mx_tv (mx_ext ρ (mx_crg ci, ci, mx_C σ (mx_crg ci) ci) H.size) (mx_r (some (mx_crg ci, ci, mx_C σ (mx_crg ci) ci))) = .ref H.size := congrArg Value.ref (if_pos rfl)
  rw [e0] at go
  exact go
/-- the cell of a new array -/
theorem mx_naC (hSW : mx_SW D s) (hA : mx_At D z0 K0 Z0 nL ρ σ L st H locs cells slots ls) {g t n : Nat} {ty : FieldType} (hg : g < 2) (hk : mx_knd t = .inr ty) {H1 : Heap} {cA : ClassId} (hcA : cA = D.2.2.1 ty) (hgt : mx_gty ty = true) (e1 : H1[H.size]? = some (arrV cA n (fun _ => defaultValue ty))) (z1 : H1.size = H.size + 1) (q1 : ∀ q, q < H.size → H1[q]? = H[q]?) {r : List mx_V} (hr : ∀ w ∈ r, w ∈ st) :
    ∃ ρ', mx_At D z0 K0 Z0 nL ρ' (mx_al σ g t n n) L (mx_r (some (g, t, mx_C σ g t)) :: r) H1 locs (cells + 1) (slots + n) ls ∧ mx_Ext ρ σ ρ' (mx_al σ g t n n) ∧ (mx_r (some (g, t, mx_C σ g t)) :: r).map (mx_tv ρ') = .ref H.size :: r.map (mx_tv ρ) := by
  subst hcA
  obtain ⟨o1, o2, o3, o4, o5, o6, o7⟩ := mx_al_o (σ := σ) (t := t) (n := n) (z := n) hg
  have hcell : match mx_knd t with
      | .inl cj => mx_cellO D (mx_ext ρ (g, t, mx_C σ g t) H.size) (mx_al σ g t n n) H1 (g, t, mx_C σ g t) cj
      | .inr ty => mx_cellA D (mx_ext ρ (g, t, mx_C σ g t) H.size) (mx_al σ g t n n) H1 (g, t, mx_C σ g t) ty := by
    simp only [hk]
    show H1[mx_ext ρ (g, t, mx_C σ g t) H.size (g, t, mx_C σ g t)]? = _
    have e0 : mx_ext ρ (g, t, mx_C σ g t) H.size (g, t, mx_C σ g t) = H.size := if_pos rfl
    rw [e0, e1, o5, if_pos rfl]
    congr 2
    funext k
    cases ty <;> (simp only [mx_rd, o1, o2, o3, if_true, defaultValue]; first | rfl | (exact absurd hgt (by decide)))
  obtain ⟨hR, hE, hnew⟩ := hA.1.al (n := n) (z := n) hg hA.2.2.2.2.2.2 hcell q1
  have hF := hA.2.2.1.st (st' := r) (fun w hw => Or.inl (hr w hw))
  have hst := hF.mv hE
  have hK := hA.2.2.2.2.1
  have hZ := hA.2.2.2.2.2.1
  have hz := hA.2.2.2.2.2.2
  refine ⟨_, ⟨hR, hA.2.1.mv hA.2.2.1 hE, hst.1.st (mx_m0 hnew), hA.2.2.2.1, by omega, by omega, by omega⟩, hE, ?_⟩
  rw [List.map_cons, hst.2]
  exact congrArg (· :: r.map (mx_tv ρ)) (congrArg Value.ref (if_pos rfl))
theorem mx_naS (Cx : mx_Cx p s m args meth c R D mid d) (hA : mx_At D z0 K0 Z0 nL ρ σ L st H locs cells slots ls) {at_ : Jvm.ClassFile.ArrayType} {o : mx_Rs} (hd : decode (mx_mb mid) pc = .ok (.newarray at_, 2)) (h : mx_na mid pc (newarray.typeOf at_) (pc + 2) L st σ = some o)
    (hKe : ∀ st' σ', o = .inl (pc + 2, L, st', σ') → mx_K σ' ≤ R.cells + K0 ∧ mx_Z σ' ≤ R.slots + Z0)
    (kk : ∀ ρ' st' σ' H' cells' slots', o = .inl (pc + 2, L, st', σ') → mx_At D z0 K0 Z0 nL ρ' σ' L st' H' locs cells' slots' ls → mx_Ext ρ σ ρ' σ' → W p l e R s m args below meth c H' locs cells' slots' Q (F0 m (pc + 2) ls (st'.map (mx_tv ρ')))) : W p l e R s m args below meth c H locs cells slots Q (F0 m pc ls (st.map (mx_tv ρ))) := by
  obtain ⟨hx, hb, hml, hown, hts, hSW, -⟩ := id Cx
  obtain ⟨g, t, n, r, rfl, hg, hk, hn, hle, rfl⟩ := mx_na_i h
  obtain ⟨hKe, hZe⟩ := hKe _ _ rfl
  obtain ⟨o1, o2, o3, o4, o5, o6, o7⟩ := mx_al_o (σ := σ) (t := t) (n := n.toNatClampNeg) (z := n.toNatClampNeg) hg
  have hK := hA.2.2.2.2.1
  have hZ := hA.2.2.2.2.2.1
  have hty := mx_knd_ok hk
  have hcb : componentBytes (newarray.typeOf at_) ≤ 8 := by cases at_ <;> decide
  refine va_newaK hx hb (hts _ (mx_aty_ok hty)) rfl hd rfl hn rfl (Nat.le_trans (Nat.mul_le_mul hle hcb) (by decide)) (by omega) (by omega) rfl fun H1 cA e1 z1 q1 hAr hNm => ?_
  have hcA : cA = D.2.2.1 (newarray.typeOf at_) := by
    have h2 := (hSW.2.1 _ hty).2
    have h3 : s.vm.findClass ("[" ++ (newarray.typeOf at_).toString) = some (D.2.2.1 (newarray.typeOf at_)) := by
      cases at_ <;> exact h2
    exact Option.some.inj (hNm.symm.trans h3)
  obtain ⟨ρ', a1, a2, a3⟩ := mx_naC hSW hA hg hk hcA (mx_gty_ok hty) e1 z1 q1 (r := r) (fun w hw => List.mem_cons_of_mem _ hw)
  have go := kk ρ' _ _ H1 _ _ rfl a1 a2
  rw [a3] at go
  exact go
theorem mx_nqS (Cx : mx_Cx p s m args meth c R D mid d) (hA : mx_At D z0 K0 Z0 nL ρ σ L st H locs cells slots ls) {idx : Nat} {C : String} (hC : mx_anw (mx_mc mid) idx = some C) {o : mx_Rs} (hd : decode (mx_mb mid) pc = .ok (.anewarray idx, 3)) (h : mx_na mid pc (.object C) (pc + 3) L st σ = some o)
    (hKe : ∀ st' σ', o = .inl (pc + 3, L, st', σ') → mx_K σ' ≤ R.cells + K0 ∧ mx_Z σ' ≤ R.slots + Z0)
    (kk : ∀ ρ' st' σ' H' cells' slots', o = .inl (pc + 3, L, st', σ') → mx_At D z0 K0 Z0 nL ρ' σ' L st' H' locs cells' slots' ls → mx_Ext ρ σ ρ' σ' → W p l e R s m args below meth c H' locs cells' slots' Q (F0 m (pc + 3) ls (st'.map (mx_tv ρ')))) : W p l e R s m args below meth c H locs cells slots Q (F0 m pc ls (st.map (mx_tv ρ))) := by
  obtain ⟨hx, hb, hml, hown, hts, hSW, -⟩ := id Cx
  obtain ⟨g, t, n, r, rfl, hg, hk, hn, hle, rfl⟩ := mx_na_i h
  obtain ⟨hKe, hZe⟩ := hKe _ _ rfl
  obtain ⟨o1, o2, o3, o4, o5, o6, o7⟩ := mx_al_o (σ := σ) (t := t) (n := n.toNatClampNeg) (z := n.toNatClampNeg) hg
  have hK := hA.2.2.2.2.1
  have hZ := hA.2.2.2.2.2.1
  have hty := mx_knd_ok hk
  obtain ⟨hw1, hao⟩ := mx_anw_ok hC
  refine W.anew hx hb hown (hts _ hw1) (va_AO.use (hSW.2.2.2.2.1 C hao)) rfl hd rfl hn (by omega) (by omega) (by omega) fun cA kA comp f1 f2 f3 f4 => ?_
  generalize hH1 : H.push ({ cls := cA, slots := Array.replicate n.toNatClampNeg .null, vm := .none } : Cell) = H1
  have z1 : H1.size = H.size + 1 := by rw [← hH1, Array.size_push]
  have e1 : H1[H.size]? = some (arrV cA n.toNatClampNeg (fun _ => defaultValue (.object C))) := by rw [← hH1, Array.getElem?_push_size, ← arrV_new]; rfl
  have q1 : ∀ q : Nat, q < H.size → H1[q]? = H[q]? := fun q hq => by rw [← hH1, Array.getElem?_push, if_neg (Nat.ne_of_lt hq)]
  have hcA : cA = D.2.2.1 (.object C) := by
    obtain ⟨kA2, comp2, k1, k2, k3, k4⟩ := (hSW.2.1 _ hty).2
    exact Option.some.inj (f1.symm.trans k4)
  obtain ⟨ρ', a1, a2, a3⟩ := mx_naC hSW hA hg hk hcA rfl e1 z1 q1 (r := r) (fun w hw => List.mem_cons_of_mem _ hw)
  have go := kk ρ' _ _ H1 _ _ rfl a1 a2
  rw [a3] at go
  exact go
end MXT
