set_option maxHeartbeats 4000000 in
theorem mx_stp {p : Program} {l : Launch} {e : Env} {R : Room} {s : State} {m : MethodId} {args : Array Value} {below : List Frame} {meth : Method} {c : Code} {H : Heap} {locs : List Loc} {cells slots : Nat} {Q : State → Prop} {pc : Nat} {ls : Array Slot} {D : mx_D} {z0 K0 Z0 mid d : Nat} {ρ : mx_Ad → Nat} {σ : mx_Hp} {L : mx_L} {st : List mx_V} {i : Jvm.ClassFile.Instr} {pc' : Nat} {L' : mx_L} {st' : List mx_V} {σ' : mx_Hp}
    (Cx : mx_Cx p s m args meth c R D mid d) (hi : mx_code mid pc = some i) (he : mx_exec mid pc i L st σ = some (.inl (pc', L', st', σ')))
    (hA : mx_At D z0 K0 Z0 (mx_mL mid) ρ σ L st H locs cells slots ls) (hKe : mx_K σ' ≤ R.cells + K0) (hZe : mx_Z σ' ≤ R.slots + Z0)
    (kk : ∀ (ρ' : mx_Ad → Nat) (ls' : Array Slot) (H' : Heap) (locs' : List Loc) (cells' slots' : Nat), mx_At D z0 K0 Z0 (mx_mL mid) ρ' σ' L' st' H' locs' cells' slots' ls' → mx_Ext ρ σ ρ' σ' → W p l e R s m args below meth c H' locs' cells' slots' Q (F0 m pc' ls' (st'.map (mx_tv ρ')))) :
    W p l e R s m args below meth c H locs cells slots Q (F0 m pc ls (st.map (mx_tv ρ))) := by
  obtain ⟨hx, hb, hml, hown, hts, hSW, -, hfr, hlo⟩ := id Cx
  obtain ⟨len, hd, hlen⟩ := mx_dec hi
  have hd1 : mx_isw i = false → decode (mx_mb mid) pc = .ok (i, mx_ilen i) := fun h => by
    rcases hlen with h2 | h2
    · rw [h] at h2
      cases h2
    · rw [← h2]
      exact hd
  have kp : σ' = σ → L' = L → (∀ v ∈ st', v ∈ st ∨ mx_vk σ v) → W p l e R s m args below meth c H locs cells slots Q (F0 m pc' ls (st'.map (mx_tv ρ))) := by
    intro e1 e2 h
    subst e1
    subst e2
    exact kk ρ ls H locs cells slots (hA.stk h) mx_Ext.rf
  cases i with
  | iconst n => cases he; exact lv_iconst hx hb (hd1 rfl) rfl (kp rfl rfl (mx_m0 trivial))
  | bipush n => cases he; exact lv_bipush hx hb (hd1 rfl) rfl (kp rfl rfl (mx_m0 trivial))
  | sipush n => cases he; exact lv_sipush hx hb (hd1 rfl) rfl (kp rfl rfl (mx_m0 trivial))
  | lconst n => cases he; exact lv_lconst hx hb (hd1 rfl) rfl (kp rfl rfl (mx_m0 trivial))
  | ldc idx =>
    obtain ⟨v, hv, ho⟩ := mx_ldcc_i he
    cases ho
    exact lv_ldc hx hb hown (hts _ (mx_ic_ok hv)) (hd1 rfl) (kp rfl rfl (mx_m0 trivial))
  | ldc2_w idx =>
    obtain ⟨v, hv, ho⟩ := mx_ldlc_i he
    cases ho
    exact lv_ldc2 hx hb hown (hts _ (mx_lc_ok hv)) (hd1 rfl) (kp rfl rfl (mx_m0 trivial))
  | iload_n k =>
    obtain ⟨x, hl, ho⟩ := mx_ildc_i he
    cases ho
    exact lv_iload_n hx hb (hd1 rfl) rfl (mx_ldk hA hl rfl).1 (kp rfl rfl (mx_m0 trivial))
  | iload k =>
    obtain ⟨x, hl, ho⟩ := mx_ildc_i he
    cases ho
    exact lv_iload hx hb (hd1 rfl) (mx_ldk hA hl rfl).1 (kp rfl rfl (mx_m0 trivial))
  | lload_n k =>
    obtain ⟨x, hl, hb9, ho⟩ := mx_lldc_i he
    cases ho
    exact lv_lload_n hx hb (hd1 rfl) rfl (mx_ldk hA hl hb9).1 (kp rfl rfl (mx_m0 trivial))
  | lload k =>
    obtain ⟨x, hl, hb9, ho⟩ := mx_lldc_i he
    cases ho
    exact lv_lload hx hb (hd1 rfl) (mx_ldk hA hl hb9).1 (kp rfl rfl (mx_m0 trivial))
  | aload_n k =>
    obtain ⟨x, hl, ho⟩ := mx_aldc_i he
    cases ho
    have hv := hA.2.2.1.2 _ _ hl
    cases x with
    | none => exact lv_aload_nN hx hb (hd1 rfl) rfl (mx_ldk hA hl rfl).1 (kp rfl rfl (mx_m0 hv))
    | some a => exact lv_aload_n hx hb (hd1 rfl) rfl (mx_ldk hA hl rfl).1 (kp rfl rfl (mx_m0 hv))
  | aload k =>
    obtain ⟨x, hl, ho⟩ := mx_aldc_i he
    cases ho
    have hv := hA.2.2.1.2 _ _ hl
    cases x with
    | none => exact lv_aloadN hx hb (hd1 rfl) (mx_ldk hA hl rfl).1 (kp rfl rfl (mx_m0 hv))
    | some a => exact lv_aload hx hb (hd1 rfl) (mx_ldk hA hl rfl).1 (kp rfl rfl (mx_m0 hv))
  | istore_n k =>
    obtain ⟨x, r, rfl, hn, ho⟩ := mx_istc_i he
    cases ho
    exact lv_istore_n hx hb (hd1 rfl) rfl hA.2.1.has hn rfl (fun ls' hl' => kk ρ ls' H locs cells slots (mx_store1 hA hl') mx_Ext.rf)
  | istore k =>
    obtain ⟨x, r, rfl, hn, ho⟩ := mx_istc_i he
    cases ho
    exact lv_istore hx hb (hd1 rfl) hA.2.1.has hn rfl (fun ls' hl' => kk ρ ls' H locs cells slots (mx_store1 hA hl') mx_Ext.rf)
  | lstore_n k =>
    obtain ⟨x, r, rfl, hn, ho⟩ := mx_lstc_i he
    cases ho
    exact lv_lstore_n hx hb (hd1 rfl) rfl hA.2.1.has hn rfl (fun ls' hl' => kk ρ ls' H locs cells slots (mx_store2 hA hl') mx_Ext.rf)
  | lstore k =>
    obtain ⟨x, r, rfl, hn, ho⟩ := mx_lstc_i he
    cases ho
    exact lv_lstore hx hb (hd1 rfl) hA.2.1.has hn rfl (fun ls' hl' => kk ρ ls' H locs cells slots (mx_store2 hA hl') mx_Ext.rf)
  | astore_n k =>
    obtain ⟨x, r, rfl, hn, ho⟩ := mx_astc_i he
    cases ho
    cases x with
    | none => exact lv_astore_nN hx hb (hd1 rfl) rfl hA.2.1.has hn rfl (fun ls' hl' => kk ρ ls' H locs cells slots (mx_store1 hA hl') mx_Ext.rf)
    | some a => exact lv_astore_n hx hb (hd1 rfl) rfl hA.2.1.has hn rfl (fun ls' hl' => kk ρ ls' H locs cells slots (mx_store1 hA hl') mx_Ext.rf)
  | astore k =>
    obtain ⟨x, r, rfl, hn, ho⟩ := mx_astc_i he
    cases ho
    cases x with
    | none => exact lv_astoreN hx hb (hd1 rfl) hA.2.1.has hn rfl (fun ls' hl' => kk ρ ls' H locs cells slots (mx_store1 hA hl') mx_Ext.rf)
    | some a => exact lv_astore hx hb (hd1 rfl) hA.2.1.has hn rfl (fun ls' hl' => kk ρ ls' H locs cells slots (mx_store1 hA hl') mx_Ext.rf)
  | iinc k n =>
    obtain ⟨x, hl, hn, ho⟩ := mx_iincc_i he
    cases ho
    obtain ⟨j, hj⟩ := List.getElem?_of_mem (mx_lv_mem (q := (k, mx_tv ρ (.inl x))).mpr ⟨_, hl, rfl, rfl⟩)
    exact lv_iinc hx hb (hd1 rfl) hA.2.1.has (k := j) hj rfl hn rfl (fun ls' hl' => kk ρ ls' H locs cells slots (mx_store1 (x := .inl (x + Int32.ofInt n)) (hA.stk (mx_m0 trivial)) hl') mx_Ext.rf)
  | iadd =>
    obtain ⟨x, y, r, rfl, ho⟩ := mx_b2_i he
    cases ho
    exact lv_iadd hx hb (hd1 rfl) (kp rfl rfl (mx_mm2 trivial))
  | isub =>
    obtain ⟨x, y, r, rfl, ho⟩ := mx_b2_i he
    cases ho
    exact lv_isub hx hb (hd1 rfl) (kp rfl rfl (mx_mm2 trivial))
  | imul =>
    obtain ⟨x, y, r, rfl, ho⟩ := mx_b2_i he
    cases ho
    exact lv_imul hx hb (hd1 rfl) (kp rfl rfl (mx_mm2 trivial))
  | iand =>
    obtain ⟨x, y, r, rfl, ho⟩ := mx_b2_i he
    cases ho
    exact lv_iand hx hb (hd1 rfl) (kp rfl rfl (mx_mm2 trivial))
  | ior =>
    obtain ⟨x, y, r, rfl, ho⟩ := mx_b2_i he
    cases ho
    exact lv_ior hx hb (hd1 rfl) (kp rfl rfl (mx_mm2 trivial))
  | ixor =>
    obtain ⟨x, y, r, rfl, ho⟩ := mx_b2_i he
    cases ho
    exact lv_ixor hx hb (hd1 rfl) (kp rfl rfl (mx_mm2 trivial))
  | ishl =>
    obtain ⟨x, y, r, rfl, ho⟩ := mx_b2_i he
    cases ho
    exact lv_ishl hx hb (hd1 rfl) (kp rfl rfl (mx_mm2 trivial))
  | ishr =>
    obtain ⟨x, y, r, rfl, ho⟩ := mx_b2_i he
    cases ho
    exact lv_ishr hx hb (hd1 rfl) (kp rfl rfl (mx_mm2 trivial))
  | iushr =>
    obtain ⟨x, y, r, rfl, ho⟩ := mx_b2_i he
    cases ho
    exact lv_iushr hx hb (hd1 rfl) rfl (kp rfl rfl (mx_mm2 trivial))
  | idiv =>
    obtain ⟨x, y, r, rfl, hne, ho⟩ := mx_d2_i he
    cases ho
    exact lv_idiv hx hb (hd1 rfl) hne (kp rfl rfl (mx_mm2 trivial))
  | irem =>
    obtain ⟨x, y, r, rfl, hne, ho⟩ := mx_d2_i he
    cases ho
    exact lv_irem hx hb (hd1 rfl) hne (kp rfl rfl (mx_mm2 trivial))
  | ladd =>
    obtain ⟨x, y, r, rfl, ho⟩ := mx_m2_i he
    cases ho
    exact lv_ladd hx hb (hd1 rfl) (kp rfl rfl (mx_mm2 trivial))
  | lsub =>
    obtain ⟨x, y, r, rfl, ho⟩ := mx_m2_i he
    cases ho
    exact lv_lsub hx hb (hd1 rfl) (kp rfl rfl (mx_mm2 trivial))
  | land =>
    obtain ⟨x, y, r, rfl, ho⟩ := mx_m2_i he
    cases ho
    exact lv_land hx hb (hd1 rfl) (kp rfl rfl (mx_mm2 trivial))
  | lor =>
    obtain ⟨x, y, r, rfl, ho⟩ := mx_m2_i he
    cases ho
    exact lv_lor hx hb (hd1 rfl) (kp rfl rfl (mx_mm2 trivial))
  | lxor =>
    obtain ⟨x, y, r, rfl, ho⟩ := mx_m2_i he
    cases ho
    exact lv_lxor hx hb (hd1 rfl) (kp rfl rfl (mx_mm2 trivial))
  | lushr =>
    obtain ⟨x, y, r, rfl, ho⟩ := mx_s2_i he
    cases ho
    exact lv_lushr hx hb (hd1 rfl) rfl (kp rfl rfl (mx_mm2 trivial))
  | lshl =>
    obtain ⟨x, y, r, rfl, ho⟩ := mx_s2_i he
    cases ho
    exact lv_lshl hx hb (hd1 rfl) rfl (kp rfl rfl (mx_mm2 trivial))
  | lshr =>
    obtain ⟨x, y, r, rfl, ho⟩ := mx_s2_i he
    cases ho
    exact lv_lshr hx hb (hd1 rfl) rfl (kp rfl rfl (mx_mm2 trivial))
  | ineg =>
    obtain ⟨x, r, rfl, ho⟩ := mx_b1_i he
    cases ho
    exact lv_ineg hx hb (hd1 rfl) (kp rfl rfl (mx_mm1 trivial))
  | i2l =>
    obtain ⟨x, r, rfl, ho⟩ := mx_b1_i he
    cases ho
    exact lv_i2l hx hb (hd1 rfl) rfl (kp rfl rfl (mx_mm1 trivial))
  | i2b =>
    obtain ⟨x, r, rfl, ho⟩ := mx_b1_i he
    cases ho
    exact lv_i2b hx hb (hd1 rfl) rfl (kp rfl rfl (mx_mm1 trivial))
  | l2i =>
    obtain ⟨x, r, rfl, ho⟩ := mx_m1_i he
    cases ho
    exact lv_l2i hx hb (hd1 rfl) rfl (kp rfl rfl (mx_mm1 trivial))
  | lcmp =>
    obtain ⟨x, y, r, rfl, ho⟩ := mx_lcmpc_i he
    cases ho
    exact W.lcmp hx hb (hd1 rfl) (kp rfl rfl (mx_mm2 trivial))
  | dup =>
    obtain ⟨v, r, rfl, hw, ho⟩ := mx_dup_i he
    cases ho
    exact lv_dup hx hb (hd1 rfl) ((mx_tv_cat ρ v).trans hw) (kp rfl rfl (mx_m0 (hA.2.2.1.1 _ List.mem_cons_self)))
  | pop =>
    obtain ⟨v, r, rfl, hw, ho⟩ := mx_popc_i he
    cases ho
    exact lv_pop hx hb (hd1 rfl) ((mx_tv_cat ρ v).trans hw) (kp rfl rfl mx_p1)
  | dup_x1 =>
    obtain ⟨a, b, r, rfl, ha, hb2, ho⟩ := mx_dx1_i he
    cases ho
    exact lv_dup_x1 hx hb (hd1 rfl) ((mx_tv_cat ρ a).trans ha) ((mx_tv_cat ρ b).trans hb2) (kp rfl rfl (fun v hv => Or.inl (by simp at hv ⊢; rcases hv with h | h | h | h <;> simp [h])))
  | dup_x2 =>
    obtain ⟨a, b, c2, r, rfl, ha, hb2, hc2, ho⟩ := mx_dx2_i he
    cases ho
    exact lv_dup_x2 hx hb (hd1 rfl) ((mx_tv_cat ρ a).trans ha) ((mx_tv_cat ρ b).trans hb2) ((mx_tv_cat ρ c2).trans hc2) (kp rfl rfl (fun v hv => Or.inl (by simp at hv ⊢; rcases hv with h | h | h | h | h <;> simp [h])))
  | dup2 =>
    obtain ⟨a, b, r, rfl, ha, hb2, ho⟩ := mx_dpp_i he
    cases ho
    exact lv_dup2_11 hx hb (hd1 rfl) ((mx_tv_cat ρ a).trans ha) ((mx_tv_cat ρ b).trans hb2) (kp rfl rfl (fun v hv => Or.inl (by simp at hv ⊢; rcases hv with h | h | h | h | h <;> simp [h])))
  | goto off =>
    obtain ⟨q, hq, ho⟩ := mx_br_i he
    cases ho
    exact lv_goto hx hb (hd1 rfl) hq (kp rfl rfl (fun _ h => Or.inl h))
  | ifCond cd off =>
    obtain ⟨x, r, q, rfl, hq, ho⟩ := mx_ifcc_i he
    cases ho
    exact mx_ifc hx hb (hd1 rfl) hq (kp rfl rfl mx_p1)
  | if_icmp cd off =>
    obtain ⟨x, y, r, q, rfl, hq, ho⟩ := mx_icmc_i he
    cases ho
    exact mx_icc hx hb (hd1 rfl) hq (kp rfl rfl mx_p2)
  | tableswitch dflt lo hi offs =>
    obtain ⟨x, r, off, q, rfl, hsw, hq, ho⟩ := mx_tswc_i he
    cases ho
    unfold mx_tsw at hsw
    split at hsw
    · rename_i hc
      cases hsw
      exact lv_tableOut hx hb hd hc hq (kp rfl rfl mx_p1)
    · rename_i hc
      exact lv_tableIn hx hb hd (fun h => hc (Or.inl h)) (fun h => hc (Or.inr h)) hsw hq (kp rfl rfl mx_p1)
  | lookupswitch dflt ps =>
    obtain ⟨x, r, q, rfl, hp, hq, ho⟩ := mx_lswc_i he
    cases ho
    exact lv_lookup hx hb hd hp rfl hq (kp rfl rfl mx_p1)
  | iaload =>
    refine mx_aldS Cx hA rfl he (fun t a cell j v rest ht h1 h2 h3 h4 h5 k => ?_) (fun st2 ho h2 => ?_)
    · cases t <;> first | (cases ht; done) | exact W.iald hx hb h1 h2 h3 h4 h5 rfl rfl (hd1 rfl) k
    · cases ho
      exact kk ρ ls H locs cells slots h2 mx_Ext.rf
  | baload =>
    refine mx_aldS Cx hA rfl he (fun t a cell j v rest ht h1 h2 h3 h4 h5 k => ?_) (fun st2 ho h2 => ?_)
    · cases t <;> first | (cases ht; done) | exact W.bald hx hb h1 h2 h3 h4 h5 rfl rfl (hd1 rfl) k | exact W.zald hx hb h1 h2 h3 h4 h5 rfl rfl (hd1 rfl) k
    · cases ho
      exact kk ρ ls H locs cells slots h2 mx_Ext.rf
  | laload =>
    refine mx_aldS Cx hA rfl he (fun t a cell j v rest ht h1 h2 h3 h4 h5 k => ?_) (fun st2 ho h2 => ?_)
    · cases t <;> first | (cases ht; done) | exact W.lald hx hb h1 h2 h3 h4 h5 rfl rfl (hd1 rfl) k
    · cases ho
      exact kk ρ ls H locs cells slots h2 mx_Ext.rf
  | aaload =>
    refine mx_aldS Cx hA rfl he (fun t a cell j v rest ht h1 h2 h3 h4 h5 k => ?_) (fun st2 ho h2 => ?_)
    · cases t <;> first | (cases ht; done) | exact W.aald hx hb h1 h2 rfl h3 h4 h5 rfl rfl (hd1 rfl) k
    · cases ho
      exact kk ρ ls H locs cells slots h2 mx_Ext.rf
  | iastore =>
    refine mx_iastS Cx hA (hd1 rfl) he (fun st2 σ2 H2 locs2 ho h2 hE => ?_)
    cases ho
    exact kk ρ ls H2 locs2 cells slots h2 hE
  | bastore =>
    refine mx_bastS Cx hA (hd1 rfl) he (fun st2 σ2 H2 locs2 ho h2 hE => ?_)
    cases ho
    exact kk ρ ls H2 locs2 cells slots h2 hE
  | lastore =>
    refine mx_lastS Cx hA (hd1 rfl) he (fun st2 σ2 H2 locs2 ho h2 hE => ?_)
    cases ho
    exact kk ρ ls H2 locs2 cells slots h2 hE
  | aastore =>
    refine mx_aastS Cx hA (hd1 rfl) he (fun st2 σ2 H2 locs2 ho h2 hE => ?_)
    cases ho
    exact kk ρ ls H2 locs2 cells slots h2 hE
  | arraylength =>
    obtain ⟨a, r, t, rfl, hk, ho⟩ := mx_len_i he
    cases ho
    have ha : mx_ok σ a := hA.2.2.1.1 _ List.mem_cons_self
    obtain ⟨cell, c1, c2, c3, c4, c5⟩ := mx_arrc hA.1 hSW ha hk
    exact W.alen hx hb c1 c2 (by rw [c4]) rfl rfl (hd1 rfl) (kp rfl rfl (mx_mm1 trivial))
  | getfield idx =>
    refine mx_getS Cx hA rfl (hd1 rfl) he (fun st2 ho h2 => ?_)
    cases ho
    exact kk ρ ls H locs cells slots h2 mx_Ext.rf
  | putfield idx =>
    refine mx_ptS Cx hA rfl (hd1 rfl) he (fun st2 σ2 H2 locs2 ho h2 hE => ?_)
    cases ho
    exact kk ρ ls H2 locs2 cells slots h2 hE
  | new idx =>
    refine mx_nwS Cx hA (hd1 rfl) he (fun st2 σ2 ho => ?_) (fun ρ2 st2 σ2 H2 cells2 slots2 ho h2 hE => ?_)
    · cases ho
      exact ⟨hKe, hZe⟩
    · cases ho
      exact kk ρ2 ls H2 locs cells2 slots2 h2 hE
  | newarray at_ =>
    refine mx_naS Cx hA (hd1 rfl) he (fun st2 σ2 ho => ?_) (fun ρ2 st2 σ2 H2 cells2 slots2 ho h2 hE => ?_)
    · cases ho
      exact ⟨hKe, hZe⟩
    · cases ho
      exact kk ρ2 ls H2 locs cells2 slots2 h2 hE
  | anewarray idx =>
    obtain ⟨C, hC, he⟩ := mx_anwc_i he
    refine mx_nqS Cx hA hC (hd1 rfl) he (fun st2 σ2 ho => ?_) (fun ρ2 st2 σ2 H2 cells2 slots2 ho h2 hE => ?_)
    · cases ho
      exact ⟨hKe, hZe⟩
    · cases ho
      exact kk ρ2 ls H2 locs cells2 slots2 h2 hE
  | invokespecial idx =>
    obtain ⟨a, r, hob, rfl, hwd, ho⟩ := mx_callI_o he
    cases ho
    obtain ⟨hw1, hw2, hw3⟩ := mx_obi_ok hob
    refine W.objInit hx hb hown (hts _ hw1) (hts _ hw2) (hts _ hw3) rfl (by rw [hml]; exact hA.2.1.1) rfl (hd1 rfl) (by omega) ?_ (kp rfl rfl mx_p1)
    rw [mx_wd_map]
    show 2 * 0 + mx_wd _ + 12 ≤ R.locals
    omega
  | invokestatic idx => exact absurd he mx_callS_n
  | invokevirtual idx => exact absurd he mx_callV_n
  | ireturn => exact absurd he mx_ret_n.1
  | lreturn => exact absurd he mx_ret_n.2.1
  | areturn => exact absurd he mx_ret_n.2.2.1
  | return_ => exact absurd he mx_ret_n.2.2.2
  | _ => exact absurd (show (none : Option mx_Rs) = _ from he) (fun h => by cases h)
