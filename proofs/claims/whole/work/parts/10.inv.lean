/-! a run of the abstract machine is one of the real machine -/
set_option maxHeartbeats 4000000 in
theorem mx_exec_K {mid pc : Nat} {i : Jvm.ClassFile.Instr} {L L' : mx_L} {st st' : List mx_V} {σ σ' : mx_Hp} {pc' : Nat} (he : mx_exec mid pc i L st σ = some (.inl (pc', L', st', σ'))) : mx_K σ ≤ mx_K σ' ∧ mx_Z σ ≤ mx_Z σ' := by
  have h0 : mx_K σ ≤ mx_K σ ∧ mx_Z σ ≤ mx_Z σ := ⟨Nat.le_refl _, Nat.le_refl _⟩
  cases i with
  | iconst n => cases he; exact h0
  | bipush n => cases he; exact h0
  | sipush n => cases he; exact h0
  | lconst n => cases he; exact h0
  | ldc idx =>
    obtain ⟨_, _, ho⟩ := mx_ldcc_i he
    cases ho
    exact h0
  | ldc2_w idx =>
    obtain ⟨_, _, ho⟩ := mx_ldlc_i he
    cases ho
    exact h0
  | iload_n k =>
    obtain ⟨_, _, ho⟩ := mx_ildc_i he
    cases ho
    exact h0
  | iload k =>
    obtain ⟨_, _, ho⟩ := mx_ildc_i he
    cases ho
    exact h0
  | lload_n k =>
    obtain ⟨_, _, _, ho⟩ := mx_lldc_i he
    cases ho
    exact h0
  | lload k =>
    obtain ⟨_, _, _, ho⟩ := mx_lldc_i he
    cases ho
    exact h0
  | aload_n k =>
    obtain ⟨_, _, ho⟩ := mx_aldc_i he
    cases ho
    exact h0
  | aload k =>
    obtain ⟨_, _, ho⟩ := mx_aldc_i he
    cases ho
    exact h0
  | istore_n k =>
    obtain ⟨_, _, _, _, ho⟩ := mx_istc_i he
    cases ho
    exact h0
  | istore k =>
    obtain ⟨_, _, _, _, ho⟩ := mx_istc_i he
    cases ho
    exact h0
  | lstore_n k =>
    obtain ⟨_, _, _, _, ho⟩ := mx_lstc_i he
    cases ho
    exact h0
  | lstore k =>
    obtain ⟨_, _, _, _, ho⟩ := mx_lstc_i he
    cases ho
    exact h0
  | astore_n k =>
    obtain ⟨_, _, _, _, ho⟩ := mx_astc_i he
    cases ho
    exact h0
  | astore k =>
    obtain ⟨_, _, _, _, ho⟩ := mx_astc_i he
    cases ho
    exact h0
  | iinc k n =>
    obtain ⟨_, _, _, ho⟩ := mx_iincc_i he
    cases ho
    exact h0
  | iadd =>
    obtain ⟨_, _, _, _, ho⟩ := mx_b2_i he
    cases ho
    exact h0
  | isub =>
    obtain ⟨_, _, _, _, ho⟩ := mx_b2_i he
    cases ho
    exact h0
  | imul =>
    obtain ⟨_, _, _, _, ho⟩ := mx_b2_i he
    cases ho
    exact h0
  | iand =>
    obtain ⟨_, _, _, _, ho⟩ := mx_b2_i he
    cases ho
    exact h0
  | ior =>
    obtain ⟨_, _, _, _, ho⟩ := mx_b2_i he
    cases ho
    exact h0
  | ixor =>
    obtain ⟨_, _, _, _, ho⟩ := mx_b2_i he
    cases ho
    exact h0
  | ishl =>
    obtain ⟨_, _, _, _, ho⟩ := mx_b2_i he
    cases ho
    exact h0
  | ishr =>
    obtain ⟨_, _, _, _, ho⟩ := mx_b2_i he
    cases ho
    exact h0
  | iushr =>
    obtain ⟨_, _, _, _, ho⟩ := mx_b2_i he
    cases ho
    exact h0
  | idiv =>
    obtain ⟨_, _, _, _, _, ho⟩ := mx_d2_i he
    cases ho
    exact h0
  | irem =>
    obtain ⟨_, _, _, _, _, ho⟩ := mx_d2_i he
    cases ho
    exact h0
  | ladd =>
    obtain ⟨_, _, _, _, ho⟩ := mx_m2_i he
    cases ho
    exact h0
  | lsub =>
    obtain ⟨_, _, _, _, ho⟩ := mx_m2_i he
    cases ho
    exact h0
  | land =>
    obtain ⟨_, _, _, _, ho⟩ := mx_m2_i he
    cases ho
    exact h0
  | lor =>
    obtain ⟨_, _, _, _, ho⟩ := mx_m2_i he
    cases ho
    exact h0
  | lxor =>
    obtain ⟨_, _, _, _, ho⟩ := mx_m2_i he
    cases ho
    exact h0
  | lushr =>
    obtain ⟨_, _, _, _, ho⟩ := mx_s2_i he
    cases ho
    exact h0
  | lshl =>
    obtain ⟨_, _, _, _, ho⟩ := mx_s2_i he
    cases ho
    exact h0
  | lshr =>
    obtain ⟨_, _, _, _, ho⟩ := mx_s2_i he
    cases ho
    exact h0
  | ineg =>
    obtain ⟨_, _, _, ho⟩ := mx_b1_i he
    cases ho
    exact h0
  | i2l =>
    obtain ⟨_, _, _, ho⟩ := mx_b1_i he
    cases ho
    exact h0
  | i2b =>
    obtain ⟨_, _, _, ho⟩ := mx_b1_i he
    cases ho
    exact h0
  | l2i =>
    obtain ⟨_, _, _, ho⟩ := mx_m1_i he
    cases ho
    exact h0
  | lcmp =>
    obtain ⟨_, _, _, _, ho⟩ := mx_lcmpc_i he
    cases ho
    exact h0
  | dup =>
    obtain ⟨_, _, _, _, ho⟩ := mx_dup_i he
    cases ho
    exact h0
  | pop =>
    obtain ⟨_, _, _, _, ho⟩ := mx_popc_i he
    cases ho
    exact h0
  | dup_x1 =>
    obtain ⟨_, _, _, _, _, _, ho⟩ := mx_dx1_i he
    cases ho
    exact h0
  | dup_x2 =>
    obtain ⟨_, _, _, _, _, _, _, _, ho⟩ := mx_dx2_i he
    cases ho
    exact h0
  | dup2 =>
    obtain ⟨_, _, _, _, _, _, ho⟩ := mx_dpp_i he
    cases ho
    exact h0
  | goto off =>
    obtain ⟨_, _, ho⟩ := mx_br_i he
    cases ho
    exact h0
  | ifCond cd off =>
    obtain ⟨_, _, _, _, _, ho⟩ := mx_ifcc_i he
    cases ho
    exact h0
  | if_icmp cd off =>
    obtain ⟨_, _, _, _, _, _, ho⟩ := mx_icmc_i he
    cases ho
    exact h0
  | tableswitch dflt lo hi offs =>
    obtain ⟨_, _, _, _, _, _, _, ho⟩ := mx_tswc_i he
    cases ho
    exact h0
  | lookupswitch dflt ps =>
    obtain ⟨_, _, _, _, _, _, ho⟩ := mx_lswc_i he
    cases ho
    exact h0
  | iaload =>
    obtain ⟨_, _, _, _, _, _, _, _, ho⟩ := mx_ald_i he
    cases ho
    exact h0
  | baload =>
    obtain ⟨_, _, _, _, _, _, _, _, ho⟩ := mx_ald_i he
    cases ho
    exact h0
  | laload =>
    obtain ⟨_, _, _, _, _, _, _, _, ho⟩ := mx_ald_i he
    cases ho
    exact h0
  | aaload =>
    obtain ⟨_, _, _, _, _, _, _, _, ho⟩ := mx_ald_i he
    cases ho
    exact h0
  | arraylength =>
    obtain ⟨_, _, _, _, _, ho⟩ := mx_len_i he
    cases ho
    exact h0
  | getfield idx =>
    obtain ⟨_, _, _, _, _, _, _, _, _, ho⟩ := mx_get_i he
    cases ho
    exact h0
  | iastore =>
    obtain ⟨x, i, a, r, -, -, hg, -, ho⟩ := mx_iast_i he
    cases ho
    obtain ⟨-, -, -, -, o5, o6⟩ := mx_sI_o (σ := σ) (k := i.toNatClampNeg) hg x
    rw [o5, o6]
    exact h0
  | bastore =>
    obtain ⟨x, i, a, r, ty, -, -, -, hg, -, ho⟩ := mx_bast_i he
    cases ho
    obtain ⟨-, -, -, -, o5, o6⟩ := mx_sI_o (σ := σ) (k := i.toNatClampNeg) hg (vp_nar ty x)
    rw [o5, o6]
    exact h0
  | lastore =>
    obtain ⟨x, i, a, r, -, -, hg, -, ho⟩ := mx_last_i he
    cases ho
    obtain ⟨-, -, -, -, o5, o6⟩ := mx_sJ_o (σ := σ) (k := i.toNatClampNeg) hg x
    rw [o5, o6]
    exact h0
  | aastore =>
    obtain ⟨b, i, a, r, C, ci, -, -, -, hg, -, -, -, ho⟩ := mx_aast_i he
    cases ho
    obtain ⟨-, -, -, -, o5, o6⟩ := mx_sR_o (σ := σ) (k := i.toNatClampNeg) hg (some b)
    rw [o5, o6]
    exact h0
  | putfield idx =>
    obtain ⟨ci, k, nst, g, j, r, v, σ2, -, -, hg, -, hw, ho⟩ := mx_pt_i he
    cases ho
    have hK : mx_K σ' = mx_K σ ∧ mx_Z σ' = mx_Z σ := by
      unfold mx_wr at hw
      split at hw
      · cases hw
        obtain ⟨-, -, -, -, o5, o6⟩ := mx_sJ_o (σ := σ) (a := (g, ci, j)) (k := k) hg (by assumption)
        exact ⟨o5, o6⟩
      · cases hw
        exact ⟨(mx_sR_o (a := (g, ci, j)) hg _).2.2.2.2.1, (mx_sR_o (a := (g, ci, j)) hg _).2.2.2.2.2⟩
      · cases hw
        exact ⟨(mx_sR_o (a := (g, ci, j)) hg _).2.2.2.2.1, (mx_sR_o (a := (g, ci, j)) hg _).2.2.2.2.2⟩
      · cases hw
        exact ⟨(mx_sI_o (a := (g, ci, j)) hg _).2.2.2.2.1, (mx_sI_o (a := (g, ci, j)) hg _).2.2.2.2.2⟩
      · split at hw
        · cases hw
          exact ⟨(mx_sI_o (a := (g, ci, j)) hg _).2.2.2.2.1, (mx_sI_o (a := (g, ci, j)) hg _).2.2.2.2.2⟩
        · cases hw
      · cases hw
    rw [hK.1, hK.2]
    exact h0
  | new idx =>
    obtain ⟨ci, -, hg, ho⟩ := mx_nw_i he
    cases ho
    obtain ⟨-, -, -, -, -, o6, o7⟩ := mx_al_o (σ := σ) (t := ci) (n := 0) (z := mx_fn ci) hg
    rw [o6, o7]
    exact ⟨Nat.le_add_right _ _, Nat.le_add_right _ _⟩
  | newarray at_ =>
    obtain ⟨g, t, n, r, -, hg, -, -, -, ho⟩ := mx_na_i he
    cases ho
    obtain ⟨-, -, -, -, -, o6, o7⟩ := mx_al_o (σ := σ) (t := t) (n := n.toNatClampNeg) (z := n.toNatClampNeg) hg
    rw [o6, o7]
    exact ⟨Nat.le_add_right _ _, Nat.le_add_right _ _⟩
  | anewarray idx =>
    obtain ⟨C, hC, he⟩ := mx_anwc_i he
    obtain ⟨g, t, n, r, -, hg, -, -, -, ho⟩ := mx_na_i he
    cases ho
    obtain ⟨-, -, -, -, -, o6, o7⟩ := mx_al_o (σ := σ) (t := t) (n := n.toNatClampNeg) (z := n.toNatClampNeg) hg
    rw [o6, o7]
    exact ⟨Nat.le_add_right _ _, Nat.le_add_right _ _⟩
  | invokespecial idx =>
    obtain ⟨a, r, -, -, -, ho⟩ := mx_callI_o he
    cases ho
    exact h0
  | invokestatic idx => exact absurd he mx_callS_n
  | invokevirtual idx => exact absurd he mx_callV_n
  | ireturn => exact absurd he mx_ret_n.1
  | lreturn => exact absurd he mx_ret_n.2.1
  | areturn => exact absurd he mx_ret_n.2.2.1
  | return_ => exact absurd he mx_ret_n.2.2.2
  | _ => exact absurd (show (none : Option mx_Rs) = _ from he) (fun h => by cases h)
/-- an instruction that calls -/
def mx_isC (mid pc : Nat) (y : Nat) (as : List mx_V) (q : Nat) (r st : List mx_V) : Prop := q = pc + 3 ∧ mx_wd r ≤ 8 ∧ ∃ idx nst, mx_cal (mx_mc mid) idx = some (y, nst) ∧ ((mx_ms y = true ∧ decode (mx_mb mid) pc = .ok (.invokestatic idx, 3) ∧ mx_pop (mx_mn y) st [] = some (as, r)) ∨ (mx_ms y = false ∧ mx_mi y = false ∧ decode (mx_mb mid) pc = .ok (.invokevirtual idx, 3) ∧ ∃ bs g i, g < 2 ∧ as = mx_r (some (g, mx_mc y, i)) :: bs ∧ mx_pop (mx_mn y) st [] = some (bs, .inr (.inr (some (g, mx_mc y, i))) :: r)) ∨ (mx_ms y = false ∧ mx_mi y = true ∧ decode (mx_mb mid) pc = .ok (.invokespecial idx, 3) ∧ ∃ bs a, as = mx_r (some a) :: bs ∧ mx_pop (mx_mn y) st [] = some (bs, .inr (.inr (some a)) :: r)))
def mx_isR (mid pc : Nat) (v : Option mx_V) : Prop := (v = none ∧ mx_mr mid = none ∧ decode (mx_mb mid) pc = .ok (.return_, 1)) ∨ (∃ x, v = some (.inl x) ∧ (mx_mr mid = some .int ∨ (mx_mr mid = some .boolean ∧ (x = 0 ∨ x = 1))) ∧ decode (mx_mb mid) pc = .ok (.ireturn, 1)) ∨ (∃ x, v = some (.inr (.inl x)) ∧ mx_mr mid = some .long ∧ decode (mx_mb mid) pc = .ok (.lreturn, 1)) ∨ (∃ x, v = some (.inr (.inr x)) ∧ ((∃ n, mx_mr mid = some (.object n)) ∨ ∃ t, mx_mr mid = some (.array t)) ∧ decode (mx_mb mid) pc = .ok (.areturn, 1))
set_option maxHeartbeats 4000000 in
theorem mx_exec_C {mid pc : Nat} {i : Jvm.ClassFile.Instr} {L : mx_L} {st : List mx_V} {σ : mx_Hp} {y : Nat} {as : List mx_V} {q : Nat} {r : List mx_V} (hi : mx_code mid pc = some i) (he : mx_exec mid pc i L st σ = some (.inr (.inl (y, as, q, r)))) : mx_isC mid pc y as q r st := by
  obtain ⟨len, hd, hlen⟩ := mx_dec hi
  have hd1 : mx_isw i = false → decode (mx_mb mid) pc = .ok (i, mx_ilen i) := fun h => by
    rcases hlen with h2 | h2
    · rw [h] at h2
      cases h2
    · rw [← h2]
      exact hd
  cases i with
  | iconst n => cases he
  | bipush n => cases he
  | sipush n => cases he
  | lconst n => cases he
  | ldc idx =>
    obtain ⟨_, _, ho⟩ := mx_ldcc_i he
    cases ho
  | ldc2_w idx =>
    obtain ⟨_, _, ho⟩ := mx_ldlc_i he
    cases ho
  | iload_n k =>
    obtain ⟨_, _, ho⟩ := mx_ildc_i he
    cases ho
  | iload k =>
    obtain ⟨_, _, ho⟩ := mx_ildc_i he
    cases ho
  | lload_n k =>
    obtain ⟨_, _, _, ho⟩ := mx_lldc_i he
    cases ho
  | lload k =>
    obtain ⟨_, _, _, ho⟩ := mx_lldc_i he
    cases ho
  | aload_n k =>
    obtain ⟨_, _, ho⟩ := mx_aldc_i he
    cases ho
  | aload k =>
    obtain ⟨_, _, ho⟩ := mx_aldc_i he
    cases ho
  | istore_n k =>
    obtain ⟨_, _, _, _, ho⟩ := mx_istc_i he
    cases ho
  | istore k =>
    obtain ⟨_, _, _, _, ho⟩ := mx_istc_i he
    cases ho
  | lstore_n k =>
    obtain ⟨_, _, _, _, ho⟩ := mx_lstc_i he
    cases ho
  | lstore k =>
    obtain ⟨_, _, _, _, ho⟩ := mx_lstc_i he
    cases ho
  | astore_n k =>
    obtain ⟨_, _, _, _, ho⟩ := mx_astc_i he
    cases ho
  | astore k =>
    obtain ⟨_, _, _, _, ho⟩ := mx_astc_i he
    cases ho
  | iinc k n =>
    obtain ⟨_, _, _, ho⟩ := mx_iincc_i he
    cases ho
  | iadd =>
    obtain ⟨_, _, _, _, ho⟩ := mx_b2_i he
    cases ho
  | isub =>
    obtain ⟨_, _, _, _, ho⟩ := mx_b2_i he
    cases ho
  | imul =>
    obtain ⟨_, _, _, _, ho⟩ := mx_b2_i he
    cases ho
  | iand =>
    obtain ⟨_, _, _, _, ho⟩ := mx_b2_i he
    cases ho
  | ior =>
    obtain ⟨_, _, _, _, ho⟩ := mx_b2_i he
    cases ho
  | ixor =>
    obtain ⟨_, _, _, _, ho⟩ := mx_b2_i he
    cases ho
  | ishl =>
    obtain ⟨_, _, _, _, ho⟩ := mx_b2_i he
    cases ho
  | ishr =>
    obtain ⟨_, _, _, _, ho⟩ := mx_b2_i he
    cases ho
  | iushr =>
    obtain ⟨_, _, _, _, ho⟩ := mx_b2_i he
    cases ho
  | idiv =>
    obtain ⟨_, _, _, _, _, ho⟩ := mx_d2_i he
    cases ho
  | irem =>
    obtain ⟨_, _, _, _, _, ho⟩ := mx_d2_i he
    cases ho
  | ladd =>
    obtain ⟨_, _, _, _, ho⟩ := mx_m2_i he
    cases ho
  | lsub =>
    obtain ⟨_, _, _, _, ho⟩ := mx_m2_i he
    cases ho
  | land =>
    obtain ⟨_, _, _, _, ho⟩ := mx_m2_i he
    cases ho
  | lor =>
    obtain ⟨_, _, _, _, ho⟩ := mx_m2_i he
    cases ho
  | lxor =>
    obtain ⟨_, _, _, _, ho⟩ := mx_m2_i he
    cases ho
  | lushr =>
    obtain ⟨_, _, _, _, ho⟩ := mx_s2_i he
    cases ho
  | lshl =>
    obtain ⟨_, _, _, _, ho⟩ := mx_s2_i he
    cases ho
  | lshr =>
    obtain ⟨_, _, _, _, ho⟩ := mx_s2_i he
    cases ho
  | ineg =>
    obtain ⟨_, _, _, ho⟩ := mx_b1_i he
    cases ho
  | i2l =>
    obtain ⟨_, _, _, ho⟩ := mx_b1_i he
    cases ho
  | i2b =>
    obtain ⟨_, _, _, ho⟩ := mx_b1_i he
    cases ho
  | l2i =>
    obtain ⟨_, _, _, ho⟩ := mx_m1_i he
    cases ho
  | lcmp =>
    obtain ⟨_, _, _, _, ho⟩ := mx_lcmpc_i he
    cases ho
  | dup =>
    obtain ⟨_, _, _, _, ho⟩ := mx_dup_i he
    cases ho
  | pop =>
    obtain ⟨_, _, _, _, ho⟩ := mx_popc_i he
    cases ho
  | dup_x1 =>
    obtain ⟨_, _, _, _, _, _, ho⟩ := mx_dx1_i he
    cases ho
  | dup_x2 =>
    obtain ⟨_, _, _, _, _, _, _, _, ho⟩ := mx_dx2_i he
    cases ho
  | dup2 =>
    obtain ⟨_, _, _, _, _, _, ho⟩ := mx_dpp_i he
    cases ho
  | goto off =>
    obtain ⟨_, _, ho⟩ := mx_br_i he
    cases ho
  | ifCond cd off =>
    obtain ⟨_, _, _, _, _, ho⟩ := mx_ifcc_i he
    cases ho
  | if_icmp cd off =>
    obtain ⟨_, _, _, _, _, _, ho⟩ := mx_icmc_i he
    cases ho
  | tableswitch dflt lo hi offs =>
    obtain ⟨_, _, _, _, _, _, _, ho⟩ := mx_tswc_i he
    cases ho
  | lookupswitch dflt ps =>
    obtain ⟨_, _, _, _, _, _, ho⟩ := mx_lswc_i he
    cases ho
  | iaload =>
    obtain ⟨_, _, _, _, _, _, _, _, ho⟩ := mx_ald_i he
    cases ho
  | baload =>
    obtain ⟨_, _, _, _, _, _, _, _, ho⟩ := mx_ald_i he
    cases ho
  | laload =>
    obtain ⟨_, _, _, _, _, _, _, _, ho⟩ := mx_ald_i he
    cases ho
  | aaload =>
    obtain ⟨_, _, _, _, _, _, _, _, ho⟩ := mx_ald_i he
    cases ho
  | arraylength =>
    obtain ⟨_, _, _, _, _, ho⟩ := mx_len_i he
    cases ho
  | getfield idx =>
    obtain ⟨_, _, _, _, _, _, _, _, _, ho⟩ := mx_get_i he
    cases ho
  | iastore =>
    obtain ⟨_, _, _, _, _, _, _, _, ho⟩ := mx_iast_i he
    cases ho
  | bastore =>
    obtain ⟨_, _, _, _, _, _, _, _, _, _, ho⟩ := mx_bast_i he
    cases ho
  | lastore =>
    obtain ⟨_, _, _, _, _, _, _, _, ho⟩ := mx_last_i he
    cases ho
  | aastore =>
    obtain ⟨_, _, _, _, _, _, _, _, _, _, _, _, _, ho⟩ := mx_aast_i he
    cases ho
  | putfield idx =>
    obtain ⟨_, _, _, _, _, _, _, _, _, _, _, _, _, ho⟩ := mx_pt_i he
    cases ho
  | new idx =>
    obtain ⟨_, _, _, ho⟩ := mx_nw_i he
    cases ho
  | newarray at_ =>
    obtain ⟨_, _, _, _, _, _, _, _, _, ho⟩ := mx_na_i he
    cases ho
  | anewarray idx =>
    obtain ⟨C, hC, he⟩ := mx_anwc_i he
    obtain ⟨_, _, _, _, _, _, _, _, _, ho⟩ := mx_na_i he
    cases ho
  | invokestatic idx =>
    obtain ⟨y, nst, as, r, h1, h2, h3, h4, ho⟩ := mx_callS_i he
    cases ho
    exact ⟨rfl, h4, idx, nst, h1, Or.inl ⟨h2, hd1 rfl, h3⟩⟩
  | invokevirtual idx =>
    obtain ⟨y, nst, as, g, j, r, h1, h2, h3, h4, h5, h6, ho⟩ := mx_callV_i he
    cases ho
    exact ⟨rfl, h6, idx, nst, h1, Or.inr (Or.inl ⟨h2, h3, hd1 rfl, as, g, j, h5, rfl, h4⟩)⟩
  | invokespecial idx =>
    rcases mx_callI_i he with ⟨a, r, h1, h2, h3, ho⟩ | ⟨y, nst, as, a, r, h1, h2, h3, h4, h5, ho⟩
    · cases ho
    · cases ho
      exact ⟨rfl, h5, idx, nst, h1, Or.inr (Or.inr ⟨h2, h3, hd1 rfl, as, a, rfl, h4⟩)⟩
  | ireturn =>
    obtain ⟨_, _, _, ho⟩ := mx_ireturn_i he
    cases ho
  | lreturn =>
    obtain ⟨_, _, _, ho⟩ := mx_lreturn_i he
    cases ho
  | areturn =>
    obtain ⟨_, _, _, ho⟩ := mx_areturn_i he
    cases ho
  | return_ =>
    obtain ⟨_, _, ho⟩ := mx_vreturn_i he
    cases ho
  | _ => exact absurd (show (none : Option mx_Rs) = _ from he) (fun h => by cases h)
set_option maxHeartbeats 4000000 in
theorem mx_exec_R {mid pc : Nat} {i : Jvm.ClassFile.Instr} {L : mx_L} {st : List mx_V} {σ : mx_Hp} {v : Option mx_V} (hi : mx_code mid pc = some i) (he : mx_exec mid pc i L st σ = some (.inr (.inr v))) : mx_isR mid pc v ∧ st = v.toList := by
  obtain ⟨len, hd, hlen⟩ := mx_dec hi
  have hd1 : mx_isw i = false → decode (mx_mb mid) pc = .ok (i, mx_ilen i) := fun h => by
    rcases hlen with h2 | h2
    · rw [h] at h2
      cases h2
    · rw [← h2]
      exact hd
  cases i with
  | iconst n => cases he
  | bipush n => cases he
  | sipush n => cases he
  | lconst n => cases he
  | ldc idx =>
    obtain ⟨_, _, ho⟩ := mx_ldcc_i he
    cases ho
  | ldc2_w idx =>
    obtain ⟨_, _, ho⟩ := mx_ldlc_i he
    cases ho
  | iload_n k =>
    obtain ⟨_, _, ho⟩ := mx_ildc_i he
    cases ho
  | iload k =>
    obtain ⟨_, _, ho⟩ := mx_ildc_i he
    cases ho
  | lload_n k =>
    obtain ⟨_, _, _, ho⟩ := mx_lldc_i he
    cases ho
  | lload k =>
    obtain ⟨_, _, _, ho⟩ := mx_lldc_i he
    cases ho
  | aload_n k =>
    obtain ⟨_, _, ho⟩ := mx_aldc_i he
    cases ho
  | aload k =>
    obtain ⟨_, _, ho⟩ := mx_aldc_i he
    cases ho
  | istore_n k =>
    obtain ⟨_, _, _, _, ho⟩ := mx_istc_i he
    cases ho
  | istore k =>
    obtain ⟨_, _, _, _, ho⟩ := mx_istc_i he
    cases ho
  | lstore_n k =>
    obtain ⟨_, _, _, _, ho⟩ := mx_lstc_i he
    cases ho
  | lstore k =>
    obtain ⟨_, _, _, _, ho⟩ := mx_lstc_i he
    cases ho
  | astore_n k =>
    obtain ⟨_, _, _, _, ho⟩ := mx_astc_i he
    cases ho
  | astore k =>
    obtain ⟨_, _, _, _, ho⟩ := mx_astc_i he
    cases ho
  | iinc k n =>
    obtain ⟨_, _, _, ho⟩ := mx_iincc_i he
    cases ho
  | iadd =>
    obtain ⟨_, _, _, _, ho⟩ := mx_b2_i he
    cases ho
  | isub =>
    obtain ⟨_, _, _, _, ho⟩ := mx_b2_i he
    cases ho
  | imul =>
    obtain ⟨_, _, _, _, ho⟩ := mx_b2_i he
    cases ho
  | iand =>
    obtain ⟨_, _, _, _, ho⟩ := mx_b2_i he
    cases ho
  | ior =>
    obtain ⟨_, _, _, _, ho⟩ := mx_b2_i he
    cases ho
  | ixor =>
    obtain ⟨_, _, _, _, ho⟩ := mx_b2_i he
    cases ho
  | ishl =>
    obtain ⟨_, _, _, _, ho⟩ := mx_b2_i he
    cases ho
  | ishr =>
    obtain ⟨_, _, _, _, ho⟩ := mx_b2_i he
    cases ho
  | iushr =>
    obtain ⟨_, _, _, _, ho⟩ := mx_b2_i he
    cases ho
  | idiv =>
    obtain ⟨_, _, _, _, _, ho⟩ := mx_d2_i he
    cases ho
  | irem =>
    obtain ⟨_, _, _, _, _, ho⟩ := mx_d2_i he
    cases ho
  | ladd =>
    obtain ⟨_, _, _, _, ho⟩ := mx_m2_i he
    cases ho
  | lsub =>
    obtain ⟨_, _, _, _, ho⟩ := mx_m2_i he
    cases ho
  | land =>
    obtain ⟨_, _, _, _, ho⟩ := mx_m2_i he
    cases ho
  | lor =>
    obtain ⟨_, _, _, _, ho⟩ := mx_m2_i he
    cases ho
  | lxor =>
    obtain ⟨_, _, _, _, ho⟩ := mx_m2_i he
    cases ho
  | lushr =>
    obtain ⟨_, _, _, _, ho⟩ := mx_s2_i he
    cases ho
  | lshl =>
    obtain ⟨_, _, _, _, ho⟩ := mx_s2_i he
    cases ho
  | lshr =>
    obtain ⟨_, _, _, _, ho⟩ := mx_s2_i he
    cases ho
  | ineg =>
    obtain ⟨_, _, _, ho⟩ := mx_b1_i he
    cases ho
  | i2l =>
    obtain ⟨_, _, _, ho⟩ := mx_b1_i he
    cases ho
  | i2b =>
    obtain ⟨_, _, _, ho⟩ := mx_b1_i he
    cases ho
  | l2i =>
    obtain ⟨_, _, _, ho⟩ := mx_m1_i he
    cases ho
  | lcmp =>
    obtain ⟨_, _, _, _, ho⟩ := mx_lcmpc_i he
    cases ho
  | dup =>
    obtain ⟨_, _, _, _, ho⟩ := mx_dup_i he
    cases ho
  | pop =>
    obtain ⟨_, _, _, _, ho⟩ := mx_popc_i he
    cases ho
  | dup_x1 =>
    obtain ⟨_, _, _, _, _, _, ho⟩ := mx_dx1_i he
    cases ho
  | dup_x2 =>
    obtain ⟨_, _, _, _, _, _, _, _, ho⟩ := mx_dx2_i he
    cases ho
  | dup2 =>
    obtain ⟨_, _, _, _, _, _, ho⟩ := mx_dpp_i he
    cases ho
  | goto off =>
    obtain ⟨_, _, ho⟩ := mx_br_i he
    cases ho
  | ifCond cd off =>
    obtain ⟨_, _, _, _, _, ho⟩ := mx_ifcc_i he
    cases ho
  | if_icmp cd off =>
    obtain ⟨_, _, _, _, _, _, ho⟩ := mx_icmc_i he
    cases ho
  | tableswitch dflt lo hi offs =>
    obtain ⟨_, _, _, _, _, _, _, ho⟩ := mx_tswc_i he
    cases ho
  | lookupswitch dflt ps =>
    obtain ⟨_, _, _, _, _, _, ho⟩ := mx_lswc_i he
    cases ho
  | iaload =>
    obtain ⟨_, _, _, _, _, _, _, _, ho⟩ := mx_ald_i he
    cases ho
  | baload =>
    obtain ⟨_, _, _, _, _, _, _, _, ho⟩ := mx_ald_i he
    cases ho
  | laload =>
    obtain ⟨_, _, _, _, _, _, _, _, ho⟩ := mx_ald_i he
    cases ho
  | aaload =>
    obtain ⟨_, _, _, _, _, _, _, _, ho⟩ := mx_ald_i he
    cases ho
  | arraylength =>
    obtain ⟨_, _, _, _, _, ho⟩ := mx_len_i he
    cases ho
  | getfield idx =>
    obtain ⟨_, _, _, _, _, _, _, _, _, ho⟩ := mx_get_i he
    cases ho
  | iastore =>
    obtain ⟨_, _, _, _, _, _, _, _, ho⟩ := mx_iast_i he
    cases ho
  | bastore =>
    obtain ⟨_, _, _, _, _, _, _, _, _, _, ho⟩ := mx_bast_i he
    cases ho
  | lastore =>
    obtain ⟨_, _, _, _, _, _, _, _, ho⟩ := mx_last_i he
    cases ho
  | aastore =>
    obtain ⟨_, _, _, _, _, _, _, _, _, _, _, _, _, ho⟩ := mx_aast_i he
    cases ho
  | putfield idx =>
    obtain ⟨_, _, _, _, _, _, _, _, _, _, _, _, _, ho⟩ := mx_pt_i he
    cases ho
  | new idx =>
    obtain ⟨_, _, _, ho⟩ := mx_nw_i he
    cases ho
  | newarray at_ =>
    obtain ⟨_, _, _, _, _, _, _, _, _, ho⟩ := mx_na_i he
    cases ho
  | anewarray idx =>
    obtain ⟨C, hC, he⟩ := mx_anwc_i he
    obtain ⟨_, _, _, _, _, _, _, _, _, ho⟩ := mx_na_i he
    cases ho
  | invokestatic idx =>
    obtain ⟨_, _, _, _, _, _, _, _, ho⟩ := mx_callS_i he
    cases ho
  | invokevirtual idx =>
    obtain ⟨_, _, _, _, _, _, _, _, _, _, _, _, ho⟩ := mx_callV_i he
    cases ho
  | invokespecial idx =>
    rcases mx_callI_i he with ⟨a, r, h1, h2, h3, ho⟩ | ⟨y, nst, as, a, r, h1, h2, h3, h4, h5, ho⟩
    · cases ho
    · cases ho
  | ireturn =>
    obtain ⟨x, rfl, h2, ho⟩ := mx_ireturn_i he
    cases ho
    exact ⟨Or.inr (Or.inl ⟨x, rfl, h2, hd1 rfl⟩), rfl⟩
  | lreturn =>
    obtain ⟨x, rfl, h2, ho⟩ := mx_lreturn_i he
    cases ho
    exact ⟨Or.inr (Or.inr (Or.inl ⟨x, rfl, h2, hd1 rfl⟩)), rfl⟩
  | areturn =>
    obtain ⟨x, rfl, h2, ho⟩ := mx_areturn_i he
    cases ho
    exact ⟨Or.inr (Or.inr (Or.inr ⟨x, rfl, h2, hd1 rfl⟩)), rfl⟩
  | return_ =>
    obtain ⟨rfl, h2, ho⟩ := mx_vreturn_i he
    cases ho
    exact ⟨Or.inl ⟨rfl, h2, hd1 rfl⟩, rfl⟩
  | _ => exact absurd (show (none : Option mx_Rs) = _ from he) (fun h => by cases h)
