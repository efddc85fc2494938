/-! THE CLAIM OUT OF ONE WALK OF THE LAW'S BODY. Your part is whole_start (and what it stands on); all else here is the same for every law, but numbers. -/
def R_law : String := "PluginHallLaw"
def lw_P (b : Addr) (xs : List Int32) (args : Array Value) (s : State) : Prop := args = #[.ref b] ∧ s.IntsAt b xs ∧ xs.length ≤ 2048 ∧ (Jvm.Cond.and given_1 narrow_1).before args s = true
def lw_Q (_ : Array Value) (s : State) (o : Outcome) (t : State) : Prop := o = .returned (some (.int 1)) ∧ Framed s o t [] 600000 7302250
def lw_Z (below : List Frame) (a : Array Value) (s : State) : State → Prop := fun t => ∃ o, t.status = .running ∧ Ended t below o ∧ lw_Q a s o t
/-- the law's own end, with 1 on the stack, nothing written that was there before, its room as the claim has it -/
theorem lw_ret {p : Program} {l : Launch} {e : Env} {s : State} {m : MethodId} {below : List Frame} {meth : Method} {c : Code} {b : Nat} (hx : p.tables.exec = Jvm.exec) (hb : c.code = code) (hr : meth.sig.returnType = ret) (hlocks : meth.locks = false) {pc : Nat} {H : Heap} {ls : Array Slot} (hdg : decode code pc = .ok (.ireturn, 1)) : W p l e room_1 s m #[Value.ref b] below meth c H [] 600000 7302250 (lw_Z below #[Value.ref b] s) (F0 m pc ls [.int 1]) := by
  intro T hT X
  obtain ⟨fs, hret, hrun, hended, hW, hframe⟩ := X.leave (v := some (.int 1)) (hlocks := hlocks) (fun h => by rw [hr] at h; cases h)
  have hmeth' : T.vm.method? m = some meth := X.method'
  refine ⟨T.setFrames fs, ?_, .returned (some (.int 1)), hrun, hended, rfl, ⟨_, rfl⟩, hW, hframe⟩
  jvm_step X.here [X.here.top, hx, hb, hdg, hmeth', hr, ret, narrow_b1]
  (try refine ⟨rfl, ?_⟩); (try refine ⟨rfl, ?_⟩)
  first | (intro acts; rw [hret _ acts rfl rfl rfl]) | rw [hret _ _ rfl rfl rfl]
  exact Steps.refl _
/-- what holds at the law's entry: the machine, the code, the tables' words (any of lw_tbl by 'hts w (by decide +kernel)'), the script of L ints xs at the cell b, what the Statement gives of the start (any of its parts by flat_of_before) -/
def lw_At (p : Program) (s : State) (m : MethodId) (meth : Method) (c : Code) (b L : Nat) (xs : Nat → Int32) : Prop :=
  p.tables.exec = Jvm.exec ∧ c.code = code ∧ meth.sig.returnType = ret ∧ c.maxLocals = 4 ∧ s.vm.findClass R_law = some m.cls ∧ (∀ w ∈ lw_tbl, w.before #[Value.ref b] s = true) ∧ va_X b L xs s s.heap ∧ b < s.heap.size ∧ meth.locks = false ∧ (Jvm.Cond.and given_1 narrow_1).before #[Value.ref b] s = true
set_option maxRecDepth 20000 in
theorem mx_nf_in : ∀ e ∈ mx_nf, (fun (w : String × Nat × String × String × String × String) => Cond.fieldLinkNest w.1 w.2.1 w.2.2.1 w.2.2.2.1 w.2.2.2.2.1 w.2.2.2.2.2 ∈ lw_tbl) e := mx_fc (mx_t1 35 rfl) (mx_fc (mx_t1 37 rfl) (mx_fc (mx_t1 39 rfl) (mx_fc (mx_t1 42 rfl) (mx_fc (mx_t1 44 rfl) (mx_fc (mx_t1 47 rfl) (mx_fc (mx_t1 49 rfl) (mx_fc (mx_t1 73 rfl) (mx_fc (mx_t1 75 rfl) (mx_fc (mx_t1 76 rfl) (mx_fc (mx_t1 78 rfl) (mx_fc (mx_t1 79 rfl) (mx_fc (mx_t1 102 rfl) (mx_fc (mx_t1 104 rfl) (mx_fc (mx_t1 106 rfl) (mx_fc (mx_t1 107 rfl) (mx_fc (mx_t1 108 rfl) (mx_fc (mx_t1 109 rfl) (mx_fc (mx_t1 111 rfl) (mx_fc (mx_t1 112 rfl) (mx_fc (mx_t1 114 rfl) (mx_fc (mx_t1 115 rfl) (mx_fc (mx_t1 116 rfl) (mx_fc (mx_t1 117 rfl) (mx_fc (mx_t1 119 rfl) (mx_fc (mx_t1 120 rfl) (mx_fc (mx_t1 121 rfl) (mx_fc (mx_t1 159 rfl) (mx_fc (mx_t1 161 rfl) (mx_fc (mx_t1 162 rfl) (mx_fc (mx_t1 196 rfl) (mx_fc (mx_t1 198 rfl) (mx_fc (mx_t1 199 rfl) (mx_fc (mx_t1 202 rfl) (mx_fc (mx_t1 203 rfl) (mx_fc (mx_t1 205 rfl) (mx_fc (mx_t1 206 rfl) (mx_fc (mx_t1 207 rfl) (mx_fc (mx_t1 209 rfl) (mx_fc (mx_t1 211 rfl) (mx_fc (mx_t1 212 rfl) (mx_fc (mx_t1 214 rfl) (mx_fc (mx_t1 215 rfl) (mx_fc (mx_t1 217 rfl) (mx_fc (mx_t1 219 rfl) (mx_fc (mx_t2 12 rfl) (mx_fc (mx_t2 13 rfl) (mx_fc (mx_t2 14 rfl) (mx_fc (mx_t2 23 rfl) (mx_fc (mx_t2 24 rfl) (mx_fc (mx_t2 27 rfl) (mx_fc (mx_t2 43 rfl) (mx_fc (mx_t2 45 rfl) (mx_fc (mx_t2 64 rfl) (mx_fc (mx_t2 67 rfl) (mx_fc (mx_t2 69 rfl) (mx_fc (mx_t2 71 rfl) (mx_f0)))))))))))))))))))))))))))))))))))))))))))))))))))))))))
theorem mx_nm_in : ∀ e ∈ mx_nm, (fun (w : String × Nat × MethodName × String) => Cond.methodLinkNest w.1 w.2.1 w.2.2.1 w.2.2.2 ∈ lw_tbl) e := mx_fc (mx_t2 112 rfl) (mx_fc (mx_t2 215 rfl) (mx_fc (mx_t3 27 rfl) (mx_fc (mx_t3 44 rfl) (mx_fc (mx_t3 194 rfl) (mx_fc (mx_t3 228 rfl) (mx_fc (mx_t4 73 rfl) (mx_f0)))))))
theorem mx_ao_in : ∀ e ∈ mx_ao, (fun (C : String) => Cond.arrayOver (.object C) ∈ lw_tbl) e := mx_fc (mx_t1 140 rfl) (mx_fc (mx_t1 155 rfl) (mx_f0))
theorem mx_inst_ok {ci : Nat} {q : vw_C} (h : mx_cls[ci]? = some q) : Cond.instantiable q.1 q.2.2 ∈ mx_GT := by
  match ci, h with
  | 0, h => cases h; exact (mx_g1 15 rfl rfl)
  | 1, h => cases h; exact (mx_g1 23 rfl rfl)
  | 2, h => cases h; exact (mx_g1 29 rfl rfl)
  | 3, h => cases h; exact (mx_g1 94 rfl rfl)
  | 4, h => cases h; exact (mx_g1 149 rfl rfl)
  | 5, h => cases h; exact (mx_g1 171 rfl rfl)
  | 6, h => cases h; exact (mx_g1 141 rfl rfl)
  | 7, h => cases h; exact (mx_g1 88 rfl rfl)
  | 8, h => cases h; exact (mx_g2 36 rfl rfl)
  | 9, h => cases h; exact (mx_g2 58 rfl rfl)
  | 10, h => cases h; exact (mx_g2 4 rfl rfl)
  | 11, h => cases h; exact (mx_g4 75 rfl rfl)
  | n + 12, h => simp [mx_cls] at h
theorem mx_aoA {s : State} {args : Array Value} {C : String} (h : (Cond.arrayOver (.object C)).before args s = true) : ∃ c : ClassId, ArrOfT s c (.object C) ∧ va_RA s c (.object C) := by
  obtain ⟨comp, c, k, h1, h2, h3, h4, h5⟩ := Cond.arrayOver_spec h
  exact ⟨c, fun n z => ⟨(fun k h => by cases h), k, h3, comp, h4⟩, k, comp, h3, h4, h1, h5⟩
def mx_prim : FieldType → Bool | .object _ => false | _ => true
theorem mx_apA {s : State} {args : Array Value} {ty : FieldType} (hp : mx_prim ty = true) (h : (Cond.arrayClass ty).before args s = true) : ∃ c : ClassId, ArrOfT s c ty ∧ va_RA s c ty := by
  obtain ⟨c, k, comp, h1, h2, h3⟩ := Cond.arrayClass_spec h
  refine ⟨c, fun n z => ⟨(fun k h => by cases h), k, h2, comp, h3⟩, ?_⟩
  cases ty <;> first | exact h1 | cases hp
theorem mx_aty_in {s : State} {args : Array Value} (hts : ∀ w ∈ lw_tbl, w.before args s = true) : ∀ e ∈ mx_aty, (fun (ty : FieldType) => ∃ c : ClassId, ArrOfT s c ty ∧ va_RA s c ty) e := by
  exact mx_fc (mx_apA rfl (hts _ (mx_t1 69 rfl))) (mx_fc (mx_apA rfl (hts _ (mx_t1 70 rfl))) (mx_fc (mx_apA rfl (hts _ (mx_t1 71 rfl))) (mx_fc (mx_aoA (hts _ (mx_t1 155 rfl))) (mx_fc (mx_aoA (hts _ (mx_t1 140 rfl))) (mx_fc (mx_apA rfl (hts _ (mx_t2 56 rfl))) (mx_f0))))))
