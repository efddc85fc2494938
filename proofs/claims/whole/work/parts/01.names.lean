/-! TABLES OF THE ABSTRACT MACHINE: written by wip/whole/gen.py out of the listing and the tables of the Statement -/
def mx_ix {α : Type} (l : List (List α)) (i : Nat) (d : α) : α := (((l[i / 16]?).getD [])[i % 16]?).getD d
def mx_GT : List Cond := lw_tbl.filter goodWord
theorem mx_GT_ok : ∀ w ∈ mx_GT, (w.onTables && w.keeps) = true ∨ ∃ ty, w = .arrayClass ty := fun w hw => good_of_word (List.mem_filter.mp hw).2
theorem mx_g1 {w : Cond} (i : Nat) (h : tables_1_1[i]? = some w) (hg : goodWord w = true) : w ∈ mx_GT := by
  have h := List.mem_of_getElem? h
  exact List.mem_filter.mpr ⟨List.mem_append_right _ (List.mem_append_left _ h), hg⟩
theorem mx_g2 {w : Cond} (i : Nat) (h : tables_1_2[i]? = some w) (hg : goodWord w = true) : w ∈ mx_GT := by
  have h := List.mem_of_getElem? h
  exact List.mem_filter.mpr ⟨List.mem_append_right _ (List.mem_append_right _ (List.mem_append_left _ h)), hg⟩
theorem mx_g3 {w : Cond} (i : Nat) (h : tables_1_3[i]? = some w) (hg : goodWord w = true) : w ∈ mx_GT := by
  have h := List.mem_of_getElem? h
  exact List.mem_filter.mpr ⟨List.mem_append_right _ (List.mem_append_right _ (List.mem_append_right _ (List.mem_append_left _ h))), hg⟩
theorem mx_g4 {w : Cond} (i : Nat) (h : tables_1_4[i]? = some w) (hg : goodWord w = true) : w ∈ mx_GT := by
  have h := List.mem_of_getElem? h
  exact List.mem_filter.mpr ⟨List.mem_append_right _ (List.mem_append_right _ (List.mem_append_right _ (List.mem_append_right _ (List.mem_append_left _ h)))), hg⟩
theorem mx_g5 {w : Cond} (i : Nat) (h : tables_1_5[i]? = some w) (hg : goodWord w = true) : w ∈ mx_GT := by
  have h := List.mem_of_getElem? h
  exact List.mem_filter.mpr ⟨List.mem_append_right _ (List.mem_append_right _ (List.mem_append_right _ (List.mem_append_right _ (List.mem_append_right _ (h))))), hg⟩
theorem mx_g0 {y : MethodName} {n : Nat} (i : Nat) (h : lw_privs[i]? = some (y, n)) : Cond.selects y.cls y y ∈ mx_GT := List.mem_filter.mpr ⟨List.mem_append_left _ (List.mem_map.mpr ⟨(y, n), List.mem_of_getElem? h, rfl⟩), rfl⟩
theorem mx_t1 {w : Cond} (i : Nat) (h : tables_1_1[i]? = some w) : w ∈ lw_tbl := by
  have h := List.mem_of_getElem? h
  exact List.mem_append_right _ (List.mem_append_left _ h)
theorem mx_t2 {w : Cond} (i : Nat) (h : tables_1_2[i]? = some w) : w ∈ lw_tbl := by
  have h := List.mem_of_getElem? h
  exact List.mem_append_right _ (List.mem_append_right _ (List.mem_append_left _ h))
theorem mx_t3 {w : Cond} (i : Nat) (h : tables_1_3[i]? = some w) : w ∈ lw_tbl := by
  have h := List.mem_of_getElem? h
  exact List.mem_append_right _ (List.mem_append_right _ (List.mem_append_right _ (List.mem_append_left _ h)))
theorem mx_t4 {w : Cond} (i : Nat) (h : tables_1_4[i]? = some w) : w ∈ lw_tbl := by
  have h := List.mem_of_getElem? h
  exact List.mem_append_right _ (List.mem_append_right _ (List.mem_append_right _ (List.mem_append_right _ (List.mem_append_left _ h))))
theorem mx_t5 {w : Cond} (i : Nat) (h : tables_1_5[i]? = some w) : w ∈ lw_tbl := by
  have h := List.mem_of_getElem? h
  exact List.mem_append_right _ (List.mem_append_right _ (List.mem_append_right _ (List.mem_append_right _ (List.mem_append_right _ (h)))))
theorem mx_fc {α : Type} {P : α → Prop} {a : α} {l : List α} (h : P a) (t : ∀ x ∈ l, P x) : ∀ x ∈ a :: l, P x := fun x hx => (List.mem_cons.mp hx).elim (fun e => e ▸ h) (t x)
theorem mx_f0 {α : Type} {P : α → Prop} : ∀ x ∈ ([] : List α), P x := fun _ h => absurd h List.not_mem_nil
theorem mx_lk {α : Type} {l : List (Nat × α)} {k : Nat} {v : α} (h : l.lookup k = some v) : (k, v) ∈ l := by
  induction l with
  | nil => cases h
  | cons a l ih =>
    obtain ⟨a1, a2⟩ := a
    rw [List.lookup_cons] at h
    by_cases e : k = a1
    · subst e
      simp at h
      subst h
      exact List.mem_cons_self
    · have e2 : (k == a1) = false := by simp [e]
      rw [e2] at h
      exact List.mem_cons_of_mem _ (ih h)
def mx_F0 : u_T := fun k => match k with
  | 0 => ("PluginHall", "draft", "LPluginHall$Draft;", true)
  | 1 => ("PluginHall", "house", "LPluginHall$House;", true)
  | 2 => ("PluginHall", "shelf", "LPluginHall$Shelf;", true)
  | 3 => ("PluginHall", "made", "LPluginHall$Made;", true)
  | _ => ("PluginHall", "events", "LPluginHall$History;", true)
def mx_F1 : u_T := fun k => match k with
  | 0 => ("PluginHall$Draft", "letters", "[B", true)
  | 1 => ("PluginHall$Draft", "wiring", "LPluginHall$Wiring;", true)
  | _ => ("PluginHall$Draft", "length", "I", false)
def mx_F2 : u_T := fun k => match k with
  | 0 => ("PluginHall$Wiring", "needed", "[I", true)
  | 1 => ("PluginHall$Wiring", "low", "[I", true)
  | 2 => ("PluginHall$Wiring", "high", "[I", true)
  | 3 => ("PluginHall$Wiring", "words", "[J", true)
  | 4 => ("PluginHall$Wiring", "kinds", "[I", true)
  | 5 => ("PluginHall$Wiring", "needs", "I", false)
  | 6 => ("PluginHall$Wiring", "classes", "I", false)
  | 7 => ("PluginHall$Wiring", "starterKind", "I", false)
  | _ => ("PluginHall$Wiring", "starterWord", "J", false)
def mx_F3 : u_T := fun k => match k with
  | 0 => ("PluginHall$Element", "names", "[J", true)
  | 1 => ("PluginHall$Element", "values", "[J", true)
  | 2 => ("PluginHall$Element", "attributes", "I", false)
  | 3 => ("PluginHall$Element", "number", "I", false)
  | 4 => ("PluginHall$Element", "parent", "I", false)
  | 5 => ("PluginHall$Element", "outermost", "I", false)
  | 6 => ("PluginHall$Element", "depth", "I", false)
  | _ => ("PluginHall$Element", "name", "J", false)
def mx_F4 : u_T := fun k => match k with
  | 0 => ("PluginHall$Tree", "rows", "[LPluginHall$Element;", true)
  | 1 => ("PluginHall$Tree", "nothing", "LPluginHall$Element;", true)
  | _ => ("PluginHall$Tree", "size", "I", false)
def mx_F5 : u_T := fun k => match k with
  | 0 => ("PluginHall$Reader", "tree", "LPluginHall$Tree;", true)
  | 1 => ("PluginHall$Reader", "here", "LPluginHall$Element;", false)
  | 2 => ("PluginHall$Reader", "state", "I", false)
  | 3 => ("PluginHall$Reader", "word", "J", false)
  | 4 => ("PluginHall$Reader", "wordLength", "I", false)
  | _ => ("PluginHall$Reader", "attributeName", "J", false)
def mx_F6 : u_T := fun k => match k with
  | 0 => ("PluginHall$Plugin", "wiring", "LPluginHall$Wiring;", true)
  | 1 => ("PluginHall$Plugin", "tree", "LPluginHall$Tree;", true)
  | 2 => ("PluginHall$Plugin", "reader", "LPluginHall$Reader;", true)
  | 3 => ("PluginHall$Plugin", "installed", "Z", false)
  | 4 => ("PluginHall$Plugin", "resolved", "Z", false)
  | 5 => ("PluginHall$Plugin", "starting", "Z", false)
  | 6 => ("PluginHall$Plugin", "active", "Z", false)
  | 7 => ("PluginHall$Plugin", "version", "I", false)
  | 8 => ("PluginHall$Plugin", "starts", "I", false)
  | 9 => ("PluginHall$Plugin", "faultPlace", "I", false)
  | _ => ("PluginHall$Plugin", "faultLine", "I", false)
def mx_F7 : u_T := fun k => match k with
  | 0 => ("PluginHall$House", "row", "[LPluginHall$Plugin;", true)
  | 1 => ("PluginHall$House", "nothing", "LPluginHall$Element;", true)
  | _ => ("PluginHall$House", "stops", "LPluginHall$History;", true)
def mx_F8 : u_T := fun k => match k with
  | 0 => ("PluginHall$Shelf", "house", "LPluginHall$House;", true)
  | 1 => ("PluginHall$Shelf", "isPoint", "[Z", true)
  | 2 => ("PluginHall$Shelf", "isExtension", "[Z", true)
  | _ => ("PluginHall$Shelf", "wasExtension", "[Z", true)
def mx_F9 : u_T := fun k => match k with
  | 0 => ("PluginHall$Made", "sources", "[I", true)
  | 1 => ("PluginHall$Made", "outermost", "[I", true)
  | 2 => ("PluginHall$Made", "owners", "[I", true)
  | 3 => ("PluginHall$Made", "dropped", "[Z", true)
  | _ => ("PluginHall$Made", "total", "I", false)
def mx_F10 : u_T := fun k => match k with
  | 0 => ("PluginHall$History", "latest", "[I", true)
  | 1 => ("PluginHall$History", "next", "I", false)
  | _ => ("PluginHall$History", "total", "I", false)
def mx_F11 : u_T := fun k => match k with
  | 0 => ("PluginHallModel", "text", "[I", true)
  | 1 => ("PluginHallModel", "needs", "[I", true)
  | 2 => ("PluginHallModel", "needOf", "[I", true)
  | 3 => ("PluginHallModel", "low", "[I", true)
  | 4 => ("PluginHallModel", "high", "[I", true)
  | 5 => ("PluginHallModel", "classes", "[I", true)
  | 6 => ("PluginHallModel", "kindOf", "[I", true)
  | 7 => ("PluginHallModel", "starter", "[I", true)
  | 8 => ("PluginHallModel", "classWord", "[J", true)
  | 9 => ("PluginHallModel", "asks", "[J", true)
  | 10 => ("PluginHallModel", "length", "I", false)
  | 11 => ("PluginHallModel", "mode", "I", false)
  | 12 => ("PluginHallModel", "inside", "I", false)
  | 13 => ("PluginHallModel", "last", "I", false)
  | 14 => ("PluginHallModel", "letters", "I", false)
  | 15 => ("PluginHallModel", "installed", "[Z", true)
  | 16 => ("PluginHallModel", "resolved", "[Z", true)
  | 17 => ("PluginHallModel", "active", "[Z", true)
  | 18 => ("PluginHallModel", "starting", "[Z", true)
  | 19 => ("PluginHallModel", "version", "[I", true)
  | 20 => ("PluginHallModel", "fault", "[I", true)
  | 21 => ("PluginHallModel", "line", "[I", true)
  | 22 => ("PluginHallModel", "starts", "[I", true)
  | 23 => ("PluginHallModel", "elements", "[I", true)
  | 24 => ("PluginHallModel", "chain", "[I", true)
  | 25 => ("PluginHallModel", "names", "[J", true)
  | 26 => ("PluginHallModel", "attributeName", "[J", true)
  | 27 => ("PluginHallModel", "value", "[J", true)
  | 28 => ("PluginHallModel", "parent", "[I", true)
  | 29 => ("PluginHallModel", "depth", "[I", true)
  | 30 => ("PluginHallModel", "attributes", "[I", true)
  | 31 => ("PluginHallModel", "isExt", "[Z", true)
  | 32 => ("PluginHallModel", "was", "[Z", true)
  | 33 => ("PluginHallModel", "objectOf", "[I", true)
  | 34 => ("PluginHallModel", "objectPlugin", "[I", true)
  | 35 => ("PluginHallModel", "objectTop", "[I", true)
  | 36 => ("PluginHallModel", "events", "[I", true)
  | 37 => ("PluginHallModel", "stops", "[I", true)
  | 38 => ("PluginHallModel", "dropped", "[Z", true)
  | 39 => ("PluginHallModel", "objects", "I", false)
  | 40 => ("PluginHallModel", "eventCount", "I", false)
  | _ => ("PluginHallModel", "stopCount", "I", false)
def mx_cls : List vw_C := [("PluginHall", mx_F0, 5), ("PluginHall$Draft", mx_F1, 3), ("PluginHall$Wiring", mx_F2, 9), ("PluginHall$Element", mx_F3, 8), ("PluginHall$Tree", mx_F4, 3), ("PluginHall$Reader", mx_F5, 6), ("PluginHall$Plugin", mx_F6, 11), ("PluginHall$House", mx_F7, 3), ("PluginHall$Shelf", mx_F8, 4), ("PluginHall$Made", mx_F9, 5), ("PluginHall$History", mx_F10, 3), ("PluginHallModel", mx_F11, 42)]
def mx_ftT : List (List FieldType) := [[(.object "PluginHall$Draft"), (.object "PluginHall$House"), (.object "PluginHall$Shelf"), (.object "PluginHall$Made"), (.object "PluginHall$History")],
  [(.array .byte), (.object "PluginHall$Wiring"), .int],
  [(.array .int), (.array .int), (.array .int), (.array .long), (.array .int), .int, .int, .int, .long],
  [(.array .long), (.array .long), .int, .int, .int, .int, .int, .long],
  [(.array (.object "PluginHall$Element")), (.object "PluginHall$Element"), .int],
  [(.object "PluginHall$Tree"), (.object "PluginHall$Element"), .int, .long, .int, .long],
  [(.object "PluginHall$Wiring"), (.object "PluginHall$Tree"), (.object "PluginHall$Reader"), .boolean, .boolean, .boolean, .boolean, .int, .int, .int, .int],
  [(.array (.object "PluginHall$Plugin")), (.object "PluginHall$Element"), (.object "PluginHall$History")],
  [(.object "PluginHall$House"), (.array .boolean), (.array .boolean), (.array .boolean)],
  [(.array .int), (.array .int), (.array .int), (.array .boolean), .int],
  [(.array .int), .int, .int],
  [(.array .int), (.array .int), (.array .int), (.array .int), (.array .int), (.array .int), (.array .int), (.array .int), (.array .long), (.array .long), .int, .int, .int, .int, .int, (.array .boolean), (.array .boolean), (.array .boolean), (.array .boolean), (.array .int), (.array .int), (.array .int), (.array .int), (.array .int), (.array .int), (.array .long), (.array .long), (.array .long), (.array .int), (.array .int), (.array .int), (.array .boolean), (.array .boolean), (.array .int), (.array .int), (.array .int), (.array .int), (.array .int), (.array .boolean), .int, .int, .int]]
def mx_fty (ci k : Nat) : FieldType := (((mx_ftT[ci]?).getD [])[k]?).getD .int
def mx_fiT : List (List Bool) := [[true, true, true, true, true], [true, true, false], [true, true, true, true, true, false, false, false, false], [true, true, false, false, false, false, false, false], [true, true, false], [true, false, false, false, false, false], [true, true, true, false, false, false, false, false, false, false, false], [true, true, true], [true, true, true, true], [true, true, true, true, false], [true, false, false], [true, true, true, true, true, true, true, true, true, true, false, false, false, false, false, true, true, true, true, true, true, true, true, true, true, true, true, true, true, true, true, true, true, true, true, true, true, true, true, false, false, false]]
def mx_fin (ci k : Nat) : Bool := (((mx_fiT[ci]?).getD [])[k]?).getD true
def mx_fn (ci : Nat) : Nat := match mx_cls[ci]? with | some q => q.2.2 | none => 0
def mx_crg (ci : Nat) : Nat := bif Nat.beq ci 11 then 1 else 0
def mx_own (o : Nat) : String := ((["PluginHall", "PluginHall$Draft", "PluginHall$Wiring", "PluginHall$Element", "PluginHall$Tree", "PluginHall$Reader", "PluginHall$Plugin", "PluginHall$House", "PluginHall$Shelf", "PluginHall$Made", "PluginHall$History", "PluginHallModel", "PluginHallLaw", "java/lang/Math"] : List String)[o]?).getD ""
def mx_knT : List FieldType := [.byte, .int, .int, .int, .long, .int, .long, .long, (.object "PluginHall$Element"), (.object "PluginHall$Plugin"), .boolean, .boolean, .boolean, .int, .int, .int, .boolean, .int, .int, .int, .int, .int, .int, .int, .int, .int, .long, .long, .boolean, .boolean, .boolean, .boolean, .int, .int, .int, .int, .int, .int, .long, .long, .long, .int, .int, .int, .boolean, .boolean, .int, .int, .int, .int, .int, .boolean]
def mx_knd (t : Nat) : Nat ⊕ FieldType := bif Nat.blt t 63 then Sum.inl t else bif Nat.beq t 63 then Sum.inr .int else (match mx_knT[t - 64]? with | some ty => Sum.inr ty | none => Sum.inl t)
theorem mx_knd_scr : mx_knd 63 = Sum.inr .int := rfl
def mx_stT : List (Nat × Nat × Nat) := [(29008, 0, 64), (33006, 0, 65), (33013, 0, 66), (33020, 0, 67), (33027, 0, 68), (33034, 0, 69), (41006, 0, 70), (41013, 0, 71), (47012, 0, 72), (77018, 0, 73), (96013, 0, 74), (96022, 0, 75), (96031, 0, 76), (109007, 0, 77), (109015, 0, 78), (109023, 0, 79), (109031, 0, 80), (113006, 0, 81), (116008, 1, 82), (116016, 1, 83), (116024, 1, 84), (116032, 1, 85), (116040, 1, 86), (116048, 1, 87), (116056, 1, 88), (116064, 1, 89), (116072, 1, 90), (116080, 1, 91), (116088, 1, 92), (116096, 1, 93), (116104, 1, 94), (116112, 1, 95), (116120, 1, 96), (116128, 1, 97), (116136, 1, 98), (116144, 1, 99), (116152, 1, 100), (116160, 1, 101), (116169, 1, 102), (116178, 1, 103), (116187, 1, 104), (116196, 1, 105), (116205, 1, 106), (116214, 1, 107), (116223, 1, 108), (116232, 1, 109), (116240, 1, 110), (116248, 1, 111), (116256, 1, 112), (116264, 1, 113), (116272, 1, 114), (116280, 1, 115)]
def mx_site (mid pc : Nat) : Option (Nat × Nat) := mx_stT.lookup (mid * 1000 + pc)
def mx_aty : List FieldType := [.byte, .int, .long, (.object "PluginHall$Element"), (.object "PluginHall$Plugin"), .boolean]
def mx_ao : List String := ["PluginHall$Plugin", "PluginHall$Element"]
def mx_gty : FieldType → Bool | .float => false | .double => false | _ => true
theorem mx_knd_ok {t : Nat} {ty : FieldType} (h : mx_knd t = Sum.inr ty) : ty ∈ mx_aty := by
  unfold mx_knd at h
  cases h1 : Nat.blt t 63 with
  | true => rw [h1] at h; cases h
  | false =>
    rw [h1] at h
    cases h2 : Nat.beq t 63 with
    | true => rw [h2] at h; cases h; decide
    | false =>
      rw [h2] at h
      simp only [cond_false] at h
      split at h
      · rename_i ty2 hq
        cases h
        have hm := List.mem_of_getElem? hq
        have ha : mx_knT.all (fun x => decide (x ∈ mx_aty)) = true := by decide +kernel
        exact of_decide_eq_true (List.all_eq_true.mp ha _ hm)
      · cases h
theorem mx_gty_ok {ty : FieldType} (h : ty ∈ mx_aty) : mx_gty ty = true := by
  have ha : mx_aty.all mx_gty = true := by decide
  exact List.all_eq_true.mp ha _ h
theorem mx_aty_ok {at_ : Jvm.ClassFile.ArrayType} (h : newarray.typeOf at_ ∈ mx_aty) : Cond.arrayClass (newarray.typeOf at_) ∈ mx_GT := by
  cases at_
  · exact (mx_g2 56 rfl rfl)
  · exact absurd h (by decide)
  · exact absurd h (by decide)
  · exact absurd h (by decide)
  · exact (mx_g1 69 rfl rfl)
  · exact absurd h (by decide)
  · exact (mx_g1 70 rfl rfl)
  · exact (mx_g1 71 rfl rfl)
set_option maxRecDepth 20000 in
theorem mx_co0 : (∀ w ∈ u_ws "PluginHall" mx_F0 5, w ∈ mx_GT) ∧ (∀ a, a < 5 → ∀ b, b < 5 → a ≠ b → (mx_F0 a).2.1 ≠ (mx_F0 b).2.1) ∧ (∀ k, k < 5 → parseFieldDescriptor (mx_F0 k).2.2.1 = some (mx_fty 0 k)) ∧ (∀ k, k < 5 → (mx_F0 k).2.2.2 = mx_fin 0 k ∧ (mx_F0 k).1 = "PluginHall" ∧ mx_gty (mx_fty 0 k) = true) ∧ mx_own 0 = "PluginHall" ∧ mx_knd 0 = Sum.inl 0 ∧ mx_fn 0 = 5 :=
  ⟨mx_fc (mx_g2 90 rfl rfl) (mx_fc (mx_g2 92 rfl rfl) (mx_fc (mx_g2 94 rfl rfl) (mx_fc (mx_g2 96 rfl rfl) (mx_fc (mx_g2 98 rfl rfl) (mx_f0))))), by decide +kernel, by decide +kernel, by decide +kernel, rfl, rfl, rfl⟩
set_option maxRecDepth 20000 in
theorem mx_co1 : (∀ w ∈ u_ws "PluginHall$Draft" mx_F1 3, w ∈ mx_GT) ∧ (∀ a, a < 3 → ∀ b, b < 3 → a ≠ b → (mx_F1 a).2.1 ≠ (mx_F1 b).2.1) ∧ (∀ k, k < 3 → parseFieldDescriptor (mx_F1 k).2.2.1 = some (mx_fty 1 k)) ∧ (∀ k, k < 3 → (mx_F1 k).2.2.2 = mx_fin 1 k ∧ (mx_F1 k).1 = "PluginHall$Draft" ∧ mx_gty (mx_fty 1 k) = true) ∧ mx_own 1 = "PluginHall$Draft" ∧ mx_knd 1 = Sum.inl 1 ∧ mx_fn 1 = 3 :=
  ⟨mx_fc (mx_g1 80 rfl rfl) (mx_fc (mx_g1 82 rfl rfl) (mx_fc (mx_g1 84 rfl rfl) (mx_f0))), by decide +kernel, by decide +kernel, by decide +kernel, rfl, rfl, rfl⟩
set_option maxRecDepth 20000 in
theorem mx_co2 : (∀ w ∈ u_ws "PluginHall$Wiring" mx_F2 9, w ∈ mx_GT) ∧ (∀ a, a < 9 → ∀ b, b < 9 → a ≠ b → (mx_F2 a).2.1 ≠ (mx_F2 b).2.1) ∧ (∀ k, k < 9 → parseFieldDescriptor (mx_F2 k).2.2.1 = some (mx_fty 2 k)) ∧ (∀ k, k < 9 → (mx_F2 k).2.2.2 = mx_fin 2 k ∧ (mx_F2 k).1 = "PluginHall$Wiring" ∧ mx_gty (mx_fty 2 k) = true) ∧ mx_own 2 = "PluginHall$Wiring" ∧ mx_knd 2 = Sum.inl 2 ∧ mx_fn 2 = 9 :=
  ⟨mx_fc (mx_g1 50 rfl rfl) (mx_fc (mx_g1 52 rfl rfl) (mx_fc (mx_g1 54 rfl rfl) (mx_fc (mx_g1 56 rfl rfl) (mx_fc (mx_g1 58 rfl rfl) (mx_fc (mx_g1 60 rfl rfl) (mx_fc (mx_g1 62 rfl rfl) (mx_fc (mx_g1 64 rfl rfl) (mx_fc (mx_g1 66 rfl rfl) (mx_f0))))))))), by decide +kernel, by decide +kernel, by decide +kernel, rfl, rfl, rfl⟩
set_option maxRecDepth 20000 in
theorem mx_co3 : (∀ w ∈ u_ws "PluginHall$Element" mx_F3 8, w ∈ mx_GT) ∧ (∀ a, a < 8 → ∀ b, b < 8 → a ≠ b → (mx_F3 a).2.1 ≠ (mx_F3 b).2.1) ∧ (∀ k, k < 8 → parseFieldDescriptor (mx_F3 k).2.2.1 = some (mx_fty 3 k)) ∧ (∀ k, k < 8 → (mx_F3 k).2.2.2 = mx_fin 3 k ∧ (mx_F3 k).1 = "PluginHall$Element" ∧ mx_gty (mx_fty 3 k) = true) ∧ mx_own 3 = "PluginHall$Element" ∧ mx_knd 3 = Sum.inl 3 ∧ mx_fn 3 = 8 :=
  ⟨mx_fc (mx_g1 122 rfl rfl) (mx_fc (mx_g1 124 rfl rfl) (mx_fc (mx_g1 126 rfl rfl) (mx_fc (mx_g1 128 rfl rfl) (mx_fc (mx_g1 130 rfl rfl) (mx_fc (mx_g1 132 rfl rfl) (mx_fc (mx_g1 134 rfl rfl) (mx_fc (mx_g1 136 rfl rfl) (mx_f0)))))))), by decide +kernel, by decide +kernel, by decide +kernel, rfl, rfl, rfl⟩
set_option maxRecDepth 20000 in
theorem mx_co4 : (∀ w ∈ u_ws "PluginHall$Tree" mx_F4 3, w ∈ mx_GT) ∧ (∀ a, a < 3 → ∀ b, b < 3 → a ≠ b → (mx_F4 a).2.1 ≠ (mx_F4 b).2.1) ∧ (∀ k, k < 3 → parseFieldDescriptor (mx_F4 k).2.2.1 = some (mx_fty 4 k)) ∧ (∀ k, k < 3 → (mx_F4 k).2.2.2 = mx_fin 4 k ∧ (mx_F4 k).1 = "PluginHall$Tree" ∧ mx_gty (mx_fty 4 k) = true) ∧ mx_own 4 = "PluginHall$Tree" ∧ mx_knd 4 = Sum.inl 4 ∧ mx_fn 4 = 3 :=
  ⟨mx_fc (mx_g1 163 rfl rfl) (mx_fc (mx_g1 165 rfl rfl) (mx_fc (mx_g1 167 rfl rfl) (mx_f0))), by decide +kernel, by decide +kernel, by decide +kernel, rfl, rfl, rfl⟩
set_option maxRecDepth 20000 in
theorem mx_co5 : (∀ w ∈ u_ws "PluginHall$Reader" mx_F5 6, w ∈ mx_GT) ∧ (∀ a, a < 6 → ∀ b, b < 6 → a ≠ b → (mx_F5 a).2.1 ≠ (mx_F5 b).2.1) ∧ (∀ k, k < 6 → parseFieldDescriptor (mx_F5 k).2.2.1 = some (mx_fty 5 k)) ∧ (∀ k, k < 6 → (mx_F5 k).2.2.2 = mx_fin 5 k ∧ (mx_F5 k).1 = "PluginHall$Reader" ∧ mx_gty (mx_fty 5 k) = true) ∧ mx_own 5 = "PluginHall$Reader" ∧ mx_knd 5 = Sum.inl 5 ∧ mx_fn 5 = 6 :=
  ⟨mx_fc (mx_g1 182 rfl rfl) (mx_fc (mx_g1 184 rfl rfl) (mx_fc (mx_g1 186 rfl rfl) (mx_fc (mx_g1 188 rfl rfl) (mx_fc (mx_g1 190 rfl rfl) (mx_fc (mx_g1 192 rfl rfl) (mx_f0)))))), by decide +kernel, by decide +kernel, by decide +kernel, rfl, rfl, rfl⟩
set_option maxRecDepth 20000 in
theorem mx_co6 : (∀ w ∈ u_ws "PluginHall$Plugin" mx_F6 11, w ∈ mx_GT) ∧ (∀ a, a < 11 → ∀ b, b < 11 → a ≠ b → (mx_F6 a).2.1 ≠ (mx_F6 b).2.1) ∧ (∀ k, k < 11 → parseFieldDescriptor (mx_F6 k).2.2.1 = some (mx_fty 6 k)) ∧ (∀ k, k < 11 → (mx_F6 k).2.2.2 = mx_fin 6 k ∧ (mx_F6 k).1 = "PluginHall$Plugin" ∧ mx_gty (mx_fty 6 k) = true) ∧ mx_own 6 = "PluginHall$Plugin" ∧ mx_knd 6 = Sum.inl 6 ∧ mx_fn 6 = 11 :=
  ⟨mx_fc (mx_g1 220 rfl rfl) (mx_fc (mx_g1 222 rfl rfl) (mx_fc (mx_g1 224 rfl rfl) (mx_fc (mx_g1 226 rfl rfl) (mx_fc (mx_g1 228 rfl rfl) (mx_fc (mx_g1 230 rfl rfl) (mx_fc (mx_g1 232 rfl rfl) (mx_fc (mx_g1 234 rfl rfl) (mx_fc (mx_g1 236 rfl rfl) (mx_fc (mx_g1 238 rfl rfl) (mx_fc (mx_g2 0 rfl rfl) (mx_f0))))))))))), by decide +kernel, by decide +kernel, by decide +kernel, rfl, rfl, rfl⟩
set_option maxRecDepth 20000 in
theorem mx_co7 : (∀ w ∈ u_ws "PluginHall$House" mx_F7 3, w ∈ mx_GT) ∧ (∀ a, a < 3 → ∀ b, b < 3 → a ≠ b → (mx_F7 a).2.1 ≠ (mx_F7 b).2.1) ∧ (∀ k, k < 3 → parseFieldDescriptor (mx_F7 k).2.2.1 = some (mx_fty 7 k)) ∧ (∀ k, k < 3 → (mx_F7 k).2.2.2 = mx_fin 7 k ∧ (mx_F7 k).1 = "PluginHall$House" ∧ mx_gty (mx_fty 7 k) = true) ∧ mx_own 7 = "PluginHall$House" ∧ mx_knd 7 = Sum.inl 7 ∧ mx_fn 7 = 3 :=
  ⟨mx_fc (mx_g2 28 rfl rfl) (mx_fc (mx_g2 30 rfl rfl) (mx_fc (mx_g2 32 rfl rfl) (mx_f0))), by decide +kernel, by decide +kernel, by decide +kernel, rfl, rfl, rfl⟩
set_option maxRecDepth 20000 in
theorem mx_co8 : (∀ w ∈ u_ws "PluginHall$Shelf" mx_F8 4, w ∈ mx_GT) ∧ (∀ a, a < 4 → ∀ b, b < 4 → a ≠ b → (mx_F8 a).2.1 ≠ (mx_F8 b).2.1) ∧ (∀ k, k < 4 → parseFieldDescriptor (mx_F8 k).2.2.1 = some (mx_fty 8 k)) ∧ (∀ k, k < 4 → (mx_F8 k).2.2.2 = mx_fin 8 k ∧ (mx_F8 k).1 = "PluginHall$Shelf" ∧ mx_gty (mx_fty 8 k) = true) ∧ mx_own 8 = "PluginHall$Shelf" ∧ mx_knd 8 = Sum.inl 8 ∧ mx_fn 8 = 4 :=
  ⟨mx_fc (mx_g2 47 rfl rfl) (mx_fc (mx_g2 49 rfl rfl) (mx_fc (mx_g2 51 rfl rfl) (mx_fc (mx_g2 53 rfl rfl) (mx_f0)))), by decide +kernel, by decide +kernel, by decide +kernel, rfl, rfl, rfl⟩
set_option maxRecDepth 20000 in
theorem mx_co9 : (∀ w ∈ u_ws "PluginHall$Made" mx_F9 5, w ∈ mx_GT) ∧ (∀ a, a < 5 → ∀ b, b < 5 → a ≠ b → (mx_F9 a).2.1 ≠ (mx_F9 b).2.1) ∧ (∀ k, k < 5 → parseFieldDescriptor (mx_F9 k).2.2.1 = some (mx_fty 9 k)) ∧ (∀ k, k < 5 → (mx_F9 k).2.2.2 = mx_fin 9 k ∧ (mx_F9 k).1 = "PluginHall$Made" ∧ mx_gty (mx_fty 9 k) = true) ∧ mx_own 9 = "PluginHall$Made" ∧ mx_knd 9 = Sum.inl 9 ∧ mx_fn 9 = 5 :=
  ⟨mx_fc (mx_g2 72 rfl rfl) (mx_fc (mx_g2 74 rfl rfl) (mx_fc (mx_g2 76 rfl rfl) (mx_fc (mx_g2 78 rfl rfl) (mx_fc (mx_g2 80 rfl rfl) (mx_f0))))), by decide +kernel, by decide +kernel, by decide +kernel, rfl, rfl, rfl⟩
set_option maxRecDepth 20000 in
theorem mx_co10 : (∀ w ∈ u_ws "PluginHall$History" mx_F10 3, w ∈ mx_GT) ∧ (∀ a, a < 3 → ∀ b, b < 3 → a ≠ b → (mx_F10 a).2.1 ≠ (mx_F10 b).2.1) ∧ (∀ k, k < 3 → parseFieldDescriptor (mx_F10 k).2.2.1 = some (mx_fty 10 k)) ∧ (∀ k, k < 3 → (mx_F10 k).2.2.2 = mx_fin 10 k ∧ (mx_F10 k).1 = "PluginHall$History" ∧ mx_gty (mx_fty 10 k) = true) ∧ mx_own 10 = "PluginHall$History" ∧ mx_knd 10 = Sum.inl 10 ∧ mx_fn 10 = 3 :=
  ⟨mx_fc (mx_g2 15 rfl rfl) (mx_fc (mx_g2 17 rfl rfl) (mx_fc (mx_g2 19 rfl rfl) (mx_f0))), by decide +kernel, by decide +kernel, by decide +kernel, rfl, rfl, rfl⟩
set_option maxRecDepth 20000 in
theorem mx_co11 : (∀ w ∈ u_ws "PluginHallModel" mx_F11 42, w ∈ mx_GT) ∧ (∀ a, a < 42 → ∀ b, b < 42 → a ≠ b → (mx_F11 a).2.1 ≠ (mx_F11 b).2.1) ∧ (∀ k, k < 42 → parseFieldDescriptor (mx_F11 k).2.2.1 = some (mx_fty 11 k)) ∧ (∀ k, k < 42 → (mx_F11 k).2.2.2 = mx_fin 11 k ∧ (mx_F11 k).1 = "PluginHallModel" ∧ mx_gty (mx_fty 11 k) = true) ∧ mx_own 11 = "PluginHallModel" ∧ mx_knd 11 = Sum.inl 11 ∧ mx_fn 11 = 42 :=
  ⟨mx_fc (mx_g4 122 rfl rfl) (mx_fc (mx_g4 124 rfl rfl) (mx_fc (mx_g4 126 rfl rfl) (mx_fc (mx_g4 128 rfl rfl) (mx_fc (mx_g4 130 rfl rfl) (mx_fc (mx_g4 132 rfl rfl) (mx_fc (mx_g4 134 rfl rfl) (mx_fc (mx_g4 136 rfl rfl) (mx_fc (mx_g4 138 rfl rfl) (mx_fc (mx_g4 140 rfl rfl) (mx_fc (mx_g4 142 rfl rfl) (mx_fc (mx_g4 144 rfl rfl) (mx_fc (mx_g4 146 rfl rfl) (mx_fc (mx_g4 148 rfl rfl) (mx_fc (mx_g4 150 rfl rfl) (mx_fc (mx_g4 152 rfl rfl) (mx_fc (mx_g4 154 rfl rfl) (mx_fc (mx_g4 156 rfl rfl) (mx_fc (mx_g4 158 rfl rfl) (mx_fc (mx_g4 160 rfl rfl) (mx_fc (mx_g4 162 rfl rfl) (mx_fc (mx_g4 164 rfl rfl) (mx_fc (mx_g4 166 rfl rfl) (mx_fc (mx_g4 168 rfl rfl) (mx_fc (mx_g4 170 rfl rfl) (mx_fc (mx_g4 172 rfl rfl) (mx_fc (mx_g4 174 rfl rfl) (mx_fc (mx_g4 176 rfl rfl) (mx_fc (mx_g4 178 rfl rfl) (mx_fc (mx_g4 180 rfl rfl) (mx_fc (mx_g4 182 rfl rfl) (mx_fc (mx_g4 184 rfl rfl) (mx_fc (mx_g4 186 rfl rfl) (mx_fc (mx_g4 188 rfl rfl) (mx_fc (mx_g4 190 rfl rfl) (mx_fc (mx_g4 192 rfl rfl) (mx_fc (mx_g4 194 rfl rfl) (mx_fc (mx_g4 196 rfl rfl) (mx_fc (mx_g4 198 rfl rfl) (mx_fc (mx_g4 200 rfl rfl) (mx_fc (mx_g4 202 rfl rfl) (mx_fc (mx_g4 204 rfl rfl) (mx_f0)))))))))))))))))))))))))))))))))))))))))), by decide +kernel, by decide +kernel, by decide +kernel, rfl, rfl, rfl⟩
theorem mx_cls_ok {ci : Nat} {q : vw_C} (h : mx_cls[ci]? = some q) : (∀ w ∈ u_ws q.1 q.2.1 q.2.2, w ∈ mx_GT) ∧ (∀ a, a < q.2.2 → ∀ b, b < q.2.2 → a ≠ b → (q.2.1 a).2.1 ≠ (q.2.1 b).2.1) ∧ (∀ k, k < q.2.2 → parseFieldDescriptor (q.2.1 k).2.2.1 = some (mx_fty ci k)) ∧ (∀ k, k < q.2.2 → (q.2.1 k).2.2.2 = mx_fin ci k ∧ (q.2.1 k).1 = q.1 ∧ mx_gty (mx_fty ci k) = true) ∧ mx_own ci = q.1 ∧ mx_knd ci = Sum.inl ci ∧ mx_fn ci = q.2.2 := by
  match ci, h with
  | 0, h => cases h; exact mx_co0
  | 1, h => cases h; exact mx_co1
  | 2, h => cases h; exact mx_co2
  | 3, h => cases h; exact mx_co3
  | 4, h => cases h; exact mx_co4
  | 5, h => cases h; exact mx_co5
  | 6, h => cases h; exact mx_co6
  | 7, h => cases h; exact mx_co7
  | 8, h => cases h; exact mx_co8
  | 9, h => cases h; exact mx_co9
  | 10, h => cases h; exact mx_co10
  | 11, h => cases h; exact mx_co11
  | n + 12, h => simp [mx_cls] at h
def mx_nf : List (String × Nat × String × String × String × String) := [("PluginHall$House", 79, "PluginHall$Wiring", "needed", "[I", "PluginHall"), ("PluginHall$House", 86, "PluginHall$Wiring", "low", "[I", "PluginHall"), ("PluginHall$House", 89, "PluginHall$Wiring", "high", "[I", "PluginHall"), ("PluginHall$House", 103, "PluginHall$Wiring", "kinds", "[I", "PluginHall"), ("PluginHall$House", 74, "PluginHall$Wiring", "needs", "I", "PluginHall"), ("PluginHall$House", 135, "PluginHall$Wiring", "starterKind", "I", "PluginHall"), ("PluginHall$House", 125, "PluginHall$Wiring", "starterWord", "J", "PluginHall"), ("PluginHall$Plugin", 54, "PluginHall$Draft", "letters", "[B", "PluginHall"), ("PluginHall$Plugin", 47, "PluginHall$Draft", "wiring", "LPluginHall$Wiring;", "PluginHall"), ("PluginHall", 56, "PluginHall$Draft", "wiring", "LPluginHall$Wiring;", "PluginHall"), ("PluginHall$Plugin", 58, "PluginHall$Draft", "length", "I", "PluginHall"), ("PluginHall", 78, "PluginHall$Draft", "length", "I", "PluginHall"), ("PluginHall", 174, "PluginHall$Element", "attributes", "I", "PluginHall"), ("PluginHall", 166, "PluginHall$Element", "number", "I", "PluginHall"), ("PluginHall$Tree", 34, "PluginHall$Element", "parent", "I", "PluginHall"), ("PluginHall$Reader", 84, "PluginHall$Element", "parent", "I", "PluginHall"), ("PluginHall$Shelf", 103, "PluginHall$Element", "parent", "I", "PluginHall"), ("PluginHall", 177, "PluginHall$Element", "parent", "I", "PluginHall"), ("PluginHall$Shelf", 45, "PluginHall$Element", "outermost", "I", "PluginHall"), ("PluginHall", 212, "PluginHall$Element", "outermost", "I", "PluginHall"), ("PluginHall$Reader", 35, "PluginHall$Element", "depth", "I", "PluginHall"), ("PluginHall$House", 47, "PluginHall$Element", "depth", "I", "PluginHall"), ("PluginHall$Shelf", 73, "PluginHall$Element", "depth", "I", "PluginHall"), ("PluginHall", 184, "PluginHall$Element", "depth", "I", "PluginHall"), ("PluginHall$Shelf", 76, "PluginHall$Element", "name", "J", "PluginHall"), ("PluginHall$Reader", 107, "PluginHall$Element", "name", "J", "PluginHall"), ("PluginHall", 190, "PluginHall$Element", "name", "J", "PluginHall"), ("PluginHall$Reader", 15, "PluginHall$Tree", "nothing", "LPluginHall$Element;", "PluginHall"), ("PluginHall$Shelf", 97, "PluginHall$Tree", "size", "I", "PluginHall"), ("PluginHall", 137, "PluginHall$Tree", "size", "I", "PluginHall"), ("PluginHall$House", 70, "PluginHall$Plugin", "wiring", "LPluginHall$Wiring;", "PluginHall"), ("PluginHall$House", 51, "PluginHall$Plugin", "tree", "LPluginHall$Tree;", "PluginHall"), ("PluginHall", 133, "PluginHall$Plugin", "tree", "LPluginHall$Tree;", "PluginHall"), ("PluginHall$House", 59, "PluginHall$Plugin", "installed", "Z", "PluginHall"), ("PluginHall", 89, "PluginHall$Plugin", "installed", "Z", "PluginHall"), ("PluginHall$House", 63, "PluginHall$Plugin", "resolved", "Z", "PluginHall"), ("PluginHall$Shelf", 84, "PluginHall$Plugin", "resolved", "Z", "PluginHall"), ("PluginHall$House", 116, "PluginHall$Plugin", "starting", "Z", "PluginHall"), ("PluginHall$House", 113, "PluginHall$Plugin", "active", "Z", "PluginHall"), ("PluginHall$House", 83, "PluginHall$Plugin", "version", "I", "PluginHall"), ("PluginHall", 121, "PluginHall$Plugin", "version", "I", "PluginHall"), ("PluginHall", 130, "PluginHall$Plugin", "starts", "I", "PluginHall"), ("PluginHall$House", 119, "PluginHall$Plugin", "starts", "I", "PluginHall"), ("PluginHall", 124, "PluginHall$Plugin", "faultPlace", "I", "PluginHall"), ("PluginHall", 127, "PluginHall$Plugin", "faultLine", "I", "PluginHall"), ("PluginHall$Shelf", 123, "PluginHall$History", "total", "I", "PluginHall"), ("PluginHall$House", 144, "PluginHall$History", "total", "I", "PluginHall"), ("PluginHall", 260, "PluginHall$History", "total", "I", "PluginHall"), ("PluginHall", 85, "PluginHall$House", "row", "[LPluginHall$Plugin;", "PluginHall"), ("PluginHall$Shelf", 80, "PluginHall$House", "row", "[LPluginHall$Plugin;", "PluginHall"), ("PluginHall", 241, "PluginHall$House", "stops", "LPluginHall$History;", "PluginHall"), ("PluginHall", 254, "PluginHall$Shelf", "isPoint", "[Z", "PluginHall"), ("PluginHall", 247, "PluginHall$Shelf", "isExtension", "[Z", "PluginHall"), ("PluginHall", 224, "PluginHall$Made", "sources", "[I", "PluginHall"), ("PluginHall", 228, "PluginHall$Made", "owners", "[I", "PluginHall"), ("PluginHall", 231, "PluginHall$Made", "dropped", "[Z", "PluginHall"), ("PluginHall", 221, "PluginHall$Made", "total", "I", "PluginHall")]
def mx_nm : List (String × Nat × MethodName × String) := [("PluginHall$Draft", 30, ⟨"PluginHall", "octet", "(JI)I"⟩, "PluginHall"), ("PluginHall$Reader", 97, ⟨"PluginHall", "isNameLetter", "(I)Z"⟩, "PluginHall"), ("PluginHall$Reader", 124, ⟨"PluginHall", "isWordLetter", "(I)Z"⟩, "PluginHall"), ("PluginHall$Reader", 127, ⟨"PluginHall", "octet", "(JI)I"⟩, "PluginHall"), ("PluginHall$Shelf", 49, ⟨"PluginHall", "handleBeside", "(II)I"⟩, "PluginHall"), ("PluginHall", 205, ⟨"PluginHall$House", "wakesFor", "(II)Z"⟩, "PluginHall"), ("PluginHall$Made", 29, ⟨"PluginHall", "countTrue", "([Z)I"⟩, "PluginHall")]
def mx_fdT : List (List (Nat × Nat × Nat × Bool)) := [[(12, 0, 0, false), (19, 0, 1, false), (28, 0, 2, false), (35, 0, 3, false), (44, 0, 4, false), (56, 1, 1, true), (78, 1, 2, true), (85, 7, 0, true), (89, 6, 3, true), (121, 6, 7, true), (124, 6, 9, true), (127, 6, 10, true), (130, 6, 8, true), (133, 6, 1, true), (137, 4, 2, true), (166, 3, 3, true), (174, 3, 2, true), (177, 3, 4, true), (184, 3, 6, true), (190, 3, 7, true), (212, 3, 5, true), (221, 9, 4, true), (224, 9, 0, true), (228, 9, 2, true), (231, 9, 3, true), (241, 7, 2, true), (247, 8, 2, true), (254, 8, 1, true), (260, 10, 2, true)],
  [(11, 1, 0, false), (18, 1, 1, false), (26, 1, 2, false)],
  [(11, 2, 0, false), (15, 2, 1, false), (18, 2, 2, false), (21, 2, 3, false), (25, 2, 4, false), (28, 2, 5, false), (32, 2, 6, false), (39, 2, 7, false), (42, 2, 8, false)],
  [(11, 3, 0, false), (15, 3, 1, false), (18, 3, 3, false), (22, 3, 4, false), (25, 3, 5, false), (28, 3, 6, false), (31, 3, 7, false), (35, 3, 2, false)],
  [(9, 4, 1, false), (17, 4, 0, false), (22, 4, 2, false), (34, 3, 4, true)],
  [(9, 5, 0, false), (15, 4, 1, true), (21, 5, 1, false), (27, 5, 2, false), (35, 3, 6, true), (74, 5, 3, false), (78, 5, 4, false), (84, 3, 4, true), (107, 3, 7, true), (117, 5, 5, false)],
  [(12, 6, 0, false), (23, 6, 1, false), (32, 6, 2, false), (36, 6, 3, false), (40, 6, 7, false), (44, 6, 8, false), (47, 1, 1, true), (54, 1, 0, true), (58, 1, 2, true), (65, 6, 9, false), (68, 6, 10, false), (77, 6, 4, false), (80, 6, 6, false)],
  [(12, 7, 1, false), (20, 7, 0, false), (32, 7, 2, false), (47, 3, 6, true), (51, 6, 1, true), (59, 6, 3, true), (63, 6, 4, true), (70, 6, 0, true), (74, 2, 5, true), (79, 2, 0, true), (83, 6, 7, true), (86, 2, 1, true), (89, 2, 2, true), (103, 2, 4, true), (113, 6, 6, true), (116, 6, 5, true), (119, 6, 8, true), (125, 2, 8, true), (135, 2, 7, true), (144, 10, 2, true)],
  [(9, 8, 0, false), (15, 8, 1, false), (19, 8, 2, false), (22, 8, 3, false), (45, 3, 5, true), (73, 3, 6, true), (76, 3, 7, true), (80, 7, 0, true), (84, 6, 4, true), (97, 4, 2, true), (103, 3, 4, true), (123, 10, 2, true)],
  [(11, 9, 0, false), (15, 9, 1, false), (18, 9, 2, false), (21, 9, 3, false), (25, 9, 4, false)],
  [(9, 10, 0, false), (15, 10, 1, false), (19, 10, 2, false)],
  [(7, 11, 0, false), (13, 11, 1, false), (16, 11, 2, false), (19, 11, 3, false), (22, 11, 4, false), (25, 11, 5, false), (28, 11, 6, false), (31, 11, 7, false), (34, 11, 8, false), (38, 11, 9, false), (41, 11, 15, false), (45, 11, 16, false), (48, 11, 17, false), (51, 11, 18, false), (54, 11, 19, false), (57, 11, 20, false), (60, 11, 21, false), (63, 11, 22, false), (66, 11, 23, false), (69, 11, 24, false), (72, 11, 25, false), (75, 11, 26, false), (78, 11, 27, false), (81, 11, 28, false), (84, 11, 29, false), (87, 11, 30, false), (90, 11, 31, false), (93, 11, 32, false), (96, 11, 33, false), (99, 11, 34, false), (102, 11, 35, false), (105, 11, 36, false), (108, 11, 37, false), (111, 11, 38, false), (128, 11, 10, false), (136, 11, 11, false), (139, 11, 12, false), (149, 11, 14, false), (156, 11, 13, false), (210, 11, 40, false), (223, 11, 39, false), (236, 11, 41, false)],
  [],
  []]
def mx_fld (own idx : Nat) : Option (Nat × Nat × Bool) := ((mx_fdT[own]?).getD []).lookup idx
set_option maxRecDepth 20000 in
theorem mx_fo0 : ∀ e ∈ ((mx_fdT[0]?).getD []), (fun (e : Nat × Nat × Nat × Bool) => ∃ q, mx_cls[e.2.1]? = some q ∧ e.2.2.1 < q.2.2 ∧ (e.2.2.2 = false → Cond.fieldLink (mx_own 0) e.1 q.1 (q.2.1 e.2.2.1).2.1 (q.2.1 e.2.2.1).2.2.1 ∈ mx_GT) ∧ (e.2.2.2 = true → ∃ host, (mx_own 0, e.1, q.1, (q.2.1 e.2.2.1).2.1, (q.2.1 e.2.2.1).2.2.1, host) ∈ mx_nf)) e := mx_fc ⟨_, rfl, by decide, fun _ => (mx_g2 85 rfl rfl), fun h => by cases h⟩ (mx_fc ⟨_, rfl, by decide, fun _ => (mx_g2 86 rfl rfl), fun h => by cases h⟩ (mx_fc ⟨_, rfl, by decide, fun _ => (mx_g2 87 rfl rfl), fun h => by cases h⟩ (mx_fc ⟨_, rfl, by decide, fun _ => (mx_g2 88 rfl rfl), fun h => by cases h⟩ (mx_fc ⟨_, rfl, by decide, fun _ => (mx_g2 89 rfl rfl), fun h => by cases h⟩ (mx_fc ⟨_, rfl, by decide, (fun h => by cases h), fun _ => ⟨"PluginHall", List.mem_of_getElem? (i := 9) rfl⟩⟩ (mx_fc ⟨_, rfl, by decide, (fun h => by cases h), fun _ => ⟨"PluginHall", List.mem_of_getElem? (i := 11) rfl⟩⟩ (mx_fc ⟨_, rfl, by decide, (fun h => by cases h), fun _ => ⟨"PluginHall", List.mem_of_getElem? (i := 48) rfl⟩⟩ (mx_fc ⟨_, rfl, by decide, (fun h => by cases h), fun _ => ⟨"PluginHall", List.mem_of_getElem? (i := 34) rfl⟩⟩ (mx_fc ⟨_, rfl, by decide, (fun h => by cases h), fun _ => ⟨"PluginHall", List.mem_of_getElem? (i := 40) rfl⟩⟩ (mx_fc ⟨_, rfl, by decide, (fun h => by cases h), fun _ => ⟨"PluginHall", List.mem_of_getElem? (i := 43) rfl⟩⟩ (mx_fc ⟨_, rfl, by decide, (fun h => by cases h), fun _ => ⟨"PluginHall", List.mem_of_getElem? (i := 44) rfl⟩⟩ (mx_fc ⟨_, rfl, by decide, (fun h => by cases h), fun _ => ⟨"PluginHall", List.mem_of_getElem? (i := 41) rfl⟩⟩ (mx_fc ⟨_, rfl, by decide, (fun h => by cases h), fun _ => ⟨"PluginHall", List.mem_of_getElem? (i := 32) rfl⟩⟩ (mx_fc ⟨_, rfl, by decide, (fun h => by cases h), fun _ => ⟨"PluginHall", List.mem_of_getElem? (i := 29) rfl⟩⟩ (mx_fc ⟨_, rfl, by decide, (fun h => by cases h), fun _ => ⟨"PluginHall", List.mem_of_getElem? (i := 13) rfl⟩⟩ (mx_fc ⟨_, rfl, by decide, (fun h => by cases h), fun _ => ⟨"PluginHall", List.mem_of_getElem? (i := 12) rfl⟩⟩ (mx_fc ⟨_, rfl, by decide, (fun h => by cases h), fun _ => ⟨"PluginHall", List.mem_of_getElem? (i := 17) rfl⟩⟩ (mx_fc ⟨_, rfl, by decide, (fun h => by cases h), fun _ => ⟨"PluginHall", List.mem_of_getElem? (i := 23) rfl⟩⟩ (mx_fc ⟨_, rfl, by decide, (fun h => by cases h), fun _ => ⟨"PluginHall", List.mem_of_getElem? (i := 26) rfl⟩⟩ (mx_fc ⟨_, rfl, by decide, (fun h => by cases h), fun _ => ⟨"PluginHall", List.mem_of_getElem? (i := 19) rfl⟩⟩ (mx_fc ⟨_, rfl, by decide, (fun h => by cases h), fun _ => ⟨"PluginHall", List.mem_of_getElem? (i := 56) rfl⟩⟩ (mx_fc ⟨_, rfl, by decide, (fun h => by cases h), fun _ => ⟨"PluginHall", List.mem_of_getElem? (i := 53) rfl⟩⟩ (mx_fc ⟨_, rfl, by decide, (fun h => by cases h), fun _ => ⟨"PluginHall", List.mem_of_getElem? (i := 54) rfl⟩⟩ (mx_fc ⟨_, rfl, by decide, (fun h => by cases h), fun _ => ⟨"PluginHall", List.mem_of_getElem? (i := 55) rfl⟩⟩ (mx_fc ⟨_, rfl, by decide, (fun h => by cases h), fun _ => ⟨"PluginHall", List.mem_of_getElem? (i := 50) rfl⟩⟩ (mx_fc ⟨_, rfl, by decide, (fun h => by cases h), fun _ => ⟨"PluginHall", List.mem_of_getElem? (i := 52) rfl⟩⟩ (mx_fc ⟨_, rfl, by decide, (fun h => by cases h), fun _ => ⟨"PluginHall", List.mem_of_getElem? (i := 51) rfl⟩⟩ (mx_fc ⟨_, rfl, by decide, (fun h => by cases h), fun _ => ⟨"PluginHall", List.mem_of_getElem? (i := 47) rfl⟩⟩ (mx_f0)))))))))))))))))))))))))))))
set_option maxRecDepth 20000 in
theorem mx_fo1 : ∀ e ∈ ((mx_fdT[1]?).getD []), (fun (e : Nat × Nat × Nat × Bool) => ∃ q, mx_cls[e.2.1]? = some q ∧ e.2.2.1 < q.2.2 ∧ (e.2.2.2 = false → Cond.fieldLink (mx_own 1) e.1 q.1 (q.2.1 e.2.2.1).2.1 (q.2.1 e.2.2.1).2.2.1 ∈ mx_GT) ∧ (e.2.2.2 = true → ∃ host, (mx_own 1, e.1, q.1, (q.2.1 e.2.2.1).2.1, (q.2.1 e.2.2.1).2.2.1, host) ∈ mx_nf)) e := mx_fc ⟨_, rfl, by decide, fun _ => (mx_g1 72 rfl rfl), fun h => by cases h⟩ (mx_fc ⟨_, rfl, by decide, fun _ => (mx_g1 74 rfl rfl), fun h => by cases h⟩ (mx_fc ⟨_, rfl, by decide, fun _ => (mx_g1 77 rfl rfl), fun h => by cases h⟩ (mx_f0)))
set_option maxRecDepth 20000 in
theorem mx_fo2 : ∀ e ∈ ((mx_fdT[2]?).getD []), (fun (e : Nat × Nat × Nat × Bool) => ∃ q, mx_cls[e.2.1]? = some q ∧ e.2.2.1 < q.2.2 ∧ (e.2.2.2 = false → Cond.fieldLink (mx_own 2) e.1 q.1 (q.2.1 e.2.2.1).2.1 (q.2.1 e.2.2.1).2.2.1 ∈ mx_GT) ∧ (e.2.2.2 = true → ∃ host, (mx_own 2, e.1, q.1, (q.2.1 e.2.2.1).2.1, (q.2.1 e.2.2.1).2.2.1, host) ∈ mx_nf)) e := mx_fc ⟨_, rfl, by decide, fun _ => (mx_g1 34 rfl rfl), fun h => by cases h⟩ (mx_fc ⟨_, rfl, by decide, fun _ => (mx_g1 36 rfl rfl), fun h => by cases h⟩ (mx_fc ⟨_, rfl, by decide, fun _ => (mx_g1 38 rfl rfl), fun h => by cases h⟩ (mx_fc ⟨_, rfl, by decide, fun _ => (mx_g1 40 rfl rfl), fun h => by cases h⟩ (mx_fc ⟨_, rfl, by decide, fun _ => (mx_g1 41 rfl rfl), fun h => by cases h⟩ (mx_fc ⟨_, rfl, by decide, fun _ => (mx_g1 43 rfl rfl), fun h => by cases h⟩ (mx_fc ⟨_, rfl, by decide, fun _ => (mx_g1 45 rfl rfl), fun h => by cases h⟩ (mx_fc ⟨_, rfl, by decide, fun _ => (mx_g1 46 rfl rfl), fun h => by cases h⟩ (mx_fc ⟨_, rfl, by decide, fun _ => (mx_g1 48 rfl rfl), fun h => by cases h⟩ (mx_f0)))))))))
set_option maxRecDepth 20000 in
theorem mx_fo3 : ∀ e ∈ ((mx_fdT[3]?).getD []), (fun (e : Nat × Nat × Nat × Bool) => ∃ q, mx_cls[e.2.1]? = some q ∧ e.2.2.1 < q.2.2 ∧ (e.2.2.2 = false → Cond.fieldLink (mx_own 3) e.1 q.1 (q.2.1 e.2.2.1).2.1 (q.2.1 e.2.2.1).2.2.1 ∈ mx_GT) ∧ (e.2.2.2 = true → ∃ host, (mx_own 3, e.1, q.1, (q.2.1 e.2.2.1).2.1, (q.2.1 e.2.2.1).2.2.1, host) ∈ mx_nf)) e := mx_fc ⟨_, rfl, by decide, fun _ => (mx_g1 99 rfl rfl), fun h => by cases h⟩ (mx_fc ⟨_, rfl, by decide, fun _ => (mx_g1 100 rfl rfl), fun h => by cases h⟩ (mx_fc ⟨_, rfl, by decide, fun _ => (mx_g1 103 rfl rfl), fun h => by cases h⟩ (mx_fc ⟨_, rfl, by decide, fun _ => (mx_g1 105 rfl rfl), fun h => by cases h⟩ (mx_fc ⟨_, rfl, by decide, fun _ => (mx_g1 110 rfl rfl), fun h => by cases h⟩ (mx_fc ⟨_, rfl, by decide, fun _ => (mx_g1 113 rfl rfl), fun h => by cases h⟩ (mx_fc ⟨_, rfl, by decide, fun _ => (mx_g1 118 rfl rfl), fun h => by cases h⟩ (mx_fc ⟨_, rfl, by decide, fun _ => (mx_g1 101 rfl rfl), fun h => by cases h⟩ (mx_f0))))))))
set_option maxRecDepth 20000 in
theorem mx_fo4 : ∀ e ∈ ((mx_fdT[4]?).getD []), (fun (e : Nat × Nat × Nat × Bool) => ∃ q, mx_cls[e.2.1]? = some q ∧ e.2.2.1 < q.2.2 ∧ (e.2.2.2 = false → Cond.fieldLink (mx_own 4) e.1 q.1 (q.2.1 e.2.2.1).2.1 (q.2.1 e.2.2.1).2.2.1 ∈ mx_GT) ∧ (e.2.2.2 = true → ∃ host, (mx_own 4, e.1, q.1, (q.2.1 e.2.2.1).2.1, (q.2.1 e.2.2.1).2.2.1, host) ∈ mx_nf)) e := mx_fc ⟨_, rfl, by decide, fun _ => (mx_g1 158 rfl rfl), fun h => by cases h⟩ (mx_fc ⟨_, rfl, by decide, fun _ => (mx_g1 157 rfl rfl), fun h => by cases h⟩ (mx_fc ⟨_, rfl, by decide, fun _ => (mx_g1 160 rfl rfl), fun h => by cases h⟩ (mx_fc ⟨_, rfl, by decide, (fun h => by cases h), fun _ => ⟨"PluginHall", List.mem_of_getElem? (i := 14) rfl⟩⟩ (mx_f0))))
set_option maxRecDepth 20000 in
theorem mx_fo5 : ∀ e ∈ ((mx_fdT[5]?).getD []), (fun (e : Nat × Nat × Nat × Bool) => ∃ q, mx_cls[e.2.1]? = some q ∧ e.2.2.1 < q.2.2 ∧ (e.2.2.2 = false → Cond.fieldLink (mx_own 5) e.1 q.1 (q.2.1 e.2.2.1).2.1 (q.2.1 e.2.2.1).2.2.1 ∈ mx_GT) ∧ (e.2.2.2 = true → ∃ host, (mx_own 5, e.1, q.1, (q.2.1 e.2.2.1).2.1, (q.2.1 e.2.2.1).2.2.1, host) ∈ mx_nf)) e := mx_fc ⟨_, rfl, by decide, fun _ => (mx_g1 176 rfl rfl), fun h => by cases h⟩ (mx_fc ⟨_, rfl, by decide, (fun h => by cases h), fun _ => ⟨"PluginHall", List.mem_of_getElem? (i := 27) rfl⟩⟩ (mx_fc ⟨_, rfl, by decide, fun _ => (mx_g1 177 rfl rfl), fun h => by cases h⟩ (mx_fc ⟨_, rfl, by decide, fun _ => (mx_g1 178 rfl rfl), fun h => by cases h⟩ (mx_fc ⟨_, rfl, by decide, (fun h => by cases h), fun _ => ⟨"PluginHall", List.mem_of_getElem? (i := 20) rfl⟩⟩ (mx_fc ⟨_, rfl, by decide, fun _ => (mx_g1 179 rfl rfl), fun h => by cases h⟩ (mx_fc ⟨_, rfl, by decide, fun _ => (mx_g1 180 rfl rfl), fun h => by cases h⟩ (mx_fc ⟨_, rfl, by decide, (fun h => by cases h), fun _ => ⟨"PluginHall", List.mem_of_getElem? (i := 15) rfl⟩⟩ (mx_fc ⟨_, rfl, by decide, (fun h => by cases h), fun _ => ⟨"PluginHall", List.mem_of_getElem? (i := 25) rfl⟩⟩ (mx_fc ⟨_, rfl, by decide, fun _ => (mx_g1 181 rfl rfl), fun h => by cases h⟩ (mx_f0))))))))))
set_option maxRecDepth 20000 in
theorem mx_fo6 : ∀ e ∈ ((mx_fdT[6]?).getD []), (fun (e : Nat × Nat × Nat × Bool) => ∃ q, mx_cls[e.2.1]? = some q ∧ e.2.2.1 < q.2.2 ∧ (e.2.2.2 = false → Cond.fieldLink (mx_own 6) e.1 q.1 (q.2.1 e.2.2.1).2.1 (q.2.1 e.2.2.1).2.2.1 ∈ mx_GT) ∧ (e.2.2.2 = true → ∃ host, (mx_own 6, e.1, q.1, (q.2.1 e.2.2.1).2.1, (q.2.1 e.2.2.1).2.2.1, host) ∈ mx_nf)) e := mx_fc ⟨_, rfl, by decide, fun _ => (mx_g1 195 rfl rfl), fun h => by cases h⟩ (mx_fc ⟨_, rfl, by decide, fun _ => (mx_g1 197 rfl rfl), fun h => by cases h⟩ (mx_fc ⟨_, rfl, by decide, fun _ => (mx_g1 200 rfl rfl), fun h => by cases h⟩ (mx_fc ⟨_, rfl, by decide, fun _ => (mx_g1 201 rfl rfl), fun h => by cases h⟩ (mx_fc ⟨_, rfl, by decide, fun _ => (mx_g1 210 rfl rfl), fun h => by cases h⟩ (mx_fc ⟨_, rfl, by decide, fun _ => (mx_g1 213 rfl rfl), fun h => by cases h⟩ (mx_fc ⟨_, rfl, by decide, (fun h => by cases h), fun _ => ⟨"PluginHall", List.mem_of_getElem? (i := 8) rfl⟩⟩ (mx_fc ⟨_, rfl, by decide, (fun h => by cases h), fun _ => ⟨"PluginHall", List.mem_of_getElem? (i := 7) rfl⟩⟩ (mx_fc ⟨_, rfl, by decide, (fun h => by cases h), fun _ => ⟨"PluginHall", List.mem_of_getElem? (i := 10) rfl⟩⟩ (mx_fc ⟨_, rfl, by decide, fun _ => (mx_g1 216 rfl rfl), fun h => by cases h⟩ (mx_fc ⟨_, rfl, by decide, fun _ => (mx_g1 218 rfl rfl), fun h => by cases h⟩ (mx_fc ⟨_, rfl, by decide, fun _ => (mx_g1 204 rfl rfl), fun h => by cases h⟩ (mx_fc ⟨_, rfl, by decide, fun _ => (mx_g1 208 rfl rfl), fun h => by cases h⟩ (mx_f0)))))))))))))
set_option maxRecDepth 20000 in
theorem mx_fo7 : ∀ e ∈ ((mx_fdT[7]?).getD []), (fun (e : Nat × Nat × Nat × Bool) => ∃ q, mx_cls[e.2.1]? = some q ∧ e.2.2.1 < q.2.2 ∧ (e.2.2.2 = false → Cond.fieldLink (mx_own 7) e.1 q.1 (q.2.1 e.2.2.1).2.1 (q.2.1 e.2.2.1).2.2.1 ∈ mx_GT) ∧ (e.2.2.2 = true → ∃ host, (mx_own 7, e.1, q.1, (q.2.1 e.2.2.1).2.1, (q.2.1 e.2.2.1).2.2.1, host) ∈ mx_nf)) e := mx_fc ⟨_, rfl, by decide, fun _ => (mx_g2 25 rfl rfl), fun h => by cases h⟩ (mx_fc ⟨_, rfl, by decide, fun _ => (mx_g2 22 rfl rfl), fun h => by cases h⟩ (mx_fc ⟨_, rfl, by decide, fun _ => (mx_g2 26 rfl rfl), fun h => by cases h⟩ (mx_fc ⟨_, rfl, by decide, (fun h => by cases h), fun _ => ⟨"PluginHall", List.mem_of_getElem? (i := 21) rfl⟩⟩ (mx_fc ⟨_, rfl, by decide, (fun h => by cases h), fun _ => ⟨"PluginHall", List.mem_of_getElem? (i := 31) rfl⟩⟩ (mx_fc ⟨_, rfl, by decide, (fun h => by cases h), fun _ => ⟨"PluginHall", List.mem_of_getElem? (i := 33) rfl⟩⟩ (mx_fc ⟨_, rfl, by decide, (fun h => by cases h), fun _ => ⟨"PluginHall", List.mem_of_getElem? (i := 35) rfl⟩⟩ (mx_fc ⟨_, rfl, by decide, (fun h => by cases h), fun _ => ⟨"PluginHall", List.mem_of_getElem? (i := 30) rfl⟩⟩ (mx_fc ⟨_, rfl, by decide, (fun h => by cases h), fun _ => ⟨"PluginHall", List.mem_of_getElem? (i := 4) rfl⟩⟩ (mx_fc ⟨_, rfl, by decide, (fun h => by cases h), fun _ => ⟨"PluginHall", List.mem_of_getElem? (i := 0) rfl⟩⟩ (mx_fc ⟨_, rfl, by decide, (fun h => by cases h), fun _ => ⟨"PluginHall", List.mem_of_getElem? (i := 39) rfl⟩⟩ (mx_fc ⟨_, rfl, by decide, (fun h => by cases h), fun _ => ⟨"PluginHall", List.mem_of_getElem? (i := 1) rfl⟩⟩ (mx_fc ⟨_, rfl, by decide, (fun h => by cases h), fun _ => ⟨"PluginHall", List.mem_of_getElem? (i := 2) rfl⟩⟩ (mx_fc ⟨_, rfl, by decide, (fun h => by cases h), fun _ => ⟨"PluginHall", List.mem_of_getElem? (i := 3) rfl⟩⟩ (mx_fc ⟨_, rfl, by decide, (fun h => by cases h), fun _ => ⟨"PluginHall", List.mem_of_getElem? (i := 38) rfl⟩⟩ (mx_fc ⟨_, rfl, by decide, (fun h => by cases h), fun _ => ⟨"PluginHall", List.mem_of_getElem? (i := 37) rfl⟩⟩ (mx_fc ⟨_, rfl, by decide, (fun h => by cases h), fun _ => ⟨"PluginHall", List.mem_of_getElem? (i := 42) rfl⟩⟩ (mx_fc ⟨_, rfl, by decide, (fun h => by cases h), fun _ => ⟨"PluginHall", List.mem_of_getElem? (i := 6) rfl⟩⟩ (mx_fc ⟨_, rfl, by decide, (fun h => by cases h), fun _ => ⟨"PluginHall", List.mem_of_getElem? (i := 5) rfl⟩⟩ (mx_fc ⟨_, rfl, by decide, (fun h => by cases h), fun _ => ⟨"PluginHall", List.mem_of_getElem? (i := 46) rfl⟩⟩ (mx_f0))))))))))))))))))))
set_option maxRecDepth 20000 in
theorem mx_fo8 : ∀ e ∈ ((mx_fdT[8]?).getD []), (fun (e : Nat × Nat × Nat × Bool) => ∃ q, mx_cls[e.2.1]? = some q ∧ e.2.2.1 < q.2.2 ∧ (e.2.2.2 = false → Cond.fieldLink (mx_own 8) e.1 q.1 (q.2.1 e.2.2.1).2.1 (q.2.1 e.2.2.1).2.2.1 ∈ mx_GT) ∧ (e.2.2.2 = true → ∃ host, (mx_own 8, e.1, q.1, (q.2.1 e.2.2.1).2.1, (q.2.1 e.2.2.1).2.2.1, host) ∈ mx_nf)) e := mx_fc ⟨_, rfl, by decide, fun _ => (mx_g2 41 rfl rfl), fun h => by cases h⟩ (mx_fc ⟨_, rfl, by decide, fun _ => (mx_g2 42 rfl rfl), fun h => by cases h⟩ (mx_fc ⟨_, rfl, by decide, fun _ => (mx_g2 44 rfl rfl), fun h => by cases h⟩ (mx_fc ⟨_, rfl, by decide, fun _ => (mx_g2 46 rfl rfl), fun h => by cases h⟩ (mx_fc ⟨_, rfl, by decide, (fun h => by cases h), fun _ => ⟨"PluginHall", List.mem_of_getElem? (i := 18) rfl⟩⟩ (mx_fc ⟨_, rfl, by decide, (fun h => by cases h), fun _ => ⟨"PluginHall", List.mem_of_getElem? (i := 22) rfl⟩⟩ (mx_fc ⟨_, rfl, by decide, (fun h => by cases h), fun _ => ⟨"PluginHall", List.mem_of_getElem? (i := 24) rfl⟩⟩ (mx_fc ⟨_, rfl, by decide, (fun h => by cases h), fun _ => ⟨"PluginHall", List.mem_of_getElem? (i := 49) rfl⟩⟩ (mx_fc ⟨_, rfl, by decide, (fun h => by cases h), fun _ => ⟨"PluginHall", List.mem_of_getElem? (i := 36) rfl⟩⟩ (mx_fc ⟨_, rfl, by decide, (fun h => by cases h), fun _ => ⟨"PluginHall", List.mem_of_getElem? (i := 28) rfl⟩⟩ (mx_fc ⟨_, rfl, by decide, (fun h => by cases h), fun _ => ⟨"PluginHall", List.mem_of_getElem? (i := 16) rfl⟩⟩ (mx_fc ⟨_, rfl, by decide, (fun h => by cases h), fun _ => ⟨"PluginHall", List.mem_of_getElem? (i := 45) rfl⟩⟩ (mx_f0))))))))))))
set_option maxRecDepth 20000 in
theorem mx_fo9 : ∀ e ∈ ((mx_fdT[9]?).getD []), (fun (e : Nat × Nat × Nat × Bool) => ∃ q, mx_cls[e.2.1]? = some q ∧ e.2.2.1 < q.2.2 ∧ (e.2.2.2 = false → Cond.fieldLink (mx_own 9) e.1 q.1 (q.2.1 e.2.2.1).2.1 (q.2.1 e.2.2.1).2.2.1 ∈ mx_GT) ∧ (e.2.2.2 = true → ∃ host, (mx_own 9, e.1, q.1, (q.2.1 e.2.2.1).2.1, (q.2.1 e.2.2.1).2.2.1, host) ∈ mx_nf)) e := mx_fc ⟨_, rfl, by decide, fun _ => (mx_g2 63 rfl rfl), fun h => by cases h⟩ (mx_fc ⟨_, rfl, by decide, fun _ => (mx_g2 65 rfl rfl), fun h => by cases h⟩ (mx_fc ⟨_, rfl, by decide, fun _ => (mx_g2 66 rfl rfl), fun h => by cases h⟩ (mx_fc ⟨_, rfl, by decide, fun _ => (mx_g2 68 rfl rfl), fun h => by cases h⟩ (mx_fc ⟨_, rfl, by decide, fun _ => (mx_g2 70 rfl rfl), fun h => by cases h⟩ (mx_f0)))))
set_option maxRecDepth 20000 in
theorem mx_fo10 : ∀ e ∈ ((mx_fdT[10]?).getD []), (fun (e : Nat × Nat × Nat × Bool) => ∃ q, mx_cls[e.2.1]? = some q ∧ e.2.2.1 < q.2.2 ∧ (e.2.2.2 = false → Cond.fieldLink (mx_own 10) e.1 q.1 (q.2.1 e.2.2.1).2.1 (q.2.1 e.2.2.1).2.2.1 ∈ mx_GT) ∧ (e.2.2.2 = true → ∃ host, (mx_own 10, e.1, q.1, (q.2.1 e.2.2.1).2.1, (q.2.1 e.2.2.1).2.2.1, host) ∈ mx_nf)) e := mx_fc ⟨_, rfl, by decide, fun _ => (mx_g2 9 rfl rfl), fun h => by cases h⟩ (mx_fc ⟨_, rfl, by decide, fun _ => (mx_g2 10 rfl rfl), fun h => by cases h⟩ (mx_fc ⟨_, rfl, by decide, fun _ => (mx_g2 11 rfl rfl), fun h => by cases h⟩ (mx_f0)))
set_option maxRecDepth 20000 in
theorem mx_fo11 : ∀ e ∈ ((mx_fdT[11]?).getD []), (fun (e : Nat × Nat × Nat × Bool) => ∃ q, mx_cls[e.2.1]? = some q ∧ e.2.2.1 < q.2.2 ∧ (e.2.2.2 = false → Cond.fieldLink (mx_own 11) e.1 q.1 (q.2.1 e.2.2.1).2.1 (q.2.1 e.2.2.1).2.2.1 ∈ mx_GT) ∧ (e.2.2.2 = true → ∃ host, (mx_own 11, e.1, q.1, (q.2.1 e.2.2.1).2.1, (q.2.1 e.2.2.1).2.2.1, host) ∈ mx_nf)) e := mx_fc ⟨_, rfl, by decide, fun _ => (mx_g4 80 rfl rfl), fun h => by cases h⟩ (mx_fc ⟨_, rfl, by decide, fun _ => (mx_g4 81 rfl rfl), fun h => by cases h⟩ (mx_fc ⟨_, rfl, by decide, fun _ => (mx_g4 82 rfl rfl), fun h => by cases h⟩ (mx_fc ⟨_, rfl, by decide, fun _ => (mx_g4 83 rfl rfl), fun h => by cases h⟩ (mx_fc ⟨_, rfl, by decide, fun _ => (mx_g4 84 rfl rfl), fun h => by cases h⟩ (mx_fc ⟨_, rfl, by decide, fun _ => (mx_g4 85 rfl rfl), fun h => by cases h⟩ (mx_fc ⟨_, rfl, by decide, fun _ => (mx_g4 86 rfl rfl), fun h => by cases h⟩ (mx_fc ⟨_, rfl, by decide, fun _ => (mx_g4 87 rfl rfl), fun h => by cases h⟩ (mx_fc ⟨_, rfl, by decide, fun _ => (mx_g4 88 rfl rfl), fun h => by cases h⟩ (mx_fc ⟨_, rfl, by decide, fun _ => (mx_g4 89 rfl rfl), fun h => by cases h⟩ (mx_fc ⟨_, rfl, by decide, fun _ => (mx_g4 95 rfl rfl), fun h => by cases h⟩ (mx_fc ⟨_, rfl, by decide, fun _ => (mx_g4 96 rfl rfl), fun h => by cases h⟩ (mx_fc ⟨_, rfl, by decide, fun _ => (mx_g4 97 rfl rfl), fun h => by cases h⟩ (mx_fc ⟨_, rfl, by decide, fun _ => (mx_g4 98 rfl rfl), fun h => by cases h⟩ (mx_fc ⟨_, rfl, by decide, fun _ => (mx_g4 99 rfl rfl), fun h => by cases h⟩ (mx_fc ⟨_, rfl, by decide, fun _ => (mx_g4 100 rfl rfl), fun h => by cases h⟩ (mx_fc ⟨_, rfl, by decide, fun _ => (mx_g4 101 rfl rfl), fun h => by cases h⟩ (mx_fc ⟨_, rfl, by decide, fun _ => (mx_g4 102 rfl rfl), fun h => by cases h⟩ (mx_fc ⟨_, rfl, by decide, fun _ => (mx_g4 103 rfl rfl), fun h => by cases h⟩ (mx_fc ⟨_, rfl, by decide, fun _ => (mx_g4 104 rfl rfl), fun h => by cases h⟩ (mx_fc ⟨_, rfl, by decide, fun _ => (mx_g4 105 rfl rfl), fun h => by cases h⟩ (mx_fc ⟨_, rfl, by decide, fun _ => (mx_g4 106 rfl rfl), fun h => by cases h⟩ (mx_fc ⟨_, rfl, by decide, fun _ => (mx_g4 107 rfl rfl), fun h => by cases h⟩ (mx_fc ⟨_, rfl, by decide, fun _ => (mx_g4 108 rfl rfl), fun h => by cases h⟩ (mx_fc ⟨_, rfl, by decide, fun _ => (mx_g4 109 rfl rfl), fun h => by cases h⟩ (mx_fc ⟨_, rfl, by decide, fun _ => (mx_g4 110 rfl rfl), fun h => by cases h⟩ (mx_fc ⟨_, rfl, by decide, fun _ => (mx_g4 111 rfl rfl), fun h => by cases h⟩ (mx_fc ⟨_, rfl, by decide, fun _ => (mx_g4 112 rfl rfl), fun h => by cases h⟩ (mx_fc ⟨_, rfl, by decide, fun _ => (mx_g4 113 rfl rfl), fun h => by cases h⟩ (mx_fc ⟨_, rfl, by decide, fun _ => (mx_g4 114 rfl rfl), fun h => by cases h⟩ (mx_fc ⟨_, rfl, by decide, fun _ => (mx_g4 115 rfl rfl), fun h => by cases h⟩ (mx_fc ⟨_, rfl, by decide, fun _ => (mx_g4 116 rfl rfl), fun h => by cases h⟩ (mx_fc ⟨_, rfl, by decide, fun _ => (mx_g4 117 rfl rfl), fun h => by cases h⟩ (mx_fc ⟨_, rfl, by decide, fun _ => (mx_g4 118 rfl rfl), fun h => by cases h⟩ (mx_fc ⟨_, rfl, by decide, fun _ => (mx_g4 90 rfl rfl), fun h => by cases h⟩ (mx_fc ⟨_, rfl, by decide, fun _ => (mx_g4 91 rfl rfl), fun h => by cases h⟩ (mx_fc ⟨_, rfl, by decide, fun _ => (mx_g4 92 rfl rfl), fun h => by cases h⟩ (mx_fc ⟨_, rfl, by decide, fun _ => (mx_g4 94 rfl rfl), fun h => by cases h⟩ (mx_fc ⟨_, rfl, by decide, fun _ => (mx_g4 93 rfl rfl), fun h => by cases h⟩ (mx_fc ⟨_, rfl, by decide, fun _ => (mx_g4 120 rfl rfl), fun h => by cases h⟩ (mx_fc ⟨_, rfl, by decide, fun _ => (mx_g4 119 rfl rfl), fun h => by cases h⟩ (mx_fc ⟨_, rfl, by decide, fun _ => (mx_g4 121 rfl rfl), fun h => by cases h⟩ (mx_f0))))))))))))))))))))))))))))))))))))))))))
set_option maxRecDepth 20000 in
theorem mx_fo12 : ∀ e ∈ ((mx_fdT[12]?).getD []), (fun (e : Nat × Nat × Nat × Bool) => ∃ q, mx_cls[e.2.1]? = some q ∧ e.2.2.1 < q.2.2 ∧ (e.2.2.2 = false → Cond.fieldLink (mx_own 12) e.1 q.1 (q.2.1 e.2.2.1).2.1 (q.2.1 e.2.2.1).2.2.1 ∈ mx_GT) ∧ (e.2.2.2 = true → ∃ host, (mx_own 12, e.1, q.1, (q.2.1 e.2.2.1).2.1, (q.2.1 e.2.2.1).2.2.1, host) ∈ mx_nf)) e := mx_f0
set_option maxRecDepth 20000 in
theorem mx_fo13 : ∀ e ∈ ((mx_fdT[13]?).getD []), (fun (e : Nat × Nat × Nat × Bool) => ∃ q, mx_cls[e.2.1]? = some q ∧ e.2.2.1 < q.2.2 ∧ (e.2.2.2 = false → Cond.fieldLink (mx_own 13) e.1 q.1 (q.2.1 e.2.2.1).2.1 (q.2.1 e.2.2.1).2.2.1 ∈ mx_GT) ∧ (e.2.2.2 = true → ∃ host, (mx_own 13, e.1, q.1, (q.2.1 e.2.2.1).2.1, (q.2.1 e.2.2.1).2.2.1, host) ∈ mx_nf)) e := mx_f0
theorem mx_fld_ok {own idx ci k : Nat} {nst : Bool} (h : mx_fld own idx = some (ci, k, nst)) : ∃ q : vw_C, mx_cls[ci]? = some q ∧ k < q.2.2 ∧ (nst = false → Cond.fieldLink (mx_own own) idx q.1 (q.2.1 k).2.1 (q.2.1 k).2.2.1 ∈ mx_GT) ∧ (nst = true → ∃ host, (mx_own own, idx, q.1, (q.2.1 k).2.1, (q.2.1 k).2.2.1, host) ∈ mx_nf) := by
  have hm := mx_lk h
  match own, hm with
  | 0, hm => exact mx_fo0 _ hm
  | 1, hm => exact mx_fo1 _ hm
  | 2, hm => exact mx_fo2 _ hm
  | 3, hm => exact mx_fo3 _ hm
  | 4, hm => exact mx_fo4 _ hm
  | 5, hm => exact mx_fo5 _ hm
  | 6, hm => exact mx_fo6 _ hm
  | 7, hm => exact mx_fo7 _ hm
  | 8, hm => exact mx_fo8 _ hm
  | 9, hm => exact mx_fo9 _ hm
  | 10, hm => exact mx_fo10 _ hm
  | 11, hm => exact mx_fo11 _ hm
  | 12, hm => exact mx_fo12 _ hm
  | 13, hm => exact mx_fo13 _ hm
  | n + 14, hm => exact absurd hm (by simp [mx_fdT])
def mx_lcT : List (List (Nat × Int64)) := [[],
  [],
  [],
  [(46, (-1))],
  [],
  [],
  [],
  [],
  [(31, 25705), (39, 500068609904), (56, 7632997), (113, 1701667182), (115, 1953723757), (121, 1835365481)],
  [],
  [],
  [(114, 255), (176, (-1)), (181, 500068609904), (186, 25705), (192, 1835365481), (194, 1701667182), (199, 1953723757), (201, 7632997)],
  [(13, 4294967295)],
  []]
def mx_lc (own idx : Nat) : Option (Int64) := ((mx_lcT[own]?).getD []).lookup idx
set_option maxRecDepth 20000 in
theorem mx_lc_o0 : ∀ e ∈ ((mx_lcT[0]?).getD []), (fun (e : Nat × Int64) => Cond.constantLong (mx_own 0) e.1 e.2 ∈ mx_GT) e := mx_f0
set_option maxRecDepth 20000 in
theorem mx_lc_o1 : ∀ e ∈ ((mx_lcT[1]?).getD []), (fun (e : Nat × Int64) => Cond.constantLong (mx_own 1) e.1 e.2 ∈ mx_GT) e := mx_f0
set_option maxRecDepth 20000 in
theorem mx_lc_o2 : ∀ e ∈ ((mx_lcT[2]?).getD []), (fun (e : Nat × Int64) => Cond.constantLong (mx_own 2) e.1 e.2 ∈ mx_GT) e := mx_f0
set_option maxRecDepth 20000 in
theorem mx_lc_o3 : ∀ e ∈ ((mx_lcT[3]?).getD []), (fun (e : Nat × Int64) => Cond.constantLong (mx_own 3) e.1 e.2 ∈ mx_GT) e := mx_fc (mx_g3 17 rfl rfl) (mx_f0)
set_option maxRecDepth 20000 in
theorem mx_lc_o4 : ∀ e ∈ ((mx_lcT[4]?).getD []), (fun (e : Nat × Int64) => Cond.constantLong (mx_own 4) e.1 e.2 ∈ mx_GT) e := mx_f0
set_option maxRecDepth 20000 in
theorem mx_lc_o5 : ∀ e ∈ ((mx_lcT[5]?).getD []), (fun (e : Nat × Int64) => Cond.constantLong (mx_own 5) e.1 e.2 ∈ mx_GT) e := mx_f0
set_option maxRecDepth 20000 in
theorem mx_lc_o6 : ∀ e ∈ ((mx_lcT[6]?).getD []), (fun (e : Nat × Int64) => Cond.constantLong (mx_own 6) e.1 e.2 ∈ mx_GT) e := mx_f0
set_option maxRecDepth 20000 in
theorem mx_lc_o7 : ∀ e ∈ ((mx_lcT[7]?).getD []), (fun (e : Nat × Int64) => Cond.constantLong (mx_own 7) e.1 e.2 ∈ mx_GT) e := mx_f0
set_option maxRecDepth 20000 in
theorem mx_lc_o8 : ∀ e ∈ ((mx_lcT[8]?).getD []), (fun (e : Nat × Int64) => Cond.constantLong (mx_own 8) e.1 e.2 ∈ mx_GT) e := mx_fc (mx_g3 78 rfl rfl) (mx_fc (mx_g3 80 rfl rfl) (mx_fc (mx_g3 89 rfl rfl) (mx_fc (mx_g3 104 rfl rfl) (mx_fc (mx_g3 109 rfl rfl) (mx_fc (mx_g3 103 rfl rfl) (mx_f0))))))
set_option maxRecDepth 20000 in
theorem mx_lc_o9 : ∀ e ∈ ((mx_lcT[9]?).getD []), (fun (e : Nat × Int64) => Cond.constantLong (mx_own 9) e.1 e.2 ∈ mx_GT) e := mx_f0
set_option maxRecDepth 20000 in
theorem mx_lc_o10 : ∀ e ∈ ((mx_lcT[10]?).getD []), (fun (e : Nat × Int64) => Cond.constantLong (mx_own 10) e.1 e.2 ∈ mx_GT) e := mx_f0
set_option maxRecDepth 20000 in
theorem mx_lc_o11 : ∀ e ∈ ((mx_lcT[11]?).getD []), (fun (e : Nat × Int64) => Cond.constantLong (mx_own 11) e.1 e.2 ∈ mx_GT) e := mx_fc (mx_g4 214 rfl rfl) (mx_fc (mx_g5 67 rfl rfl) (mx_fc (mx_g5 62 rfl rfl) (mx_fc (mx_g5 72 rfl rfl) (mx_fc (mx_g5 77 rfl rfl) (mx_fc (mx_g5 78 rfl rfl) (mx_fc (mx_g5 83 rfl rfl) (mx_fc (mx_g5 53 rfl rfl) (mx_f0))))))))
set_option maxRecDepth 20000 in
theorem mx_lc_o12 : ∀ e ∈ ((mx_lcT[12]?).getD []), (fun (e : Nat × Int64) => Cond.constantLong (mx_own 12) e.1 e.2 ∈ mx_GT) e := mx_fc (mx_g5 168 rfl rfl) (mx_f0)
set_option maxRecDepth 20000 in
theorem mx_lc_o13 : ∀ e ∈ ((mx_lcT[13]?).getD []), (fun (e : Nat × Int64) => Cond.constantLong (mx_own 13) e.1 e.2 ∈ mx_GT) e := mx_f0
theorem mx_lc_ok {own idx : Nat} {v : Int64} (h : mx_lc own idx = some v) : Cond.constantLong (mx_own own) idx v ∈ mx_GT := by
  have hm := mx_lk h
  match own, hm with
  | 0, hm => exact mx_lc_o0 _ hm
  | 1, hm => exact mx_lc_o1 _ hm
  | 2, hm => exact mx_lc_o2 _ hm
  | 3, hm => exact mx_lc_o3 _ hm
  | 4, hm => exact mx_lc_o4 _ hm
  | 5, hm => exact mx_lc_o5 _ hm
  | 6, hm => exact mx_lc_o6 _ hm
  | 7, hm => exact mx_lc_o7 _ hm
  | 8, hm => exact mx_lc_o8 _ hm
  | 9, hm => exact mx_lc_o9 _ hm
  | 10, hm => exact mx_lc_o10 _ hm
  | 11, hm => exact mx_lc_o11 _ hm
  | 12, hm => exact mx_lc_o12 _ hm
  | 13, hm => exact mx_lc_o13 _ hm
  | n + 14, hm => exact absurd hm (by simp [mx_lcT])
def mx_icT : List (List (Nat × Int32)) := [[],
  [],
  [],
  [],
  [],
  [],
  [],
  [],
  [],
  [],
  [],
  [],
  [],
  []]
def mx_ic (own idx : Nat) : Option (Int32) := ((mx_icT[own]?).getD []).lookup idx
set_option maxRecDepth 20000 in
theorem mx_ic_o0 : ∀ e ∈ ((mx_icT[0]?).getD []), (fun (e : Nat × Int32) => Cond.constant (mx_own 0) e.1 e.2 ∈ mx_GT) e := mx_f0
set_option maxRecDepth 20000 in
theorem mx_ic_o1 : ∀ e ∈ ((mx_icT[1]?).getD []), (fun (e : Nat × Int32) => Cond.constant (mx_own 1) e.1 e.2 ∈ mx_GT) e := mx_f0
set_option maxRecDepth 20000 in
theorem mx_ic_o2 : ∀ e ∈ ((mx_icT[2]?).getD []), (fun (e : Nat × Int32) => Cond.constant (mx_own 2) e.1 e.2 ∈ mx_GT) e := mx_f0
set_option maxRecDepth 20000 in
theorem mx_ic_o3 : ∀ e ∈ ((mx_icT[3]?).getD []), (fun (e : Nat × Int32) => Cond.constant (mx_own 3) e.1 e.2 ∈ mx_GT) e := mx_f0
set_option maxRecDepth 20000 in
theorem mx_ic_o4 : ∀ e ∈ ((mx_icT[4]?).getD []), (fun (e : Nat × Int32) => Cond.constant (mx_own 4) e.1 e.2 ∈ mx_GT) e := mx_f0
set_option maxRecDepth 20000 in
theorem mx_ic_o5 : ∀ e ∈ ((mx_icT[5]?).getD []), (fun (e : Nat × Int32) => Cond.constant (mx_own 5) e.1 e.2 ∈ mx_GT) e := mx_f0
set_option maxRecDepth 20000 in
theorem mx_ic_o6 : ∀ e ∈ ((mx_icT[6]?).getD []), (fun (e : Nat × Int32) => Cond.constant (mx_own 6) e.1 e.2 ∈ mx_GT) e := mx_f0
set_option maxRecDepth 20000 in
theorem mx_ic_o7 : ∀ e ∈ ((mx_icT[7]?).getD []), (fun (e : Nat × Int32) => Cond.constant (mx_own 7) e.1 e.2 ∈ mx_GT) e := mx_f0
set_option maxRecDepth 20000 in
theorem mx_ic_o8 : ∀ e ∈ ((mx_icT[8]?).getD []), (fun (e : Nat × Int32) => Cond.constant (mx_own 8) e.1 e.2 ∈ mx_GT) e := mx_f0
set_option maxRecDepth 20000 in
theorem mx_ic_o9 : ∀ e ∈ ((mx_icT[9]?).getD []), (fun (e : Nat × Int32) => Cond.constant (mx_own 9) e.1 e.2 ∈ mx_GT) e := mx_f0
set_option maxRecDepth 20000 in
theorem mx_ic_o10 : ∀ e ∈ ((mx_icT[10]?).getD []), (fun (e : Nat × Int32) => Cond.constant (mx_own 10) e.1 e.2 ∈ mx_GT) e := mx_f0
set_option maxRecDepth 20000 in
theorem mx_ic_o11 : ∀ e ∈ ((mx_icT[11]?).getD []), (fun (e : Nat × Int32) => Cond.constant (mx_own 11) e.1 e.2 ∈ mx_GT) e := mx_f0
set_option maxRecDepth 20000 in
theorem mx_ic_o12 : ∀ e ∈ ((mx_icT[12]?).getD []), (fun (e : Nat × Int32) => Cond.constant (mx_own 12) e.1 e.2 ∈ mx_GT) e := mx_f0
set_option maxRecDepth 20000 in
theorem mx_ic_o13 : ∀ e ∈ ((mx_icT[13]?).getD []), (fun (e : Nat × Int32) => Cond.constant (mx_own 13) e.1 e.2 ∈ mx_GT) e := mx_f0
theorem mx_ic_ok {own idx : Nat} {v : Int32} (h : mx_ic own idx = some v) : Cond.constant (mx_own own) idx v ∈ mx_GT := by
  have hm := mx_lk h
  match own, hm with
  | 0, hm => exact mx_ic_o0 _ hm
  | 1, hm => exact mx_ic_o1 _ hm
  | 2, hm => exact mx_ic_o2 _ hm
  | 3, hm => exact mx_ic_o3 _ hm
  | 4, hm => exact mx_ic_o4 _ hm
  | 5, hm => exact mx_ic_o5 _ hm
  | 6, hm => exact mx_ic_o6 _ hm
  | 7, hm => exact mx_ic_o7 _ hm
  | 8, hm => exact mx_ic_o8 _ hm
  | 9, hm => exact mx_ic_o9 _ hm
  | 10, hm => exact mx_ic_o10 _ hm
  | 11, hm => exact mx_ic_o11 _ hm
  | 12, hm => exact mx_ic_o12 _ hm
  | 13, hm => exact mx_ic_o13 _ hm
  | n + 14, hm => exact absurd hm (by simp [mx_icT])
def mx_newT : List (List (Nat × Nat)) := [[(9, 1), (16, 7), (23, 8), (32, 9), (39, 10)],
  [(15, 2)],
  [],
  [],
  [(15, 3)],
  [],
  [(9, 2), (18, 4), (27, 5)],
  [(9, 3), (18, 6), (27, 10)],
  [],
  [],
  [],
  [],
  [(7, 0), (10, 11)],
  []]
def mx_new (own idx : Nat) : Option (Nat) := ((mx_newT[own]?).getD []).lookup idx
set_option maxRecDepth 20000 in
theorem mx_new_o0 : ∀ e ∈ ((mx_newT[0]?).getD []), (fun (e : Nat × Nat) => ∃ q, mx_cls[e.2]? = some q ∧ Cond.classLink (mx_own 0) e.1 q.1 ∈ mx_GT ∧ Cond.instantiable q.1 q.2.2 ∈ mx_GT ∧ Cond.initialized q.1 ∈ mx_GT) e := mx_fc ⟨_, rfl, (mx_g1 22 rfl rfl), (mx_g1 23 rfl rfl), (mx_g1 2 rfl rfl)⟩ (mx_fc ⟨_, rfl, (mx_g1 87 rfl rfl), (mx_g1 88 rfl rfl), (mx_g1 4 rfl rfl)⟩ (mx_fc ⟨_, rfl, (mx_g2 35 rfl rfl), (mx_g2 36 rfl rfl), (mx_g1 10 rfl rfl)⟩ (mx_fc ⟨_, rfl, (mx_g2 57 rfl rfl), (mx_g2 58 rfl rfl), (mx_g1 11 rfl rfl)⟩ (mx_fc ⟨_, rfl, (mx_g2 83 rfl rfl), (mx_g2 4 rfl rfl), (mx_g1 9 rfl rfl)⟩ (mx_f0)))))
set_option maxRecDepth 20000 in
theorem mx_new_o1 : ∀ e ∈ ((mx_newT[1]?).getD []), (fun (e : Nat × Nat) => ∃ q, mx_cls[e.2]? = some q ∧ Cond.classLink (mx_own 1) e.1 q.1 ∈ mx_GT ∧ Cond.instantiable q.1 q.2.2 ∈ mx_GT ∧ Cond.initialized q.1 ∈ mx_GT) e := mx_fc ⟨_, rfl, (mx_g1 28 rfl rfl), (mx_g1 29 rfl rfl), (mx_g1 3 rfl rfl)⟩ (mx_f0)
set_option maxRecDepth 20000 in
theorem mx_new_o2 : ∀ e ∈ ((mx_newT[2]?).getD []), (fun (e : Nat × Nat) => ∃ q, mx_cls[e.2]? = some q ∧ Cond.classLink (mx_own 2) e.1 q.1 ∈ mx_GT ∧ Cond.instantiable q.1 q.2.2 ∈ mx_GT ∧ Cond.initialized q.1 ∈ mx_GT) e := mx_f0
set_option maxRecDepth 20000 in
theorem mx_new_o3 : ∀ e ∈ ((mx_newT[3]?).getD []), (fun (e : Nat × Nat) => ∃ q, mx_cls[e.2]? = some q ∧ Cond.classLink (mx_own 3) e.1 q.1 ∈ mx_GT ∧ Cond.instantiable q.1 q.2.2 ∈ mx_GT ∧ Cond.initialized q.1 ∈ mx_GT) e := mx_f0
set_option maxRecDepth 20000 in
theorem mx_new_o4 : ∀ e ∈ ((mx_newT[4]?).getD []), (fun (e : Nat × Nat) => ∃ q, mx_cls[e.2]? = some q ∧ Cond.classLink (mx_own 4) e.1 q.1 ∈ mx_GT ∧ Cond.instantiable q.1 q.2.2 ∈ mx_GT ∧ Cond.initialized q.1 ∈ mx_GT) e := mx_fc ⟨_, rfl, (mx_g1 154 rfl rfl), (mx_g1 94 rfl rfl), (mx_g1 5 rfl rfl)⟩ (mx_f0)
set_option maxRecDepth 20000 in
theorem mx_new_o5 : ∀ e ∈ ((mx_newT[5]?).getD []), (fun (e : Nat × Nat) => ∃ q, mx_cls[e.2]? = some q ∧ Cond.classLink (mx_own 5) e.1 q.1 ∈ mx_GT ∧ Cond.instantiable q.1 q.2.2 ∈ mx_GT ∧ Cond.initialized q.1 ∈ mx_GT) e := mx_f0
set_option maxRecDepth 20000 in
theorem mx_new_o6 : ∀ e ∈ ((mx_newT[6]?).getD []), (fun (e : Nat × Nat) => ∃ q, mx_cls[e.2]? = some q ∧ Cond.classLink (mx_own 6) e.1 q.1 ∈ mx_GT ∧ Cond.instantiable q.1 q.2.2 ∈ mx_GT ∧ Cond.initialized q.1 ∈ mx_GT) e := mx_fc ⟨_, rfl, (mx_g1 146 rfl rfl), (mx_g1 29 rfl rfl), (mx_g1 3 rfl rfl)⟩ (mx_fc ⟨_, rfl, (mx_g1 148 rfl rfl), (mx_g1 149 rfl rfl), (mx_g1 7 rfl rfl)⟩ (mx_fc ⟨_, rfl, (mx_g1 170 rfl rfl), (mx_g1 171 rfl rfl), (mx_g1 8 rfl rfl)⟩ (mx_f0)))
set_option maxRecDepth 20000 in
theorem mx_new_o7 : ∀ e ∈ ((mx_newT[7]?).getD []), (fun (e : Nat × Nat) => ∃ q, mx_cls[e.2]? = some q ∧ Cond.classLink (mx_own 7) e.1 q.1 ∈ mx_GT ∧ Cond.instantiable q.1 q.2.2 ∈ mx_GT ∧ Cond.initialized q.1 ∈ mx_GT) e := mx_fc ⟨_, rfl, (mx_g1 93 rfl rfl), (mx_g1 94 rfl rfl), (mx_g1 5 rfl rfl)⟩ (mx_fc ⟨_, rfl, (mx_g1 139 rfl rfl), (mx_g1 141 rfl rfl), (mx_g1 6 rfl rfl)⟩ (mx_fc ⟨_, rfl, (mx_g2 3 rfl rfl), (mx_g2 4 rfl rfl), (mx_g1 9 rfl rfl)⟩ (mx_f0)))
set_option maxRecDepth 20000 in
theorem mx_new_o8 : ∀ e ∈ ((mx_newT[8]?).getD []), (fun (e : Nat × Nat) => ∃ q, mx_cls[e.2]? = some q ∧ Cond.classLink (mx_own 8) e.1 q.1 ∈ mx_GT ∧ Cond.instantiable q.1 q.2.2 ∈ mx_GT ∧ Cond.initialized q.1 ∈ mx_GT) e := mx_f0
set_option maxRecDepth 20000 in
theorem mx_new_o9 : ∀ e ∈ ((mx_newT[9]?).getD []), (fun (e : Nat × Nat) => ∃ q, mx_cls[e.2]? = some q ∧ Cond.classLink (mx_own 9) e.1 q.1 ∈ mx_GT ∧ Cond.instantiable q.1 q.2.2 ∈ mx_GT ∧ Cond.initialized q.1 ∈ mx_GT) e := mx_f0
set_option maxRecDepth 20000 in
theorem mx_new_o10 : ∀ e ∈ ((mx_newT[10]?).getD []), (fun (e : Nat × Nat) => ∃ q, mx_cls[e.2]? = some q ∧ Cond.classLink (mx_own 10) e.1 q.1 ∈ mx_GT ∧ Cond.instantiable q.1 q.2.2 ∈ mx_GT ∧ Cond.initialized q.1 ∈ mx_GT) e := mx_f0
set_option maxRecDepth 20000 in
theorem mx_new_o11 : ∀ e ∈ ((mx_newT[11]?).getD []), (fun (e : Nat × Nat) => ∃ q, mx_cls[e.2]? = some q ∧ Cond.classLink (mx_own 11) e.1 q.1 ∈ mx_GT ∧ Cond.instantiable q.1 q.2.2 ∈ mx_GT ∧ Cond.initialized q.1 ∈ mx_GT) e := mx_f0
set_option maxRecDepth 20000 in
theorem mx_new_o12 : ∀ e ∈ ((mx_newT[12]?).getD []), (fun (e : Nat × Nat) => ∃ q, mx_cls[e.2]? = some q ∧ Cond.classLink (mx_own 12) e.1 q.1 ∈ mx_GT ∧ Cond.instantiable q.1 q.2.2 ∈ mx_GT ∧ Cond.initialized q.1 ∈ mx_GT) e := mx_fc ⟨_, rfl, (mx_g1 14 rfl rfl), (mx_g1 15 rfl rfl), (mx_g1 1 rfl rfl)⟩ (mx_fc ⟨_, rfl, (mx_g4 74 rfl rfl), (mx_g4 75 rfl rfl), (mx_g1 12 rfl rfl)⟩ (mx_f0))
set_option maxRecDepth 20000 in
theorem mx_new_o13 : ∀ e ∈ ((mx_newT[13]?).getD []), (fun (e : Nat × Nat) => ∃ q, mx_cls[e.2]? = some q ∧ Cond.classLink (mx_own 13) e.1 q.1 ∈ mx_GT ∧ Cond.instantiable q.1 q.2.2 ∈ mx_GT ∧ Cond.initialized q.1 ∈ mx_GT) e := mx_f0
theorem mx_new_ok {own idx ci : Nat} (h : mx_new own idx = some ci) : ∃ q : vw_C, mx_cls[ci]? = some q ∧ Cond.classLink (mx_own own) idx q.1 ∈ mx_GT ∧ Cond.instantiable q.1 q.2.2 ∈ mx_GT ∧ Cond.initialized q.1 ∈ mx_GT := by
  have hm := mx_lk h
  match own, hm with
  | 0, hm => exact mx_new_o0 _ hm
  | 1, hm => exact mx_new_o1 _ hm
  | 2, hm => exact mx_new_o2 _ hm
  | 3, hm => exact mx_new_o3 _ hm
  | 4, hm => exact mx_new_o4 _ hm
  | 5, hm => exact mx_new_o5 _ hm
  | 6, hm => exact mx_new_o6 _ hm
  | 7, hm => exact mx_new_o7 _ hm
  | 8, hm => exact mx_new_o8 _ hm
  | 9, hm => exact mx_new_o9 _ hm
  | 10, hm => exact mx_new_o10 _ hm
  | 11, hm => exact mx_new_o11 _ hm
  | 12, hm => exact mx_new_o12 _ hm
  | 13, hm => exact mx_new_o13 _ hm
  | n + 14, hm => exact absurd hm (by simp [mx_newT])
def mx_anwT : List (List (Nat × String)) := [[],
  [],
  [],
  [],
  [(15, "PluginHall$Element")],
  [],
  [],
  [(18, "PluginHall$Plugin")],
  [],
  [],
  [],
  [],
  [],
  []]
def mx_anw (own idx : Nat) : Option (String) := ((mx_anwT[own]?).getD []).lookup idx
set_option maxRecDepth 20000 in
theorem mx_anw_o0 : ∀ e ∈ ((mx_anwT[0]?).getD []), (fun (e : Nat × String) => Cond.classLink (mx_own 0) e.1 e.2 ∈ mx_GT ∧ e.2 ∈ mx_ao) e := mx_f0
set_option maxRecDepth 20000 in
theorem mx_anw_o1 : ∀ e ∈ ((mx_anwT[1]?).getD []), (fun (e : Nat × String) => Cond.classLink (mx_own 1) e.1 e.2 ∈ mx_GT ∧ e.2 ∈ mx_ao) e := mx_f0
set_option maxRecDepth 20000 in
theorem mx_anw_o2 : ∀ e ∈ ((mx_anwT[2]?).getD []), (fun (e : Nat × String) => Cond.classLink (mx_own 2) e.1 e.2 ∈ mx_GT ∧ e.2 ∈ mx_ao) e := mx_f0
set_option maxRecDepth 20000 in
theorem mx_anw_o3 : ∀ e ∈ ((mx_anwT[3]?).getD []), (fun (e : Nat × String) => Cond.classLink (mx_own 3) e.1 e.2 ∈ mx_GT ∧ e.2 ∈ mx_ao) e := mx_f0
set_option maxRecDepth 20000 in
theorem mx_anw_o4 : ∀ e ∈ ((mx_anwT[4]?).getD []), (fun (e : Nat × String) => Cond.classLink (mx_own 4) e.1 e.2 ∈ mx_GT ∧ e.2 ∈ mx_ao) e := mx_fc ⟨(mx_g1 154 rfl rfl), List.mem_of_getElem? (i := 1) rfl⟩ (mx_f0)
set_option maxRecDepth 20000 in
theorem mx_anw_o5 : ∀ e ∈ ((mx_anwT[5]?).getD []), (fun (e : Nat × String) => Cond.classLink (mx_own 5) e.1 e.2 ∈ mx_GT ∧ e.2 ∈ mx_ao) e := mx_f0
set_option maxRecDepth 20000 in
theorem mx_anw_o6 : ∀ e ∈ ((mx_anwT[6]?).getD []), (fun (e : Nat × String) => Cond.classLink (mx_own 6) e.1 e.2 ∈ mx_GT ∧ e.2 ∈ mx_ao) e := mx_f0
set_option maxRecDepth 20000 in
theorem mx_anw_o7 : ∀ e ∈ ((mx_anwT[7]?).getD []), (fun (e : Nat × String) => Cond.classLink (mx_own 7) e.1 e.2 ∈ mx_GT ∧ e.2 ∈ mx_ao) e := mx_fc ⟨(mx_g1 139 rfl rfl), List.mem_of_getElem? (i := 0) rfl⟩ (mx_f0)
set_option maxRecDepth 20000 in
theorem mx_anw_o8 : ∀ e ∈ ((mx_anwT[8]?).getD []), (fun (e : Nat × String) => Cond.classLink (mx_own 8) e.1 e.2 ∈ mx_GT ∧ e.2 ∈ mx_ao) e := mx_f0
set_option maxRecDepth 20000 in
theorem mx_anw_o9 : ∀ e ∈ ((mx_anwT[9]?).getD []), (fun (e : Nat × String) => Cond.classLink (mx_own 9) e.1 e.2 ∈ mx_GT ∧ e.2 ∈ mx_ao) e := mx_f0
set_option maxRecDepth 20000 in
theorem mx_anw_o10 : ∀ e ∈ ((mx_anwT[10]?).getD []), (fun (e : Nat × String) => Cond.classLink (mx_own 10) e.1 e.2 ∈ mx_GT ∧ e.2 ∈ mx_ao) e := mx_f0
set_option maxRecDepth 20000 in
theorem mx_anw_o11 : ∀ e ∈ ((mx_anwT[11]?).getD []), (fun (e : Nat × String) => Cond.classLink (mx_own 11) e.1 e.2 ∈ mx_GT ∧ e.2 ∈ mx_ao) e := mx_f0
set_option maxRecDepth 20000 in
theorem mx_anw_o12 : ∀ e ∈ ((mx_anwT[12]?).getD []), (fun (e : Nat × String) => Cond.classLink (mx_own 12) e.1 e.2 ∈ mx_GT ∧ e.2 ∈ mx_ao) e := mx_f0
set_option maxRecDepth 20000 in
theorem mx_anw_o13 : ∀ e ∈ ((mx_anwT[13]?).getD []), (fun (e : Nat × String) => Cond.classLink (mx_own 13) e.1 e.2 ∈ mx_GT ∧ e.2 ∈ mx_ao) e := mx_f0
theorem mx_anw_ok {own idx : Nat} {C : String} (h : mx_anw own idx = some C) : Cond.classLink (mx_own own) idx C ∈ mx_GT ∧ C ∈ mx_ao := by
  have hm := mx_lk h
  match own, hm with
  | 0, hm => exact mx_anw_o0 _ hm
  | 1, hm => exact mx_anw_o1 _ hm
  | 2, hm => exact mx_anw_o2 _ hm
  | 3, hm => exact mx_anw_o3 _ hm
  | 4, hm => exact mx_anw_o4 _ hm
  | 5, hm => exact mx_anw_o5 _ hm
  | 6, hm => exact mx_anw_o6 _ hm
  | 7, hm => exact mx_anw_o7 _ hm
  | 8, hm => exact mx_anw_o8 _ hm
  | 9, hm => exact mx_anw_o9 _ hm
  | 10, hm => exact mx_anw_o10 _ hm
  | 11, hm => exact mx_anw_o11 _ hm
  | 12, hm => exact mx_anw_o12 _ hm
  | 13, hm => exact mx_anw_o13 _ hm
  | n + 14, hm => exact absurd hm (by simp [mx_anwT])
abbrev mx_Row : Type := MethodName × ByteArray × Nat × Option FieldType × Nat × Nat × Bool × Bool
def mx_mt0 : List mx_Row := [(⟨"PluginHall", "<init>", "()V"⟩, prog_1_method_1_code, 1, none, 0, 0, false, true),
  (⟨"PluginHall", "text", "(J)I"⟩, prog_1_method_2_code, 3, (some .int), 0, 1, false, false),
  (⟨"PluginHall", "octet", "(JI)I"⟩, prog_1_method_26_code, 3, (some .int), 0, 2, true, false),
  (⟨"PluginHall", "need", "(III)I"⟩, prog_1_method_3_code, 4, (some .int), 0, 3, false, false),
  (⟨"PluginHall", "isPlugin", "(I)Z"⟩, prog_1_method_23_code, 1, (some .boolean), 0, 1, true, false),
  (⟨"PluginHall", "provide", "(JI)I"⟩, prog_1_method_4_code, 4, (some .int), 0, 2, false, false),
  (⟨"PluginHall", "isWord", "(J)Z"⟩, prog_1_method_29_code, 3, (some .boolean), 0, 1, true, false),
  (⟨"PluginHall", "isWordLetter", "(I)Z"⟩, prog_1_method_28_code, 1, (some .boolean), 0, 1, true, false),
  (⟨"PluginHall", "isNameLetter", "(I)Z"⟩, prog_1_method_27_code, 1, (some .boolean), 0, 1, true, false),
  (⟨"PluginHall", "starter", "(IJ)Z"⟩, prog_1_method_5_code, 4, (some .boolean), 0, 2, false, false),
  (⟨"PluginHall", "clear", "()I"⟩, prog_1_method_6_code, 2, (some .int), 0, 0, false, false),
  (⟨"PluginHall", "add", "(II)I"⟩, prog_1_method_7_code, 4, (some .int), 0, 2, false, false),
  (⟨"PluginHall", "refresh", "()I"⟩, prog_1_method_22_code, 2, (some .int), 0, 0, false, false),
  (⟨"PluginHall", "remove", "(I)I"⟩, prog_1_method_8_code, 2, (some .int), 0, 1, false, false),
  (⟨"PluginHall", "plugin", "(II)I"⟩, prog_1_method_9_code, 4, (some .int), 0, 2, false, false),
  (⟨"PluginHall", "extensions", "(J)I"⟩, prog_1_method_10_code, 3, (some .int), 0, 1, false, false)]
def mx_mt1 : List mx_Row := [(⟨"PluginHall", "extension", "(JI)I"⟩, prog_1_method_11_code, 4, (some .int), 0, 2, false, false),
  (⟨"PluginHall", "element", "(II)I"⟩, prog_1_method_12_code, 4, (some .int), 0, 2, false, false),
  (⟨"PluginHall", "handleBeside", "(II)I"⟩, prog_1_method_24_code, 2, (some .int), 0, 2, true, false),
  (⟨"PluginHall", "name", "(I)J"⟩, prog_1_method_13_code, 2, (some .long), 0, 1, false, false),
  (⟨"PluginHall", "child", "(II)I"⟩, prog_1_method_14_code, 4, (some .int), 0, 2, false, false),
  (⟨"PluginHall", "attribute", "(IJ)J"⟩, prog_1_method_15_code, 4, (some .long), 0, 2, false, false),
  (⟨"PluginHall", "create", "(IJ)I"⟩, prog_1_method_16_code, 8, (some .int), 0, 2, false, false),
  (⟨"PluginHall", "object", "(II)I"⟩, prog_1_method_17_code, 3, (some .int), 0, 2, false, false),
  (⟨"PluginHall", "event", "(I)I"⟩, prog_1_method_18_code, 2, (some .int), 0, 1, false, false),
  (⟨"PluginHall", "shutdown", "()I"⟩, prog_1_method_19_code, 1, (some .int), 0, 0, false, false),
  (⟨"PluginHall", "stopped", "(I)I"⟩, prog_1_method_20_code, 2, (some .int), 0, 1, false, false),
  (⟨"PluginHall", "count", "(I)I"⟩, prog_1_method_21_code, 2, (some .int), 0, 1, false, false),
  (⟨"PluginHall", "countTrue", "([Z)I"⟩, prog_1_method_25_code, 6, (some .int), 0, 1, true, false),
  (⟨"PluginHall$Draft", "<init>", "()V"⟩, prog_2_method_1_code, 1, none, 1, 0, false, true),
  (⟨"PluginHall$Draft", "append", "(J)I"⟩, prog_2_method_2_code, 5, (some .int), 1, 1, false, false),
  (⟨"PluginHall$Draft", "lettersIn", "(J)I"⟩, prog_2_method_4_code, 3, (some .int), 1, 1, true, false)]
def mx_mt2 : List mx_Row := [(⟨"PluginHall$Draft", "empty", "()V"⟩, prog_2_method_3_code, 1, none, 1, 0, false, false),
  (⟨"PluginHall$Wiring", "<init>", "()V"⟩, prog_11_method_1_code, 1, none, 2, 0, false, true),
  (⟨"PluginHall$Wiring", "addNeed", "(III)I"⟩, prog_11_method_3_code, 4, (some .int), 2, 3, false, false),
  (⟨"PluginHall$Wiring", "addClass", "(JI)I"⟩, prog_11_method_4_code, 4, (some .int), 2, 2, false, false),
  (⟨"PluginHall$Wiring", "setStarter", "(IJ)V"⟩, prog_11_method_5_code, 4, none, 2, 2, false, false),
  (⟨"PluginHall$Wiring", "reset", "()V"⟩, prog_11_method_2_code, 1, none, 2, 0, false, false),
  (⟨"PluginHall$Wiring", "takeFrom", "(LPluginHall$Wiring;)V"⟩, prog_11_method_6_code, 3, none, 2, 1, false, false),
  (⟨"PluginHall$Wiring", "firstClass", "(J)I"⟩, prog_11_method_8_code, 4, (some .int), 2, 1, false, false),
  (⟨"PluginHall$Wiring", "needsPlugin", "(I)Z"⟩, prog_11_method_7_code, 3, (some .boolean), 2, 1, false, false),
  (⟨"PluginHall$Element", "<init>", "()V"⟩, prog_3_method_1_code, 1, none, 3, 0, false, true),
  (⟨"PluginHall$Element", "beginIn", "(LPluginHall$Element;I)V"⟩, prog_3_method_2_code, 3, none, 3, 2, false, false),
  (⟨"PluginHall$Element", "takesAttribute", "()Z"⟩, prog_3_method_3_code, 1, (some .boolean), 3, 0, false, false),
  (⟨"PluginHall$Element", "has", "(J)Z"⟩, prog_3_method_5_code, 3, (some .boolean), 3, 1, false, false),
  (⟨"PluginHall$Element", "valueOf", "(J)J"⟩, prog_3_method_6_code, 4, (some .long), 3, 1, false, false),
  (⟨"PluginHall$Element", "addAttribute", "(JJ)V"⟩, prog_3_method_4_code, 5, none, 3, 2, false, false),
  (⟨"PluginHall$Tree", "<init>", "(LPluginHall$Element;)V"⟩, prog_10_method_1_code, 3, none, 4, 1, false, true)]
def mx_mt3 : List mx_Row := [(⟨"PluginHall$Tree", "cut", "()V"⟩, prog_10_method_2_code, 1, none, 4, 0, false, false),
  (⟨"PluginHall$Tree", "hasRoom", "()Z"⟩, prog_10_method_3_code, 1, (some .boolean), 4, 0, false, false),
  (⟨"PluginHall$Tree", "beginIn", "(LPluginHall$Element;)LPluginHall$Element;"⟩, prog_10_method_5_code, 3, (some (.object "PluginHall$Element")), 4, 1, false, false),
  (⟨"PluginHall$Tree", "at", "(I)LPluginHall$Element;"⟩, prog_10_method_4_code, 2, (some (.object "PluginHall$Element")), 4, 1, false, false),
  (⟨"PluginHall$Tree", "childrenOf", "(I)I"⟩, prog_10_method_6_code, 4, (some .int), 4, 1, false, false),
  (⟨"PluginHall$Tree", "childOf", "(II)I"⟩, prog_10_method_7_code, 5, (some .int), 4, 2, false, false),
  (⟨"PluginHall$Reader", "<init>", "(LPluginHall$Tree;)V"⟩, prog_8_method_1_code, 2, none, 5, 1, false, true),
  (⟨"PluginHall$Reader", "faultPlaceIn", "([BI)I"⟩, prog_8_method_2_code, 4, (some .int), 5, 2, false, false),
  (⟨"PluginHall$Reader", "reads", "(I)Z"⟩, prog_8_method_3_code, 2, (some .boolean), 5, 1, false, false),
  (⟨"PluginHall$Reader", "readsBetween", "(I)Z"⟩, prog_8_method_8_code, 2, (some .boolean), 5, 1, false, false),
  (⟨"PluginHall$Reader", "goTo", "(I)Z"⟩, prog_8_method_4_code, 2, (some .boolean), 5, 1, false, false),
  (⟨"PluginHall$Reader", "isSpace", "(I)Z"⟩, prog_8_method_17_code, 1, (some .boolean), 5, 1, true, false),
  (⟨"PluginHall$Reader", "readsOpened", "(I)Z"⟩, prog_8_method_9_code, 2, (some .boolean), 5, 1, false, false),
  (⟨"PluginHall$Reader", "beginWord", "(I)Z"⟩, prog_8_method_5_code, 2, (some .boolean), 5, 1, false, false),
  (⟨"PluginHall$Reader", "readsTagName", "(I)Z"⟩, prog_8_method_10_code, 3, (some .boolean), 5, 1, false, false),
  (⟨"PluginHall$Reader", "readsTagEnd", "(I)Z"⟩, prog_8_method_12_code, 2, (some .boolean), 5, 1, false, false)]
def mx_mt4 : List mx_Row := [(⟨"PluginHall$Reader", "appendToWord", "(I)Z"⟩, prog_8_method_6_code, 2, (some .boolean), 5, 1, false, false),
  (⟨"PluginHall$Reader", "readsTagSpaces", "(I)Z"⟩, prog_8_method_11_code, 2, (some .boolean), 5, 1, false, false),
  (⟨"PluginHall$Reader", "readsAttributeName", "(I)Z"⟩, prog_8_method_13_code, 2, (some .boolean), 5, 1, false, false),
  (⟨"PluginHall$Reader", "readsValue", "(I)Z"⟩, prog_8_method_14_code, 2, (some .boolean), 5, 1, false, false),
  (⟨"PluginHall$Reader", "close", "()Z"⟩, prog_8_method_7_code, 1, (some .boolean), 5, 0, false, false),
  (⟨"PluginHall$Reader", "readsClosingName", "(I)Z"⟩, prog_8_method_15_code, 2, (some .boolean), 5, 1, false, false),
  (⟨"PluginHall$Reader", "readsClosingEnd", "(I)Z"⟩, prog_8_method_16_code, 2, (some .boolean), 5, 1, false, false),
  (⟨"PluginHall$Plugin", "<init>", "(LPluginHall$Element;)V"⟩, prog_7_method_1_code, 2, none, 6, 1, false, true),
  (⟨"PluginHall$Plugin", "install", "(LPluginHall$Draft;I)V"⟩, prog_7_method_2_code, 3, none, 6, 2, false, false),
  (⟨"PluginHall$Plugin", "lineAt", "([BI)I"⟩, prog_7_method_6_code, 4, (some .int), 6, 2, true, false),
  (⟨"PluginHall$Plugin", "faults", "()I"⟩, prog_7_method_5_code, 1, (some .int), 6, 0, false, false),
  (⟨"PluginHall$Plugin", "uninstall", "()V"⟩, prog_7_method_3_code, 1, none, 6, 0, false, false),
  (⟨"PluginHall$Plugin", "standing", "()I"⟩, prog_7_method_4_code, 1, (some .int), 6, 0, false, false),
  (⟨"PluginHall$House", "<init>", "()V"⟩, prog_5_method_1_code, 2, none, 7, 0, false, true),
  (⟨"PluginHall$House", "resolve", "()V"⟩, prog_5_method_6_code, 5, none, 7, 0, false, false),
  (⟨"PluginHall$House", "firstUnmet", "(I)I"⟩, prog_5_method_7_code, 5, (some .int), 7, 1, false, false)]
def mx_mt5 : List mx_Row := [(⟨"PluginHall$House", "at", "(I)LPluginHall$Element;"⟩, prog_5_method_2_code, 2, (some (.object "PluginHall$Element")), 7, 1, false, false),
  (⟨"PluginHall$House", "treeOf", "(I)LPluginHall$Tree;"⟩, prog_5_method_4_code, 2, (some (.object "PluginHall$Tree")), 7, 1, false, false),
  (⟨"PluginHall$House", "stopIfActive", "(I)V"⟩, prog_5_method_15_code, 2, none, 7, 1, false, false),
  (⟨"PluginHall$House", "stopUnresolved", "()V"⟩, prog_5_method_16_code, 2, none, 7, 0, false, false),
  (⟨"PluginHall$House", "isHandle", "(I)Z"⟩, prog_5_method_3_code, 2, (some .boolean), 7, 1, false, false),
  (⟨"PluginHall$House", "lookFor", "(IJ)I"⟩, prog_5_method_8_code, 7, (some .int), 7, 2, false, false),
  (⟨"PluginHall$House", "classIn", "(IJ)I"⟩, prog_5_method_9_code, 5, (some .int), 7, 2, false, false),
  (⟨"PluginHall$House", "wakesFor", "(II)Z"⟩, prog_5_method_12_code, 3, (some .boolean), 7, 2, false, false),
  (⟨"PluginHall$House", "kindOf", "(I)I"⟩, prog_5_method_11_code, 2, (some .int), 7, 1, false, false),
  (⟨"PluginHall$House", "ownerOf", "(I)I"⟩, prog_5_method_10_code, 1, (some .int), 7, 1, true, false),
  (⟨"PluginHall$House", "wakes", "(II)Z"⟩, prog_5_method_13_code, 4, (some .boolean), 7, 2, false, false),
  (⟨"PluginHall$House", "starterDoesWell", "(II)Z"⟩, prog_5_method_14_code, 5, (some .boolean), 7, 2, false, false),
  (⟨"PluginHall$House", "stopAll", "()I"⟩, prog_5_method_17_code, 4, (some .int), 7, 0, false, false),
  (⟨"PluginHall$House", "nextToStop", "()I"⟩, prog_5_method_18_code, 3, (some .int), 7, 0, false, false),
  (⟨"PluginHall$House", "isNeededByOthers", "(I)Z"⟩, prog_5_method_19_code, 3, (some .boolean), 7, 1, false, false),
  (⟨"PluginHall$House", "standingAtLeast", "(I)I"⟩, prog_5_method_5_code, 7, (some .int), 7, 1, false, false)]
def mx_mt6 : List mx_Row := [(⟨"PluginHall$Shelf", "<init>", "(LPluginHall$House;)V"⟩, prog_9_method_1_code, 2, none, 8, 1, false, true),
  (⟨"PluginHall$Shelf", "refresh", "(LPluginHall$History;)I"⟩, prog_9_method_6_code, 3, (some .int), 8, 1, false, false),
  (⟨"PluginHall$Shelf", "markPoints", "()V"⟩, prog_9_method_7_code, 4, none, 8, 0, false, false),
  (⟨"PluginHall$Shelf", "isResolvedOutermost", "(IJ)Z"⟩, prog_9_method_8_code, 5, (some .boolean), 8, 2, false, false),
  (⟨"PluginHall$Shelf", "pointOf", "(J)I"⟩, prog_9_method_2_code, 4, (some .int), 8, 1, false, false),
  (⟨"PluginHall$Shelf", "fitsItsPoint", "(I)Z"⟩, prog_9_method_9_code, 5, (some .boolean), 8, 1, false, false),
  (⟨"PluginHall$Shelf", "hasItems", "(I)Z"⟩, prog_9_method_10_code, 4, (some .boolean), 8, 1, false, false),
  (⟨"PluginHall$Shelf", "isItemOf", "(LPluginHall$Element;I)Z"⟩, prog_9_method_12_code, 2, (some .boolean), 8, 2, true, false),
  (⟨"PluginHall$Shelf", "fitsAnItem", "(LPluginHall$Element;I)Z"⟩, prog_9_method_11_code, 8, (some .boolean), 8, 2, false, false),
  (⟨"PluginHall$Shelf", "tell", "(LPluginHall$History;)I"⟩, prog_9_method_13_code, 4, (some .int), 8, 1, false, false),
  (⟨"PluginHall$Shelf", "extensionsOf", "(J)I"⟩, prog_9_method_3_code, 5, (some .int), 8, 1, false, false),
  (⟨"PluginHall$Shelf", "extensionOf", "(JI)I"⟩, prog_9_method_4_code, 6, (some .int), 8, 2, false, false),
  (⟨"PluginHall$Shelf", "isWithinExtension", "(I)Z"⟩, prog_9_method_5_code, 2, (some .boolean), 8, 1, false, false),
  (⟨"PluginHall$Made", "<init>", "()V"⟩, prog_6_method_1_code, 1, none, 9, 0, false, true),
  (⟨"PluginHall$Made", "dropOutside", "([Z)V"⟩, prog_6_method_3_code, 3, none, 9, 1, false, false),
  (⟨"PluginHall$Made", "make", "(III)I"⟩, prog_6_method_2_code, 4, (some .int), 9, 3, false, false)]
def mx_mt7 : List mx_Row := [(⟨"PluginHall$Made", "kept", "()I"⟩, prog_6_method_4_code, 1, (some .int), 9, 0, false, false),
  (⟨"PluginHall$History", "<init>", "(I)V"⟩, prog_4_method_1_code, 2, none, 10, 1, false, true),
  (⟨"PluginHall$History", "note", "(I)V"⟩, prog_4_method_2_code, 2, none, 10, 1, false, false),
  (⟨"PluginHall$History", "before", "(I)I"⟩, prog_4_method_3_code, 2, (some .int), 10, 1, false, false),
  (⟨"PluginHallModel", "<init>", "()V"⟩, prog_13_method_1_code, 1, none, 11, 0, false, true),
  (⟨"PluginHallModel", "text", "(J)I"⟩, prog_13_method_6_code, 5, (some .int), 11, 1, false, false),
  (⟨"PluginHallModel", "letter", "(JI)I"⟩, prog_13_method_3_code, 3, (some .int), 11, 2, true, false),
  (⟨"PluginHallModel", "need", "(III)I"⟩, prog_13_method_7_code, 5, (some .int), 11, 3, false, false),
  (⟨"PluginHallModel", "is", "(III)Z"⟩, prog_13_method_2_code, 3, (some .boolean), 11, 3, true, false),
  (⟨"PluginHallModel", "provide", "(JI)I"⟩, prog_13_method_8_code, 4, (some .int), 11, 2, false, false),
  (⟨"PluginHallModel", "isWord", "(J)Z"⟩, prog_13_method_5_code, 3, (some .boolean), 11, 1, true, false),
  (⟨"PluginHallModel", "isSign", "(I)Z"⟩, prog_13_method_4_code, 1, (some .boolean), 11, 1, true, false),
  (⟨"PluginHallModel", "starter", "(IJ)Z"⟩, prog_13_method_9_code, 4, (some .boolean), 11, 2, false, false),
  (⟨"PluginHallModel", "clear", "()I"⟩, prog_13_method_10_code, 2, (some .int), 11, 0, false, false),
  (⟨"PluginHallModel", "add", "(II)I"⟩, prog_13_method_31_code, 4, (some .int), 11, 2, false, false),
  (⟨"PluginHallModel", "read", "(I)I"⟩, prog_13_method_12_code, 3, (some .int), 11, 1, false, false)]
def mx_mt8 : List mx_Row := [(⟨"PluginHallModel", "go", "(II)Z"⟩, prog_13_method_13_code, 5, (some .boolean), 11, 2, false, false),
  (⟨"PluginHallModel", "begin", "(II)Z"⟩, prog_13_method_14_code, 4, (some .boolean), 11, 2, false, false),
  (⟨"PluginHallModel", "tag", "(IZ)Z"⟩, prog_13_method_15_code, 3, (some .boolean), 11, 2, false, false),
  (⟨"PluginHallModel", "attributeBegins", "(I)Z"⟩, prog_13_method_16_code, 3, (some .boolean), 11, 1, false, false),
  (⟨"PluginHallModel", "attributeGoes", "(IZ)Z"⟩, prog_13_method_17_code, 5, (some .boolean), 11, 2, false, false),
  (⟨"PluginHallModel", "isTaken", "(IJ)Z"⟩, prog_13_method_11_code, 5, (some .boolean), 11, 2, false, false),
  (⟨"PluginHallModel", "change", "()I"⟩, prog_13_method_29_code, 3, (some .int), 11, 0, false, false),
  (⟨"PluginHallModel", "resolve", "()V"⟩, prog_13_method_20_code, 3, none, 11, 0, false, false),
  (⟨"PluginHallModel", "unmet", "(I)I"⟩, prog_13_method_19_code, 3, (some .int), 11, 1, false, false),
  (⟨"PluginHallModel", "isMet", "(II)Z"⟩, prog_13_method_18_code, 4, (some .boolean), 11, 2, false, false),
  (⟨"PluginHallModel", "isExtension", "(I)Z"⟩, prog_13_method_27_code, 5, (some .boolean), 11, 1, false, false),
  (⟨"PluginHallModel", "isTop", "(IJ)Z"⟩, prog_13_method_23_code, 4, (some .boolean), 11, 2, false, false),
  (⟨"PluginHallModel", "isElement", "(I)Z"⟩, prog_13_method_21_code, 2, (some .boolean), 11, 1, false, false),
  (⟨"PluginHallModel", "valueOf", "(IJ)J"⟩, prog_13_method_22_code, 5, (some .long), 11, 2, false, false),
  (⟨"PluginHallModel", "pointOf", "(J)I"⟩, prog_13_method_24_code, 4, (some .int), 11, 1, false, false),
  (⟨"PluginHallModel", "isItem", "(II)Z"⟩, prog_13_method_25_code, 3, (some .boolean), 11, 2, false, false)]
def mx_mt9 : List mx_Row := [(⟨"PluginHallModel", "suits", "(II)Z"⟩, prog_13_method_26_code, 6, (some .boolean), 11, 2, false, false),
  (⟨"PluginHallModel", "tell", "(I)V"⟩, prog_13_method_30_code, 3, none, 11, 1, false, false),
  (⟨"PluginHallModel", "remove", "(I)I"⟩, prog_13_method_33_code, 4, (some .int), 11, 1, false, false),
  (⟨"PluginHallModel", "stop", "(I)V"⟩, prog_13_method_32_code, 3, none, 11, 1, false, false),
  (⟨"PluginHallModel", "shutdown", "()I"⟩, prog_13_method_34_code, 3, (some .int), 11, 0, false, false),
  (⟨"PluginHallModel", "nextToStop", "()I"⟩, prog_13_method_35_code, 7, (some .int), 11, 0, false, false),
  (⟨"PluginHallModel", "create", "(IJ)I"⟩, prog_13_method_38_code, 9, (some .int), 11, 2, false, false),
  (⟨"PluginHallModel", "topOf", "(I)I"⟩, prog_13_method_28_code, 3, (some .int), 11, 1, false, false),
  (⟨"PluginHallModel", "lookFor", "(IJ)I"⟩, prog_13_method_36_code, 7, (some .int), 11, 2, false, false),
  (⟨"PluginHallModel", "wake", "(I)Z"⟩, prog_13_method_37_code, 8, (some .boolean), 11, 1, false, false),
  (⟨"PluginHallModel", "plugin", "(II)I"⟩, prog_13_method_39_code, 3, (some .int), 11, 2, false, false),
  (⟨"PluginHallModel", "extensions", "(J)I"⟩, prog_13_method_40_code, 5, (some .int), 11, 1, false, false),
  (⟨"PluginHallModel", "extension", "(JI)I"⟩, prog_13_method_41_code, 6, (some .int), 11, 2, false, false),
  (⟨"PluginHallModel", "element", "(II)I"⟩, prog_13_method_43_code, 3, (some .int), 11, 2, false, false),
  (⟨"PluginHallModel", "children", "(I)I"⟩, prog_13_method_42_code, 4, (some .int), 11, 1, false, false),
  (⟨"PluginHallModel", "name", "(I)J"⟩, prog_13_method_44_code, 2, (some .long), 11, 1, false, false)]
def mx_mt10 : List mx_Row := [(⟨"PluginHallModel", "child", "(II)I"⟩, prog_13_method_45_code, 5, (some .int), 11, 2, false, false),
  (⟨"PluginHallModel", "attribute", "(IJ)J"⟩, prog_13_method_46_code, 4, (some .long), 11, 2, false, false),
  (⟨"PluginHallModel", "object", "(II)I"⟩, prog_13_method_47_code, 3, (some .int), 11, 2, false, false),
  (⟨"PluginHallModel", "event", "(I)I"⟩, prog_13_method_48_code, 2, (some .int), 11, 1, false, false),
  (⟨"PluginHallModel", "stopped", "(I)I"⟩, prog_13_method_49_code, 2, (some .int), 11, 1, false, false),
  (⟨"PluginHallModel", "count", "(I)I"⟩, prog_13_method_50_code, 4, (some .int), 11, 1, false, false),
  (⟨"java/lang/Math", "floorMod", "(II)I"⟩, prog_14_method_50_code, 3, (some .int), 13, 2, true, false),
  (⟨"java/lang/Math", "max", "(II)I"⟩, prog_14_method_65_code, 2, (some .int), 13, 2, true, false),
  (⟨"PluginHallLaw", "law", "([I)Z"⟩, code, 4, (some .boolean), 12, 1, true, false)]
def mx_mt : List (List mx_Row) := [mx_mt0, mx_mt1, mx_mt2, mx_mt3, mx_mt4, mx_mt5, mx_mt6, mx_mt7, mx_mt8, mx_mt9, mx_mt10]
def mx_row (y : Nat) : mx_Row := mx_ix mx_mt y (⟨"", "", ""⟩, ⟨#[]⟩, 0, none, 99, 0, false, false)
def mx_my (y : Nat) : MethodName := (mx_row y).1
def mx_mb (y : Nat) : ByteArray := (mx_row y).2.1
def mx_mL (y : Nat) : Nat := (mx_row y).2.2.1
def mx_mr (y : Nat) : Option FieldType := (mx_row y).2.2.2.1
def mx_mc (y : Nat) : Nat := (mx_row y).2.2.2.2.1
def mx_mn (y : Nat) : Nat := (mx_row y).2.2.2.2.2.1
def mx_ms (y : Nat) : Bool := (mx_row y).2.2.2.2.2.2.1
def mx_mi (y : Nat) : Bool := (mx_row y).2.2.2.2.2.2.2
def mx_NM : Nat := 168
def mx_MP (y : Nat) : Prop := Cond.code (mx_my y) (mx_mb y) (mx_mL y) (mx_mr y) ∈ mx_GT ∧ plainFor (mx_my y) = true ∧ ((mx_my y).cls ≠ "java/lang/invoke/MethodHandle" ∧ (mx_my y).cls ≠ "java/lang/invoke/VarHandle") ∧ (parseMethodDescriptor (mx_my y).desc).map (fun d => d.parameters.length) = some (mx_mn y) ∧ (mx_ms y = true → Cond.static (mx_my y) ∈ mx_GT) ∧ (mx_ms y = false → Cond.instanceMethod (mx_my y) ∈ mx_GT) ∧ (mx_ms y = false → mx_mi y = false → Cond.selects (mx_my y).cls (mx_my y) (mx_my y) ∈ mx_GT) ∧ (mx_mi y = true → (mx_my y).name = "<init>") ∧ mx_own (mx_mc y) = (mx_my y).cls ∧ mx_mL y ≤ 45 ∧ (mx_ms y = false → ∃ q, mx_cls[mx_mc y]? = some q)
set_option maxRecDepth 20000 in
theorem mx_mo0 : mx_MP 0 := ⟨(mx_g1 18 rfl rfl), by decide +kernel, by decide +kernel, by decide +kernel, (fun h => by cases h), fun _ => (mx_g1 17 rfl rfl), (fun _ h => by cases h), fun _ => rfl, rfl, by decide, fun _ => ⟨_, rfl⟩⟩
set_option maxRecDepth 20000 in
theorem mx_mo1 : mx_MP 1 := ⟨(mx_g2 104 rfl rfl), by decide +kernel, by decide +kernel, by decide +kernel, (fun h => by cases h), fun _ => (mx_g2 102 rfl rfl), (fun _ _ => (mx_g2 103 rfl rfl)), (fun h => by cases h), rfl, by decide, fun _ => ⟨_, rfl⟩⟩
set_option maxRecDepth 20000 in
theorem mx_mo2 : mx_MP 2 := ⟨(mx_g2 114 rfl rfl), by decide +kernel, by decide +kernel, by decide +kernel, fun _ => (mx_g2 113 rfl rfl), (fun h => by cases h), (fun h => by cases h), (fun h => by cases h), rfl, by decide, (fun h => by cases h)⟩
set_option maxRecDepth 20000 in
theorem mx_mo3 : mx_MP 3 := ⟨(mx_g2 118 rfl rfl), by decide +kernel, by decide +kernel, by decide +kernel, (fun h => by cases h), fun _ => (mx_g2 116 rfl rfl), (fun _ _ => (mx_g2 117 rfl rfl)), (fun h => by cases h), rfl, by decide, fun _ => ⟨_, rfl⟩⟩
set_option maxRecDepth 20000 in
theorem mx_mo4 : mx_MP 4 := ⟨(mx_g2 121 rfl rfl), by decide +kernel, by decide +kernel, by decide +kernel, fun _ => (mx_g2 120 rfl rfl), (fun h => by cases h), (fun h => by cases h), (fun h => by cases h), rfl, by decide, (fun h => by cases h)⟩
set_option maxRecDepth 20000 in
theorem mx_mo5 : mx_MP 5 := ⟨(mx_g2 129 rfl rfl), by decide +kernel, by decide +kernel, by decide +kernel, (fun h => by cases h), fun _ => (mx_g2 127 rfl rfl), (fun _ _ => (mx_g2 128 rfl rfl)), (fun h => by cases h), rfl, by decide, fun _ => ⟨_, rfl⟩⟩
set_option maxRecDepth 20000 in
theorem mx_mo6 : mx_MP 6 := ⟨(mx_g2 132 rfl rfl), by decide +kernel, by decide +kernel, by decide +kernel, fun _ => (mx_g2 131 rfl rfl), (fun h => by cases h), (fun h => by cases h), (fun h => by cases h), rfl, by decide, (fun h => by cases h)⟩
set_option maxRecDepth 20000 in
theorem mx_mo7 : mx_MP 7 := ⟨(mx_g2 136 rfl rfl), by decide +kernel, by decide +kernel, by decide +kernel, fun _ => (mx_g2 135 rfl rfl), (fun h => by cases h), (fun h => by cases h), (fun h => by cases h), rfl, by decide, (fun h => by cases h)⟩
set_option maxRecDepth 20000 in
theorem mx_mo8 : mx_MP 8 := ⟨(mx_g2 139 rfl rfl), by decide +kernel, by decide +kernel, by decide +kernel, fun _ => (mx_g2 138 rfl rfl), (fun h => by cases h), (fun h => by cases h), (fun h => by cases h), rfl, by decide, (fun h => by cases h)⟩
set_option maxRecDepth 20000 in
theorem mx_mo9 : mx_MP 9 := ⟨(mx_g2 147 rfl rfl), by decide +kernel, by decide +kernel, by decide +kernel, (fun h => by cases h), fun _ => (mx_g2 145 rfl rfl), (fun _ _ => (mx_g2 146 rfl rfl)), (fun h => by cases h), rfl, by decide, fun _ => ⟨_, rfl⟩⟩
set_option maxRecDepth 20000 in
theorem mx_mo10 : mx_MP 10 := ⟨(mx_g2 155 rfl rfl), by decide +kernel, by decide +kernel, by decide +kernel, (fun h => by cases h), fun _ => (mx_g2 153 rfl rfl), (fun _ _ => (mx_g2 154 rfl rfl)), (fun h => by cases h), rfl, by decide, fun _ => ⟨_, rfl⟩⟩
set_option maxRecDepth 20000 in
theorem mx_mo11 : mx_MP 11 := ⟨(mx_g2 168 rfl rfl), by decide +kernel, by decide +kernel, by decide +kernel, (fun h => by cases h), fun _ => (mx_g2 166 rfl rfl), (fun _ _ => (mx_g2 167 rfl rfl)), (fun h => by cases h), rfl, by decide, fun _ => ⟨_, rfl⟩⟩
set_option maxRecDepth 20000 in
theorem mx_mo12 : mx_MP 12 := ⟨(mx_g3 60 rfl rfl), by decide +kernel, by decide +kernel, by decide +kernel, (fun h => by cases h), fun _ => (mx_g3 59 rfl rfl), (fun _ _ => mx_g0 (n := 5) 14 rfl), (fun h => by cases h), rfl, by decide, fun _ => ⟨_, rfl⟩⟩
set_option maxRecDepth 20000 in
theorem mx_mo13 : mx_MP 13 := ⟨(mx_g3 130 rfl rfl), by decide +kernel, by decide +kernel, by decide +kernel, (fun h => by cases h), fun _ => (mx_g3 128 rfl rfl), (fun _ _ => (mx_g3 129 rfl rfl)), (fun h => by cases h), rfl, by decide, fun _ => ⟨_, rfl⟩⟩
set_option maxRecDepth 20000 in
theorem mx_mo14 : mx_MP 14 := ⟨(mx_g3 148 rfl rfl), by decide +kernel, by decide +kernel, by decide +kernel, (fun h => by cases h), fun _ => (mx_g3 146 rfl rfl), (fun _ _ => (mx_g3 147 rfl rfl)), (fun h => by cases h), rfl, by decide, fun _ => ⟨_, rfl⟩⟩
set_option maxRecDepth 20000 in
theorem mx_mo15 : mx_MP 15 := ⟨(mx_g3 157 rfl rfl), by decide +kernel, by decide +kernel, by decide +kernel, (fun h => by cases h), fun _ => (mx_g3 155 rfl rfl), (fun _ _ => (mx_g3 156 rfl rfl)), (fun h => by cases h), rfl, by decide, fun _ => ⟨_, rfl⟩⟩
set_option maxRecDepth 20000 in
theorem mx_mo16 : mx_MP 16 := ⟨(mx_g3 166 rfl rfl), by decide +kernel, by decide +kernel, by decide +kernel, (fun h => by cases h), fun _ => (mx_g3 164 rfl rfl), (fun _ _ => (mx_g3 165 rfl rfl)), (fun h => by cases h), rfl, by decide, fun _ => ⟨_, rfl⟩⟩
set_option maxRecDepth 20000 in
theorem mx_mo17 : mx_MP 17 := ⟨(mx_g3 174 rfl rfl), by decide +kernel, by decide +kernel, by decide +kernel, (fun h => by cases h), fun _ => (mx_g3 172 rfl rfl), (fun _ _ => (mx_g3 173 rfl rfl)), (fun h => by cases h), rfl, by decide, fun _ => ⟨_, rfl⟩⟩
set_option maxRecDepth 20000 in
theorem mx_mo18 : mx_MP 18 := ⟨(mx_g3 188 rfl rfl), by decide +kernel, by decide +kernel, by decide +kernel, fun _ => (mx_g3 187 rfl rfl), (fun h => by cases h), (fun h => by cases h), (fun h => by cases h), rfl, by decide, (fun h => by cases h)⟩
set_option maxRecDepth 20000 in
theorem mx_mo19 : mx_MP 19 := ⟨(mx_g3 198 rfl rfl), by decide +kernel, by decide +kernel, by decide +kernel, (fun h => by cases h), fun _ => (mx_g3 196 rfl rfl), (fun _ _ => (mx_g3 197 rfl rfl)), (fun h => by cases h), rfl, by decide, fun _ => ⟨_, rfl⟩⟩
set_option maxRecDepth 20000 in
theorem mx_mo20 : mx_MP 20 := ⟨(mx_g3 202 rfl rfl), by decide +kernel, by decide +kernel, by decide +kernel, (fun h => by cases h), fun _ => (mx_g3 200 rfl rfl), (fun _ _ => (mx_g3 201 rfl rfl)), (fun h => by cases h), rfl, by decide, fun _ => ⟨_, rfl⟩⟩
set_option maxRecDepth 20000 in
theorem mx_mo21 : mx_MP 21 := ⟨(mx_g3 210 rfl rfl), by decide +kernel, by decide +kernel, by decide +kernel, (fun h => by cases h), fun _ => (mx_g3 208 rfl rfl), (fun _ _ => (mx_g3 209 rfl rfl)), (fun h => by cases h), rfl, by decide, fun _ => ⟨_, rfl⟩⟩
set_option maxRecDepth 20000 in
theorem mx_mo22 : mx_MP 22 := ⟨(mx_g3 215 rfl rfl), by decide +kernel, by decide +kernel, by decide +kernel, (fun h => by cases h), fun _ => (mx_g3 213 rfl rfl), (fun _ _ => (mx_g3 214 rfl rfl)), (fun h => by cases h), rfl, by decide, fun _ => ⟨_, rfl⟩⟩
set_option maxRecDepth 20000 in
theorem mx_mo23 : mx_MP 23 := ⟨(mx_g4 18 rfl rfl), by decide +kernel, by decide +kernel, by decide +kernel, (fun h => by cases h), fun _ => (mx_g4 16 rfl rfl), (fun _ _ => (mx_g4 17 rfl rfl)), (fun h => by cases h), rfl, by decide, fun _ => ⟨_, rfl⟩⟩
set_option maxRecDepth 20000 in
theorem mx_mo24 : mx_MP 24 := ⟨(mx_g4 22 rfl rfl), by decide +kernel, by decide +kernel, by decide +kernel, (fun h => by cases h), fun _ => (mx_g4 20 rfl rfl), (fun _ _ => (mx_g4 21 rfl rfl)), (fun h => by cases h), rfl, by decide, fun _ => ⟨_, rfl⟩⟩
set_option maxRecDepth 20000 in
theorem mx_mo25 : mx_MP 25 := ⟨(mx_g4 33 rfl rfl), by decide +kernel, by decide +kernel, by decide +kernel, (fun h => by cases h), fun _ => (mx_g4 31 rfl rfl), (fun _ _ => (mx_g4 32 rfl rfl)), (fun h => by cases h), rfl, by decide, fun _ => ⟨_, rfl⟩⟩
set_option maxRecDepth 20000 in
theorem mx_mo26 : mx_MP 26 := ⟨(mx_g4 56 rfl rfl), by decide +kernel, by decide +kernel, by decide +kernel, (fun h => by cases h), fun _ => (mx_g4 54 rfl rfl), (fun _ _ => (mx_g4 55 rfl rfl)), (fun h => by cases h), rfl, by decide, fun _ => ⟨_, rfl⟩⟩
set_option maxRecDepth 20000 in
theorem mx_mo27 : mx_MP 27 := ⟨(mx_g4 60 rfl rfl), by decide +kernel, by decide +kernel, by decide +kernel, (fun h => by cases h), fun _ => (mx_g4 58 rfl rfl), (fun _ _ => (mx_g4 59 rfl rfl)), (fun h => by cases h), rfl, by decide, fun _ => ⟨_, rfl⟩⟩
set_option maxRecDepth 20000 in
theorem mx_mo28 : mx_MP 28 := ⟨(mx_g4 68 rfl rfl), by decide +kernel, by decide +kernel, by decide +kernel, fun _ => (mx_g4 67 rfl rfl), (fun h => by cases h), (fun h => by cases h), (fun h => by cases h), rfl, by decide, (fun h => by cases h)⟩
set_option maxRecDepth 20000 in
theorem mx_mo29 : mx_MP 29 := ⟨(mx_g1 26 rfl rfl), by decide +kernel, by decide +kernel, by decide +kernel, (fun h => by cases h), fun _ => (mx_g1 25 rfl rfl), (fun _ h => by cases h), fun _ => rfl, rfl, by decide, fun _ => ⟨_, rfl⟩⟩
set_option maxRecDepth 20000 in
theorem mx_mo30 : mx_MP 30 := ⟨(mx_g2 108 rfl rfl), by decide +kernel, by decide +kernel, by decide +kernel, (fun h => by cases h), fun _ => (mx_g2 106 rfl rfl), (fun _ _ => (mx_g2 107 rfl rfl)), (fun h => by cases h), rfl, by decide, fun _ => ⟨_, rfl⟩⟩
set_option maxRecDepth 20000 in
theorem mx_mo31 : mx_MP 31 := ⟨(mx_g2 111 rfl rfl), by decide +kernel, by decide +kernel, by decide +kernel, fun _ => (mx_g2 110 rfl rfl), (fun h => by cases h), (fun h => by cases h), (fun h => by cases h), rfl, by decide, (fun h => by cases h)⟩
set_option maxRecDepth 20000 in
theorem mx_mo32 : mx_MP 32 := ⟨(mx_g2 159 rfl rfl), by decide +kernel, by decide +kernel, by decide +kernel, (fun h => by cases h), fun _ => (mx_g2 157 rfl rfl), (fun _ _ => (mx_g2 158 rfl rfl)), (fun h => by cases h), rfl, by decide, fun _ => ⟨_, rfl⟩⟩
set_option maxRecDepth 20000 in
theorem mx_mo33 : mx_MP 33 := ⟨(mx_g1 32 rfl rfl), by decide +kernel, by decide +kernel, by decide +kernel, (fun h => by cases h), fun _ => (mx_g1 31 rfl rfl), (fun _ h => by cases h), fun _ => rfl, rfl, by decide, fun _ => ⟨_, rfl⟩⟩
set_option maxRecDepth 20000 in
theorem mx_mo34 : mx_MP 34 := ⟨(mx_g2 125 rfl rfl), by decide +kernel, by decide +kernel, by decide +kernel, (fun h => by cases h), fun _ => (mx_g2 123 rfl rfl), (fun _ _ => (mx_g2 124 rfl rfl)), (fun h => by cases h), rfl, by decide, fun _ => ⟨_, rfl⟩⟩
set_option maxRecDepth 20000 in
theorem mx_mo35 : mx_MP 35 := ⟨(mx_g2 143 rfl rfl), by decide +kernel, by decide +kernel, by decide +kernel, (fun h => by cases h), fun _ => (mx_g2 141 rfl rfl), (fun _ _ => (mx_g2 142 rfl rfl)), (fun h => by cases h), rfl, by decide, fun _ => ⟨_, rfl⟩⟩
set_option maxRecDepth 20000 in
theorem mx_mo36 : mx_MP 36 := ⟨(mx_g2 151 rfl rfl), by decide +kernel, by decide +kernel, by decide +kernel, (fun h => by cases h), fun _ => (mx_g2 149 rfl rfl), (fun _ _ => (mx_g2 150 rfl rfl)), (fun h => by cases h), rfl, by decide, fun _ => ⟨_, rfl⟩⟩
set_option maxRecDepth 20000 in
theorem mx_mo37 : mx_MP 37 := ⟨(mx_g2 163 rfl rfl), by decide +kernel, by decide +kernel, by decide +kernel, (fun h => by cases h), fun _ => (mx_g2 161 rfl rfl), (fun _ _ => (mx_g2 162 rfl rfl)), (fun h => by cases h), rfl, by decide, fun _ => ⟨_, rfl⟩⟩
set_option maxRecDepth 20000 in
theorem mx_mo38 : mx_MP 38 := ⟨(mx_g2 176 rfl rfl), by decide +kernel, by decide +kernel, by decide +kernel, (fun h => by cases h), fun _ => (mx_g2 174 rfl rfl), (fun _ _ => (mx_g2 175 rfl rfl)), (fun h => by cases h), rfl, by decide, fun _ => ⟨_, rfl⟩⟩
set_option maxRecDepth 20000 in
theorem mx_mo39 : mx_MP 39 := ⟨(mx_g3 227 rfl rfl), by decide +kernel, by decide +kernel, by decide +kernel, (fun h => by cases h), fun _ => (mx_g3 225 rfl rfl), (fun _ _ => (mx_g3 226 rfl rfl)), (fun h => by cases h), rfl, by decide, fun _ => ⟨_, rfl⟩⟩
set_option maxRecDepth 20000 in
theorem mx_mo40 : mx_MP 40 := ⟨(mx_g4 49 rfl rfl), by decide +kernel, by decide +kernel, by decide +kernel, (fun h => by cases h), fun _ => (mx_g4 47 rfl rfl), (fun _ _ => (mx_g4 48 rfl rfl)), (fun h => by cases h), rfl, by decide, fun _ => ⟨_, rfl⟩⟩
set_option maxRecDepth 20000 in
theorem mx_mo41 : mx_MP 41 := ⟨(mx_g1 97 rfl rfl), by decide +kernel, by decide +kernel, by decide +kernel, (fun h => by cases h), fun _ => (mx_g1 96 rfl rfl), (fun _ h => by cases h), fun _ => rfl, rfl, by decide, fun _ => ⟨_, rfl⟩⟩
set_option maxRecDepth 20000 in
theorem mx_mo42 : mx_MP 42 := ⟨(mx_g2 224 rfl rfl), by decide +kernel, by decide +kernel, by decide +kernel, (fun h => by cases h), fun _ => (mx_g2 222 rfl rfl), (fun _ _ => (mx_g2 223 rfl rfl)), (fun h => by cases h), rfl, by decide, fun _ => ⟨_, rfl⟩⟩
set_option maxRecDepth 20000 in
theorem mx_mo43 : mx_MP 43 := ⟨(mx_g3 4 rfl rfl), by decide +kernel, by decide +kernel, by decide +kernel, (fun h => by cases h), fun _ => (mx_g3 2 rfl rfl), (fun _ _ => (mx_g3 3 rfl rfl)), (fun h => by cases h), rfl, by decide, fun _ => ⟨_, rfl⟩⟩
set_option maxRecDepth 20000 in
theorem mx_mo44 : mx_MP 44 := ⟨(mx_g3 12 rfl rfl), by decide +kernel, by decide +kernel, by decide +kernel, (fun h => by cases h), fun _ => (mx_g3 10 rfl rfl), (fun _ _ => (mx_g3 11 rfl rfl)), (fun h => by cases h), rfl, by decide, fun _ => ⟨_, rfl⟩⟩
set_option maxRecDepth 20000 in
theorem mx_mo45 : mx_MP 45 := ⟨(mx_g3 16 rfl rfl), by decide +kernel, by decide +kernel, by decide +kernel, (fun h => by cases h), fun _ => (mx_g3 14 rfl rfl), (fun _ _ => (mx_g3 15 rfl rfl)), (fun h => by cases h), rfl, by decide, fun _ => ⟨_, rfl⟩⟩
set_option maxRecDepth 20000 in
theorem mx_mo46 : mx_MP 46 := ⟨(mx_g3 25 rfl rfl), by decide +kernel, by decide +kernel, by decide +kernel, (fun h => by cases h), fun _ => (mx_g3 23 rfl rfl), (fun _ _ => (mx_g3 24 rfl rfl)), (fun h => by cases h), rfl, by decide, fun _ => ⟨_, rfl⟩⟩
set_option maxRecDepth 20000 in
theorem mx_mo47 : mx_MP 47 := ⟨(mx_g1 152 rfl rfl), by decide +kernel, by decide +kernel, by decide +kernel, (fun h => by cases h), fun _ => (mx_g1 151 rfl rfl), (fun _ h => by cases h), fun _ => rfl, rfl, by decide, fun _ => ⟨_, rfl⟩⟩
set_option maxRecDepth 20000 in
theorem mx_mo48 : mx_MP 48 := ⟨(mx_g2 187 rfl rfl), by decide +kernel, by decide +kernel, by decide +kernel, (fun h => by cases h), fun _ => (mx_g2 185 rfl rfl), (fun _ _ => (mx_g2 186 rfl rfl)), (fun h => by cases h), rfl, by decide, fun _ => ⟨_, rfl⟩⟩
set_option maxRecDepth 20000 in
theorem mx_mo49 : mx_MP 49 := ⟨(mx_g2 199 rfl rfl), by decide +kernel, by decide +kernel, by decide +kernel, (fun h => by cases h), fun _ => (mx_g2 197 rfl rfl), (fun _ _ => (mx_g2 198 rfl rfl)), (fun h => by cases h), rfl, by decide, fun _ => ⟨_, rfl⟩⟩
set_option maxRecDepth 20000 in
theorem mx_mo50 : mx_MP 50 := ⟨(mx_g2 219 rfl rfl), by decide +kernel, by decide +kernel, by decide +kernel, (fun h => by cases h), fun _ => (mx_g2 217 rfl rfl), (fun _ _ => (mx_g2 218 rfl rfl)), (fun h => by cases h), rfl, by decide, fun _ => ⟨_, rfl⟩⟩
set_option maxRecDepth 20000 in
theorem mx_mo51 : mx_MP 51 := ⟨(mx_g3 35 rfl rfl), by decide +kernel, by decide +kernel, by decide +kernel, (fun h => by cases h), fun _ => (mx_g3 33 rfl rfl), (fun _ _ => (mx_g3 34 rfl rfl)), (fun h => by cases h), rfl, by decide, fun _ => ⟨_, rfl⟩⟩
set_option maxRecDepth 20000 in
theorem mx_mo52 : mx_MP 52 := ⟨(mx_g3 185 rfl rfl), by decide +kernel, by decide +kernel, by decide +kernel, (fun h => by cases h), fun _ => (mx_g3 183 rfl rfl), (fun _ _ => (mx_g3 184 rfl rfl)), (fun h => by cases h), rfl, by decide, fun _ => ⟨_, rfl⟩⟩
set_option maxRecDepth 20000 in
theorem mx_mo53 : mx_MP 53 := ⟨(mx_g3 206 rfl rfl), by decide +kernel, by decide +kernel, by decide +kernel, (fun h => by cases h), fun _ => (mx_g3 204 rfl rfl), (fun _ _ => (mx_g3 205 rfl rfl)), (fun h => by cases h), rfl, by decide, fun _ => ⟨_, rfl⟩⟩
set_option maxRecDepth 20000 in
theorem mx_mo54 : mx_MP 54 := ⟨(mx_g1 174 rfl rfl), by decide +kernel, by decide +kernel, by decide +kernel, (fun h => by cases h), fun _ => (mx_g1 173 rfl rfl), (fun _ h => by cases h), fun _ => rfl, rfl, by decide, fun _ => ⟨_, rfl⟩⟩
set_option maxRecDepth 20000 in
theorem mx_mo55 : mx_MP 55 := ⟨(mx_g2 183 rfl rfl), by decide +kernel, by decide +kernel, by decide +kernel, (fun h => by cases h), fun _ => (mx_g2 181 rfl rfl), (fun _ _ => (mx_g2 182 rfl rfl)), (fun h => by cases h), rfl, by decide, fun _ => ⟨_, rfl⟩⟩
set_option maxRecDepth 20000 in
theorem mx_mo56 : mx_MP 56 := ⟨(mx_g2 191 rfl rfl), by decide +kernel, by decide +kernel, by decide +kernel, (fun h => by cases h), fun _ => (mx_g2 190 rfl rfl), (fun _ _ => mx_g0 (n := 6) 0 rfl), (fun h => by cases h), rfl, by decide, fun _ => ⟨_, rfl⟩⟩
set_option maxRecDepth 20000 in
theorem mx_mo57 : mx_MP 57 := ⟨(mx_g2 195 rfl rfl), by decide +kernel, by decide +kernel, by decide +kernel, (fun h => by cases h), fun _ => (mx_g2 194 rfl rfl), (fun _ _ => mx_g0 (n := 6) 1 rfl), (fun h => by cases h), rfl, by decide, fun _ => ⟨_, rfl⟩⟩
set_option maxRecDepth 20000 in
theorem mx_mo58 : mx_MP 58 := ⟨(mx_g2 203 rfl rfl), by decide +kernel, by decide +kernel, by decide +kernel, (fun h => by cases h), fun _ => (mx_g2 202 rfl rfl), (fun _ _ => mx_g0 (n := 6) 2 rfl), (fun h => by cases h), rfl, by decide, fun _ => ⟨_, rfl⟩⟩
set_option maxRecDepth 20000 in
theorem mx_mo59 : mx_MP 59 := ⟨(mx_g2 206 rfl rfl), by decide +kernel, by decide +kernel, by decide +kernel, fun _ => (mx_g2 205 rfl rfl), (fun h => by cases h), (fun h => by cases h), (fun h => by cases h), rfl, by decide, (fun h => by cases h)⟩
set_option maxRecDepth 20000 in
theorem mx_mo60 : mx_MP 60 := ⟨(mx_g2 210 rfl rfl), by decide +kernel, by decide +kernel, by decide +kernel, (fun h => by cases h), fun _ => (mx_g2 209 rfl rfl), (fun _ _ => mx_g0 (n := 6) 3 rfl), (fun h => by cases h), rfl, by decide, fun _ => ⟨_, rfl⟩⟩
set_option maxRecDepth 20000 in
theorem mx_mo61 : mx_MP 61 := ⟨(mx_g2 214 rfl rfl), by decide +kernel, by decide +kernel, by decide +kernel, (fun h => by cases h), fun _ => (mx_g2 213 rfl rfl), (fun _ _ => mx_g0 (n := 6) 4 rfl), (fun h => by cases h), rfl, by decide, fun _ => ⟨_, rfl⟩⟩
set_option maxRecDepth 20000 in
theorem mx_mo62 : mx_MP 62 := ⟨(mx_g2 228 rfl rfl), by decide +kernel, by decide +kernel, by decide +kernel, (fun h => by cases h), fun _ => (mx_g2 227 rfl rfl), (fun _ _ => mx_g0 (n := 6) 5 rfl), (fun h => by cases h), rfl, by decide, fun _ => ⟨_, rfl⟩⟩
set_option maxRecDepth 20000 in
theorem mx_mo63 : mx_MP 63 := ⟨(mx_g2 232 rfl rfl), by decide +kernel, by decide +kernel, by decide +kernel, (fun h => by cases h), fun _ => (mx_g2 231 rfl rfl), (fun _ _ => mx_g0 (n := 6) 6 rfl), (fun h => by cases h), rfl, by decide, fun _ => ⟨_, rfl⟩⟩
set_option maxRecDepth 20000 in
theorem mx_mo64 : mx_MP 64 := ⟨(mx_g2 236 rfl rfl), by decide +kernel, by decide +kernel, by decide +kernel, (fun h => by cases h), fun _ => (mx_g2 235 rfl rfl), (fun _ _ => mx_g0 (n := 6) 7 rfl), (fun h => by cases h), rfl, by decide, fun _ => ⟨_, rfl⟩⟩
set_option maxRecDepth 20000 in
theorem mx_mo65 : mx_MP 65 := ⟨(mx_g3 0 rfl rfl), by decide +kernel, by decide +kernel, by decide +kernel, (fun h => by cases h), fun _ => (mx_g2 239 rfl rfl), (fun _ _ => mx_g0 (n := 6) 8 rfl), (fun h => by cases h), rfl, by decide, fun _ => ⟨_, rfl⟩⟩
set_option maxRecDepth 20000 in
theorem mx_mo66 : mx_MP 66 := ⟨(mx_g3 8 rfl rfl), by decide +kernel, by decide +kernel, by decide +kernel, (fun h => by cases h), fun _ => (mx_g3 7 rfl rfl), (fun _ _ => mx_g0 (n := 6) 9 rfl), (fun h => by cases h), rfl, by decide, fun _ => ⟨_, rfl⟩⟩
set_option maxRecDepth 20000 in
theorem mx_mo67 : mx_MP 67 := ⟨(mx_g3 21 rfl rfl), by decide +kernel, by decide +kernel, by decide +kernel, (fun h => by cases h), fun _ => (mx_g3 20 rfl rfl), (fun _ _ => mx_g0 (n := 6) 10 rfl), (fun h => by cases h), rfl, by decide, fun _ => ⟨_, rfl⟩⟩
set_option maxRecDepth 20000 in
theorem mx_mo68 : mx_MP 68 := ⟨(mx_g3 31 rfl rfl), by decide +kernel, by decide +kernel, by decide +kernel, (fun h => by cases h), fun _ => (mx_g3 30 rfl rfl), (fun _ _ => mx_g0 (n := 6) 11 rfl), (fun h => by cases h), rfl, by decide, fun _ => ⟨_, rfl⟩⟩
set_option maxRecDepth 20000 in
theorem mx_mo69 : mx_MP 69 := ⟨(mx_g3 39 rfl rfl), by decide +kernel, by decide +kernel, by decide +kernel, (fun h => by cases h), fun _ => (mx_g3 38 rfl rfl), (fun _ _ => mx_g0 (n := 6) 12 rfl), (fun h => by cases h), rfl, by decide, fun _ => ⟨_, rfl⟩⟩
set_option maxRecDepth 20000 in
theorem mx_mo70 : mx_MP 70 := ⟨(mx_g3 43 rfl rfl), by decide +kernel, by decide +kernel, by decide +kernel, (fun h => by cases h), fun _ => (mx_g3 42 rfl rfl), (fun _ _ => mx_g0 (n := 6) 13 rfl), (fun h => by cases h), rfl, by decide, fun _ => ⟨_, rfl⟩⟩
set_option maxRecDepth 20000 in
theorem mx_mo71 : mx_MP 71 := ⟨(mx_g1 144 rfl rfl), by decide +kernel, by decide +kernel, by decide +kernel, (fun h => by cases h), fun _ => (mx_g1 143 rfl rfl), (fun _ h => by cases h), fun _ => rfl, rfl, by decide, fun _ => ⟨_, rfl⟩⟩
set_option maxRecDepth 20000 in
theorem mx_mo72 : mx_MP 72 := ⟨(mx_g2 172 rfl rfl), by decide +kernel, by decide +kernel, by decide +kernel, (fun h => by cases h), fun _ => (mx_g2 170 rfl rfl), (fun _ _ => (mx_g2 171 rfl rfl)), (fun h => by cases h), rfl, by decide, fun _ => ⟨_, rfl⟩⟩
set_option maxRecDepth 20000 in
theorem mx_mo73 : mx_MP 73 := ⟨(mx_g3 48 rfl rfl), by decide +kernel, by decide +kernel, by decide +kernel, fun _ => (mx_g3 47 rfl rfl), (fun h => by cases h), (fun h => by cases h), (fun h => by cases h), rfl, by decide, (fun h => by cases h)⟩
set_option maxRecDepth 20000 in
theorem mx_mo74 : mx_MP 74 := ⟨(mx_g3 126 rfl rfl), by decide +kernel, by decide +kernel, by decide +kernel, (fun h => by cases h), fun _ => (mx_g3 124 rfl rfl), (fun _ _ => (mx_g3 125 rfl rfl)), (fun h => by cases h), rfl, by decide, fun _ => ⟨_, rfl⟩⟩
set_option maxRecDepth 20000 in
theorem mx_mo75 : mx_MP 75 := ⟨(mx_g3 139 rfl rfl), by decide +kernel, by decide +kernel, by decide +kernel, (fun h => by cases h), fun _ => (mx_g3 137 rfl rfl), (fun _ _ => (mx_g3 138 rfl rfl)), (fun h => by cases h), rfl, by decide, fun _ => ⟨_, rfl⟩⟩
set_option maxRecDepth 20000 in
theorem mx_mo76 : mx_MP 76 := ⟨(mx_g3 152 rfl rfl), by decide +kernel, by decide +kernel, by decide +kernel, (fun h => by cases h), fun _ => (mx_g3 150 rfl rfl), (fun _ _ => (mx_g3 151 rfl rfl)), (fun h => by cases h), rfl, by decide, fun _ => ⟨_, rfl⟩⟩
set_option maxRecDepth 20000 in
theorem mx_mo77 : mx_MP 77 := ⟨(mx_g1 91 rfl rfl), by decide +kernel, by decide +kernel, by decide +kernel, (fun h => by cases h), fun _ => (mx_g1 90 rfl rfl), (fun _ h => by cases h), fun _ => rfl, rfl, by decide, fun _ => ⟨_, rfl⟩⟩
set_option maxRecDepth 20000 in
theorem mx_mo78 : mx_MP 78 := ⟨(mx_g3 52 rfl rfl), by decide +kernel, by decide +kernel, by decide +kernel, (fun h => by cases h), fun _ => (mx_g3 50 rfl rfl), (fun _ _ => (mx_g3 51 rfl rfl)), (fun h => by cases h), rfl, by decide, fun _ => ⟨_, rfl⟩⟩
set_option maxRecDepth 20000 in
theorem mx_mo79 : mx_MP 79 := ⟨(mx_g3 56 rfl rfl), by decide +kernel, by decide +kernel, by decide +kernel, (fun h => by cases h), fun _ => (mx_g3 54 rfl rfl), (fun _ _ => (mx_g3 55 rfl rfl)), (fun h => by cases h), rfl, by decide, fun _ => ⟨_, rfl⟩⟩
set_option maxRecDepth 20000 in
theorem mx_mo80 : mx_MP 80 := ⟨(mx_g3 72 rfl rfl), by decide +kernel, by decide +kernel, by decide +kernel, (fun h => by cases h), fun _ => (mx_g3 70 rfl rfl), (fun _ _ => (mx_g3 71 rfl rfl)), (fun h => by cases h), rfl, by decide, fun _ => ⟨_, rfl⟩⟩
set_option maxRecDepth 20000 in
theorem mx_mo81 : mx_MP 81 := ⟨(mx_g3 76 rfl rfl), by decide +kernel, by decide +kernel, by decide +kernel, (fun h => by cases h), fun _ => (mx_g3 74 rfl rfl), (fun _ _ => (mx_g3 75 rfl rfl)), (fun h => by cases h), rfl, by decide, fun _ => ⟨_, rfl⟩⟩
set_option maxRecDepth 20000 in
theorem mx_mo82 : mx_MP 82 := ⟨(mx_g3 134 rfl rfl), by decide +kernel, by decide +kernel, by decide +kernel, (fun h => by cases h), fun _ => (mx_g3 132 rfl rfl), (fun _ _ => (mx_g3 133 rfl rfl)), (fun h => by cases h), rfl, by decide, fun _ => ⟨_, rfl⟩⟩
set_option maxRecDepth 20000 in
theorem mx_mo83 : mx_MP 83 := ⟨(mx_g3 143 rfl rfl), by decide +kernel, by decide +kernel, by decide +kernel, (fun h => by cases h), fun _ => (mx_g3 141 rfl rfl), (fun _ _ => (mx_g3 142 rfl rfl)), (fun h => by cases h), rfl, by decide, fun _ => ⟨_, rfl⟩⟩
set_option maxRecDepth 20000 in
theorem mx_mo84 : mx_MP 84 := ⟨(mx_g3 178 rfl rfl), by decide +kernel, by decide +kernel, by decide +kernel, (fun h => by cases h), fun _ => (mx_g3 176 rfl rfl), (fun _ _ => (mx_g3 177 rfl rfl)), (fun h => by cases h), rfl, by decide, fun _ => ⟨_, rfl⟩⟩
set_option maxRecDepth 20000 in
theorem mx_mo85 : mx_MP 85 := ⟨(mx_g3 219 rfl rfl), by decide +kernel, by decide +kernel, by decide +kernel, (fun h => by cases h), fun _ => (mx_g3 217 rfl rfl), (fun _ _ => (mx_g3 218 rfl rfl)), (fun h => by cases h), rfl, by decide, fun _ => ⟨_, rfl⟩⟩
set_option maxRecDepth 20000 in
theorem mx_mo86 : mx_MP 86 := ⟨(mx_g3 223 rfl rfl), by decide +kernel, by decide +kernel, by decide +kernel, (fun h => by cases h), fun _ => (mx_g3 222 rfl rfl), (fun _ _ => mx_g0 (n := 3) 21 rfl), (fun h => by cases h), rfl, by decide, fun _ => ⟨_, rfl⟩⟩
set_option maxRecDepth 20000 in
theorem mx_mo87 : mx_MP 87 := ⟨(mx_g3 231 rfl rfl), by decide +kernel, by decide +kernel, by decide +kernel, (fun h => by cases h), fun _ => (mx_g3 230 rfl rfl), (fun _ _ => mx_g0 (n := 3) 22 rfl), (fun h => by cases h), rfl, by decide, fun _ => ⟨_, rfl⟩⟩
set_option maxRecDepth 20000 in
theorem mx_mo88 : mx_MP 88 := ⟨(mx_g3 235 rfl rfl), by decide +kernel, by decide +kernel, by decide +kernel, (fun h => by cases h), fun _ => (mx_g3 233 rfl rfl), (fun _ _ => (mx_g3 234 rfl rfl)), (fun h => by cases h), rfl, by decide, fun _ => ⟨_, rfl⟩⟩
set_option maxRecDepth 20000 in
theorem mx_mo89 : mx_MP 89 := ⟨(mx_g3 238 rfl rfl), by decide +kernel, by decide +kernel, by decide +kernel, fun _ => (mx_g3 237 rfl rfl), (fun h => by cases h), (fun h => by cases h), (fun h => by cases h), rfl, by decide, (fun h => by cases h)⟩
set_option maxRecDepth 20000 in
theorem mx_mo90 : mx_MP 90 := ⟨(mx_g4 2 rfl rfl), by decide +kernel, by decide +kernel, by decide +kernel, (fun h => by cases h), fun _ => (mx_g4 1 rfl rfl), (fun _ _ => mx_g0 (n := 3) 23 rfl), (fun h => by cases h), rfl, by decide, fun _ => ⟨_, rfl⟩⟩
set_option maxRecDepth 20000 in
theorem mx_mo91 : mx_MP 91 := ⟨(mx_g4 6 rfl rfl), by decide +kernel, by decide +kernel, by decide +kernel, (fun h => by cases h), fun _ => (mx_g4 5 rfl rfl), (fun _ _ => mx_g0 (n := 3) 24 rfl), (fun h => by cases h), rfl, by decide, fun _ => ⟨_, rfl⟩⟩
set_option maxRecDepth 20000 in
theorem mx_mo92 : mx_MP 92 := ⟨(mx_g4 37 rfl rfl), by decide +kernel, by decide +kernel, by decide +kernel, (fun h => by cases h), fun _ => (mx_g4 35 rfl rfl), (fun _ _ => (mx_g4 36 rfl rfl)), (fun h => by cases h), rfl, by decide, fun _ => ⟨_, rfl⟩⟩
set_option maxRecDepth 20000 in
theorem mx_mo93 : mx_MP 93 := ⟨(mx_g4 41 rfl rfl), by decide +kernel, by decide +kernel, by decide +kernel, (fun h => by cases h), fun _ => (mx_g4 40 rfl rfl), (fun _ _ => mx_g0 (n := 3) 25 rfl), (fun h => by cases h), rfl, by decide, fun _ => ⟨_, rfl⟩⟩
set_option maxRecDepth 20000 in
theorem mx_mo94 : mx_MP 94 := ⟨(mx_g4 45 rfl rfl), by decide +kernel, by decide +kernel, by decide +kernel, (fun h => by cases h), fun _ => (mx_g4 44 rfl rfl), (fun _ _ => mx_g0 (n := 3) 26 rfl), (fun h => by cases h), rfl, by decide, fun _ => ⟨_, rfl⟩⟩
set_option maxRecDepth 20000 in
theorem mx_mo95 : mx_MP 95 := ⟨(mx_g4 64 rfl rfl), by decide +kernel, by decide +kernel, by decide +kernel, (fun h => by cases h), fun _ => (mx_g4 62 rfl rfl), (fun _ _ => (mx_g4 63 rfl rfl)), (fun h => by cases h), rfl, by decide, fun _ => ⟨_, rfl⟩⟩
set_option maxRecDepth 20000 in
theorem mx_mo96 : mx_MP 96 := ⟨(mx_g2 39 rfl rfl), by decide +kernel, by decide +kernel, by decide +kernel, (fun h => by cases h), fun _ => (mx_g2 38 rfl rfl), (fun _ h => by cases h), fun _ => rfl, rfl, by decide, fun _ => ⟨_, rfl⟩⟩
set_option maxRecDepth 20000 in
theorem mx_mo97 : mx_MP 97 := ⟨(mx_g3 64 rfl rfl), by decide +kernel, by decide +kernel, by decide +kernel, (fun h => by cases h), fun _ => (mx_g3 62 rfl rfl), (fun _ _ => (mx_g3 63 rfl rfl)), (fun h => by cases h), rfl, by decide, fun _ => ⟨_, rfl⟩⟩
set_option maxRecDepth 20000 in
theorem mx_mo98 : mx_MP 98 := ⟨(mx_g3 68 rfl rfl), by decide +kernel, by decide +kernel, by decide +kernel, (fun h => by cases h), fun _ => (mx_g3 67 rfl rfl), (fun _ _ => mx_g0 (n := 4) 15 rfl), (fun h => by cases h), rfl, by decide, fun _ => ⟨_, rfl⟩⟩
set_option maxRecDepth 20000 in
theorem mx_mo99 : mx_MP 99 := ⟨(mx_g3 84 rfl rfl), by decide +kernel, by decide +kernel, by decide +kernel, (fun h => by cases h), fun _ => (mx_g3 83 rfl rfl), (fun _ _ => mx_g0 (n := 4) 16 rfl), (fun h => by cases h), rfl, by decide, fun _ => ⟨_, rfl⟩⟩
set_option maxRecDepth 20000 in
theorem mx_mo100 : mx_MP 100 := ⟨(mx_g3 88 rfl rfl), by decide +kernel, by decide +kernel, by decide +kernel, (fun h => by cases h), fun _ => (mx_g3 86 rfl rfl), (fun _ _ => (mx_g3 87 rfl rfl)), (fun h => by cases h), rfl, by decide, fun _ => ⟨_, rfl⟩⟩
set_option maxRecDepth 20000 in
theorem mx_mo101 : mx_MP 101 := ⟨(mx_g3 93 rfl rfl), by decide +kernel, by decide +kernel, by decide +kernel, (fun h => by cases h), fun _ => (mx_g3 92 rfl rfl), (fun _ _ => mx_g0 (n := 4) 17 rfl), (fun h => by cases h), rfl, by decide, fun _ => ⟨_, rfl⟩⟩
set_option maxRecDepth 20000 in
theorem mx_mo102 : mx_MP 102 := ⟨(mx_g3 97 rfl rfl), by decide +kernel, by decide +kernel, by decide +kernel, (fun h => by cases h), fun _ => (mx_g3 96 rfl rfl), (fun _ _ => mx_g0 (n := 4) 18 rfl), (fun h => by cases h), rfl, by decide, fun _ => ⟨_, rfl⟩⟩
set_option maxRecDepth 20000 in
theorem mx_mo103 : mx_MP 103 := ⟨(mx_g3 102 rfl rfl), by decide +kernel, by decide +kernel, by decide +kernel, fun _ => (mx_g3 101 rfl rfl), (fun h => by cases h), (fun h => by cases h), (fun h => by cases h), rfl, by decide, (fun h => by cases h)⟩
set_option maxRecDepth 20000 in
theorem mx_mo104 : mx_MP 104 := ⟨(mx_g3 108 rfl rfl), by decide +kernel, by decide +kernel, by decide +kernel, (fun h => by cases h), fun _ => (mx_g3 107 rfl rfl), (fun _ _ => mx_g0 (n := 4) 19 rfl), (fun h => by cases h), rfl, by decide, fun _ => ⟨_, rfl⟩⟩
set_option maxRecDepth 20000 in
theorem mx_mo105 : mx_MP 105 := ⟨(mx_g3 114 rfl rfl), by decide +kernel, by decide +kernel, by decide +kernel, (fun h => by cases h), fun _ => (mx_g3 113 rfl rfl), (fun _ _ => mx_g0 (n := 4) 20 rfl), (fun h => by cases h), rfl, by decide, fun _ => ⟨_, rfl⟩⟩
set_option maxRecDepth 20000 in
theorem mx_mo106 : mx_MP 106 := ⟨(mx_g3 162 rfl rfl), by decide +kernel, by decide +kernel, by decide +kernel, (fun h => by cases h), fun _ => (mx_g3 160 rfl rfl), (fun _ _ => (mx_g3 161 rfl rfl)), (fun h => by cases h), rfl, by decide, fun _ => ⟨_, rfl⟩⟩
set_option maxRecDepth 20000 in
theorem mx_mo107 : mx_MP 107 := ⟨(mx_g3 170 rfl rfl), by decide +kernel, by decide +kernel, by decide +kernel, (fun h => by cases h), fun _ => (mx_g3 168 rfl rfl), (fun _ _ => (mx_g3 169 rfl rfl)), (fun h => by cases h), rfl, by decide, fun _ => ⟨_, rfl⟩⟩
set_option maxRecDepth 20000 in
theorem mx_mo108 : mx_MP 108 := ⟨(mx_g3 192 rfl rfl), by decide +kernel, by decide +kernel, by decide +kernel, (fun h => by cases h), fun _ => (mx_g3 190 rfl rfl), (fun _ _ => (mx_g3 191 rfl rfl)), (fun h => by cases h), rfl, by decide, fun _ => ⟨_, rfl⟩⟩
set_option maxRecDepth 20000 in
theorem mx_mo109 : mx_MP 109 := ⟨(mx_g2 61 rfl rfl), by decide +kernel, by decide +kernel, by decide +kernel, (fun h => by cases h), fun _ => (mx_g2 60 rfl rfl), (fun _ h => by cases h), fun _ => rfl, rfl, by decide, fun _ => ⟨_, rfl⟩⟩
set_option maxRecDepth 20000 in
theorem mx_mo110 : mx_MP 110 := ⟨(mx_g3 122 rfl rfl), by decide +kernel, by decide +kernel, by decide +kernel, (fun h => by cases h), fun _ => (mx_g3 120 rfl rfl), (fun _ _ => (mx_g3 121 rfl rfl)), (fun h => by cases h), rfl, by decide, fun _ => ⟨_, rfl⟩⟩
set_option maxRecDepth 20000 in
theorem mx_mo111 : mx_MP 111 := ⟨(mx_g4 14 rfl rfl), by decide +kernel, by decide +kernel, by decide +kernel, (fun h => by cases h), fun _ => (mx_g4 12 rfl rfl), (fun _ _ => (mx_g4 13 rfl rfl)), (fun h => by cases h), rfl, by decide, fun _ => ⟨_, rfl⟩⟩
set_option maxRecDepth 20000 in
theorem mx_mo112 : mx_MP 112 := ⟨(mx_g4 72 rfl rfl), by decide +kernel, by decide +kernel, by decide +kernel, (fun h => by cases h), fun _ => (mx_g4 70 rfl rfl), (fun _ _ => (mx_g4 71 rfl rfl)), (fun h => by cases h), rfl, by decide, fun _ => ⟨_, rfl⟩⟩
set_option maxRecDepth 20000 in
theorem mx_mo113 : mx_MP 113 := ⟨(mx_g2 7 rfl rfl), by decide +kernel, by decide +kernel, by decide +kernel, (fun h => by cases h), fun _ => (mx_g2 6 rfl rfl), (fun _ h => by cases h), fun _ => rfl, rfl, by decide, fun _ => ⟨_, rfl⟩⟩
set_option maxRecDepth 20000 in
theorem mx_mo114 : mx_MP 114 := ⟨(mx_g3 118 rfl rfl), by decide +kernel, by decide +kernel, by decide +kernel, (fun h => by cases h), fun _ => (mx_g3 116 rfl rfl), (fun _ _ => (mx_g3 117 rfl rfl)), (fun h => by cases h), rfl, by decide, fun _ => ⟨_, rfl⟩⟩
set_option maxRecDepth 20000 in
theorem mx_mo115 : mx_MP 115 := ⟨(mx_g4 26 rfl rfl), by decide +kernel, by decide +kernel, by decide +kernel, (fun h => by cases h), fun _ => (mx_g4 24 rfl rfl), (fun _ _ => (mx_g4 25 rfl rfl)), (fun h => by cases h), rfl, by decide, fun _ => ⟨_, rfl⟩⟩
set_option maxRecDepth 20000 in
theorem mx_mo116 : mx_MP 116 := ⟨(mx_g4 78 rfl rfl), by decide +kernel, by decide +kernel, by decide +kernel, (fun h => by cases h), fun _ => (mx_g4 77 rfl rfl), (fun _ h => by cases h), fun _ => rfl, rfl, by decide, fun _ => ⟨_, rfl⟩⟩
set_option maxRecDepth 20000 in
theorem mx_mo117 : mx_MP 117 := ⟨(mx_g4 210 rfl rfl), by decide +kernel, by decide +kernel, by decide +kernel, (fun h => by cases h), fun _ => (mx_g4 208 rfl rfl), (fun _ _ => (mx_g4 209 rfl rfl)), (fun h => by cases h), rfl, by decide, fun _ => ⟨_, rfl⟩⟩
set_option maxRecDepth 20000 in
theorem mx_mo118 : mx_MP 118 := ⟨(mx_g4 213 rfl rfl), by decide +kernel, by decide +kernel, by decide +kernel, fun _ => (mx_g4 212 rfl rfl), (fun h => by cases h), (fun h => by cases h), (fun h => by cases h), rfl, by decide, (fun h => by cases h)⟩
set_option maxRecDepth 20000 in
theorem mx_mo119 : mx_MP 119 := ⟨(mx_g4 218 rfl rfl), by decide +kernel, by decide +kernel, by decide +kernel, (fun h => by cases h), fun _ => (mx_g4 216 rfl rfl), (fun _ _ => (mx_g4 217 rfl rfl)), (fun h => by cases h), rfl, by decide, fun _ => ⟨_, rfl⟩⟩
set_option maxRecDepth 20000 in
theorem mx_mo120 : mx_MP 120 := ⟨(mx_g4 221 rfl rfl), by decide +kernel, by decide +kernel, by decide +kernel, fun _ => (mx_g4 220 rfl rfl), (fun h => by cases h), (fun h => by cases h), (fun h => by cases h), rfl, by decide, (fun h => by cases h)⟩
set_option maxRecDepth 20000 in
theorem mx_mo121 : mx_MP 121 := ⟨(mx_g4 225 rfl rfl), by decide +kernel, by decide +kernel, by decide +kernel, (fun h => by cases h), fun _ => (mx_g4 223 rfl rfl), (fun _ _ => (mx_g4 224 rfl rfl)), (fun h => by cases h), rfl, by decide, fun _ => ⟨_, rfl⟩⟩
set_option maxRecDepth 20000 in
theorem mx_mo122 : mx_MP 122 := ⟨(mx_g4 228 rfl rfl), by decide +kernel, by decide +kernel, by decide +kernel, fun _ => (mx_g4 227 rfl rfl), (fun h => by cases h), (fun h => by cases h), (fun h => by cases h), rfl, by decide, (fun h => by cases h)⟩
set_option maxRecDepth 20000 in
theorem mx_mo123 : mx_MP 123 := ⟨(mx_g4 231 rfl rfl), by decide +kernel, by decide +kernel, by decide +kernel, fun _ => (mx_g4 230 rfl rfl), (fun h => by cases h), (fun h => by cases h), (fun h => by cases h), rfl, by decide, (fun h => by cases h)⟩
set_option maxRecDepth 20000 in
theorem mx_mo124 : mx_MP 124 := ⟨(mx_g4 235 rfl rfl), by decide +kernel, by decide +kernel, by decide +kernel, (fun h => by cases h), fun _ => (mx_g4 233 rfl rfl), (fun _ _ => (mx_g4 234 rfl rfl)), (fun h => by cases h), rfl, by decide, fun _ => ⟨_, rfl⟩⟩
set_option maxRecDepth 20000 in
theorem mx_mo125 : mx_MP 125 := ⟨(mx_g4 239 rfl rfl), by decide +kernel, by decide +kernel, by decide +kernel, (fun h => by cases h), fun _ => (mx_g4 237 rfl rfl), (fun _ _ => (mx_g4 238 rfl rfl)), (fun h => by cases h), rfl, by decide, fun _ => ⟨_, rfl⟩⟩
set_option maxRecDepth 20000 in
theorem mx_mo126 : mx_MP 126 := ⟨(mx_g5 3 rfl rfl), by decide +kernel, by decide +kernel, by decide +kernel, (fun h => by cases h), fun _ => (mx_g5 1 rfl rfl), (fun _ _ => (mx_g5 2 rfl rfl)), (fun h => by cases h), rfl, by decide, fun _ => ⟨_, rfl⟩⟩
set_option maxRecDepth 20000 in
theorem mx_mo127 : mx_MP 127 := ⟨(mx_g5 7 rfl rfl), by decide +kernel, by decide +kernel, by decide +kernel, (fun h => by cases h), fun _ => (mx_g5 6 rfl rfl), (fun _ _ => mx_g0 (n := 42) 27 rfl), (fun h => by cases h), rfl, by decide, fun _ => ⟨_, rfl⟩⟩
set_option maxRecDepth 20000 in
theorem mx_mo128 : mx_MP 128 := ⟨(mx_g5 11 rfl rfl), by decide +kernel, by decide +kernel, by decide +kernel, (fun h => by cases h), fun _ => (mx_g5 10 rfl rfl), (fun _ _ => mx_g0 (n := 42) 28 rfl), (fun h => by cases h), rfl, by decide, fun _ => ⟨_, rfl⟩⟩
set_option maxRecDepth 20000 in
theorem mx_mo129 : mx_MP 129 := ⟨(mx_g5 15 rfl rfl), by decide +kernel, by decide +kernel, by decide +kernel, (fun h => by cases h), fun _ => (mx_g5 14 rfl rfl), (fun _ _ => mx_g0 (n := 42) 29 rfl), (fun h => by cases h), rfl, by decide, fun _ => ⟨_, rfl⟩⟩
set_option maxRecDepth 20000 in
theorem mx_mo130 : mx_MP 130 := ⟨(mx_g5 19 rfl rfl), by decide +kernel, by decide +kernel, by decide +kernel, (fun h => by cases h), fun _ => (mx_g5 18 rfl rfl), (fun _ _ => mx_g0 (n := 42) 30 rfl), (fun h => by cases h), rfl, by decide, fun _ => ⟨_, rfl⟩⟩
set_option maxRecDepth 20000 in
theorem mx_mo131 : mx_MP 131 := ⟨(mx_g5 23 rfl rfl), by decide +kernel, by decide +kernel, by decide +kernel, (fun h => by cases h), fun _ => (mx_g5 22 rfl rfl), (fun _ _ => mx_g0 (n := 42) 31 rfl), (fun h => by cases h), rfl, by decide, fun _ => ⟨_, rfl⟩⟩
set_option maxRecDepth 20000 in
theorem mx_mo132 : mx_MP 132 := ⟨(mx_g5 27 rfl rfl), by decide +kernel, by decide +kernel, by decide +kernel, (fun h => by cases h), fun _ => (mx_g5 26 rfl rfl), (fun _ _ => mx_g0 (n := 42) 32 rfl), (fun h => by cases h), rfl, by decide, fun _ => ⟨_, rfl⟩⟩
set_option maxRecDepth 20000 in
theorem mx_mo133 : mx_MP 133 := ⟨(mx_g5 31 rfl rfl), by decide +kernel, by decide +kernel, by decide +kernel, (fun h => by cases h), fun _ => (mx_g5 30 rfl rfl), (fun _ _ => mx_g0 (n := 42) 33 rfl), (fun h => by cases h), rfl, by decide, fun _ => ⟨_, rfl⟩⟩
set_option maxRecDepth 20000 in
theorem mx_mo134 : mx_MP 134 := ⟨(mx_g5 36 rfl rfl), by decide +kernel, by decide +kernel, by decide +kernel, (fun h => by cases h), fun _ => (mx_g5 35 rfl rfl), (fun _ _ => mx_g0 (n := 42) 34 rfl), (fun h => by cases h), rfl, by decide, fun _ => ⟨_, rfl⟩⟩
set_option maxRecDepth 20000 in
theorem mx_mo135 : mx_MP 135 := ⟨(mx_g5 40 rfl rfl), by decide +kernel, by decide +kernel, by decide +kernel, (fun h => by cases h), fun _ => (mx_g5 39 rfl rfl), (fun _ _ => mx_g0 (n := 42) 35 rfl), (fun h => by cases h), rfl, by decide, fun _ => ⟨_, rfl⟩⟩
set_option maxRecDepth 20000 in
theorem mx_mo136 : mx_MP 136 := ⟨(mx_g5 44 rfl rfl), by decide +kernel, by decide +kernel, by decide +kernel, (fun h => by cases h), fun _ => (mx_g5 43 rfl rfl), (fun _ _ => mx_g0 (n := 42) 36 rfl), (fun h => by cases h), rfl, by decide, fun _ => ⟨_, rfl⟩⟩
set_option maxRecDepth 20000 in
theorem mx_mo137 : mx_MP 137 := ⟨(mx_g5 48 rfl rfl), by decide +kernel, by decide +kernel, by decide +kernel, (fun h => by cases h), fun _ => (mx_g5 47 rfl rfl), (fun _ _ => mx_g0 (n := 42) 37 rfl), (fun h => by cases h), rfl, by decide, fun _ => ⟨_, rfl⟩⟩
set_option maxRecDepth 20000 in
theorem mx_mo138 : mx_MP 138 := ⟨(mx_g5 52 rfl rfl), by decide +kernel, by decide +kernel, by decide +kernel, (fun h => by cases h), fun _ => (mx_g5 51 rfl rfl), (fun _ _ => mx_g0 (n := 42) 38 rfl), (fun h => by cases h), rfl, by decide, fun _ => ⟨_, rfl⟩⟩
set_option maxRecDepth 20000 in
theorem mx_mo139 : mx_MP 139 := ⟨(mx_g5 57 rfl rfl), by decide +kernel, by decide +kernel, by decide +kernel, (fun h => by cases h), fun _ => (mx_g5 56 rfl rfl), (fun _ _ => mx_g0 (n := 42) 39 rfl), (fun h => by cases h), rfl, by decide, fun _ => ⟨_, rfl⟩⟩
set_option maxRecDepth 20000 in
theorem mx_mo140 : mx_MP 140 := ⟨(mx_g5 61 rfl rfl), by decide +kernel, by decide +kernel, by decide +kernel, (fun h => by cases h), fun _ => (mx_g5 60 rfl rfl), (fun _ _ => mx_g0 (n := 42) 40 rfl), (fun h => by cases h), rfl, by decide, fun _ => ⟨_, rfl⟩⟩
set_option maxRecDepth 20000 in
theorem mx_mo141 : mx_MP 141 := ⟨(mx_g5 66 rfl rfl), by decide +kernel, by decide +kernel, by decide +kernel, (fun h => by cases h), fun _ => (mx_g5 65 rfl rfl), (fun _ _ => mx_g0 (n := 42) 41 rfl), (fun h => by cases h), rfl, by decide, fun _ => ⟨_, rfl⟩⟩
set_option maxRecDepth 20000 in
theorem mx_mo142 : mx_MP 142 := ⟨(mx_g5 71 rfl rfl), by decide +kernel, by decide +kernel, by decide +kernel, (fun h => by cases h), fun _ => (mx_g5 70 rfl rfl), (fun _ _ => mx_g0 (n := 42) 42 rfl), (fun h => by cases h), rfl, by decide, fun _ => ⟨_, rfl⟩⟩
set_option maxRecDepth 20000 in
theorem mx_mo143 : mx_MP 143 := ⟨(mx_g5 76 rfl rfl), by decide +kernel, by decide +kernel, by decide +kernel, (fun h => by cases h), fun _ => (mx_g5 75 rfl rfl), (fun _ _ => mx_g0 (n := 42) 43 rfl), (fun h => by cases h), rfl, by decide, fun _ => ⟨_, rfl⟩⟩
set_option maxRecDepth 20000 in
theorem mx_mo144 : mx_MP 144 := ⟨(mx_g5 82 rfl rfl), by decide +kernel, by decide +kernel, by decide +kernel, (fun h => by cases h), fun _ => (mx_g5 81 rfl rfl), (fun _ _ => mx_g0 (n := 42) 44 rfl), (fun h => by cases h), rfl, by decide, fun _ => ⟨_, rfl⟩⟩
set_option maxRecDepth 20000 in
theorem mx_mo145 : mx_MP 145 := ⟨(mx_g5 87 rfl rfl), by decide +kernel, by decide +kernel, by decide +kernel, (fun h => by cases h), fun _ => (mx_g5 86 rfl rfl), (fun _ _ => mx_g0 (n := 42) 45 rfl), (fun h => by cases h), rfl, by decide, fun _ => ⟨_, rfl⟩⟩
set_option maxRecDepth 20000 in
theorem mx_mo146 : mx_MP 146 := ⟨(mx_g5 91 rfl rfl), by decide +kernel, by decide +kernel, by decide +kernel, (fun h => by cases h), fun _ => (mx_g5 89 rfl rfl), (fun _ _ => (mx_g5 90 rfl rfl)), (fun h => by cases h), rfl, by decide, fun _ => ⟨_, rfl⟩⟩
set_option maxRecDepth 20000 in
theorem mx_mo147 : mx_MP 147 := ⟨(mx_g5 95 rfl rfl), by decide +kernel, by decide +kernel, by decide +kernel, (fun h => by cases h), fun _ => (mx_g5 94 rfl rfl), (fun _ _ => mx_g0 (n := 42) 46 rfl), (fun h => by cases h), rfl, by decide, fun _ => ⟨_, rfl⟩⟩
set_option maxRecDepth 20000 in
theorem mx_mo148 : mx_MP 148 := ⟨(mx_g5 99 rfl rfl), by decide +kernel, by decide +kernel, by decide +kernel, (fun h => by cases h), fun _ => (mx_g5 97 rfl rfl), (fun _ _ => (mx_g5 98 rfl rfl)), (fun h => by cases h), rfl, by decide, fun _ => ⟨_, rfl⟩⟩
set_option maxRecDepth 20000 in
theorem mx_mo149 : mx_MP 149 := ⟨(mx_g5 103 rfl rfl), by decide +kernel, by decide +kernel, by decide +kernel, (fun h => by cases h), fun _ => (mx_g5 102 rfl rfl), (fun _ _ => mx_g0 (n := 42) 47 rfl), (fun h => by cases h), rfl, by decide, fun _ => ⟨_, rfl⟩⟩
set_option maxRecDepth 20000 in
theorem mx_mo150 : mx_MP 150 := ⟨(mx_g5 107 rfl rfl), by decide +kernel, by decide +kernel, by decide +kernel, (fun h => by cases h), fun _ => (mx_g5 105 rfl rfl), (fun _ _ => (mx_g5 106 rfl rfl)), (fun h => by cases h), rfl, by decide, fun _ => ⟨_, rfl⟩⟩
set_option maxRecDepth 20000 in
theorem mx_mo151 : mx_MP 151 := ⟨(mx_g5 111 rfl rfl), by decide +kernel, by decide +kernel, by decide +kernel, (fun h => by cases h), fun _ => (mx_g5 110 rfl rfl), (fun _ _ => mx_g0 (n := 42) 48 rfl), (fun h => by cases h), rfl, by decide, fun _ => ⟨_, rfl⟩⟩
set_option maxRecDepth 20000 in
theorem mx_mo152 : mx_MP 152 := ⟨(mx_g5 115 rfl rfl), by decide +kernel, by decide +kernel, by decide +kernel, (fun h => by cases h), fun _ => (mx_g5 114 rfl rfl), (fun _ _ => mx_g0 (n := 42) 49 rfl), (fun h => by cases h), rfl, by decide, fun _ => ⟨_, rfl⟩⟩
set_option maxRecDepth 20000 in
theorem mx_mo153 : mx_MP 153 := ⟨(mx_g5 119 rfl rfl), by decide +kernel, by decide +kernel, by decide +kernel, (fun h => by cases h), fun _ => (mx_g5 118 rfl rfl), (fun _ _ => mx_g0 (n := 42) 50 rfl), (fun h => by cases h), rfl, by decide, fun _ => ⟨_, rfl⟩⟩
set_option maxRecDepth 20000 in
theorem mx_mo154 : mx_MP 154 := ⟨(mx_g5 123 rfl rfl), by decide +kernel, by decide +kernel, by decide +kernel, (fun h => by cases h), fun _ => (mx_g5 121 rfl rfl), (fun _ _ => (mx_g5 122 rfl rfl)), (fun h => by cases h), rfl, by decide, fun _ => ⟨_, rfl⟩⟩
set_option maxRecDepth 20000 in
theorem mx_mo155 : mx_MP 155 := ⟨(mx_g5 127 rfl rfl), by decide +kernel, by decide +kernel, by decide +kernel, (fun h => by cases h), fun _ => (mx_g5 125 rfl rfl), (fun _ _ => (mx_g5 126 rfl rfl)), (fun h => by cases h), rfl, by decide, fun _ => ⟨_, rfl⟩⟩
set_option maxRecDepth 20000 in
theorem mx_mo156 : mx_MP 156 := ⟨(mx_g5 131 rfl rfl), by decide +kernel, by decide +kernel, by decide +kernel, (fun h => by cases h), fun _ => (mx_g5 129 rfl rfl), (fun _ _ => (mx_g5 130 rfl rfl)), (fun h => by cases h), rfl, by decide, fun _ => ⟨_, rfl⟩⟩
set_option maxRecDepth 20000 in
theorem mx_mo157 : mx_MP 157 := ⟨(mx_g5 135 rfl rfl), by decide +kernel, by decide +kernel, by decide +kernel, (fun h => by cases h), fun _ => (mx_g5 133 rfl rfl), (fun _ _ => (mx_g5 134 rfl rfl)), (fun h => by cases h), rfl, by decide, fun _ => ⟨_, rfl⟩⟩
set_option maxRecDepth 20000 in
theorem mx_mo158 : mx_MP 158 := ⟨(mx_g5 139 rfl rfl), by decide +kernel, by decide +kernel, by decide +kernel, (fun h => by cases h), fun _ => (mx_g5 138 rfl rfl), (fun _ _ => mx_g0 (n := 42) 51 rfl), (fun h => by cases h), rfl, by decide, fun _ => ⟨_, rfl⟩⟩
set_option maxRecDepth 20000 in
theorem mx_mo159 : mx_MP 159 := ⟨(mx_g5 143 rfl rfl), by decide +kernel, by decide +kernel, by decide +kernel, (fun h => by cases h), fun _ => (mx_g5 141 rfl rfl), (fun _ _ => (mx_g5 142 rfl rfl)), (fun h => by cases h), rfl, by decide, fun _ => ⟨_, rfl⟩⟩
set_option maxRecDepth 20000 in
theorem mx_mo160 : mx_MP 160 := ⟨(mx_g5 147 rfl rfl), by decide +kernel, by decide +kernel, by decide +kernel, (fun h => by cases h), fun _ => (mx_g5 145 rfl rfl), (fun _ _ => (mx_g5 146 rfl rfl)), (fun h => by cases h), rfl, by decide, fun _ => ⟨_, rfl⟩⟩
set_option maxRecDepth 20000 in
theorem mx_mo161 : mx_MP 161 := ⟨(mx_g5 151 rfl rfl), by decide +kernel, by decide +kernel, by decide +kernel, (fun h => by cases h), fun _ => (mx_g5 149 rfl rfl), (fun _ _ => (mx_g5 150 rfl rfl)), (fun h => by cases h), rfl, by decide, fun _ => ⟨_, rfl⟩⟩
set_option maxRecDepth 20000 in
theorem mx_mo162 : mx_MP 162 := ⟨(mx_g5 155 rfl rfl), by decide +kernel, by decide +kernel, by decide +kernel, (fun h => by cases h), fun _ => (mx_g5 153 rfl rfl), (fun _ _ => (mx_g5 154 rfl rfl)), (fun h => by cases h), rfl, by decide, fun _ => ⟨_, rfl⟩⟩
set_option maxRecDepth 20000 in
theorem mx_mo163 : mx_MP 163 := ⟨(mx_g5 159 rfl rfl), by decide +kernel, by decide +kernel, by decide +kernel, (fun h => by cases h), fun _ => (mx_g5 157 rfl rfl), (fun _ _ => (mx_g5 158 rfl rfl)), (fun h => by cases h), rfl, by decide, fun _ => ⟨_, rfl⟩⟩
set_option maxRecDepth 20000 in
theorem mx_mo164 : mx_MP 164 := ⟨(mx_g5 163 rfl rfl), by decide +kernel, by decide +kernel, by decide +kernel, (fun h => by cases h), fun _ => (mx_g5 161 rfl rfl), (fun _ _ => (mx_g5 162 rfl rfl)), (fun h => by cases h), rfl, by decide, fun _ => ⟨_, rfl⟩⟩
set_option maxRecDepth 20000 in
theorem mx_mo165 : mx_MP 165 := ⟨(mx_g5 167 rfl rfl), by decide +kernel, by decide +kernel, by decide +kernel, (fun h => by cases h), fun _ => (mx_g5 165 rfl rfl), (fun _ _ => (mx_g5 166 rfl rfl)), (fun h => by cases h), rfl, by decide, fun _ => ⟨_, rfl⟩⟩
set_option maxRecDepth 20000 in
theorem mx_mo166 : mx_MP 166 := ⟨(mx_g4 29 rfl rfl), by decide +kernel, by decide +kernel, by decide +kernel, fun _ => (mx_g4 28 rfl rfl), (fun h => by cases h), (fun h => by cases h), (fun h => by cases h), rfl, by decide, (fun h => by cases h)⟩
set_option maxRecDepth 20000 in
theorem mx_mo167 : mx_MP 167 := ⟨(mx_g4 52 rfl rfl), by decide +kernel, by decide +kernel, by decide +kernel, fun _ => (mx_g4 51 rfl rfl), (fun h => by cases h), (fun h => by cases h), (fun h => by cases h), rfl, by decide, (fun h => by cases h)⟩
theorem mx_mp0 (j : Nat) (h : j < 16) : mx_MP (0 + j) := by
  match j, h with
  | 0, _ => exact mx_mo0
  | 1, _ => exact mx_mo1
  | 2, _ => exact mx_mo2
  | 3, _ => exact mx_mo3
  | 4, _ => exact mx_mo4
  | 5, _ => exact mx_mo5
  | 6, _ => exact mx_mo6
  | 7, _ => exact mx_mo7
  | 8, _ => exact mx_mo8
  | 9, _ => exact mx_mo9
  | 10, _ => exact mx_mo10
  | 11, _ => exact mx_mo11
  | 12, _ => exact mx_mo12
  | 13, _ => exact mx_mo13
  | 14, _ => exact mx_mo14
  | 15, _ => exact mx_mo15
  | n + 16, h => omega
theorem mx_mp1 (j : Nat) (h : j < 16) : mx_MP (16 + j) := by
  match j, h with
  | 0, _ => exact mx_mo16
  | 1, _ => exact mx_mo17
  | 2, _ => exact mx_mo18
  | 3, _ => exact mx_mo19
  | 4, _ => exact mx_mo20
  | 5, _ => exact mx_mo21
  | 6, _ => exact mx_mo22
  | 7, _ => exact mx_mo23
  | 8, _ => exact mx_mo24
  | 9, _ => exact mx_mo25
  | 10, _ => exact mx_mo26
  | 11, _ => exact mx_mo27
  | 12, _ => exact mx_mo28
  | 13, _ => exact mx_mo29
  | 14, _ => exact mx_mo30
  | 15, _ => exact mx_mo31
  | n + 16, h => omega
theorem mx_mp2 (j : Nat) (h : j < 16) : mx_MP (32 + j) := by
  match j, h with
  | 0, _ => exact mx_mo32
  | 1, _ => exact mx_mo33
  | 2, _ => exact mx_mo34
  | 3, _ => exact mx_mo35
  | 4, _ => exact mx_mo36
  | 5, _ => exact mx_mo37
  | 6, _ => exact mx_mo38
  | 7, _ => exact mx_mo39
  | 8, _ => exact mx_mo40
  | 9, _ => exact mx_mo41
  | 10, _ => exact mx_mo42
  | 11, _ => exact mx_mo43
  | 12, _ => exact mx_mo44
  | 13, _ => exact mx_mo45
  | 14, _ => exact mx_mo46
  | 15, _ => exact mx_mo47
  | n + 16, h => omega
theorem mx_mp3 (j : Nat) (h : j < 16) : mx_MP (48 + j) := by
  match j, h with
  | 0, _ => exact mx_mo48
  | 1, _ => exact mx_mo49
  | 2, _ => exact mx_mo50
  | 3, _ => exact mx_mo51
  | 4, _ => exact mx_mo52
  | 5, _ => exact mx_mo53
  | 6, _ => exact mx_mo54
  | 7, _ => exact mx_mo55
  | 8, _ => exact mx_mo56
  | 9, _ => exact mx_mo57
  | 10, _ => exact mx_mo58
  | 11, _ => exact mx_mo59
  | 12, _ => exact mx_mo60
  | 13, _ => exact mx_mo61
  | 14, _ => exact mx_mo62
  | 15, _ => exact mx_mo63
  | n + 16, h => omega
theorem mx_mp4 (j : Nat) (h : j < 16) : mx_MP (64 + j) := by
  match j, h with
  | 0, _ => exact mx_mo64
  | 1, _ => exact mx_mo65
  | 2, _ => exact mx_mo66
  | 3, _ => exact mx_mo67
  | 4, _ => exact mx_mo68
  | 5, _ => exact mx_mo69
  | 6, _ => exact mx_mo70
  | 7, _ => exact mx_mo71
  | 8, _ => exact mx_mo72
  | 9, _ => exact mx_mo73
  | 10, _ => exact mx_mo74
  | 11, _ => exact mx_mo75
  | 12, _ => exact mx_mo76
  | 13, _ => exact mx_mo77
  | 14, _ => exact mx_mo78
  | 15, _ => exact mx_mo79
  | n + 16, h => omega
theorem mx_mp5 (j : Nat) (h : j < 16) : mx_MP (80 + j) := by
  match j, h with
  | 0, _ => exact mx_mo80
  | 1, _ => exact mx_mo81
  | 2, _ => exact mx_mo82
  | 3, _ => exact mx_mo83
  | 4, _ => exact mx_mo84
  | 5, _ => exact mx_mo85
  | 6, _ => exact mx_mo86
  | 7, _ => exact mx_mo87
  | 8, _ => exact mx_mo88
  | 9, _ => exact mx_mo89
  | 10, _ => exact mx_mo90
  | 11, _ => exact mx_mo91
  | 12, _ => exact mx_mo92
  | 13, _ => exact mx_mo93
  | 14, _ => exact mx_mo94
  | 15, _ => exact mx_mo95
  | n + 16, h => omega
theorem mx_mp6 (j : Nat) (h : j < 16) : mx_MP (96 + j) := by
  match j, h with
  | 0, _ => exact mx_mo96
  | 1, _ => exact mx_mo97
  | 2, _ => exact mx_mo98
  | 3, _ => exact mx_mo99
  | 4, _ => exact mx_mo100
  | 5, _ => exact mx_mo101
  | 6, _ => exact mx_mo102
  | 7, _ => exact mx_mo103
  | 8, _ => exact mx_mo104
  | 9, _ => exact mx_mo105
  | 10, _ => exact mx_mo106
  | 11, _ => exact mx_mo107
  | 12, _ => exact mx_mo108
  | 13, _ => exact mx_mo109
  | 14, _ => exact mx_mo110
  | 15, _ => exact mx_mo111
  | n + 16, h => omega
theorem mx_mp7 (j : Nat) (h : j < 16) : mx_MP (112 + j) := by
  match j, h with
  | 0, _ => exact mx_mo112
  | 1, _ => exact mx_mo113
  | 2, _ => exact mx_mo114
  | 3, _ => exact mx_mo115
  | 4, _ => exact mx_mo116
  | 5, _ => exact mx_mo117
  | 6, _ => exact mx_mo118
  | 7, _ => exact mx_mo119
  | 8, _ => exact mx_mo120
  | 9, _ => exact mx_mo121
  | 10, _ => exact mx_mo122
  | 11, _ => exact mx_mo123
  | 12, _ => exact mx_mo124
  | 13, _ => exact mx_mo125
  | 14, _ => exact mx_mo126
  | 15, _ => exact mx_mo127
  | n + 16, h => omega
theorem mx_mp8 (j : Nat) (h : j < 16) : mx_MP (128 + j) := by
  match j, h with
  | 0, _ => exact mx_mo128
  | 1, _ => exact mx_mo129
  | 2, _ => exact mx_mo130
  | 3, _ => exact mx_mo131
  | 4, _ => exact mx_mo132
  | 5, _ => exact mx_mo133
  | 6, _ => exact mx_mo134
  | 7, _ => exact mx_mo135
  | 8, _ => exact mx_mo136
  | 9, _ => exact mx_mo137
  | 10, _ => exact mx_mo138
  | 11, _ => exact mx_mo139
  | 12, _ => exact mx_mo140
  | 13, _ => exact mx_mo141
  | 14, _ => exact mx_mo142
  | 15, _ => exact mx_mo143
  | n + 16, h => omega
theorem mx_mp9 (j : Nat) (h : j < 16) : mx_MP (144 + j) := by
  match j, h with
  | 0, _ => exact mx_mo144
  | 1, _ => exact mx_mo145
  | 2, _ => exact mx_mo146
  | 3, _ => exact mx_mo147
  | 4, _ => exact mx_mo148
  | 5, _ => exact mx_mo149
  | 6, _ => exact mx_mo150
  | 7, _ => exact mx_mo151
  | 8, _ => exact mx_mo152
  | 9, _ => exact mx_mo153
  | 10, _ => exact mx_mo154
  | 11, _ => exact mx_mo155
  | 12, _ => exact mx_mo156
  | 13, _ => exact mx_mo157
  | 14, _ => exact mx_mo158
  | 15, _ => exact mx_mo159
  | n + 16, h => omega
theorem mx_mp10 (j : Nat) (h : j < 8) : mx_MP (160 + j) := by
  match j, h with
  | 0, _ => exact mx_mo160
  | 1, _ => exact mx_mo161
  | 2, _ => exact mx_mo162
  | 3, _ => exact mx_mo163
  | 4, _ => exact mx_mo164
  | 5, _ => exact mx_mo165
  | 6, _ => exact mx_mo166
  | 7, _ => exact mx_mo167
  | n + 8, h => omega
theorem mx_meth_ok {y : Nat} (h : y < mx_NM) : mx_MP y := by
  have h : y < 168 := h
  by_cases h0 : y < 16
  · have e := mx_mp0 (y - 0) (by omega)
    rwa [show 0 + (y - 0) = y by omega] at e
  by_cases h16 : y < 32
  · have e := mx_mp1 (y - 16) (by omega)
    rwa [show 16 + (y - 16) = y by omega] at e
  by_cases h32 : y < 48
  · have e := mx_mp2 (y - 32) (by omega)
    rwa [show 32 + (y - 32) = y by omega] at e
  by_cases h48 : y < 64
  · have e := mx_mp3 (y - 48) (by omega)
    rwa [show 48 + (y - 48) = y by omega] at e
  by_cases h64 : y < 80
  · have e := mx_mp4 (y - 64) (by omega)
    rwa [show 64 + (y - 64) = y by omega] at e
  by_cases h80 : y < 96
  · have e := mx_mp5 (y - 80) (by omega)
    rwa [show 80 + (y - 80) = y by omega] at e
  by_cases h96 : y < 112
  · have e := mx_mp6 (y - 96) (by omega)
    rwa [show 96 + (y - 96) = y by omega] at e
  by_cases h112 : y < 128
  · have e := mx_mp7 (y - 112) (by omega)
    rwa [show 112 + (y - 112) = y by omega] at e
  by_cases h128 : y < 144
  · have e := mx_mp8 (y - 128) (by omega)
    rwa [show 128 + (y - 128) = y by omega] at e
  by_cases h144 : y < 160
  · have e := mx_mp9 (y - 144) (by omega)
    rwa [show 144 + (y - 144) = y by omega] at e
  have e := mx_mp10 (y - 160) (by omega)
  rwa [show 160 + (y - 160) = y by omega] at e
theorem mx_init_ok {y : Nat} (h : y < mx_NM) (hi : mx_mi y = true) : mx_mr y = none ∧ (mx_my y).name = "<init>" := by
  have ha : (List.range 168).all (fun y => !mx_mi y || decide (mx_mr y = none)) = true := by decide +kernel
  have h2 := List.all_eq_true.mp ha y (List.mem_range.mpr h)
  rw [hi] at h2
  exact ⟨by simpa using h2, (mx_meth_ok h).2.2.2.2.2.2.2.1 hi⟩
def mx_calT : List (List (Nat × Nat × Bool)) := [[(11, 29, false), (18, 77, false), (25, 96, false), (34, 109, false), (41, 113, false), (48, 30, false), (52, 4, false), (60, 34, false), (66, 6, false), (70, 35, false), (74, 36, false), (82, 32, false), (95, 72, false), (99, 78, false), (102, 12, false), (106, 74, false), (109, 82, false), (112, 75, false), (115, 83, false), (118, 76, false), (142, 79, false), (146, 100, false), (149, 106, false), (152, 107, false), (155, 84, false), (158, 80, false), (162, 81, false), (171, 52, false), (180, 18, false), (187, 108, false), (194, 53, false), (197, 45, false), (201, 85, false), (205, 87, true), (209, 88, false), (215, 89, false), (218, 111, false), (235, 115, false), (238, 92, false), (244, 95, false), (250, 28, false), (257, 112, false), (261, 97, false), (264, 110, false), (268, 8, false), (271, 2, false), (274, 7, false)],
  [(17, 33, false), (22, 31, false), (30, 2, true), (34, 37, false)],
  [(35, 36, false), (46, 37, false), (49, 34, false), (53, 35, false)],
  [(38, 43, false), (42, 45, false)],
  [(21, 41, false), (26, 49, false), (30, 42, false)],
  [(24, 48, false), (31, 56, false), (40, 57, false), (43, 60, false), (46, 62, false), (49, 65, false), (52, 66, false), (55, 61, false), (58, 67, false), (61, 63, false), (64, 68, false), (68, 69, false), (71, 70, false), (81, 58, false), (87, 51, false), (91, 49, false), (94, 59, false), (97, 8, true), (100, 50, false), (104, 64, false), (110, 43, false), (113, 44, false), (120, 46, false), (124, 7, true), (127, 2, true)],
  [(11, 33, false), (20, 47, false), (29, 54, false), (50, 38, false), (61, 55, false), (71, 48, false), (74, 73, false)],
  [(11, 41, false), (24, 71, false), (29, 113, false), (36, 81, false), (40, 51, false), (46, 80, false), (55, 76, false), (66, 79, false), (92, 86, false), (96, 39, false), (100, 89, false), (106, 88, false), (109, 90, false), (122, 91, false), (129, 85, false), (132, 87, false), (138, 114, false), (141, 82, false), (147, 93, false), (150, 94, false), (154, 167, false), (160, 40, false)],
  [(25, 80, false), (33, 45, false), (41, 84, false), (49, 18, true), (53, 98, false), (58, 99, false), (62, 101, false), (65, 105, false), (69, 100, false), (90, 102, false), (93, 81, false), (102, 51, false), (106, 104, false), (110, 103, false), (117, 44, false), (128, 114, false)],
  [(29, 28, true)],
  [(22, 166, false)],
  [(116, 120, false), (120, 118, false), (124, 123, false), (132, 122, false), (142, 128, false), (146, 129, false), (152, 130, false), (159, 131, false), (162, 132, false), (165, 133, false), (169, 137, false), (172, 136, false), (178, 140, false), (183, 139, false), (188, 141, false), (196, 143, false), (203, 142, false), (207, 144, false), (213, 135, false), (216, 138, false), (219, 145, false), (226, 127, false), (229, 125, false), (233, 134, false), (239, 147, false), (242, 149, false), (245, 152, false), (249, 151, false), (252, 153, false), (255, 158, false)],
  [(9, 0, false), (12, 116, false), (15, 1, false), (19, 117, false), (20, 3, false), (24, 119, false), (25, 5, false), (29, 121, false), (30, 9, false), (34, 124, false), (35, 10, false), (39, 125, false), (40, 11, false), (44, 126, false), (45, 13, false), (49, 146, false), (50, 14, false), (53, 154, false), (54, 15, false), (57, 155, false), (58, 16, false), (61, 156, false), (62, 17, false), (65, 157, false), (66, 19, false), (70, 159, false), (71, 20, false), (74, 160, false), (75, 21, false), (79, 161, false), (80, 22, false), (84, 150, false), (85, 23, false), (88, 162, false), (89, 24, false), (92, 163, false), (93, 25, false), (96, 148, false), (97, 26, false), (100, 164, false), (101, 27, false), (104, 165, false)],
  []]
def mx_cal (own idx : Nat) : Option (Nat × Bool) := ((mx_calT[own]?).getD []).lookup idx
set_option maxRecDepth 20000 in
theorem mx_cal_o0 : ∀ e ∈ ((mx_calT[0]?).getD []), (fun (e : Nat × Nat × Bool) => e.2.1 < mx_NM ∧ Cond.initialized (mx_my e.2.1).cls ∈ mx_GT ∧ (e.2.2 = false → Cond.methodLink (mx_own 0) e.1 (mx_my e.2.1) ∈ mx_GT) ∧ (e.2.2 = true → ∃ host, (mx_own 0, e.1, mx_my e.2.1, host) ∈ mx_nm)) e := mx_fc ⟨by decide, (mx_g1 2 rfl rfl), fun _ => (mx_g1 24 rfl rfl), fun h => by cases h⟩ (mx_fc ⟨by decide, (mx_g1 4 rfl rfl), fun _ => (mx_g1 89 rfl rfl), fun h => by cases h⟩ (mx_fc ⟨by decide, (mx_g1 10 rfl rfl), fun _ => (mx_g2 37 rfl rfl), fun h => by cases h⟩ (mx_fc ⟨by decide, (mx_g1 11 rfl rfl), fun _ => (mx_g2 59 rfl rfl), fun h => by cases h⟩ (mx_fc ⟨by decide, (mx_g1 9 rfl rfl), fun _ => (mx_g2 84 rfl rfl), fun h => by cases h⟩ (mx_fc ⟨by decide, (mx_g1 2 rfl rfl), fun _ => (mx_g2 105 rfl rfl), fun h => by cases h⟩ (mx_fc ⟨by decide, (mx_g1 1 rfl rfl), fun _ => (mx_g2 119 rfl rfl), fun h => by cases h⟩ (mx_fc ⟨by decide, (mx_g1 3 rfl rfl), fun _ => (mx_g2 122 rfl rfl), fun h => by cases h⟩ (mx_fc ⟨by decide, (mx_g1 1 rfl rfl), fun _ => (mx_g2 130 rfl rfl), fun h => by cases h⟩ (mx_fc ⟨by decide, (mx_g1 3 rfl rfl), fun _ => (mx_g2 140 rfl rfl), fun h => by cases h⟩ (mx_fc ⟨by decide, (mx_g1 3 rfl rfl), fun _ => (mx_g2 148 rfl rfl), fun h => by cases h⟩ (mx_fc ⟨by decide, (mx_g1 2 rfl rfl), fun _ => (mx_g2 156 rfl rfl), fun h => by cases h⟩ (mx_fc ⟨by decide, (mx_g1 6 rfl rfl), fun _ => (mx_g2 169 rfl rfl), fun h => by cases h⟩ (mx_fc ⟨by decide, (mx_g1 4 rfl rfl), fun _ => (mx_g3 49 rfl rfl), fun h => by cases h⟩ (mx_fc ⟨by decide, (mx_g1 1 rfl rfl), fun _ => (mx_g3 57 rfl rfl), fun h => by cases h⟩ (mx_fc ⟨by decide, (mx_g1 6 rfl rfl), fun _ => (mx_g3 123 rfl rfl), fun h => by cases h⟩ (mx_fc ⟨by decide, (mx_g1 4 rfl rfl), fun _ => (mx_g3 131 rfl rfl), fun h => by cases h⟩ (mx_fc ⟨by decide, (mx_g1 6 rfl rfl), fun _ => (mx_g3 136 rfl rfl), fun h => by cases h⟩ (mx_fc ⟨by decide, (mx_g1 4 rfl rfl), fun _ => (mx_g3 140 rfl rfl), fun h => by cases h⟩ (mx_fc ⟨by decide, (mx_g1 6 rfl rfl), fun _ => (mx_g3 149 rfl rfl), fun h => by cases h⟩ (mx_fc ⟨by decide, (mx_g1 4 rfl rfl), fun _ => (mx_g3 153 rfl rfl), fun h => by cases h⟩ (mx_fc ⟨by decide, (mx_g1 10 rfl rfl), fun _ => (mx_g3 158 rfl rfl), fun h => by cases h⟩ (mx_fc ⟨by decide, (mx_g1 10 rfl rfl), fun _ => (mx_g3 159 rfl rfl), fun h => by cases h⟩ (mx_fc ⟨by decide, (mx_g1 10 rfl rfl), fun _ => (mx_g3 167 rfl rfl), fun h => by cases h⟩ (mx_fc ⟨by decide, (mx_g1 4 rfl rfl), fun _ => (mx_g3 175 rfl rfl), fun h => by cases h⟩ (mx_fc ⟨by decide, (mx_g1 4 rfl rfl), fun _ => (mx_g3 180 rfl rfl), fun h => by cases h⟩ (mx_fc ⟨by decide, (mx_g1 4 rfl rfl), fun _ => (mx_g3 181 rfl rfl), fun h => by cases h⟩ (mx_fc ⟨by decide, (mx_g1 7 rfl rfl), fun _ => (mx_g3 182 rfl rfl), fun h => by cases h⟩ (mx_fc ⟨by decide, (mx_g1 1 rfl rfl), fun _ => (mx_g3 186 rfl rfl), fun h => by cases h⟩ (mx_fc ⟨by decide, (mx_g1 10 rfl rfl), fun _ => (mx_g3 189 rfl rfl), fun h => by cases h⟩ (mx_fc ⟨by decide, (mx_g1 7 rfl rfl), fun _ => (mx_g3 203 rfl rfl), fun h => by cases h⟩ (mx_fc ⟨by decide, (mx_g1 5 rfl rfl), fun _ => (mx_g3 211 rfl rfl), fun h => by cases h⟩ (mx_fc ⟨by decide, (mx_g1 4 rfl rfl), fun _ => (mx_g3 216 rfl rfl), fun h => by cases h⟩ (mx_fc ⟨by decide, (mx_g1 4 rfl rfl), (fun h => by cases h), fun _ => ⟨"PluginHall", List.mem_of_getElem? (i := 5) rfl⟩⟩ (mx_fc ⟨by decide, (mx_g1 4 rfl rfl), fun _ => (mx_g4 9 rfl rfl), fun h => by cases h⟩ (mx_fc ⟨by decide, (mx_g1 4 rfl rfl), fun _ => (mx_g4 10 rfl rfl), fun h => by cases h⟩ (mx_fc ⟨by decide, (mx_g1 11 rfl rfl), fun _ => (mx_g4 11 rfl rfl), fun h => by cases h⟩ (mx_fc ⟨by decide, (mx_g1 9 rfl rfl), fun _ => (mx_g4 23 rfl rfl), fun h => by cases h⟩ (mx_fc ⟨by decide, (mx_g1 4 rfl rfl), fun _ => (mx_g4 34 rfl rfl), fun h => by cases h⟩ (mx_fc ⟨by decide, (mx_g1 4 rfl rfl), fun _ => (mx_g4 61 rfl rfl), fun h => by cases h⟩ (mx_fc ⟨by decide, (mx_g1 1 rfl rfl), fun _ => (mx_g4 66 rfl rfl), fun h => by cases h⟩ (mx_fc ⟨by decide, (mx_g1 11 rfl rfl), fun _ => (mx_g4 69 rfl rfl), fun h => by cases h⟩ (mx_fc ⟨by decide, (mx_g1 10 rfl rfl), fun _ => (mx_g3 61 rfl rfl), fun h => by cases h⟩ (mx_fc ⟨by decide, (mx_g1 11 rfl rfl), fun _ => (mx_g3 119 rfl rfl), fun h => by cases h⟩ (mx_fc ⟨by decide, (mx_g1 1 rfl rfl), fun _ => (mx_g2 137 rfl rfl), fun h => by cases h⟩ (mx_fc ⟨by decide, (mx_g1 1 rfl rfl), fun _ => (mx_g2 133 rfl rfl), fun h => by cases h⟩ (mx_fc ⟨by decide, (mx_g1 1 rfl rfl), fun _ => (mx_g2 134 rfl rfl), fun h => by cases h⟩ (mx_f0)))))))))))))))))))))))))))))))))))))))))))))))
set_option maxRecDepth 20000 in
theorem mx_cal_o1 : ∀ e ∈ ((mx_calT[1]?).getD []), (fun (e : Nat × Nat × Bool) => e.2.1 < mx_NM ∧ Cond.initialized (mx_my e.2.1).cls ∈ mx_GT ∧ (e.2.2 = false → Cond.methodLink (mx_own 1) e.1 (mx_my e.2.1) ∈ mx_GT) ∧ (e.2.2 = true → ∃ host, (mx_own 1, e.1, mx_my e.2.1, host) ∈ mx_nm)) e := mx_fc ⟨by decide, (mx_g1 3 rfl rfl), fun _ => (mx_g1 30 rfl rfl), fun h => by cases h⟩ (mx_fc ⟨by decide, (mx_g1 2 rfl rfl), fun _ => (mx_g2 109 rfl rfl), fun h => by cases h⟩ (mx_fc ⟨by decide, (mx_g1 1 rfl rfl), (fun h => by cases h), fun _ => ⟨"PluginHall", List.mem_of_getElem? (i := 0) rfl⟩⟩ (mx_fc ⟨by decide, (mx_g1 3 rfl rfl), fun _ => (mx_g2 160 rfl rfl), fun h => by cases h⟩ (mx_f0))))
set_option maxRecDepth 20000 in
theorem mx_cal_o2 : ∀ e ∈ ((mx_calT[2]?).getD []), (fun (e : Nat × Nat × Bool) => e.2.1 < mx_NM ∧ Cond.initialized (mx_my e.2.1).cls ∈ mx_GT ∧ (e.2.2 = false → Cond.methodLink (mx_own 2) e.1 (mx_my e.2.1) ∈ mx_GT) ∧ (e.2.2 = true → ∃ host, (mx_own 2, e.1, mx_my e.2.1, host) ∈ mx_nm)) e := mx_fc ⟨by decide, (mx_g1 3 rfl rfl), fun _ => (mx_g2 164 rfl rfl), fun h => by cases h⟩ (mx_fc ⟨by decide, (mx_g1 3 rfl rfl), fun _ => (mx_g2 177 rfl rfl), fun h => by cases h⟩ (mx_fc ⟨by decide, (mx_g1 3 rfl rfl), fun _ => (mx_g2 178 rfl rfl), fun h => by cases h⟩ (mx_fc ⟨by decide, (mx_g1 3 rfl rfl), fun _ => (mx_g2 179 rfl rfl), fun h => by cases h⟩ (mx_f0))))
set_option maxRecDepth 20000 in
theorem mx_cal_o3 : ∀ e ∈ ((mx_calT[3]?).getD []), (fun (e : Nat × Nat × Bool) => e.2.1 < mx_NM ∧ Cond.initialized (mx_my e.2.1).cls ∈ mx_GT ∧ (e.2.2 = false → Cond.methodLink (mx_own 3) e.1 (mx_my e.2.1) ∈ mx_GT) ∧ (e.2.2 = true → ∃ host, (mx_own 3, e.1, mx_my e.2.1, host) ∈ mx_nm)) e := mx_fc ⟨by decide, (mx_g1 5 rfl rfl), fun _ => (mx_g3 26 rfl rfl), fun h => by cases h⟩ (mx_fc ⟨by decide, (mx_g1 5 rfl rfl), fun _ => (mx_g3 13 rfl rfl), fun h => by cases h⟩ (mx_f0))
set_option maxRecDepth 20000 in
theorem mx_cal_o4 : ∀ e ∈ ((mx_calT[4]?).getD []), (fun (e : Nat × Nat × Bool) => e.2.1 < mx_NM ∧ Cond.initialized (mx_my e.2.1).cls ∈ mx_GT ∧ (e.2.2 = false → Cond.methodLink (mx_own 4) e.1 (mx_my e.2.1) ∈ mx_GT) ∧ (e.2.2 = true → ∃ host, (mx_own 4, e.1, mx_my e.2.1, host) ∈ mx_nm)) e := mx_fc ⟨by decide, (mx_g1 5 rfl rfl), fun _ => (mx_g1 156 rfl rfl), fun h => by cases h⟩ (mx_fc ⟨by decide, (mx_g1 7 rfl rfl), fun _ => (mx_g2 220 rfl rfl), fun h => by cases h⟩ (mx_fc ⟨by decide, (mx_g1 5 rfl rfl), fun _ => (mx_g2 221 rfl rfl), fun h => by cases h⟩ (mx_f0)))
set_option maxRecDepth 20000 in
theorem mx_cal_o5 : ∀ e ∈ ((mx_calT[5]?).getD []), (fun (e : Nat × Nat × Bool) => e.2.1 < mx_NM ∧ Cond.initialized (mx_my e.2.1).cls ∈ mx_GT ∧ (e.2.2 = false → Cond.methodLink (mx_own 5) e.1 (mx_my e.2.1) ∈ mx_GT) ∧ (e.2.2 = true → ∃ host, (mx_own 5, e.1, mx_my e.2.1, host) ∈ mx_nm)) e := mx_fc ⟨by decide, (mx_g1 7 rfl rfl), fun _ => (mx_g2 184 rfl rfl), fun h => by cases h⟩ (mx_fc ⟨by decide, (mx_g1 8 rfl rfl), fun _ => (mx_g2 188 rfl rfl), fun h => by cases h⟩ (mx_fc ⟨by decide, (mx_g1 8 rfl rfl), fun _ => (mx_g2 192 rfl rfl), fun h => by cases h⟩ (mx_fc ⟨by decide, (mx_g1 8 rfl rfl), fun _ => (mx_g2 207 rfl rfl), fun h => by cases h⟩ (mx_fc ⟨by decide, (mx_g1 8 rfl rfl), fun _ => (mx_g2 225 rfl rfl), fun h => by cases h⟩ (mx_fc ⟨by decide, (mx_g1 8 rfl rfl), fun _ => (mx_g2 237 rfl rfl), fun h => by cases h⟩ (mx_fc ⟨by decide, (mx_g1 8 rfl rfl), fun _ => (mx_g3 5 rfl rfl), fun h => by cases h⟩ (mx_fc ⟨by decide, (mx_g1 8 rfl rfl), fun _ => (mx_g2 211 rfl rfl), fun h => by cases h⟩ (mx_fc ⟨by decide, (mx_g1 8 rfl rfl), fun _ => (mx_g3 18 rfl rfl), fun h => by cases h⟩ (mx_fc ⟨by decide, (mx_g1 8 rfl rfl), fun _ => (mx_g2 229 rfl rfl), fun h => by cases h⟩ (mx_fc ⟨by decide, (mx_g1 8 rfl rfl), fun _ => (mx_g3 28 rfl rfl), fun h => by cases h⟩ (mx_fc ⟨by decide, (mx_g1 8 rfl rfl), fun _ => (mx_g3 36 rfl rfl), fun h => by cases h⟩ (mx_fc ⟨by decide, (mx_g1 8 rfl rfl), fun _ => (mx_g3 40 rfl rfl), fun h => by cases h⟩ (mx_fc ⟨by decide, (mx_g1 8 rfl rfl), fun _ => (mx_g2 200 rfl rfl), fun h => by cases h⟩ (mx_fc ⟨by decide, (mx_g1 7 rfl rfl), fun _ => (mx_g3 32 rfl rfl), fun h => by cases h⟩ (mx_fc ⟨by decide, (mx_g1 7 rfl rfl), fun _ => (mx_g2 196 rfl rfl), fun h => by cases h⟩ (mx_fc ⟨by decide, (mx_g1 8 rfl rfl), fun _ => (mx_g2 204 rfl rfl), fun h => by cases h⟩ (mx_fc ⟨by decide, (mx_g1 1 rfl rfl), (fun h => by cases h), fun _ => ⟨"PluginHall", List.mem_of_getElem? (i := 1) rfl⟩⟩ (mx_fc ⟨by decide, (mx_g1 7 rfl rfl), fun _ => (mx_g2 216 rfl rfl), fun h => by cases h⟩ (mx_fc ⟨by decide, (mx_g1 8 rfl rfl), fun _ => (mx_g2 233 rfl rfl), fun h => by cases h⟩ (mx_fc ⟨by decide, (mx_g1 5 rfl rfl), fun _ => (mx_g3 1 rfl rfl), fun h => by cases h⟩ (mx_fc ⟨by decide, (mx_g1 5 rfl rfl), fun _ => (mx_g3 9 rfl rfl), fun h => by cases h⟩ (mx_fc ⟨by decide, (mx_g1 5 rfl rfl), fun _ => (mx_g3 22 rfl rfl), fun h => by cases h⟩ (mx_fc ⟨by decide, (mx_g1 1 rfl rfl), (fun h => by cases h), fun _ => ⟨"PluginHall", List.mem_of_getElem? (i := 2) rfl⟩⟩ (mx_fc ⟨by decide, (mx_g1 1 rfl rfl), (fun h => by cases h), fun _ => ⟨"PluginHall", List.mem_of_getElem? (i := 3) rfl⟩⟩ (mx_f0)))))))))))))))))))))))))
set_option maxRecDepth 20000 in
theorem mx_cal_o6 : ∀ e ∈ ((mx_calT[6]?).getD []), (fun (e : Nat × Nat × Bool) => e.2.1 < mx_NM ∧ Cond.initialized (mx_my e.2.1).cls ∈ mx_GT ∧ (e.2.2 = false → Cond.methodLink (mx_own 6) e.1 (mx_my e.2.1) ∈ mx_GT) ∧ (e.2.2 = true → ∃ host, (mx_own 6, e.1, mx_my e.2.1, host) ∈ mx_nm)) e := mx_fc ⟨by decide, (mx_g1 3 rfl rfl), fun _ => (mx_g1 147 rfl rfl), fun h => by cases h⟩ (mx_fc ⟨by decide, (mx_g1 7 rfl rfl), fun _ => (mx_g1 150 rfl rfl), fun h => by cases h⟩ (mx_fc ⟨by decide, (mx_g1 8 rfl rfl), fun _ => (mx_g1 172 rfl rfl), fun h => by cases h⟩ (mx_fc ⟨by decide, (mx_g1 3 rfl rfl), fun _ => (mx_g2 173 rfl rfl), fun h => by cases h⟩ (mx_fc ⟨by decide, (mx_g1 8 rfl rfl), fun _ => (mx_g2 180 rfl rfl), fun h => by cases h⟩ (mx_fc ⟨by decide, (mx_g1 7 rfl rfl), fun _ => (mx_g3 45 rfl rfl), fun h => by cases h⟩ (mx_fc ⟨by decide, (mx_g1 6 rfl rfl), fun _ => (mx_g3 46 rfl rfl), fun h => by cases h⟩ (mx_f0)))))))
set_option maxRecDepth 20000 in
theorem mx_cal_o7 : ∀ e ∈ ((mx_calT[7]?).getD []), (fun (e : Nat × Nat × Bool) => e.2.1 < mx_NM ∧ Cond.initialized (mx_my e.2.1).cls ∈ mx_GT ∧ (e.2.2 = false → Cond.methodLink (mx_own 7) e.1 (mx_my e.2.1) ∈ mx_GT) ∧ (e.2.2 = true → ∃ host, (mx_own 7, e.1, mx_my e.2.1, host) ∈ mx_nm)) e := mx_fc ⟨by decide, (mx_g1 5 rfl rfl), fun _ => (mx_g1 95 rfl rfl), fun h => by cases h⟩ (mx_fc ⟨by decide, (mx_g1 6 rfl rfl), fun _ => (mx_g1 142 rfl rfl), fun h => by cases h⟩ (mx_fc ⟨by decide, (mx_g1 9 rfl rfl), fun _ => (mx_g2 5 rfl rfl), fun h => by cases h⟩ (mx_fc ⟨by decide, (mx_g1 4 rfl rfl), fun _ => (mx_g3 73 rfl rfl), fun h => by cases h⟩ (mx_fc ⟨by decide, (mx_g1 7 rfl rfl), fun _ => (mx_g3 77 rfl rfl), fun h => by cases h⟩ (mx_fc ⟨by decide, (mx_g1 4 rfl rfl), fun _ => (mx_g3 179 rfl rfl), fun h => by cases h⟩ (mx_fc ⟨by decide, (mx_g1 6 rfl rfl), fun _ => (mx_g4 65 rfl rfl), fun h => by cases h⟩ (mx_fc ⟨by decide, (mx_g1 4 rfl rfl), fun _ => (mx_g3 53 rfl rfl), fun h => by cases h⟩ (mx_fc ⟨by decide, (mx_g1 4 rfl rfl), fun _ => (mx_g3 220 rfl rfl), fun h => by cases h⟩ (mx_fc ⟨by decide, (mx_g1 3 rfl rfl), fun _ => (mx_g3 224 rfl rfl), fun h => by cases h⟩ (mx_fc ⟨by decide, (mx_g1 4 rfl rfl), fun _ => (mx_g3 236 rfl rfl), fun h => by cases h⟩ (mx_fc ⟨by decide, (mx_g1 4 rfl rfl), fun _ => (mx_g3 232 rfl rfl), fun h => by cases h⟩ (mx_fc ⟨by decide, (mx_g1 4 rfl rfl), fun _ => (mx_g3 239 rfl rfl), fun h => by cases h⟩ (mx_fc ⟨by decide, (mx_g1 4 rfl rfl), fun _ => (mx_g4 3 rfl rfl), fun h => by cases h⟩ (mx_fc ⟨by decide, (mx_g1 4 rfl rfl), fun _ => (mx_g4 7 rfl rfl), fun h => by cases h⟩ (mx_fc ⟨by decide, (mx_g1 4 rfl rfl), fun _ => (mx_g4 8 rfl rfl), fun h => by cases h⟩ (mx_fc ⟨by decide, (mx_g1 9 rfl rfl), fun _ => (mx_g3 135 rfl rfl), fun h => by cases h⟩ (mx_fc ⟨by decide, (mx_g1 4 rfl rfl), fun _ => (mx_g3 144 rfl rfl), fun h => by cases h⟩ (mx_fc ⟨by decide, (mx_g1 4 rfl rfl), fun _ => (mx_g4 38 rfl rfl), fun h => by cases h⟩ (mx_fc ⟨by decide, (mx_g1 4 rfl rfl), fun _ => (mx_g4 42 rfl rfl), fun h => by cases h⟩ (mx_fc ⟨by decide, (mx_g1 13 rfl rfl), fun _ => (mx_g4 50 rfl rfl), fun h => by cases h⟩ (mx_fc ⟨by decide, (mx_g1 3 rfl rfl), fun _ => (mx_g4 46 rfl rfl), fun h => by cases h⟩ (mx_f0))))))))))))))))))))))
set_option maxRecDepth 20000 in
theorem mx_cal_o8 : ∀ e ∈ ((mx_calT[8]?).getD []), (fun (e : Nat × Nat × Bool) => e.2.1 < mx_NM ∧ Cond.initialized (mx_my e.2.1).cls ∈ mx_GT ∧ (e.2.2 = false → Cond.methodLink (mx_own 8) e.1 (mx_my e.2.1) ∈ mx_GT) ∧ (e.2.2 = true → ∃ host, (mx_own 8, e.1, mx_my e.2.1, host) ∈ mx_nm)) e := mx_fc ⟨by decide, (mx_g1 4 rfl rfl), fun _ => (mx_g3 69 rfl rfl), fun h => by cases h⟩ (mx_fc ⟨by decide, (mx_g1 5 rfl rfl), fun _ => (mx_g3 79 rfl rfl), fun h => by cases h⟩ (mx_fc ⟨by decide, (mx_g1 4 rfl rfl), fun _ => (mx_g3 193 rfl rfl), fun h => by cases h⟩ (mx_fc ⟨by decide, (mx_g1 1 rfl rfl), (fun h => by cases h), fun _ => ⟨"PluginHall", List.mem_of_getElem? (i := 4) rfl⟩⟩ (mx_fc ⟨by decide, (mx_g1 10 rfl rfl), fun _ => (mx_g3 65 rfl rfl), fun h => by cases h⟩ (mx_fc ⟨by decide, (mx_g1 10 rfl rfl), fun _ => (mx_g3 81 rfl rfl), fun h => by cases h⟩ (mx_fc ⟨by decide, (mx_g1 10 rfl rfl), fun _ => (mx_g3 90 rfl rfl), fun h => by cases h⟩ (mx_fc ⟨by decide, (mx_g1 10 rfl rfl), fun _ => (mx_g3 111 rfl rfl), fun h => by cases h⟩ (mx_fc ⟨by decide, (mx_g1 10 rfl rfl), fun _ => (mx_g3 85 rfl rfl), fun h => by cases h⟩ (mx_fc ⟨by decide, (mx_g1 10 rfl rfl), fun _ => (mx_g3 94 rfl rfl), fun h => by cases h⟩ (mx_fc ⟨by decide, (mx_g1 4 rfl rfl), fun _ => (mx_g3 98 rfl rfl), fun h => by cases h⟩ (mx_fc ⟨by decide, (mx_g1 7 rfl rfl), fun _ => (mx_g3 99 rfl rfl), fun h => by cases h⟩ (mx_fc ⟨by decide, (mx_g1 10 rfl rfl), fun _ => (mx_g3 105 rfl rfl), fun h => by cases h⟩ (mx_fc ⟨by decide, (mx_g1 10 rfl rfl), fun _ => (mx_g3 100 rfl rfl), fun h => by cases h⟩ (mx_fc ⟨by decide, (mx_g1 5 rfl rfl), fun _ => (mx_g3 110 rfl rfl), fun h => by cases h⟩ (mx_fc ⟨by decide, (mx_g1 9 rfl rfl), fun _ => (mx_g3 115 rfl rfl), fun h => by cases h⟩ (mx_f0))))))))))))))))
set_option maxRecDepth 20000 in
theorem mx_cal_o9 : ∀ e ∈ ((mx_calT[9]?).getD []), (fun (e : Nat × Nat × Bool) => e.2.1 < mx_NM ∧ Cond.initialized (mx_my e.2.1).cls ∈ mx_GT ∧ (e.2.2 = false → Cond.methodLink (mx_own 9) e.1 (mx_my e.2.1) ∈ mx_GT) ∧ (e.2.2 = true → ∃ host, (mx_own 9, e.1, mx_my e.2.1, host) ∈ mx_nm)) e := mx_fc ⟨by decide, (mx_g1 1 rfl rfl), (fun h => by cases h), fun _ => ⟨"PluginHall", List.mem_of_getElem? (i := 6) rfl⟩⟩ (mx_f0)
set_option maxRecDepth 20000 in
theorem mx_cal_o10 : ∀ e ∈ ((mx_calT[10]?).getD []), (fun (e : Nat × Nat × Bool) => e.2.1 < mx_NM ∧ Cond.initialized (mx_my e.2.1).cls ∈ mx_GT ∧ (e.2.2 = false → Cond.methodLink (mx_own 10) e.1 (mx_my e.2.1) ∈ mx_GT) ∧ (e.2.2 = true → ∃ host, (mx_own 10, e.1, mx_my e.2.1, host) ∈ mx_nm)) e := mx_fc ⟨by decide, (mx_g1 13 rfl rfl), fun _ => (mx_g4 27 rfl rfl), fun h => by cases h⟩ (mx_f0)
set_option maxRecDepth 20000 in
theorem mx_cal_o11 : ∀ e ∈ ((mx_calT[11]?).getD []), (fun (e : Nat × Nat × Bool) => e.2.1 < mx_NM ∧ Cond.initialized (mx_my e.2.1).cls ∈ mx_GT ∧ (e.2.2 = false → Cond.methodLink (mx_own 11) e.1 (mx_my e.2.1) ∈ mx_GT) ∧ (e.2.2 = true → ∃ host, (mx_own 11, e.1, mx_my e.2.1, host) ∈ mx_nm)) e := mx_fc ⟨by decide, (mx_g1 12 rfl rfl), fun _ => (mx_g4 219 rfl rfl), fun h => by cases h⟩ (mx_fc ⟨by decide, (mx_g1 12 rfl rfl), fun _ => (mx_g4 211 rfl rfl), fun h => by cases h⟩ (mx_fc ⟨by decide, (mx_g1 12 rfl rfl), fun _ => (mx_g4 229 rfl rfl), fun h => by cases h⟩ (mx_fc ⟨by decide, (mx_g1 12 rfl rfl), fun _ => (mx_g4 226 rfl rfl), fun h => by cases h⟩ (mx_fc ⟨by decide, (mx_g1 12 rfl rfl), fun _ => (mx_g5 8 rfl rfl), fun h => by cases h⟩ (mx_fc ⟨by decide, (mx_g1 12 rfl rfl), fun _ => (mx_g5 12 rfl rfl), fun h => by cases h⟩ (mx_fc ⟨by decide, (mx_g1 12 rfl rfl), fun _ => (mx_g5 16 rfl rfl), fun h => by cases h⟩ (mx_fc ⟨by decide, (mx_g1 12 rfl rfl), fun _ => (mx_g5 20 rfl rfl), fun h => by cases h⟩ (mx_fc ⟨by decide, (mx_g1 12 rfl rfl), fun _ => (mx_g5 24 rfl rfl), fun h => by cases h⟩ (mx_fc ⟨by decide, (mx_g1 12 rfl rfl), fun _ => (mx_g5 28 rfl rfl), fun h => by cases h⟩ (mx_fc ⟨by decide, (mx_g1 12 rfl rfl), fun _ => (mx_g5 45 rfl rfl), fun h => by cases h⟩ (mx_fc ⟨by decide, (mx_g1 12 rfl rfl), fun _ => (mx_g5 41 rfl rfl), fun h => by cases h⟩ (mx_fc ⟨by decide, (mx_g1 12 rfl rfl), fun _ => (mx_g5 58 rfl rfl), fun h => by cases h⟩ (mx_fc ⟨by decide, (mx_g1 12 rfl rfl), fun _ => (mx_g5 54 rfl rfl), fun h => by cases h⟩ (mx_fc ⟨by decide, (mx_g1 12 rfl rfl), fun _ => (mx_g5 63 rfl rfl), fun h => by cases h⟩ (mx_fc ⟨by decide, (mx_g1 12 rfl rfl), fun _ => (mx_g5 73 rfl rfl), fun h => by cases h⟩ (mx_fc ⟨by decide, (mx_g1 12 rfl rfl), fun _ => (mx_g5 68 rfl rfl), fun h => by cases h⟩ (mx_fc ⟨by decide, (mx_g1 12 rfl rfl), fun _ => (mx_g5 79 rfl rfl), fun h => by cases h⟩ (mx_fc ⟨by decide, (mx_g1 12 rfl rfl), fun _ => (mx_g5 37 rfl rfl), fun h => by cases h⟩ (mx_fc ⟨by decide, (mx_g1 12 rfl rfl), fun _ => (mx_g5 49 rfl rfl), fun h => by cases h⟩ (mx_fc ⟨by decide, (mx_g1 12 rfl rfl), fun _ => (mx_g5 84 rfl rfl), fun h => by cases h⟩ (mx_fc ⟨by decide, (mx_g1 12 rfl rfl), fun _ => (mx_g5 4 rfl rfl), fun h => by cases h⟩ (mx_fc ⟨by decide, (mx_g1 12 rfl rfl), fun _ => (mx_g5 32 rfl rfl), fun h => by cases h⟩ (mx_fc ⟨by decide, (mx_g1 12 rfl rfl), fun _ => (mx_g5 33 rfl rfl), fun h => by cases h⟩ (mx_fc ⟨by decide, (mx_g1 12 rfl rfl), fun _ => (mx_g5 92 rfl rfl), fun h => by cases h⟩ (mx_fc ⟨by decide, (mx_g1 12 rfl rfl), fun _ => (mx_g5 100 rfl rfl), fun h => by cases h⟩ (mx_fc ⟨by decide, (mx_g1 12 rfl rfl), fun _ => (mx_g5 112 rfl rfl), fun h => by cases h⟩ (mx_fc ⟨by decide, (mx_g1 12 rfl rfl), fun _ => (mx_g5 108 rfl rfl), fun h => by cases h⟩ (mx_fc ⟨by decide, (mx_g1 12 rfl rfl), fun _ => (mx_g5 116 rfl rfl), fun h => by cases h⟩ (mx_fc ⟨by decide, (mx_g1 12 rfl rfl), fun _ => (mx_g5 136 rfl rfl), fun h => by cases h⟩ (mx_f0))))))))))))))))))))))))))))))
set_option maxRecDepth 20000 in
theorem mx_cal_o12 : ∀ e ∈ ((mx_calT[12]?).getD []), (fun (e : Nat × Nat × Bool) => e.2.1 < mx_NM ∧ Cond.initialized (mx_my e.2.1).cls ∈ mx_GT ∧ (e.2.2 = false → Cond.methodLink (mx_own 12) e.1 (mx_my e.2.1) ∈ mx_GT) ∧ (e.2.2 = true → ∃ host, (mx_own 12, e.1, mx_my e.2.1, host) ∈ mx_nm)) e := mx_fc ⟨by decide, (mx_g1 1 rfl rfl), fun _ => (mx_g1 16 rfl rfl), fun h => by cases h⟩ (mx_fc ⟨by decide, (mx_g1 12 rfl rfl), fun _ => (mx_g4 76 rfl rfl), fun h => by cases h⟩ (mx_fc ⟨by decide, (mx_g1 1 rfl rfl), fun _ => (mx_g2 101 rfl rfl), fun h => by cases h⟩ (mx_fc ⟨by decide, (mx_g1 12 rfl rfl), fun _ => (mx_g4 207 rfl rfl), fun h => by cases h⟩ (mx_fc ⟨by decide, (mx_g1 1 rfl rfl), fun _ => (mx_g2 115 rfl rfl), fun h => by cases h⟩ (mx_fc ⟨by decide, (mx_g1 12 rfl rfl), fun _ => (mx_g4 215 rfl rfl), fun h => by cases h⟩ (mx_fc ⟨by decide, (mx_g1 1 rfl rfl), fun _ => (mx_g2 126 rfl rfl), fun h => by cases h⟩ (mx_fc ⟨by decide, (mx_g1 12 rfl rfl), fun _ => (mx_g4 222 rfl rfl), fun h => by cases h⟩ (mx_fc ⟨by decide, (mx_g1 1 rfl rfl), fun _ => (mx_g2 144 rfl rfl), fun h => by cases h⟩ (mx_fc ⟨by decide, (mx_g1 12 rfl rfl), fun _ => (mx_g4 232 rfl rfl), fun h => by cases h⟩ (mx_fc ⟨by decide, (mx_g1 1 rfl rfl), fun _ => (mx_g2 152 rfl rfl), fun h => by cases h⟩ (mx_fc ⟨by decide, (mx_g1 12 rfl rfl), fun _ => (mx_g4 236 rfl rfl), fun h => by cases h⟩ (mx_fc ⟨by decide, (mx_g1 1 rfl rfl), fun _ => (mx_g2 165 rfl rfl), fun h => by cases h⟩ (mx_fc ⟨by decide, (mx_g1 12 rfl rfl), fun _ => (mx_g5 0 rfl rfl), fun h => by cases h⟩ (mx_fc ⟨by decide, (mx_g1 1 rfl rfl), fun _ => (mx_g3 127 rfl rfl), fun h => by cases h⟩ (mx_fc ⟨by decide, (mx_g1 12 rfl rfl), fun _ => (mx_g5 88 rfl rfl), fun h => by cases h⟩ (mx_fc ⟨by decide, (mx_g1 1 rfl rfl), fun _ => (mx_g3 145 rfl rfl), fun h => by cases h⟩ (mx_fc ⟨by decide, (mx_g1 12 rfl rfl), fun _ => (mx_g5 120 rfl rfl), fun h => by cases h⟩ (mx_fc ⟨by decide, (mx_g1 1 rfl rfl), fun _ => (mx_g3 154 rfl rfl), fun h => by cases h⟩ (mx_fc ⟨by decide, (mx_g1 12 rfl rfl), fun _ => (mx_g5 124 rfl rfl), fun h => by cases h⟩ (mx_fc ⟨by decide, (mx_g1 1 rfl rfl), fun _ => (mx_g3 163 rfl rfl), fun h => by cases h⟩ (mx_fc ⟨by decide, (mx_g1 12 rfl rfl), fun _ => (mx_g5 128 rfl rfl), fun h => by cases h⟩ (mx_fc ⟨by decide, (mx_g1 1 rfl rfl), fun _ => (mx_g3 171 rfl rfl), fun h => by cases h⟩ (mx_fc ⟨by decide, (mx_g1 12 rfl rfl), fun _ => (mx_g5 132 rfl rfl), fun h => by cases h⟩ (mx_fc ⟨by decide, (mx_g1 1 rfl rfl), fun _ => (mx_g3 195 rfl rfl), fun h => by cases h⟩ (mx_fc ⟨by decide, (mx_g1 12 rfl rfl), fun _ => (mx_g5 140 rfl rfl), fun h => by cases h⟩ (mx_fc ⟨by decide, (mx_g1 1 rfl rfl), fun _ => (mx_g3 199 rfl rfl), fun h => by cases h⟩ (mx_fc ⟨by decide, (mx_g1 12 rfl rfl), fun _ => (mx_g5 144 rfl rfl), fun h => by cases h⟩ (mx_fc ⟨by decide, (mx_g1 1 rfl rfl), fun _ => (mx_g3 207 rfl rfl), fun h => by cases h⟩ (mx_fc ⟨by decide, (mx_g1 12 rfl rfl), fun _ => (mx_g5 148 rfl rfl), fun h => by cases h⟩ (mx_fc ⟨by decide, (mx_g1 1 rfl rfl), fun _ => (mx_g3 212 rfl rfl), fun h => by cases h⟩ (mx_fc ⟨by decide, (mx_g1 12 rfl rfl), fun _ => (mx_g5 104 rfl rfl), fun h => by cases h⟩ (mx_fc ⟨by decide, (mx_g1 1 rfl rfl), fun _ => (mx_g4 15 rfl rfl), fun h => by cases h⟩ (mx_fc ⟨by decide, (mx_g1 12 rfl rfl), fun _ => (mx_g5 152 rfl rfl), fun h => by cases h⟩ (mx_fc ⟨by decide, (mx_g1 1 rfl rfl), fun _ => (mx_g4 19 rfl rfl), fun h => by cases h⟩ (mx_fc ⟨by decide, (mx_g1 12 rfl rfl), fun _ => (mx_g5 156 rfl rfl), fun h => by cases h⟩ (mx_fc ⟨by decide, (mx_g1 1 rfl rfl), fun _ => (mx_g4 30 rfl rfl), fun h => by cases h⟩ (mx_fc ⟨by decide, (mx_g1 12 rfl rfl), fun _ => (mx_g5 96 rfl rfl), fun h => by cases h⟩ (mx_fc ⟨by decide, (mx_g1 1 rfl rfl), fun _ => (mx_g4 53 rfl rfl), fun h => by cases h⟩ (mx_fc ⟨by decide, (mx_g1 12 rfl rfl), fun _ => (mx_g5 160 rfl rfl), fun h => by cases h⟩ (mx_fc ⟨by decide, (mx_g1 1 rfl rfl), fun _ => (mx_g4 57 rfl rfl), fun h => by cases h⟩ (mx_fc ⟨by decide, (mx_g1 12 rfl rfl), fun _ => (mx_g5 164 rfl rfl), fun h => by cases h⟩ (mx_f0))))))))))))))))))))))))))))))))))))))))))
set_option maxRecDepth 20000 in
theorem mx_cal_o13 : ∀ e ∈ ((mx_calT[13]?).getD []), (fun (e : Nat × Nat × Bool) => e.2.1 < mx_NM ∧ Cond.initialized (mx_my e.2.1).cls ∈ mx_GT ∧ (e.2.2 = false → Cond.methodLink (mx_own 13) e.1 (mx_my e.2.1) ∈ mx_GT) ∧ (e.2.2 = true → ∃ host, (mx_own 13, e.1, mx_my e.2.1, host) ∈ mx_nm)) e := mx_f0
theorem mx_cal_ok {own idx y : Nat} {nst : Bool} (h : mx_cal own idx = some (y, nst)) : y < mx_NM ∧ Cond.initialized (mx_my y).cls ∈ mx_GT ∧ (nst = false → Cond.methodLink (mx_own own) idx (mx_my y) ∈ mx_GT) ∧ (nst = true → ∃ host, (mx_own own, idx, mx_my y, host) ∈ mx_nm) := by
  have hm := mx_lk h
  match own, hm with
  | 0, hm => exact mx_cal_o0 _ hm
  | 1, hm => exact mx_cal_o1 _ hm
  | 2, hm => exact mx_cal_o2 _ hm
  | 3, hm => exact mx_cal_o3 _ hm
  | 4, hm => exact mx_cal_o4 _ hm
  | 5, hm => exact mx_cal_o5 _ hm
  | 6, hm => exact mx_cal_o6 _ hm
  | 7, hm => exact mx_cal_o7 _ hm
  | 8, hm => exact mx_cal_o8 _ hm
  | 9, hm => exact mx_cal_o9 _ hm
  | 10, hm => exact mx_cal_o10 _ hm
  | 11, hm => exact mx_cal_o11 _ hm
  | 12, hm => exact mx_cal_o12 _ hm
  | 13, hm => exact mx_cal_o13 _ hm
  | n + 14, hm => exact absurd hm (by simp [mx_calT])
def mx_obT : List (Nat × Nat) := [(0, 3), (1, 3), (3, 3), (10, 3), (7, 3), (9, 3), (6, 3), (5, 3), (8, 3), (4, 3), (2, 3), (11, 1)]
def mx_obi (own idx : Nat) : Bool := mx_obT.contains (own, idx)
theorem mx_obo : ∀ e ∈ mx_obT, (fun (e : Nat × Nat) => Cond.methodLink (mx_own e.1) e.2 objectInit ∈ mx_GT) e := mx_fc (mx_g1 19 rfl rfl) (mx_fc (mx_g1 27 rfl rfl) (mx_fc (mx_g1 98 rfl rfl) (mx_fc (mx_g2 8 rfl rfl) (mx_fc (mx_g1 92 rfl rfl) (mx_fc (mx_g2 62 rfl rfl) (mx_fc (mx_g1 145 rfl rfl) (mx_fc (mx_g1 175 rfl rfl) (mx_fc (mx_g2 40 rfl rfl) (mx_fc (mx_g1 153 rfl rfl) (mx_fc (mx_g1 33 rfl rfl) (mx_fc (mx_g4 79 rfl rfl) (mx_f0))))))))))))
theorem mx_obi_ok {own idx : Nat} (h : mx_obi own idx = true) : Cond.methodLink (mx_own own) idx objectInit ∈ mx_GT ∧ Cond.instanceMethod objectInit ∈ mx_GT ∧ Cond.code objectInit ⟨#[0xb1]⟩ 1 none ∈ mx_GT := ⟨mx_obo (own, idx) (List.contains_iff_mem.mp h), (mx_g1 20 rfl rfl), (mx_g1 21 rfl rfl)⟩
