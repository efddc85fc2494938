/-! THE ABSTRACT MACHINE: bytecode over typed heaps; 03 shows that the real machine does what it does. -/
abbrev mx_Ad : Type := Nat × Nat × Nat
abbrev mx_V : Type := Int32 ⊕ Int64 ⊕ Option mx_Ad
abbrev mx_i (x : Int32) : mx_V := Sum.inl x
abbrev mx_l (x : Int64) : mx_V := Sum.inr (Sum.inl x)
abbrev mx_r (a : Option mx_Ad) : mx_V := Sum.inr (Sum.inr a)
/-- a region: ints, longs, references (by tag, number, slot); how many of a tag; lengths -/
abbrev mx_Rg : Type := (Nat → Nat → Nat → Int32) × (Nat → Nat → Nat → Int64) × (Nat → Nat → Nat → Option mx_Ad) × (Nat → Nat) × (Nat → Nat → Nat)
/-- the class's region, the reference's, the script, and how many cells and slots were made -/
abbrev mx_Hp : Type := mx_Rg × mx_Rg × (Nat × (Nat → Int32)) × (Nat × Nat)
def mx_rg (σ : mx_Hp) (g : Nat) : mx_Rg := match g with
  | 0 => σ.1
  | 1 => σ.2.1
  | 2 => (fun _ _ k => σ.2.2.1.2 k, fun _ _ _ => 0, fun _ _ _ => none, fun t => if t = 63 then 1 else 0, fun _ _ => σ.2.2.1.1)
  | _ => (fun _ _ _ => 0, fun _ _ _ => 0, fun _ _ _ => none, fun _ => 0, fun _ _ => 0)
def mx_sg (σ : mx_Hp) (g : Nat) (r : mx_Rg) : mx_Hp := match g with
  | 0 => (r, σ.2)
  | 1 => (σ.1, r, σ.2.2)
  | _ => σ
def mx_I (σ : mx_Hp) (a : mx_Ad) (k : Nat) : Int32 := (mx_rg σ a.1).1 a.2.1 a.2.2 k
def mx_J (σ : mx_Hp) (a : mx_Ad) (k : Nat) : Int64 := (mx_rg σ a.1).2.1 a.2.1 a.2.2 k
def mx_R (σ : mx_Hp) (a : mx_Ad) (k : Nat) : Option mx_Ad := (mx_rg σ a.1).2.2.1 a.2.1 a.2.2 k
def mx_C (σ : mx_Hp) (g t : Nat) : Nat := (mx_rg σ g).2.2.2.1 t
def mx_N (σ : mx_Hp) (a : mx_Ad) : Nat := (mx_rg σ a.1).2.2.2.2 a.2.1 a.2.2
def mx_K (σ : mx_Hp) : Nat := σ.2.2.2.1
def mx_Z (σ : mx_Hp) : Nat := σ.2.2.2.2
def mx_u3 {α : Type} (f : Nat → Nat → Nat → α) (t i k : Nat) (v : α) : Nat → Nat → Nat → α := fun t' i' k' => if t' = t ∧ i' = i ∧ k' = k then v else f t' i' k'
def mx_u2 {α : Type} (f : Nat → Nat → α) (t i : Nat) (v : α) : Nat → Nat → α := fun t' i' => if t' = t ∧ i' = i then v else f t' i'
def mx_u1 {α : Type} (f : Nat → α) (t : Nat) (v : α) : Nat → α := fun t' => if t' = t then v else f t'
def mx_sI (σ : mx_Hp) (a : mx_Ad) (k : Nat) (v : Int32) : mx_Hp := mx_sg σ a.1 (mx_u3 (mx_rg σ a.1).1 a.2.1 a.2.2 k v, (mx_rg σ a.1).2)
def mx_sJ (σ : mx_Hp) (a : mx_Ad) (k : Nat) (v : Int64) : mx_Hp := mx_sg σ a.1 ((mx_rg σ a.1).1, mx_u3 (mx_rg σ a.1).2.1 a.2.1 a.2.2 k v, (mx_rg σ a.1).2.2)
def mx_sR (σ : mx_Hp) (a : mx_Ad) (k : Nat) (v : Option mx_Ad) : mx_Hp := mx_sg σ a.1 ((mx_rg σ a.1).1, (mx_rg σ a.1).2.1, mx_u3 (mx_rg σ a.1).2.2.1 a.2.1 a.2.2 k v, (mx_rg σ a.1).2.2.2)
/-- a new cell of tag t: of n places, z slots -/
def mx_alr (r : mx_Rg) (t n : Nat) : mx_Rg := (mx_u2 r.1 t (r.2.2.2.1 t) (fun _ => 0), mx_u2 r.2.1 t (r.2.2.2.1 t) (fun _ => 0), mx_u2 r.2.2.1 t (r.2.2.2.1 t) (fun _ => none), mx_u1 r.2.2.2.1 t (r.2.2.2.1 t + 1), mx_u2 r.2.2.2.2 t (r.2.2.2.1 t) n)
def mx_tick (σ : mx_Hp) (z : Nat) : mx_Hp := (σ.1, σ.2.1, σ.2.2.1, (σ.2.2.2.1 + 1, σ.2.2.2.2 + z))
def mx_al (σ : mx_Hp) (g t n z : Nat) : mx_Hp := mx_tick (mx_sg σ g (mx_alr (mx_rg σ g) t n)) z
/-- what a slot of a type holds -/
def mx_rd (σ : mx_Hp) (a : mx_Ad) (ty : FieldType) (k : Nat) : mx_V := match ty with
  | .long => mx_l (mx_J σ a k)
  | .object _ => mx_r (mx_R σ a k)
  | .array _ => mx_r (mx_R σ a k)
  | _ => mx_i (mx_I σ a k)
/-- a value is put into a field -/
def mx_wr (σ : mx_Hp) (a : mx_Ad) (ty : FieldType) (k : Nat) (v : mx_V) : Option mx_Hp := match ty, v with
  | .long, .inr (.inl x) => some (mx_sJ σ a k x)
  | .object _, .inr (.inr x) => some (mx_sR σ a k x)
  | .array _, .inr (.inr x) => some (mx_sR σ a k x)
  | .int, .inl x => some (mx_sI σ a k x)
  | .boolean, .inl x => if x = 0 ∨ x = 1 then some (mx_sI σ a k x) else none
  | _, _ => none
abbrev mx_L : Type := List (Option mx_V)
abbrev mx_St : Type := Nat × mx_L × List mx_V × mx_Hp
/-- goes on; or calls (method, arguments, where it goes on, the stack below); or answers -/
abbrev mx_Rs : Type := mx_St ⊕ ((Nat × List mx_V × Nat × List mx_V) ⊕ Option mx_V)
abbrev mx_nx (pc : Nat) (L : mx_L) (st : List mx_V) (σ : mx_Hp) : Option mx_Rs := some (Sum.inl (pc, L, st, σ))
/-- a long is whole while its second half is -/
def mx_hb (L : mx_L) (i : Nat) : mx_V → Bool
  | .inr (.inl _) => (match L[i + 1]? with | some none => true | _ => false)
  | _ => true
def mx_put1 (L : mx_L) (i : Nat) (v : mx_V) : mx_L := L.set i (some v)
def mx_put2 (L : mx_L) (i : Nat) (v : mx_V) : mx_L := (L.set i (some v)).set (i + 1) none
def mx_ildc (L : mx_L) (i q : Nat) (st : List mx_V) (σ : mx_Hp) : Option mx_Rs := match L[i]? with
  | some (some (.inl x)) => mx_nx q L (.inl x :: st) σ
  | _ => none
def mx_lldc (L : mx_L) (i q : Nat) (st : List mx_V) (σ : mx_Hp) : Option mx_Rs := match L[i]? with
  | some (some (.inr (.inl x))) => bif mx_hb L i (.inr (.inl x)) then mx_nx q L (.inr (.inl x) :: st) σ else none
  | _ => none
def mx_aldc (L : mx_L) (i q : Nat) (st : List mx_V) (σ : mx_Hp) : Option mx_Rs := match L[i]? with
  | some (some (.inr (.inr x))) => mx_nx q L (.inr (.inr x) :: st) σ
  | _ => none
def mx_istc (nL : Nat) (L : mx_L) (i q : Nat) (st : List mx_V) (σ : mx_Hp) : Option mx_Rs := match st with
  | .inl x :: r => bif Nat.blt i nL then mx_nx q (mx_put1 L i (.inl x)) r σ else none
  | _ => none
def mx_lstc (nL : Nat) (L : mx_L) (i q : Nat) (st : List mx_V) (σ : mx_Hp) : Option mx_Rs := match st with
  | .inr (.inl x) :: r => bif Nat.blt (i + 1) nL then mx_nx q (mx_put2 L i (.inr (.inl x))) r σ else none
  | _ => none
def mx_astc (nL : Nat) (L : mx_L) (i q : Nat) (st : List mx_V) (σ : mx_Hp) : Option mx_Rs := match st with
  | .inr (.inr x) :: r => bif Nat.blt i nL then mx_nx q (mx_put1 L i (.inr (.inr x))) r σ else none
  | _ => none
def mx_b2 (f : Int32 → Int32 → Int32) (q : Nat) (L : mx_L) (st : List mx_V) (σ : mx_Hp) : Option mx_Rs := match st with
  | .inl y :: .inl x :: r => mx_nx q L (.inl (f x y) :: r) σ
  | _ => none
def mx_d2 (f : Int32 → Int32 → Int32) (q : Nat) (L : mx_L) (st : List mx_V) (σ : mx_Hp) : Option mx_Rs := match st with
  | .inl y :: .inl x :: r => if y = 0 then none else mx_nx q L (.inl (f x y) :: r) σ
  | _ => none
def mx_m2 (f : Int64 → Int64 → Int64) (q : Nat) (L : mx_L) (st : List mx_V) (σ : mx_Hp) : Option mx_Rs := match st with
  | .inr (.inl y) :: .inr (.inl x) :: r => mx_nx q L (.inr (.inl (f x y)) :: r) σ
  | _ => none
def mx_s2 (f : Int64 → Int32 → Int64) (q : Nat) (L : mx_L) (st : List mx_V) (σ : mx_Hp) : Option mx_Rs := match st with
  | .inl y :: .inr (.inl x) :: r => mx_nx q L (.inr (.inl (f x y)) :: r) σ
  | _ => none
def mx_b1 (f : Int32 → mx_V) (q : Nat) (L : mx_L) (st : List mx_V) (σ : mx_Hp) : Option mx_Rs := match st with
  | .inl x :: r => mx_nx q L (f x :: r) σ
  | _ => none
def mx_m1 (f : Int64 → mx_V) (q : Nat) (L : mx_L) (st : List mx_V) (σ : mx_Hp) : Option mx_Rs := match st with
  | .inr (.inl x) :: r => mx_nx q L (f x :: r) σ
  | _ => none
/-- where a jump goes -/
def mx_to (pc : Nat) (off : Int) : Option Nat := match (pc : Int) + off with
  | .ofNat q => some q
  | _ => none
def mx_br (b : Bool) (pc : Nat) (off : Int) (L : mx_L) (st : List mx_V) (σ : mx_Hp) : Option mx_Rs := match mx_to pc off with
  | some q => some (Sum.inl (bif b then q else pc + 3, L, st, σ))
  | none => none
def mx_cd (c : Jvm.ClassFile.Cond) (x y : Int32) : Bool := match c with
  | .eq => decide (x = y)
  | .ne => !decide (x = y)
  | .lt => decide (x < y)
  | .ge => decide (y ≤ x)
  | .gt => decide (y < x)
  | .le => decide (x ≤ y)
/-- a place of an array -/
def mx_at (σ : mx_Hp) (a : mx_Ad) (i : Int32) : Bool := !(decide (i < 0) || decide (mx_N σ a ≤ i.toNatClampNeg))
def mx_ald (ty : FieldType → Bool) (q : Nat) (L : mx_L) (st : List mx_V) (σ : mx_Hp) : Option mx_Rs := match st with
  | .inl i :: .inr (.inr (some a)) :: r => match mx_knd a.2.1 with
    | .inr t => bif ty t && mx_at σ a i then mx_nx q L (mx_rd σ a t i.toNatClampNeg :: r) σ else none
    | _ => none
  | _ => none
def mx_iast (q : Nat) (L : mx_L) (st : List mx_V) (σ : mx_Hp) : Option mx_Rs := match st with
  | .inl x :: .inl i :: .inr (.inr (some a)) :: r => match mx_knd a.2.1 with
    | .inr .int => bif Nat.blt a.1 2 && mx_at σ a i then mx_nx q L r (mx_sI σ a i.toNatClampNeg x) else none
    | _ => none
  | _ => none
def mx_bast (q : Nat) (L : mx_L) (st : List mx_V) (σ : mx_Hp) : Option mx_Rs := match st with
  | .inl x :: .inl i :: .inr (.inr (some a)) :: r => match mx_knd a.2.1 with
    | .inr .byte => bif Nat.blt a.1 2 && mx_at σ a i then mx_nx q L r (mx_sI σ a i.toNatClampNeg (vp_nar .byte x)) else none
    | .inr .boolean => bif Nat.blt a.1 2 && mx_at σ a i then mx_nx q L r (mx_sI σ a i.toNatClampNeg (vp_nar .boolean x)) else none
    | _ => none
  | _ => none
def mx_last (q : Nat) (L : mx_L) (st : List mx_V) (σ : mx_Hp) : Option mx_Rs := match st with
  | .inr (.inl x) :: .inl i :: .inr (.inr (some a)) :: r => match mx_knd a.2.1 with
    | .inr .long => bif Nat.blt a.1 2 && mx_at σ a i then mx_nx q L r (mx_sJ σ a i.toNatClampNeg x) else none
    | _ => none
  | _ => none
/-- an object into an array of its own class's -/
def mx_aast (q : Nat) (L : mx_L) (st : List mx_V) (σ : mx_Hp) : Option mx_Rs := match st with
  | .inr (.inr (some b)) :: .inl i :: .inr (.inr (some a)) :: r => match mx_knd a.2.1, mx_knd b.2.1 with
    | .inr (.object C), .inl ci => bif Nat.blt a.1 2 && Nat.blt b.1 2 && mx_at σ a i && decide ((mx_cls[ci]?).map (fun q => q.1) = some C) then mx_nx q L r (mx_sR σ a i.toNatClampNeg (some b)) else none
    | _, _ => none
  | _ => none
def mx_get (mid idx q : Nat) (L : mx_L) (st : List mx_V) (σ : mx_Hp) : Option mx_Rs := match mx_fld (mx_mc mid) idx, st with
  | some (ci, k, _), .inr (.inr (some (g, t, i))) :: r => bif Nat.beq t ci && Nat.blt g 2 then mx_nx q L (mx_rd σ (g, t, i) (mx_fty ci k) k :: r) σ else none
  | _, _ => none
def mx_pt (mid idx q : Nat) (L : mx_L) (st : List mx_V) (σ : mx_Hp) : Option mx_Rs := match mx_fld (mx_mc mid) idx, st with
  | some (ci, k, nst), v :: .inr (.inr (some (g, t, i))) :: r => bif Nat.beq t ci && Nat.blt g 2 && (!mx_fin ci k || (mx_mi mid && Nat.beq (mx_mc mid) ci && !nst)) then (match mx_wr σ (g, t, i) (mx_fty ci k) k v with | some σ' => mx_nx q L r σ' | none => none) else none
  | _, _ => none
def mx_nw (mid idx q : Nat) (L : mx_L) (st : List mx_V) (σ : mx_Hp) : Option mx_Rs := match mx_new (mx_mc mid) idx with
  | some ci => bif Nat.blt (mx_crg ci) 2 then mx_nx q L (mx_r (some (mx_crg ci, ci, mx_C σ (mx_crg ci) ci)) :: st) (mx_al σ (mx_crg ci) ci 0 (mx_fn ci)) else none
  | none => none
/-- a new array of a type, of the tag that its place in the code has -/
def mx_na (mid pc : Nat) (ty : FieldType) (q : Nat) (L : mx_L) (st : List mx_V) (σ : mx_Hp) : Option mx_Rs := match mx_site mid pc, st with
  | some (g, t), .inl n :: r => bif Nat.blt g 2 && decide (mx_knd t = Sum.inr ty) && !decide (n < 0) && Nat.ble n.toNatClampNeg 65536 then mx_nx q L (mx_r (some (g, t, mx_C σ g t)) :: r) (mx_al σ g t n.toNatClampNeg n.toNatClampNeg) else none
  | _, _ => none
def mx_len (q : Nat) (L : mx_L) (st : List mx_V) (σ : mx_Hp) : Option mx_Rs := match st with
  | .inr (.inr (some a)) :: r => match mx_knd a.2.1 with
    | .inr _ => mx_nx q L (mx_i (Int32.ofNat (mx_N σ a)) :: r) σ
    | _ => none
  | _ => none
/-- the stack's n upper ones, the lowest of them first -/
def mx_pop : Nat → List mx_V → List mx_V → Option (List mx_V × List mx_V)
  | 0, st, acc => some (acc, st)
  | n + 1, v :: st, acc => mx_pop n st (v :: acc)
  | _ + 1, [], _ => none
def mx_w : mx_V → Nat
  | .inr (.inl _) => 2
  | _ => 1
def mx_wd : List mx_V → Nat
  | [] => 0
  | v :: r => mx_w v + mx_wd r
def mx_callS (mid idx q : Nat) (st : List mx_V) : Option mx_Rs := match mx_cal (mx_mc mid) idx with
  | some (y, _) => bif mx_ms y then (match mx_pop (mx_mn y) st [] with | some (as, r) => bif Nat.ble (mx_wd r) 8 then some (Sum.inr (Sum.inl (y, as, q, r))) else none | none => none) else none
  | none => none
/-- receiver and arguments: of the callee's own class -/
def mx_callV (mid idx q : Nat) (st : List mx_V) : Option mx_Rs := match mx_cal (mx_mc mid) idx with
  | some (y, _) => bif !mx_ms y && !mx_mi y then (match mx_pop (mx_mn y) st [] with
    | some (as, .inr (.inr (some (g, t, i))) :: r) => bif Nat.beq t (mx_mc y) && Nat.blt g 2 && Nat.ble (mx_wd r) 8 then some (Sum.inr (Sum.inl (y, mx_r (some (g, t, i)) :: as, q, r))) else none
    | _ => none) else none
  | none => none
def mx_callI (mid idx q : Nat) (L : mx_L) (st : List mx_V) (σ : mx_Hp) : Option mx_Rs := bif mx_obi (mx_mc mid) idx then (match st with
    | .inr (.inr (some _)) :: r => bif Nat.ble (mx_wd r) 8 then mx_nx q L r σ else none
    | _ => none) else match mx_cal (mx_mc mid) idx with
  | some (y, _) => bif !mx_ms y && mx_mi y then (match mx_pop (mx_mn y) st [] with
    | some (as, .inr (.inr (some (g, t, i))) :: r) => bif Nat.ble (mx_wd r) 8 then some (Sum.inr (Sum.inl (y, mx_r (some (g, t, i)) :: as, q, r))) else none
    | _ => none) else none
  | none => none
def mx_ireturn (mid : Nat) (st : List mx_V) : Option mx_Rs := match mx_mr mid, st with
  | some .int, [.inl x] => some (Sum.inr (Sum.inr (some (.inl x))))
  | some .boolean, [.inl x] => if x = 0 ∨ x = 1 then some (Sum.inr (Sum.inr (some (.inl x)))) else none
  | _, _ => none
def mx_lreturn (mid : Nat) (st : List mx_V) : Option mx_Rs := match mx_mr mid, st with
  | some .long, [.inr (.inl x)] => some (Sum.inr (Sum.inr (some (.inr (.inl x)))))
  | _, _ => none
def mx_areturn (mid : Nat) (st : List mx_V) : Option mx_Rs := match mx_mr mid, st with
  | some (.object _), [.inr (.inr x)] => some (Sum.inr (Sum.inr (some (.inr (.inr x)))))
  | some (.array _), [.inr (.inr x)] => some (Sum.inr (Sum.inr (some (.inr (.inr x)))))
  | _, _ => none
def mx_vreturn (mid : Nat) (st : List mx_V) : Option mx_Rs := match mx_mr mid, st with
  | none, [] => some (Sum.inr (Sum.inr none))
  | _, _ => none
def mx_dup (q : Nat) (L : mx_L) (st : List mx_V) (σ : mx_Hp) : Option mx_Rs := match st with
  | .inl x :: r => mx_nx q L (.inl x :: .inl x :: r) σ
  | .inr (.inr x) :: r => mx_nx q L (.inr (.inr x) :: .inr (.inr x) :: r) σ
  | _ => none
def mx_popc (q : Nat) (L : mx_L) (st : List mx_V) (σ : mx_Hp) : Option mx_Rs := match st with
  | .inl _ :: r => mx_nx q L r σ
  | .inr (.inr _) :: r => mx_nx q L r σ
  | _ => none
def mx_c1 : mx_V → Bool
  | .inr (.inl _) => false
  | _ => true
def mx_dx1 (q : Nat) (L : mx_L) (st : List mx_V) (σ : mx_Hp) : Option mx_Rs := match st with
  | a :: b :: r => bif mx_c1 a && mx_c1 b then mx_nx q L (a :: b :: a :: r) σ else none
  | _ => none
def mx_dx2 (q : Nat) (L : mx_L) (st : List mx_V) (σ : mx_Hp) : Option mx_Rs := match st with
  | a :: b :: c :: r => bif mx_c1 a && mx_c1 b && mx_c1 c then mx_nx q L (a :: b :: c :: a :: r) σ else none
  | _ => none
def mx_dpp (q : Nat) (L : mx_L) (st : List mx_V) (σ : mx_Hp) : Option mx_Rs := match st with
  | a :: b :: r => bif mx_c1 a && mx_c1 b then mx_nx q L (a :: b :: a :: b :: r) σ else none
  | _ => none
/-- where a table of ints sends x -/
def mx_tsw (dflt lo hi : Int) (offs : Array Int) (x : Int32) : Option Int := if x.toInt < lo ∨ hi < x.toInt then some dflt else offs[(x.toInt - lo).toNat]?
def mx_sw (o : Option Int) (pc : Nat) (L : mx_L) (r : List mx_V) (σ : mx_Hp) : Option mx_Rs := match o with
  | some off => (match mx_to pc off with | some q => mx_nx q L r σ | none => none)
  | none => none
def mx_isI : FieldType → Bool | .int => true | _ => false
def mx_isB : FieldType → Bool | .byte => true | .boolean => true | _ => false
def mx_isJ : FieldType → Bool | .long => true | _ => false
def mx_isA : FieldType → Bool | .object _ => true | _ => false
def mx_ldcc (o : Option Int32) (q : Nat) (L : mx_L) (st : List mx_V) (σ : mx_Hp) : Option mx_Rs := match o with
  | some v => mx_nx q L (mx_i v :: st) σ
  | none => none
def mx_ldlc (o : Option Int64) (q : Nat) (L : mx_L) (st : List mx_V) (σ : mx_Hp) : Option mx_Rs := match o with
  | some v => mx_nx q L (mx_l v :: st) σ
  | none => none
def mx_iincc (nL : Nat) (L : mx_L) (k : Nat) (n : Int) (q : Nat) (st : List mx_V) (σ : mx_Hp) : Option mx_Rs := match L[k]? with
  | some (some (.inl x)) => bif Nat.blt k nL then mx_nx q (mx_put1 L k (.inl (x + Int32.ofInt n))) st σ else none
  | _ => none
def mx_lcmpc (q : Nat) (L : mx_L) (st : List mx_V) (σ : mx_Hp) : Option mx_Rs := match st with
  | .inr (.inl y) :: .inr (.inl x) :: r => mx_nx q L (mx_i (lg_cmp x y) :: r) σ
  | _ => none
def mx_ifcc (c : Jvm.ClassFile.Cond) (pc : Nat) (off : Int) (L : mx_L) (st : List mx_V) (σ : mx_Hp) : Option mx_Rs := match st with
  | .inl x :: r => mx_br (mx_cd c x 0) pc off L r σ
  | _ => none
def mx_icmc (c : Jvm.ClassFile.Cond) (pc : Nat) (off : Int) (L : mx_L) (st : List mx_V) (σ : mx_Hp) : Option mx_Rs := match st with
  | .inl y :: .inl x :: r => mx_br (mx_cd c x y) pc off L r σ
  | _ => none
def mx_tswc (dflt lo hi : Int) (offs : Array Int) (pc : Nat) (L : mx_L) (st : List mx_V) (σ : mx_Hp) : Option mx_Rs := match st with
  | .inl x :: r => mx_sw (mx_tsw dflt lo hi offs x) pc L r σ
  | _ => none
def mx_lswc (dflt : Int) (ps : Array (Int × Int)) (pc : Nat) (L : mx_L) (st : List mx_V) (σ : mx_Hp) : Option mx_Rs := match st with
  | .inl x :: r => bif (ps.toList.zip (ps.toList.drop 1)).all (fun (a, next) => a.1 < next.1) then mx_sw (some (Op.lookupswitch.offset ps.toList dflt x.toInt)) pc L r σ else none
  | _ => none
def mx_anwc (o : Option String) (mid pc q : Nat) (L : mx_L) (st : List mx_V) (σ : mx_Hp) : Option mx_Rs := match o with
  | some C => mx_na mid pc (.object C) q L st σ
  | none => none
def mx_exec (mid pc : Nat) (i : Jvm.ClassFile.Instr) (L : mx_L) (st : List mx_V) (σ : mx_Hp) : Option mx_Rs := match i with
  | .iconst n => mx_nx (pc + 1) L (mx_i (Int32.ofInt n) :: st) σ
  | .bipush n => mx_nx (pc + 2) L (mx_i (Int8.ofInt n).toInt32 :: st) σ
  | .sipush n => mx_nx (pc + 3) L (mx_i (Int16.ofInt n).toInt32 :: st) σ
  | .lconst n => mx_nx (pc + 1) L (mx_l (Int64.ofNat n) :: st) σ
  | .ldc idx => mx_ldcc (mx_ic (mx_mc mid) idx) (pc + 2) L st σ
  | .ldc2_w idx => mx_ldlc (mx_lc (mx_mc mid) idx) (pc + 3) L st σ
  | .iload_n k => mx_ildc L k (pc + 1) st σ
  | .iload k => mx_ildc L k (pc + 2) st σ
  | .lload_n k => mx_lldc L k (pc + 1) st σ
  | .lload k => mx_lldc L k (pc + 2) st σ
  | .aload_n k => mx_aldc L k (pc + 1) st σ
  | .aload k => mx_aldc L k (pc + 2) st σ
  | .istore_n k => mx_istc (mx_mL mid) L k (pc + 1) st σ
  | .istore k => mx_istc (mx_mL mid) L k (pc + 2) st σ
  | .lstore_n k => mx_lstc (mx_mL mid) L k (pc + 1) st σ
  | .lstore k => mx_lstc (mx_mL mid) L k (pc + 2) st σ
  | .astore_n k => mx_astc (mx_mL mid) L k (pc + 1) st σ
  | .astore k => mx_astc (mx_mL mid) L k (pc + 2) st σ
  | .iinc k n => mx_iincc (mx_mL mid) L k n (pc + 3) st σ
  | .iadd => mx_b2 (fun x y => x + y) (pc + 1) L st σ
  | .isub => mx_b2 (fun x y => x - y) (pc + 1) L st σ
  | .imul => mx_b2 (fun x y => x * y) (pc + 1) L st σ
  | .iand => mx_b2 (fun x y => x &&& y) (pc + 1) L st σ
  | .ior => mx_b2 (fun x y => x ||| y) (pc + 1) L st σ
  | .ixor => mx_b2 (fun x y => x ^^^ y) (pc + 1) L st σ
  | .ishl => mx_b2 (fun x y => x <<< (y &&& 31)) (pc + 1) L st σ
  | .ishr => mx_b2 (fun x y => x >>> (y &&& 31)) (pc + 1) L st σ
  | .iushr => mx_b2 (fun x y => (x.toUInt32 >>> (y.toUInt32 &&& Int32.toUInt32 31)).toInt32) (pc + 1) L st σ
  | .idiv => mx_d2 (fun x y => x / y) (pc + 1) L st σ
  | .irem => mx_d2 (fun x y => x - x / y * y) (pc + 1) L st σ
  | .ladd => mx_m2 (fun x y => x + y) (pc + 1) L st σ
  | .lsub => mx_m2 (fun x y => x - y) (pc + 1) L st σ
  | .land => mx_m2 (fun x y => x &&& y) (pc + 1) L st σ
  | .lor => mx_m2 (fun x y => x ||| y) (pc + 1) L st σ
  | .lxor => mx_m2 (fun x y => x ^^^ y) (pc + 1) L st σ
  | .lushr => mx_s2 (fun x y => (x.toUInt64 >>> (y.toInt64.toUInt64 &&& Int64.toUInt64 63)).toInt64) (pc + 1) L st σ
  | .lshl => mx_s2 (fun x y => x <<< (y.toInt64 &&& 63)) (pc + 1) L st σ
  | .lshr => mx_s2 (fun x y => x >>> (y.toInt64 &&& 63)) (pc + 1) L st σ
  | .ineg => mx_b1 (fun x => mx_i (-x)) (pc + 1) L st σ
  | .i2l => mx_b1 (fun x => mx_l x.toInt64) (pc + 1) L st σ
  | .i2b => mx_b1 (fun x => mx_i x.toInt8.toInt32) (pc + 1) L st σ
  | .l2i => mx_m1 (fun x => mx_i x.toInt32) (pc + 1) L st σ
  | .lcmp => mx_lcmpc (pc + 1) L st σ
  | .dup => mx_dup (pc + 1) L st σ
  | .pop => mx_popc (pc + 1) L st σ
  | .dup_x1 => mx_dx1 (pc + 1) L st σ
  | .dup_x2 => mx_dx2 (pc + 1) L st σ
  | .dup2 => mx_dpp (pc + 1) L st σ
  | .goto off => mx_br true pc off L st σ
  | .ifCond c off => mx_ifcc c pc off L st σ
  | .if_icmp c off => mx_icmc c pc off L st σ
  | .tableswitch dflt lo hi offs => mx_tswc dflt lo hi offs pc L st σ
  | .lookupswitch dflt ps => mx_lswc dflt ps pc L st σ
  | .iaload => mx_ald mx_isI (pc + 1) L st σ
  | .baload => mx_ald mx_isB (pc + 1) L st σ
  | .laload => mx_ald mx_isJ (pc + 1) L st σ
  | .aaload => mx_ald mx_isA (pc + 1) L st σ
  | .iastore => mx_iast (pc + 1) L st σ
  | .bastore => mx_bast (pc + 1) L st σ
  | .lastore => mx_last (pc + 1) L st σ
  | .aastore => mx_aast (pc + 1) L st σ
  | .arraylength => mx_len (pc + 1) L st σ
  | .getfield idx => mx_get mid idx (pc + 3) L st σ
  | .putfield idx => mx_pt mid idx (pc + 3) L st σ
  | .new idx => mx_nw mid idx (pc + 3) L st σ
  | .newarray at_ => mx_na mid pc (newarray.typeOf at_) (pc + 2) L st σ
  | .anewarray idx => mx_anwc (mx_anw (mx_mc mid) idx) mid pc (pc + 3) L st σ
  | .invokestatic idx => mx_callS mid idx (pc + 3) st
  | .invokevirtual idx => mx_callV mid idx (pc + 3) st
  | .invokespecial idx => mx_callI mid idx (pc + 3) L st σ
  | .ireturn => mx_ireturn mid st
  | .lreturn => mx_lreturn mid st
  | .areturn => mx_areturn mid st
  | .return_ => mx_vreturn mid st
  | _ => none
def mx_step (mid pc : Nat) (L : mx_L) (st : List mx_V) (σ : mx_Hp) : Option mx_Rs := match mx_code mid pc with
  | some i => mx_exec mid pc i L st σ
  | none => none
/-- the locals with which a method begins -/
def mx_args : List mx_V → mx_L
  | [] => []
  | .inr (.inl x) :: r => some (.inr (.inl x)) :: none :: mx_args r
  | v :: r => some v :: mx_args r
def mx_ent (mid : Nat) (as : List mx_V) : mx_L := mx_args as ++ List.replicate (mx_mL mid - (mx_args as).length) none
def mx_psh (r : Option mx_V) (st : List mx_V) : List mx_V := match r with
  | some v => v :: st
  | none => st
def mx_ev : Nat → Nat → Nat → Nat → mx_L → List mx_V → mx_Hp → Option (Option mx_V × mx_Hp)
  | 0, _, _, _, _, _, _ => none
  | n + 1, d, mid, pc, L, st, σ => match mx_step mid pc L st σ with
    | none => none
    | some (.inl (pc', L', st', σ')) => mx_ev n d mid pc' L' st' σ'
    | some (.inr (.inl (y, as, pc', r))) => (match d with
      | 0 => none
      | d' + 1 => bif Nat.ble (mx_args as).length (mx_mL y) then (match mx_ev n d' y 0 (mx_ent y as) [] σ with
        | none => none
        | some (v, σ') => mx_ev n (d' + 1) mid pc' L (mx_psh v r) σ') else none)
    | some (.inr (.inr v)) => some (v, σ)
