/-! what the constructors make, by running them -/
def ini_C : Option (mx_Rg × Nat × Nat) := f0 0 (mx_alr mx_e0 0 0) 1 5
def ini_M : Option (mx_Rg × Nat × Nat) := f116 0 (mx_alr mx_e0 11 0) (491 + 1) (((ini_C.map (fun o => o.2.2)).getD 0) + 42)
def ini_i (t k : Nat) : Int32 := bif Nat.beq t 3 && Nat.ble 3 k && Nat.ble k 5 then -1 else 0
def ini_rd (r : mx_Rg) (ty : FieldType) (t i k : Nat) (I0 : Int32) (R0 : Option mx_Ad) : Bool := match ty with
  | .long => decide (r.2.1 t i k = 0)
  | .object _ => decide (r.2.2.1 t i k = R0)
  | .array _ => decide (r.2.2.1 t i k = R0)
  | _ => decide (r.1 t i k = I0)
def ini_ob (r : mx_Rg) (c : Nat → Nat) (R : Nat → Nat → Nat → Option mx_Ad) (t : Nat) : Bool := (List.range (c t)).all (fun i => (List.range (mx_fn t)).all (fun k => ini_rd r (mx_fty t k) t i k (ini_i t k) (R t i k)))
def ini_ar (r : mx_Rg) (c : Nat → Nat) (N : Nat → Nat → Nat) (R : Nat → Nat → Nat → Option mx_Ad) (t : Nat) : Bool := match mx_knd t with
  | .inr ty => (List.range (c t)).all (fun i => Nat.beq (r.2.2.2.2 t i) (N t i) && (List.range (N t i)).all (fun k => ini_rd r ty t i k 0 (R t i k)))
  | _ => true
def ini_h : Nat → Nat := fun _ => 0
set_option maxRecDepth 1000000 in
theorem ini_t1 : (match ini_C with | some o => (List.range 116).all (fun t => Nat.beq (o.1.2.2.2.1 t) (hC_c t)) && Nat.beq o.2.1 491 | none => false) = true := by decide +kernel
set_option maxRecDepth 1000000 in
theorem ini_t2 : (match ini_M with | some o => (List.range 116).all (fun t => Nat.beq (o.1.2.2.2.1 t) (hM_c t)) && Nat.ble o.2.1 600000 && Nat.ble o.2.2 7302250 | none => false) = true := by decide +kernel
set_option maxRecDepth 1000000 in
theorem ini_t3 : (match ini_M with | some o => (List.range 12).all (ini_ob o.1 hM_c hM_r) && (List.range 116).all (ini_ar o.1 hM_c hM_n hM_r) | none => false) = true := by decide +kernel
set_option maxRecDepth 1000000 in
theorem ini_t4 : (match ini_C with | some o => (List.range 12).all (ini_ob o.1 hC_c (hC_r ini_h)) | none => false) = true := by decide +kernel
set_option maxRecDepth 1000000 in
theorem ini_t5 : (match ini_C with | some o => (List.range 116).all (ini_ar o.1 hC_c hC_n (hC_r ini_h)) | none => false) = true := by decide +kernel
/-- references stay within -/
def ini_in (c : Nat → Nat) (R : Nat → Nat → Nat → Option mx_Ad) (g : Nat) : Bool := (List.range 116).all (fun t => (List.range (c t)).all (fun i => (List.range 40).all (fun k => match R t i k with | some b => Nat.beq b.1 g && Nat.blt b.2.2 (c b.2.1) && Nat.blt b.2.1 116 | none => true)))
set_option maxRecDepth 1000000 in
theorem ini_t6 : ini_in hC_c (hC_r ini_h) 0 = true ∧ ini_in hM_c hM_r 1 = true := ⟨by decide +kernel, by decide +kernel⟩
