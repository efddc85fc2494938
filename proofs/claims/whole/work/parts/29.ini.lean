/-! what the constructors make, by running them -/
def ini_C : Option (mx_Rg × Nat × Nat) := f0 0 (mx_alr mx_e0 0 0) 1 5
def ini_M : Option (mx_Rg × Nat × Nat) := f116 0 (mx_alr mx_e0 11 0) 0 0
set_option maxRecDepth 1000000 in
theorem ini_t1 : (match ini_C with | some o => (List.range 116).all (fun t => Nat.beq (o.1.2.2.2.1 t) (hC_c t)) | none => false) = true := by decide +kernel
set_option maxRecDepth 1000000 in
theorem ini_t2 : (match ini_M with | some o => (List.range 116).all (fun t => Nat.beq (o.1.2.2.2.1 t) (hM_c t)) | none => false) = true := by decide +kernel
