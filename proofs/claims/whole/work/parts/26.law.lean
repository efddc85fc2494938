theorem mx_tso20 {x : Int32} (h0 : ¬ x = 0) (h1 : ¬ x = 1) (h2 : ¬ x = 2) (h3 : ¬ x = 3) (h4 : ¬ x = 4) (h5 : ¬ x = 5) (h6 : ¬ x = 6) (h7 : ¬ x = 7) (h8 : ¬ x = 8) (h9 : ¬ x = 9) (h10 : ¬ x = 10) (h11 : ¬ x = 11) (h12 : ¬ x = 12) (h13 : ¬ x = 13) (h14 : ¬ x = 14) (h15 : ¬ x = 15) (h16 : ¬ x = 16) (h17 : ¬ x = 17) (h18 : ¬ x = 18) (h19 : ¬ x = 19) : x.toInt < 0 ∨ (19 : Int) < x.toInt := mx_tso (n := 19) (by decide) (fun k hk => by match k, hk with | 0, _ => exact h0 | 1, _ => exact h1 | 2, _ => exact h2 | 3, _ => exact h3 | 4, _ => exact h4 | 5, _ => exact h5 | 6, _ => exact h6 | 7, _ => exact h7 | 8, _ => exact h8 | 9, _ => exact h9 | 10, _ => exact h10 | 11, _ => exact h11 | 12, _ => exact h12 | 13, _ => exact h13 | 14, _ => exact h14 | 15, _ => exact h15 | 16, _ => exact h16 | 17, _ => exact h17 | 18, _ => exact h18 | 19, _ => exact h19 | n + 20, hk => omega)
def b168_18 (L : Nat) (xs : Nat → Int32)  (I : Nat → Nat → Nat → Int32) (J : Nat → Nat → Nat → Int64) (h : Nat → Nat) (A : Nat → Nat → Nat → Int32) (B : Nat → Nat → Nat → Int64) (s : Int32 × (Nat → Nat → Nat → Int32) × (Nat → Nat → Nat → Int64) × (Nat → Nat) × (Nat → Nat → Nat → Int32) × (Nat → Nat → Nat → Int64)) : Option ((Int32 × (Nat → Nat → Nat → Int32) × (Nat → Nat → Nat → Int64) × (Nat → Nat) × (Nat → Nat → Nat → Int32) × (Nat → Nat → Nat → Int64)) ⊕ ((Int32 × (Nat → Nat → Nat → Int32) × (Nat → Nat → Nat → Int64) × (Nat → Nat) × (Nat → Nat → Nat → Int32) × (Nat → Nat → Nat → Int64)) ⊕ (Bool))) :=
  if ((Int32.ofNat L) - (4 : Int32)) < s.1 then (some (Sum.inr (Sum.inl (s.1, s.2.1, s.2.2.1, s.2.2.2.1, s.2.2.2.2.1, s.2.2.2.2.2)))) else if s.1 < 0 ∨ L ≤ s.1.toNatClampNeg then none else if ((xs s.1.toNatClampNeg) &&& (31 : Int32)) = (0 : Int32) then (if (s.1 + (1 : Int32)) < 0 ∨ L ≤ (s.1 + (1 : Int32)).toNatClampNeg then none else if (s.1 + (2 : Int32)) < 0 ∨ L ≤ (s.1 + (2 : Int32)).toNatClampNeg then none else (f1 ((((xs ((s.1 + (1 : Int32)).toNatClampNeg)).toInt64) <<< ((32 : Int32).toInt64 &&& 63)) ||| (((xs ((s.1 + (2 : Int32)).toNatClampNeg)).toInt64) &&& (4294967295 : Int64))) s.2.1).bind fun u106 =>
  if (s.1 + (1 : Int32)) < 0 ∨ L ≤ (s.1 + (1 : Int32)).toNatClampNeg then none else if (s.1 + (2 : Int32)) < 0 ∨ L ≤ (s.1 + (2 : Int32)).toNatClampNeg then none else (f117 ((((xs ((s.1 + (1 : Int32)).toNatClampNeg)).toInt64) <<< ((32 : Int32).toInt64 &&& 63)) ||| (((xs ((s.1 + (2 : Int32)).toNatClampNeg)).toInt64) &&& (4294967295 : Int64))) s.2.2.2.2.1).bind fun u109 =>
  if u106.1 = u109.1 then (some (Sum.inl (s.1 + 4, u106.2, s.2.2.1, s.2.2.2.1, u109.2, s.2.2.2.2.2))) else some (Sum.inr (Sum.inr false))) else if ((xs s.1.toNatClampNeg) &&& (31 : Int32)) = (1 : Int32) then (if (s.1 + (1 : Int32)) < 0 ∨ L ≤ (s.1 + (1 : Int32)).toNatClampNeg then none else if (s.1 + (2 : Int32)) < 0 ∨ L ≤ (s.1 + (2 : Int32)).toNatClampNeg then none else if (s.1 + (3 : Int32)) < 0 ∨ L ≤ (s.1 + (3 : Int32)).toNatClampNeg then none else (f3 (xs ((s.1 + (1 : Int32)).toNatClampNeg)) (xs ((s.1 + (2 : Int32)).toNatClampNeg)) (xs ((s.1 + (3 : Int32)).toNatClampNeg)) s.2.1).bind fun u117 =>
  if (s.1 + (1 : Int32)) < 0 ∨ L ≤ (s.1 + (1 : Int32)).toNatClampNeg then none else if (s.1 + (2 : Int32)) < 0 ∨ L ≤ (s.1 + (2 : Int32)).toNatClampNeg then none else if (s.1 + (3 : Int32)) < 0 ∨ L ≤ (s.1 + (3 : Int32)).toNatClampNeg then none else (f119 (xs ((s.1 + (1 : Int32)).toNatClampNeg)) (xs ((s.1 + (2 : Int32)).toNatClampNeg)) (xs ((s.1 + (3 : Int32)).toNatClampNeg)) s.2.2.2.2.1).bind fun u121 =>
  if u117.1 = u121.1 then (some (Sum.inl (s.1 + 4, u117.2, s.2.2.1, s.2.2.2.1, u121.2, s.2.2.2.2.2))) else some (Sum.inr (Sum.inr false))) else if ((xs s.1.toNatClampNeg) &&& (31 : Int32)) = (2 : Int32) then (if (s.1 + (1 : Int32)) < 0 ∨ L ≤ (s.1 + (1 : Int32)).toNatClampNeg then none else if (s.1 + (2 : Int32)) < 0 ∨ L ≤ (s.1 + (2 : Int32)).toNatClampNeg then none else if (s.1 + (3 : Int32)) < 0 ∨ L ≤ (s.1 + (3 : Int32)).toNatClampNeg then none else (f5 ((((xs ((s.1 + (1 : Int32)).toNatClampNeg)).toInt64) <<< ((32 : Int32).toInt64 &&& 63)) ||| (((xs ((s.1 + (2 : Int32)).toNatClampNeg)).toInt64) &&& (4294967295 : Int64))) (xs ((s.1 + (3 : Int32)).toNatClampNeg)) s.2.1 s.2.2.1).bind fun u129 =>
  if (s.1 + (1 : Int32)) < 0 ∨ L ≤ (s.1 + (1 : Int32)).toNatClampNeg then none else if (s.1 + (2 : Int32)) < 0 ∨ L ≤ (s.1 + (2 : Int32)).toNatClampNeg then none else if (s.1 + (3 : Int32)) < 0 ∨ L ≤ (s.1 + (3 : Int32)).toNatClampNeg then none else (f121 ((((xs ((s.1 + (1 : Int32)).toNatClampNeg)).toInt64) <<< ((32 : Int32).toInt64 &&& 63)) ||| (((xs ((s.1 + (2 : Int32)).toNatClampNeg)).toInt64) &&& (4294967295 : Int64))) (xs ((s.1 + (3 : Int32)).toNatClampNeg)) s.2.2.2.2.1 s.2.2.2.2.2).bind fun u133 =>
  if u129.1 = u133.1 then (some (Sum.inl (s.1 + 4, u129.2.1, u129.2.2, s.2.2.2.1, u133.2.1, u133.2.2))) else some (Sum.inr (Sum.inr false))) else if ((xs s.1.toNatClampNeg) &&& (31 : Int32)) = (3 : Int32) then (if (s.1 + (1 : Int32)) < 0 ∨ L ≤ (s.1 + (1 : Int32)).toNatClampNeg then none else if (s.1 + (2 : Int32)) < 0 ∨ L ≤ (s.1 + (2 : Int32)).toNatClampNeg then none else if (s.1 + (3 : Int32)) < 0 ∨ L ≤ (s.1 + (3 : Int32)).toNatClampNeg then none else (f9 (xs ((s.1 + (1 : Int32)).toNatClampNeg)) ((((xs ((s.1 + (2 : Int32)).toNatClampNeg)).toInt64) <<< ((32 : Int32).toInt64 &&& 63)) ||| (((xs ((s.1 + (3 : Int32)).toNatClampNeg)).toInt64) &&& (4294967295 : Int64))) s.2.1 s.2.2.1).bind fun u141 =>
  if (s.1 + (1 : Int32)) < 0 ∨ L ≤ (s.1 + (1 : Int32)).toNatClampNeg then none else if (s.1 + (2 : Int32)) < 0 ∨ L ≤ (s.1 + (2 : Int32)).toNatClampNeg then none else if (s.1 + (3 : Int32)) < 0 ∨ L ≤ (s.1 + (3 : Int32)).toNatClampNeg then none else (f124 (xs ((s.1 + (1 : Int32)).toNatClampNeg)) ((((xs ((s.1 + (2 : Int32)).toNatClampNeg)).toInt64) <<< ((32 : Int32).toInt64 &&& 63)) ||| (((xs ((s.1 + (3 : Int32)).toNatClampNeg)).toInt64) &&& (4294967295 : Int64))) s.2.2.2.2.1 s.2.2.2.2.2).bind fun u145 =>
  if (b2i u141.1) = (b2i u145.1) then (some (Sum.inl (s.1 + 4, u141.2.1, u141.2.2, s.2.2.2.1, u145.2.1, u145.2.2))) else some (Sum.inr (Sum.inr false))) else if ((xs s.1.toNatClampNeg) &&& (31 : Int32)) = (4 : Int32) then ((f10 s.2.1 s.2.2.1).bind fun u150 =>
  (f125 s.2.2.2.2.1 s.2.2.2.2.2).bind fun u151 =>
  if u150.1 = u151.1 then (some (Sum.inl (s.1 + 4, u150.2.1, u150.2.2, s.2.2.2.1, u151.2.1, u151.2.2))) else some (Sum.inr (Sum.inr false))) else if ((xs s.1.toNatClampNeg) &&& (31 : Int32)) = (5 : Int32) then (if (s.1 + (1 : Int32)) < 0 ∨ L ≤ (s.1 + (1 : Int32)).toNatClampNeg then none else if (s.1 + (2 : Int32)) < 0 ∨ L ≤ (s.1 + (2 : Int32)).toNatClampNeg then none else (f11 (xs ((s.1 + (1 : Int32)).toNatClampNeg)) (xs ((s.1 + (2 : Int32)).toNatClampNeg)) s.2.1 s.2.2.1 s.2.2.2.1).bind fun u158 =>
  if (s.1 + (1 : Int32)) < 0 ∨ L ≤ (s.1 + (1 : Int32)).toNatClampNeg then none else if (s.1 + (2 : Int32)) < 0 ∨ L ≤ (s.1 + (2 : Int32)).toNatClampNeg then none else (f126 (xs ((s.1 + (1 : Int32)).toNatClampNeg)) (xs ((s.1 + (2 : Int32)).toNatClampNeg)) s.2.2.2.2.1 s.2.2.2.2.2).bind fun u161 =>
  if u158.1 = u161.1 then (some (Sum.inl (s.1 + 4, u158.2.1, u158.2.2.1, u158.2.2.2, u161.2.1, u161.2.2))) else some (Sum.inr (Sum.inr false))) else if ((xs s.1.toNatClampNeg) &&& (31 : Int32)) = (6 : Int32) then (if (s.1 + (1 : Int32)) < 0 ∨ L ≤ (s.1 + (1 : Int32)).toNatClampNeg then none else (f13 (xs ((s.1 + (1 : Int32)).toNatClampNeg)) s.2.1 s.2.2.1).bind fun u167 =>
  if (s.1 + (1 : Int32)) < 0 ∨ L ≤ (s.1 + (1 : Int32)).toNatClampNeg then none else (f146 (xs ((s.1 + (1 : Int32)).toNatClampNeg)) s.2.2.2.2.1 s.2.2.2.2.2).bind fun u169 =>
  if u167.1 = u169.1 then (some (Sum.inl (s.1 + 4, u167.2, s.2.2.1, s.2.2.2.1, u169.2, s.2.2.2.2.2))) else some (Sum.inr (Sum.inr false))) else if ((xs s.1.toNatClampNeg) &&& (31 : Int32)) = (7 : Int32) then (if (s.1 + (1 : Int32)) < 0 ∨ L ≤ (s.1 + (1 : Int32)).toNatClampNeg then none else if (s.1 + (2 : Int32)) < 0 ∨ L ≤ (s.1 + (2 : Int32)).toNatClampNeg then none else (f14 (xs ((s.1 + (1 : Int32)).toNatClampNeg)) (xs ((s.1 + (2 : Int32)).toNatClampNeg)) s.2.1).bind fun u176 =>
  if (s.1 + (1 : Int32)) < 0 ∨ L ≤ (s.1 + (1 : Int32)).toNatClampNeg then none else if (s.1 + (2 : Int32)) < 0 ∨ L ≤ (s.1 + (2 : Int32)).toNatClampNeg then none else (f154 (xs ((s.1 + (1 : Int32)).toNatClampNeg)) (xs ((s.1 + (2 : Int32)).toNatClampNeg)) s.2.2.2.2.1).bind fun u179 =>
  if u176 = u179 then (some (Sum.inl (s.1 + 4, s.2.1, s.2.2.1, s.2.2.2.1, s.2.2.2.2.1, s.2.2.2.2.2))) else some (Sum.inr (Sum.inr false))) else if ((xs s.1.toNatClampNeg) &&& (31 : Int32)) = (8 : Int32) then (if (s.1 + (1 : Int32)) < 0 ∨ L ≤ (s.1 + (1 : Int32)).toNatClampNeg then none else if (s.1 + (2 : Int32)) < 0 ∨ L ≤ (s.1 + (2 : Int32)).toNatClampNeg then none else (f15 ((((xs ((s.1 + (1 : Int32)).toNatClampNeg)).toInt64) <<< ((32 : Int32).toInt64 &&& 63)) ||| (((xs ((s.1 + (2 : Int32)).toNatClampNeg)).toInt64) &&& (4294967295 : Int64))) s.2.1 s.2.2.1).bind fun u186 =>
  if (s.1 + (1 : Int32)) < 0 ∨ L ≤ (s.1 + (1 : Int32)).toNatClampNeg then none else if (s.1 + (2 : Int32)) < 0 ∨ L ≤ (s.1 + (2 : Int32)).toNatClampNeg then none else (f155 ((((xs ((s.1 + (1 : Int32)).toNatClampNeg)).toInt64) <<< ((32 : Int32).toInt64 &&& 63)) ||| (((xs ((s.1 + (2 : Int32)).toNatClampNeg)).toInt64) &&& (4294967295 : Int64))) s.2.2.2.2.1 s.2.2.2.2.2).bind fun u189 =>
  if u186 = u189 then (some (Sum.inl (s.1 + 4, s.2.1, s.2.2.1, s.2.2.2.1, s.2.2.2.2.1, s.2.2.2.2.2))) else some (Sum.inr (Sum.inr false))) else if ((xs s.1.toNatClampNeg) &&& (31 : Int32)) = (9 : Int32) then (if (s.1 + (1 : Int32)) < 0 ∨ L ≤ (s.1 + (1 : Int32)).toNatClampNeg then none else if (s.1 + (2 : Int32)) < 0 ∨ L ≤ (s.1 + (2 : Int32)).toNatClampNeg then none else if (s.1 + (3 : Int32)) < 0 ∨ L ≤ (s.1 + (3 : Int32)).toNatClampNeg then none else (f16 ((((xs ((s.1 + (1 : Int32)).toNatClampNeg)).toInt64) <<< ((32 : Int32).toInt64 &&& 63)) ||| (((xs ((s.1 + (2 : Int32)).toNatClampNeg)).toInt64) &&& (4294967295 : Int64))) (xs ((s.1 + (3 : Int32)).toNatClampNeg)) s.2.1 s.2.2.1).bind fun u197 =>
  if (s.1 + (1 : Int32)) < 0 ∨ L ≤ (s.1 + (1 : Int32)).toNatClampNeg then none else if (s.1 + (2 : Int32)) < 0 ∨ L ≤ (s.1 + (2 : Int32)).toNatClampNeg then none else if (s.1 + (3 : Int32)) < 0 ∨ L ≤ (s.1 + (3 : Int32)).toNatClampNeg then none else (f156 ((((xs ((s.1 + (1 : Int32)).toNatClampNeg)).toInt64) <<< ((32 : Int32).toInt64 &&& 63)) ||| (((xs ((s.1 + (2 : Int32)).toNatClampNeg)).toInt64) &&& (4294967295 : Int64))) (xs ((s.1 + (3 : Int32)).toNatClampNeg)) s.2.2.2.2.1 s.2.2.2.2.2).bind fun u201 =>
  if u197 = u201 then (some (Sum.inl (s.1 + 4, s.2.1, s.2.2.1, s.2.2.2.1, s.2.2.2.2.1, s.2.2.2.2.2))) else some (Sum.inr (Sum.inr false))) else if ((xs s.1.toNatClampNeg) &&& (31 : Int32)) = (10 : Int32) then (if (s.1 + (1 : Int32)) < 0 ∨ L ≤ (s.1 + (1 : Int32)).toNatClampNeg then none else if (s.1 + (2 : Int32)) < 0 ∨ L ≤ (s.1 + (2 : Int32)).toNatClampNeg then none else (f17 (xs ((s.1 + (1 : Int32)).toNatClampNeg)) (xs ((s.1 + (2 : Int32)).toNatClampNeg)) s.2.1).bind fun u208 =>
  if (s.1 + (1 : Int32)) < 0 ∨ L ≤ (s.1 + (1 : Int32)).toNatClampNeg then none else if (s.1 + (2 : Int32)) < 0 ∨ L ≤ (s.1 + (2 : Int32)).toNatClampNeg then none else (f157 (xs ((s.1 + (1 : Int32)).toNatClampNeg)) (xs ((s.1 + (2 : Int32)).toNatClampNeg)) s.2.2.2.2.1).bind fun u211 =>
  if u208 = u211 then (some (Sum.inl (s.1 + 4, s.2.1, s.2.2.1, s.2.2.2.1, s.2.2.2.2.1, s.2.2.2.2.2))) else some (Sum.inr (Sum.inr false))) else if ((xs s.1.toNatClampNeg) &&& (31 : Int32)) = (11 : Int32) then (if (s.1 + (1 : Int32)) < 0 ∨ L ≤ (s.1 + (1 : Int32)).toNatClampNeg then none else (f19 (xs ((s.1 + (1 : Int32)).toNatClampNeg)) s.2.1 s.2.2.1).bind fun u217 =>
  if (s.1 + (1 : Int32)) < 0 ∨ L ≤ (s.1 + (1 : Int32)).toNatClampNeg then none else (f159 (xs ((s.1 + (1 : Int32)).toNatClampNeg)) s.2.2.2.2.1 s.2.2.2.2.2).bind fun u219 =>
  if (lg_cmp u217 u219) = (0 : Int32) then (some (Sum.inl (s.1 + 4, s.2.1, s.2.2.1, s.2.2.2.1, s.2.2.2.2.1, s.2.2.2.2.2))) else some (Sum.inr (Sum.inr false))) else if ((xs s.1.toNatClampNeg) &&& (31 : Int32)) = (12 : Int32) then (if (s.1 + (1 : Int32)) < 0 ∨ L ≤ (s.1 + (1 : Int32)).toNatClampNeg then none else if (s.1 + (2 : Int32)) < 0 ∨ L ≤ (s.1 + (2 : Int32)).toNatClampNeg then none else (f20 (xs ((s.1 + (1 : Int32)).toNatClampNeg)) (xs ((s.1 + (2 : Int32)).toNatClampNeg)) s.2.1).bind fun u226 =>
  if (s.1 + (1 : Int32)) < 0 ∨ L ≤ (s.1 + (1 : Int32)).toNatClampNeg then none else if (s.1 + (2 : Int32)) < 0 ∨ L ≤ (s.1 + (2 : Int32)).toNatClampNeg then none else (f160 (xs ((s.1 + (1 : Int32)).toNatClampNeg)) (xs ((s.1 + (2 : Int32)).toNatClampNeg)) s.2.2.2.2.1).bind fun u229 =>
  if u226 = u229 then (some (Sum.inl (s.1 + 4, s.2.1, s.2.2.1, s.2.2.2.1, s.2.2.2.2.1, s.2.2.2.2.2))) else some (Sum.inr (Sum.inr false))) else if ((xs s.1.toNatClampNeg) &&& (31 : Int32)) = (13 : Int32) then (if (s.1 + (1 : Int32)) < 0 ∨ L ≤ (s.1 + (1 : Int32)).toNatClampNeg then none else if (s.1 + (2 : Int32)) < 0 ∨ L ≤ (s.1 + (2 : Int32)).toNatClampNeg then none else if (s.1 + (3 : Int32)) < 0 ∨ L ≤ (s.1 + (3 : Int32)).toNatClampNeg then none else (f21 (xs ((s.1 + (1 : Int32)).toNatClampNeg)) ((((xs ((s.1 + (2 : Int32)).toNatClampNeg)).toInt64) <<< ((32 : Int32).toInt64 &&& 63)) ||| (((xs ((s.1 + (3 : Int32)).toNatClampNeg)).toInt64) &&& (4294967295 : Int64))) s.2.1 s.2.2.1).bind fun u237 =>
  if (s.1 + (1 : Int32)) < 0 ∨ L ≤ (s.1 + (1 : Int32)).toNatClampNeg then none else if (s.1 + (2 : Int32)) < 0 ∨ L ≤ (s.1 + (2 : Int32)).toNatClampNeg then none else if (s.1 + (3 : Int32)) < 0 ∨ L ≤ (s.1 + (3 : Int32)).toNatClampNeg then none else (f161 (xs ((s.1 + (1 : Int32)).toNatClampNeg)) ((((xs ((s.1 + (2 : Int32)).toNatClampNeg)).toInt64) <<< ((32 : Int32).toInt64 &&& 63)) ||| (((xs ((s.1 + (3 : Int32)).toNatClampNeg)).toInt64) &&& (4294967295 : Int64))) s.2.2.2.2.1 s.2.2.2.2.2).bind fun u241 =>
  if (lg_cmp u237 u241) = (0 : Int32) then (some (Sum.inl (s.1 + 4, s.2.1, s.2.2.1, s.2.2.2.1, s.2.2.2.2.1, s.2.2.2.2.2))) else some (Sum.inr (Sum.inr false))) else if ((xs s.1.toNatClampNeg) &&& (31 : Int32)) = (14 : Int32) then (if (s.1 + (1 : Int32)) < 0 ∨ L ≤ (s.1 + (1 : Int32)).toNatClampNeg then none else if (s.1 + (2 : Int32)) < 0 ∨ L ≤ (s.1 + (2 : Int32)).toNatClampNeg then none else if (s.1 + (3 : Int32)) < 0 ∨ L ≤ (s.1 + (3 : Int32)).toNatClampNeg then none else (f22 (xs ((s.1 + (1 : Int32)).toNatClampNeg)) ((((xs ((s.1 + (2 : Int32)).toNatClampNeg)).toInt64) <<< ((32 : Int32).toInt64 &&& 63)) ||| (((xs ((s.1 + (3 : Int32)).toNatClampNeg)).toInt64) &&& (4294967295 : Int64))) s.2.1 s.2.2.1).bind fun u249 =>
  if (s.1 + (1 : Int32)) < 0 ∨ L ≤ (s.1 + (1 : Int32)).toNatClampNeg then none else if (s.1 + (2 : Int32)) < 0 ∨ L ≤ (s.1 + (2 : Int32)).toNatClampNeg then none else if (s.1 + (3 : Int32)) < 0 ∨ L ≤ (s.1 + (3 : Int32)).toNatClampNeg then none else (f150 (xs ((s.1 + (1 : Int32)).toNatClampNeg)) ((((xs ((s.1 + (2 : Int32)).toNatClampNeg)).toInt64) <<< ((32 : Int32).toInt64 &&& 63)) ||| (((xs ((s.1 + (3 : Int32)).toNatClampNeg)).toInt64) &&& (4294967295 : Int64))) s.2.2.2.2.1 s.2.2.2.2.2).bind fun u253 =>
  if u249.1 = u253.1 then (some (Sum.inl (s.1 + 4, u249.2, s.2.2.1, s.2.2.2.1, u253.2, s.2.2.2.2.2))) else some (Sum.inr (Sum.inr false))) else if ((xs s.1.toNatClampNeg) &&& (31 : Int32)) = (15 : Int32) then (if (s.1 + (1 : Int32)) < 0 ∨ L ≤ (s.1 + (1 : Int32)).toNatClampNeg then none else if (s.1 + (2 : Int32)) < 0 ∨ L ≤ (s.1 + (2 : Int32)).toNatClampNeg then none else (f23 (xs ((s.1 + (1 : Int32)).toNatClampNeg)) (xs ((s.1 + (2 : Int32)).toNatClampNeg)) s.2.1).bind fun u260 =>
  if (s.1 + (1 : Int32)) < 0 ∨ L ≤ (s.1 + (1 : Int32)).toNatClampNeg then none else if (s.1 + (2 : Int32)) < 0 ∨ L ≤ (s.1 + (2 : Int32)).toNatClampNeg then none else (f162 (xs ((s.1 + (1 : Int32)).toNatClampNeg)) (xs ((s.1 + (2 : Int32)).toNatClampNeg)) s.2.2.2.2.1).bind fun u263 =>
  if u260 = u263 then (some (Sum.inl (s.1 + 4, s.2.1, s.2.2.1, s.2.2.2.1, s.2.2.2.2.1, s.2.2.2.2.2))) else some (Sum.inr (Sum.inr false))) else if ((xs s.1.toNatClampNeg) &&& (31 : Int32)) = (16 : Int32) then (if (s.1 + (1 : Int32)) < 0 ∨ L ≤ (s.1 + (1 : Int32)).toNatClampNeg then none else (f24 (xs ((s.1 + (1 : Int32)).toNatClampNeg)) s.2.1).bind fun u269 =>
  if (s.1 + (1 : Int32)) < 0 ∨ L ≤ (s.1 + (1 : Int32)).toNatClampNeg then none else (f163 (xs ((s.1 + (1 : Int32)).toNatClampNeg)) s.2.2.2.2.1).bind fun u271 =>
  if u269 = u271 then (some (Sum.inl (s.1 + 4, s.2.1, s.2.2.1, s.2.2.2.1, s.2.2.2.2.1, s.2.2.2.2.2))) else some (Sum.inr (Sum.inr false))) else if ((xs s.1.toNatClampNeg) &&& (31 : Int32)) = (17 : Int32) then ((f25 s.2.1).bind fun u276 =>
  (f148 s.2.2.2.2.1).bind fun u277 =>
  if u276.1 = u277.1 then (some (Sum.inl (s.1 + 4, u276.2, s.2.2.1, s.2.2.2.1, u277.2, s.2.2.2.2.2))) else some (Sum.inr (Sum.inr false))) else if ((xs s.1.toNatClampNeg) &&& (31 : Int32)) = (18 : Int32) then (if (s.1 + (1 : Int32)) < 0 ∨ L ≤ (s.1 + (1 : Int32)).toNatClampNeg then none else (f26 (xs ((s.1 + (1 : Int32)).toNatClampNeg)) s.2.1).bind fun u283 =>
  if (s.1 + (1 : Int32)) < 0 ∨ L ≤ (s.1 + (1 : Int32)).toNatClampNeg then none else (f164 (xs ((s.1 + (1 : Int32)).toNatClampNeg)) s.2.2.2.2.1).bind fun u285 =>
  if u283 = u285 then (some (Sum.inl (s.1 + 4, s.2.1, s.2.2.1, s.2.2.2.1, s.2.2.2.2.1, s.2.2.2.2.2))) else some (Sum.inr (Sum.inr false))) else if ((xs s.1.toNatClampNeg) &&& (31 : Int32)) = (19 : Int32) then (if (s.1 + (1 : Int32)) < 0 ∨ L ≤ (s.1 + (1 : Int32)).toNatClampNeg then none else (f27 (xs ((s.1 + (1 : Int32)).toNatClampNeg)) s.2.1).bind fun u291 =>
  if (s.1 + (1 : Int32)) < 0 ∨ L ≤ (s.1 + (1 : Int32)).toNatClampNeg then none else (f165 (xs ((s.1 + (1 : Int32)).toNatClampNeg)) s.2.2.2.2.1 s.2.2.2.2.2).bind fun u293 =>
  if u291 = u293 then (some (Sum.inl (s.1 + 4, s.2.1, s.2.2.1, s.2.2.2.1, s.2.2.2.2.1, s.2.2.2.2.2))) else some (Sum.inr (Sum.inr false))) else some (Sum.inl (s.1 + 4, s.2.1, s.2.2.1, s.2.2.2.1, s.2.2.2.2.1, s.2.2.2.2.2))
theorem B168_18 {d : Nat} {L : Nat} {xs : Nat → Int32}  {kz : Nat × Nat} {I : Nat → Nat → Nat → Int32} {J : Nat → Nat → Nat → Int64} {h : Nat → Nat} {A : Nat → Nat → Nat → Int32} {B : Nat → Nat → Nat → Int64} {Q : Option mx_V → mx_Hp → Prop} {s : Int32 × (Nat → Nat → Nat → Int32) × (Nat → Nat → Nat → Int64) × (Nat → Nat) × (Nat → Nat → Nat → Int32) × (Nat → Nat → Nat → Int64)} {o : (Int32 × (Nat → Nat → Nat → Int32) × (Nat → Nat → Nat → Int64) × (Nat → Nat) × (Nat → Nat → Nat → Int32) × (Nat → Nat → Nat → Int64)) ⊕ ((Int32 × (Nat → Nat → Nat → Int32) × (Nat → Nat → Nat → Int64) × (Nat → Nat) × (Nat → Nat → Nat → Int32) × (Nat → Nat → Nat → Int64)) ⊕ (Bool))} (hf : b168_18 L xs I J h A B s = some o) (hk : Sum.elim (fun s : Int32 × (Nat → Nat → Nat → Int32) × (Nat → Nat → Nat → Int64) × (Nat → Nat) × (Nat → Nat → Nat → Int32) × (Nat → Nat → Nat → Int64) => mx_WP (d + 33) 168 18 [some (mx_r (some (2, 63, 0))), some (mx_r (some (0, 0, 0))), some (mx_r (some (1, 11, 0))), some (mx_i s.1)] [] (hC s.2.1 s.2.2.1 s.2.2.2.1, hM s.2.2.2.2.1 s.2.2.2.2.2, (L, xs), kz) Q) (Sum.elim (fun x : Int32 × (Nat → Nat → Nat → Int32) × (Nat → Nat → Nat → Int64) × (Nat → Nat) × (Nat → Nat → Nat → Int32) × (Nat → Nat → Nat → Int64) => mx_WP (d + 33) 168 906 [some (mx_r (some (2, 63, 0))), some (mx_r (some (0, 0, 0))), some (mx_r (some (1, 11, 0))), some (mx_i x.1)] [] (hC x.2.1 x.2.2.1 x.2.2.2.1, hM x.2.2.2.2.1 x.2.2.2.2.2, (L, xs), kz) Q) (fun x : Bool => ∀ (I : Nat → Nat → Nat → Int32) (J : Nat → Nat → Nat → Int64) (h : Nat → Nat) (A : Nat → Nat → Nat → Int32) (B : Nat → Nat → Nat → Int64), Q (some (mx_i (b2i x))) (hC I J h, hM A B, (L, xs), kz))) o) : mx_WP (d + 33) 168 18 [some (mx_r (some (2, 63, 0))), some (mx_r (some (0, 0, 0))), some (mx_r (some (1, 11, 0))), some (mx_i s.1)] [] (hC s.2.1 s.2.2.1 s.2.2.2.1, hM s.2.2.2.2.1 s.2.2.2.2.2, (L, xs), kz) Q := by
  unfold b168_18 at hf
  refine mx_WP.go 5 (pc' := 23) (L' := [some (mx_r (some (2, 63, 0))), some (mx_r (some (0, 0, 0))), some (mx_r (some (1, 11, 0))), some (mx_i s.1)]) (st' := [mx_i ((Int32.ofNat L) - (4 : Int32)), mx_i s.1]) (σ' := (hC s.2.1 s.2.2.1 s.2.2.2.1, hM s.2.2.2.2.1 s.2.2.2.2.2, (L, xs), kz)) rfl ?_
  by_cases c101 : ((Int32.ofNat L) - (4 : Int32)) < s.1
  · rw [if_pos c101] at hf
    refine mx_WP.bgt (x := s.1) (y := ((Int32.ofNat L) - (4 : Int32))) (q := 906) (p3 := 26) rfl (fun _ => ?_) (fun hh => absurd c101 hh)
    rw [← Option.some.inj hf] at hk
    exact hk
  · rw [if_neg c101] at hf
    refine mx_WP.bgt (x := s.1) (y := ((Int32.ofNat L) - (4 : Int32))) (q := 906) (p3 := 26) rfl (fun hh => absurd hh c101) (fun _ => ?_)
    refine mx_WP.go 2 (pc' := 28) (L' := [some (mx_r (some (2, 63, 0))), some (mx_r (some (0, 0, 0))), some (mx_r (some (1, 11, 0))), some (mx_i s.1)]) (st' := [mx_i s.1, mx_r (some (2, 63, 0))]) (σ' := (hC s.2.1 s.2.2.1 s.2.2.2.1, hM s.2.2.2.2.1 s.2.2.2.2.2, (L, xs), kz)) rfl ?_
    by_cases c102 : s.1 < 0 ∨ L ≤ s.1.toNatClampNeg
    · rw [if_pos c102] at hf
      cases hf
    rw [if_neg c102] at hf
    refine mx_WP.ialdx c102 ?_
    show mx_WP (d + 33) 168 29 [some (mx_r (some (2, 63, 0))), some (mx_r (some (0, 0, 0))), some (mx_r (some (1, 11, 0))), some (mx_i s.1)] [mx_i (xs s.1.toNatClampNeg)] (hC s.2.1 s.2.2.1 s.2.2.2.1, hM s.2.2.2.2.1 s.2.2.2.2.2, (L, xs), kz) Q
    refine mx_WP.go 2 (pc' := 32) (L' := [some (mx_r (some (2, 63, 0))), some (mx_r (some (0, 0, 0))), some (mx_r (some (1, 11, 0))), some (mx_i s.1)]) (st' := [mx_i ((xs s.1.toNatClampNeg) &&& (31 : Int32))]) (σ' := (hC s.2.1 s.2.2.1 s.2.2.2.1, hM s.2.2.2.2.1 s.2.2.2.2.2, (L, xs), kz)) rfl ?_
    by_cases c103 : ((xs s.1.toNatClampNeg) &&& (31 : Int32)) = (0 : Int32)
    · rw [if_pos c103] at hf
      refine mx_WP.sw (c := (0 : Int32)) (q := 128) c103 (by rfl) ?_
      refine mx_WP.go 5 (pc' := 133) (L' := [some (mx_r (some (2, 63, 0))), some (mx_r (some (0, 0, 0))), some (mx_r (some (1, 11, 0))), some (mx_i s.1)]) (st' := [mx_i (s.1 + (1 : Int32)), mx_r (some (2, 63, 0)), mx_r (some (0, 0, 0))]) (σ' := (hC s.2.1 s.2.2.1 s.2.2.2.1, hM s.2.2.2.2.1 s.2.2.2.2.2, (L, xs), kz)) rfl ?_
      by_cases c104 : (s.1 + (1 : Int32)) < 0 ∨ L ≤ (s.1 + (1 : Int32)).toNatClampNeg
      · rw [if_pos c104] at hf
        cases hf
      rw [if_neg c104] at hf
      refine mx_WP.ialdx c104 ?_
      show mx_WP (d + 33) 168 134 [some (mx_r (some (2, 63, 0))), some (mx_r (some (0, 0, 0))), some (mx_r (some (1, 11, 0))), some (mx_i s.1)] [mx_i (xs ((s.1 + (1 : Int32)).toNatClampNeg)), mx_r (some (0, 0, 0))] (hC s.2.1 s.2.2.1 s.2.2.2.1, hM s.2.2.2.2.1 s.2.2.2.2.2, (L, xs), kz) Q
      refine mx_WP.go 7 (pc' := 142) (L' := [some (mx_r (some (2, 63, 0))), some (mx_r (some (0, 0, 0))), some (mx_r (some (1, 11, 0))), some (mx_i s.1)]) (st' := [mx_i (s.1 + (2 : Int32)), mx_r (some (2, 63, 0)), mx_l (((xs ((s.1 + (1 : Int32)).toNatClampNeg)).toInt64) <<< ((32 : Int32).toInt64 &&& 63)), mx_r (some (0, 0, 0))]) (σ' := (hC s.2.1 s.2.2.1 s.2.2.2.1, hM s.2.2.2.2.1 s.2.2.2.2.2, (L, xs), kz)) rfl ?_
      by_cases c105 : (s.1 + (2 : Int32)) < 0 ∨ L ≤ (s.1 + (2 : Int32)).toNatClampNeg
      · rw [if_pos c105] at hf
        cases hf
      rw [if_neg c105] at hf
      refine mx_WP.ialdx c105 ?_
      show mx_WP (d + 33) 168 143 [some (mx_r (some (2, 63, 0))), some (mx_r (some (0, 0, 0))), some (mx_r (some (1, 11, 0))), some (mx_i s.1)] [mx_i (xs ((s.1 + (2 : Int32)).toNatClampNeg)), mx_l (((xs ((s.1 + (1 : Int32)).toNatClampNeg)).toInt64) <<< ((32 : Int32).toInt64 &&& 63)), mx_r (some (0, 0, 0))] (hC s.2.1 s.2.2.1 s.2.2.2.1, hM s.2.2.2.2.1 s.2.2.2.2.2, (L, xs), kz) Q
      refine mx_WP.go 4 (pc' := 149) (L' := [some (mx_r (some (2, 63, 0))), some (mx_r (some (0, 0, 0))), some (mx_r (some (1, 11, 0))), some (mx_i s.1)]) (st' := [mx_l ((((xs ((s.1 + (1 : Int32)).toNatClampNeg)).toInt64) <<< ((32 : Int32).toInt64 &&& 63)) ||| (((xs ((s.1 + (2 : Int32)).toNatClampNeg)).toInt64) &&& (4294967295 : Int64))), mx_r (some (0, 0, 0))]) (σ' := (hC s.2.1 s.2.2.1 s.2.2.2.1, hM s.2.2.2.2.1 s.2.2.2.2.2, (L, xs), kz)) rfl ?_
      obtain ⟨u106, e112, hf⟩ := Option.bind_eq_some_iff.mp hf
      refine mx_WP.call (d := d + 32) (y := 1) (as := [mx_r (some (0, 0, 0)), mx_l ((((xs ((s.1 + (1 : Int32)).toNatClampNeg)).toInt64) <<< ((32 : Int32).toInt64 &&& 63)) ||| (((xs ((s.1 + (2 : Int32)).toNatClampNeg)).toInt64) &&& (4294967295 : Int64)))]) (pc' := 152) (r := []) rfl rfl (T1 (d := d + 29)  e112 ?_)
      show mx_WP (d + 33) 168 152 [some (mx_r (some (2, 63, 0))), some (mx_r (some (0, 0, 0))), some (mx_r (some (1, 11, 0))), some (mx_i s.1)] [mx_i u106.1] (hC u106.2 s.2.2.1 s.2.2.2.1, hM s.2.2.2.2.1 s.2.2.2.2.2, (L, xs), kz) Q
      refine mx_WP.go 5 (pc' := 157) (L' := [some (mx_r (some (2, 63, 0))), some (mx_r (some (0, 0, 0))), some (mx_r (some (1, 11, 0))), some (mx_i s.1)]) (st' := [mx_i (s.1 + (1 : Int32)), mx_r (some (2, 63, 0)), mx_r (some (1, 11, 0)), mx_i u106.1]) (σ' := (hC u106.2 s.2.2.1 s.2.2.2.1, hM s.2.2.2.2.1 s.2.2.2.2.2, (L, xs), kz)) rfl ?_
      by_cases c107 : (s.1 + (1 : Int32)) < 0 ∨ L ≤ (s.1 + (1 : Int32)).toNatClampNeg
      · rw [if_pos c107] at hf
        cases hf
      rw [if_neg c107] at hf
      refine mx_WP.ialdx c107 ?_
      show mx_WP (d + 33) 168 158 [some (mx_r (some (2, 63, 0))), some (mx_r (some (0, 0, 0))), some (mx_r (some (1, 11, 0))), some (mx_i s.1)] [mx_i (xs ((s.1 + (1 : Int32)).toNatClampNeg)), mx_r (some (1, 11, 0)), mx_i u106.1] (hC u106.2 s.2.2.1 s.2.2.2.1, hM s.2.2.2.2.1 s.2.2.2.2.2, (L, xs), kz) Q
      refine mx_WP.go 7 (pc' := 166) (L' := [some (mx_r (some (2, 63, 0))), some (mx_r (some (0, 0, 0))), some (mx_r (some (1, 11, 0))), some (mx_i s.1)]) (st' := [mx_i (s.1 + (2 : Int32)), mx_r (some (2, 63, 0)), mx_l (((xs ((s.1 + (1 : Int32)).toNatClampNeg)).toInt64) <<< ((32 : Int32).toInt64 &&& 63)), mx_r (some (1, 11, 0)), mx_i u106.1]) (σ' := (hC u106.2 s.2.2.1 s.2.2.2.1, hM s.2.2.2.2.1 s.2.2.2.2.2, (L, xs), kz)) rfl ?_
      by_cases c108 : (s.1 + (2 : Int32)) < 0 ∨ L ≤ (s.1 + (2 : Int32)).toNatClampNeg
      · rw [if_pos c108] at hf
        cases hf
      rw [if_neg c108] at hf
      refine mx_WP.ialdx c108 ?_
      show mx_WP (d + 33) 168 167 [some (mx_r (some (2, 63, 0))), some (mx_r (some (0, 0, 0))), some (mx_r (some (1, 11, 0))), some (mx_i s.1)] [mx_i (xs ((s.1 + (2 : Int32)).toNatClampNeg)), mx_l (((xs ((s.1 + (1 : Int32)).toNatClampNeg)).toInt64) <<< ((32 : Int32).toInt64 &&& 63)), mx_r (some (1, 11, 0)), mx_i u106.1] (hC u106.2 s.2.2.1 s.2.2.2.1, hM s.2.2.2.2.1 s.2.2.2.2.2, (L, xs), kz) Q
      refine mx_WP.go 4 (pc' := 173) (L' := [some (mx_r (some (2, 63, 0))), some (mx_r (some (0, 0, 0))), some (mx_r (some (1, 11, 0))), some (mx_i s.1)]) (st' := [mx_l ((((xs ((s.1 + (1 : Int32)).toNatClampNeg)).toInt64) <<< ((32 : Int32).toInt64 &&& 63)) ||| (((xs ((s.1 + (2 : Int32)).toNatClampNeg)).toInt64) &&& (4294967295 : Int64))), mx_r (some (1, 11, 0)), mx_i u106.1]) (σ' := (hC u106.2 s.2.2.1 s.2.2.2.1, hM s.2.2.2.2.1 s.2.2.2.2.2, (L, xs), kz)) rfl ?_
      obtain ⟨u109, e111, hf⟩ := Option.bind_eq_some_iff.mp hf
      refine mx_WP.call (d := d + 32) (y := 117) (as := [mx_r (some (1, 11, 0)), mx_l ((((xs ((s.1 + (1 : Int32)).toNatClampNeg)).toInt64) <<< ((32 : Int32).toInt64 &&& 63)) ||| (((xs ((s.1 + (2 : Int32)).toNatClampNeg)).toInt64) &&& (4294967295 : Int64)))]) (pc' := 176) (r := [mx_i u106.1]) rfl rfl (T117 (d := d + 31)  e111 ?_)
      show mx_WP (d + 33) 168 176 [some (mx_r (some (2, 63, 0))), some (mx_r (some (0, 0, 0))), some (mx_r (some (1, 11, 0))), some (mx_i s.1)] [mx_i u109.1, mx_i u106.1] (hC u106.2 s.2.2.1 s.2.2.2.1, hM u109.2 s.2.2.2.2.2, (L, xs), kz) Q
      by_cases c110 : u106.1 = u109.1
      · rw [if_pos c110] at hf
        refine mx_WP.beq (x := u106.1) (y := u109.1) (q := 900) (p3 := 179) rfl (fun _ => ?_) (fun hh => absurd c110 hh)
        refine mx_WP.go 2 (pc' := 18) (L' := [some (mx_r (some (2, 63, 0))), some (mx_r (some (0, 0, 0))), some (mx_r (some (1, 11, 0))), some (mx_i (s.1 + 4))]) (st' := []) (σ' := (hC u106.2 s.2.2.1 s.2.2.2.1, hM u109.2 s.2.2.2.2.2, (L, xs), kz)) rfl ?_
        rw [← Option.some.inj hf] at hk
        exact hk
      · rw [if_neg c110] at hf
        refine mx_WP.beq (x := u106.1) (y := u109.1) (q := 900) (p3 := 179) rfl (fun hh => absurd hh c110) (fun _ => ?_)
        refine mx_WP.go 1 (pc' := 180) (L' := [some (mx_r (some (2, 63, 0))), some (mx_r (some (0, 0, 0))), some (mx_r (some (1, 11, 0))), some (mx_i s.1)]) (st' := [mx_i (0 : Int32)]) (σ' := (hC u106.2 s.2.2.1 s.2.2.2.1, hM u109.2 s.2.2.2.2.2, (L, xs), kz)) rfl ?_
        rw [← Option.some.inj hf] at hk
        refine mx_WP.ret (v := some (mx_i (0 : Int32))) rfl ?_
        exact hk _ _ _ _ _
    rw [if_neg c103] at hf
    by_cases c113 : ((xs s.1.toNatClampNeg) &&& (31 : Int32)) = (1 : Int32)
    · rw [if_pos c113] at hf
      refine mx_WP.sw (c := (1 : Int32)) (q := 181) c113 (by rfl) ?_
      refine mx_WP.go 5 (pc' := 186) (L' := [some (mx_r (some (2, 63, 0))), some (mx_r (some (0, 0, 0))), some (mx_r (some (1, 11, 0))), some (mx_i s.1)]) (st' := [mx_i (s.1 + (1 : Int32)), mx_r (some (2, 63, 0)), mx_r (some (0, 0, 0))]) (σ' := (hC s.2.1 s.2.2.1 s.2.2.2.1, hM s.2.2.2.2.1 s.2.2.2.2.2, (L, xs), kz)) rfl ?_
      by_cases c114 : (s.1 + (1 : Int32)) < 0 ∨ L ≤ (s.1 + (1 : Int32)).toNatClampNeg
      · rw [if_pos c114] at hf
        cases hf
      rw [if_neg c114] at hf
      refine mx_WP.ialdx c114 ?_
      show mx_WP (d + 33) 168 187 [some (mx_r (some (2, 63, 0))), some (mx_r (some (0, 0, 0))), some (mx_r (some (1, 11, 0))), some (mx_i s.1)] [mx_i (xs ((s.1 + (1 : Int32)).toNatClampNeg)), mx_r (some (0, 0, 0))] (hC s.2.1 s.2.2.1 s.2.2.2.1, hM s.2.2.2.2.1 s.2.2.2.2.2, (L, xs), kz) Q
      refine mx_WP.go 4 (pc' := 191) (L' := [some (mx_r (some (2, 63, 0))), some (mx_r (some (0, 0, 0))), some (mx_r (some (1, 11, 0))), some (mx_i s.1)]) (st' := [mx_i (s.1 + (2 : Int32)), mx_r (some (2, 63, 0)), mx_i (xs ((s.1 + (1 : Int32)).toNatClampNeg)), mx_r (some (0, 0, 0))]) (σ' := (hC s.2.1 s.2.2.1 s.2.2.2.1, hM s.2.2.2.2.1 s.2.2.2.2.2, (L, xs), kz)) rfl ?_
      by_cases c115 : (s.1 + (2 : Int32)) < 0 ∨ L ≤ (s.1 + (2 : Int32)).toNatClampNeg
      · rw [if_pos c115] at hf
        cases hf
      rw [if_neg c115] at hf
      refine mx_WP.ialdx c115 ?_
      show mx_WP (d + 33) 168 192 [some (mx_r (some (2, 63, 0))), some (mx_r (some (0, 0, 0))), some (mx_r (some (1, 11, 0))), some (mx_i s.1)] [mx_i (xs ((s.1 + (2 : Int32)).toNatClampNeg)), mx_i (xs ((s.1 + (1 : Int32)).toNatClampNeg)), mx_r (some (0, 0, 0))] (hC s.2.1 s.2.2.1 s.2.2.2.1, hM s.2.2.2.2.1 s.2.2.2.2.2, (L, xs), kz) Q
      refine mx_WP.go 4 (pc' := 196) (L' := [some (mx_r (some (2, 63, 0))), some (mx_r (some (0, 0, 0))), some (mx_r (some (1, 11, 0))), some (mx_i s.1)]) (st' := [mx_i (s.1 + (3 : Int32)), mx_r (some (2, 63, 0)), mx_i (xs ((s.1 + (2 : Int32)).toNatClampNeg)), mx_i (xs ((s.1 + (1 : Int32)).toNatClampNeg)), mx_r (some (0, 0, 0))]) (σ' := (hC s.2.1 s.2.2.1 s.2.2.2.1, hM s.2.2.2.2.1 s.2.2.2.2.2, (L, xs), kz)) rfl ?_
      by_cases c116 : (s.1 + (3 : Int32)) < 0 ∨ L ≤ (s.1 + (3 : Int32)).toNatClampNeg
      · rw [if_pos c116] at hf
        cases hf
      rw [if_neg c116] at hf
      refine mx_WP.ialdx c116 ?_
      show mx_WP (d + 33) 168 197 [some (mx_r (some (2, 63, 0))), some (mx_r (some (0, 0, 0))), some (mx_r (some (1, 11, 0))), some (mx_i s.1)] [mx_i (xs ((s.1 + (3 : Int32)).toNatClampNeg)), mx_i (xs ((s.1 + (2 : Int32)).toNatClampNeg)), mx_i (xs ((s.1 + (1 : Int32)).toNatClampNeg)), mx_r (some (0, 0, 0))] (hC s.2.1 s.2.2.1 s.2.2.2.1, hM s.2.2.2.2.1 s.2.2.2.2.2, (L, xs), kz) Q
      obtain ⟨u117, e124, hf⟩ := Option.bind_eq_some_iff.mp hf
      refine mx_WP.call (d := d + 32) (y := 3) (as := [mx_r (some (0, 0, 0)), mx_i (xs ((s.1 + (1 : Int32)).toNatClampNeg)), mx_i (xs ((s.1 + (2 : Int32)).toNatClampNeg)), mx_i (xs ((s.1 + (3 : Int32)).toNatClampNeg))]) (pc' := 200) (r := []) rfl rfl (T3 (d := d + 31)  e124 ?_)
      show mx_WP (d + 33) 168 200 [some (mx_r (some (2, 63, 0))), some (mx_r (some (0, 0, 0))), some (mx_r (some (1, 11, 0))), some (mx_i s.1)] [mx_i u117.1] (hC u117.2 s.2.2.1 s.2.2.2.1, hM s.2.2.2.2.1 s.2.2.2.2.2, (L, xs), kz) Q
      refine mx_WP.go 5 (pc' := 205) (L' := [some (mx_r (some (2, 63, 0))), some (mx_r (some (0, 0, 0))), some (mx_r (some (1, 11, 0))), some (mx_i s.1)]) (st' := [mx_i (s.1 + (1 : Int32)), mx_r (some (2, 63, 0)), mx_r (some (1, 11, 0)), mx_i u117.1]) (σ' := (hC u117.2 s.2.2.1 s.2.2.2.1, hM s.2.2.2.2.1 s.2.2.2.2.2, (L, xs), kz)) rfl ?_
      by_cases c118 : (s.1 + (1 : Int32)) < 0 ∨ L ≤ (s.1 + (1 : Int32)).toNatClampNeg
      · rw [if_pos c118] at hf
        cases hf
      rw [if_neg c118] at hf
      refine mx_WP.ialdx c118 ?_
      show mx_WP (d + 33) 168 206 [some (mx_r (some (2, 63, 0))), some (mx_r (some (0, 0, 0))), some (mx_r (some (1, 11, 0))), some (mx_i s.1)] [mx_i (xs ((s.1 + (1 : Int32)).toNatClampNeg)), mx_r (some (1, 11, 0)), mx_i u117.1] (hC u117.2 s.2.2.1 s.2.2.2.1, hM s.2.2.2.2.1 s.2.2.2.2.2, (L, xs), kz) Q
      refine mx_WP.go 4 (pc' := 210) (L' := [some (mx_r (some (2, 63, 0))), some (mx_r (some (0, 0, 0))), some (mx_r (some (1, 11, 0))), some (mx_i s.1)]) (st' := [mx_i (s.1 + (2 : Int32)), mx_r (some (2, 63, 0)), mx_i (xs ((s.1 + (1 : Int32)).toNatClampNeg)), mx_r (some (1, 11, 0)), mx_i u117.1]) (σ' := (hC u117.2 s.2.2.1 s.2.2.2.1, hM s.2.2.2.2.1 s.2.2.2.2.2, (L, xs), kz)) rfl ?_
      by_cases c119 : (s.1 + (2 : Int32)) < 0 ∨ L ≤ (s.1 + (2 : Int32)).toNatClampNeg
      · rw [if_pos c119] at hf
        cases hf
      rw [if_neg c119] at hf
      refine mx_WP.ialdx c119 ?_
      show mx_WP (d + 33) 168 211 [some (mx_r (some (2, 63, 0))), some (mx_r (some (0, 0, 0))), some (mx_r (some (1, 11, 0))), some (mx_i s.1)] [mx_i (xs ((s.1 + (2 : Int32)).toNatClampNeg)), mx_i (xs ((s.1 + (1 : Int32)).toNatClampNeg)), mx_r (some (1, 11, 0)), mx_i u117.1] (hC u117.2 s.2.2.1 s.2.2.2.1, hM s.2.2.2.2.1 s.2.2.2.2.2, (L, xs), kz) Q
      refine mx_WP.go 4 (pc' := 215) (L' := [some (mx_r (some (2, 63, 0))), some (mx_r (some (0, 0, 0))), some (mx_r (some (1, 11, 0))), some (mx_i s.1)]) (st' := [mx_i (s.1 + (3 : Int32)), mx_r (some (2, 63, 0)), mx_i (xs ((s.1 + (2 : Int32)).toNatClampNeg)), mx_i (xs ((s.1 + (1 : Int32)).toNatClampNeg)), mx_r (some (1, 11, 0)), mx_i u117.1]) (σ' := (hC u117.2 s.2.2.1 s.2.2.2.1, hM s.2.2.2.2.1 s.2.2.2.2.2, (L, xs), kz)) rfl ?_
      by_cases c120 : (s.1 + (3 : Int32)) < 0 ∨ L ≤ (s.1 + (3 : Int32)).toNatClampNeg
      · rw [if_pos c120] at hf
        cases hf
      rw [if_neg c120] at hf
      refine mx_WP.ialdx c120 ?_
      show mx_WP (d + 33) 168 216 [some (mx_r (some (2, 63, 0))), some (mx_r (some (0, 0, 0))), some (mx_r (some (1, 11, 0))), some (mx_i s.1)] [mx_i (xs ((s.1 + (3 : Int32)).toNatClampNeg)), mx_i (xs ((s.1 + (2 : Int32)).toNatClampNeg)), mx_i (xs ((s.1 + (1 : Int32)).toNatClampNeg)), mx_r (some (1, 11, 0)), mx_i u117.1] (hC u117.2 s.2.2.1 s.2.2.2.1, hM s.2.2.2.2.1 s.2.2.2.2.2, (L, xs), kz) Q
      obtain ⟨u121, e123, hf⟩ := Option.bind_eq_some_iff.mp hf
      refine mx_WP.call (d := d + 32) (y := 119) (as := [mx_r (some (1, 11, 0)), mx_i (xs ((s.1 + (1 : Int32)).toNatClampNeg)), mx_i (xs ((s.1 + (2 : Int32)).toNatClampNeg)), mx_i (xs ((s.1 + (3 : Int32)).toNatClampNeg))]) (pc' := 219) (r := [mx_i u117.1]) rfl rfl (T119 (d := d + 31)  e123 ?_)
      show mx_WP (d + 33) 168 219 [some (mx_r (some (2, 63, 0))), some (mx_r (some (0, 0, 0))), some (mx_r (some (1, 11, 0))), some (mx_i s.1)] [mx_i u121.1, mx_i u117.1] (hC u117.2 s.2.2.1 s.2.2.2.1, hM u121.2 s.2.2.2.2.2, (L, xs), kz) Q
      by_cases c122 : u117.1 = u121.1
      · rw [if_pos c122] at hf
        refine mx_WP.beq (x := u117.1) (y := u121.1) (q := 900) (p3 := 222) rfl (fun _ => ?_) (fun hh => absurd c122 hh)
        refine mx_WP.go 2 (pc' := 18) (L' := [some (mx_r (some (2, 63, 0))), some (mx_r (some (0, 0, 0))), some (mx_r (some (1, 11, 0))), some (mx_i (s.1 + 4))]) (st' := []) (σ' := (hC u117.2 s.2.2.1 s.2.2.2.1, hM u121.2 s.2.2.2.2.2, (L, xs), kz)) rfl ?_
        rw [← Option.some.inj hf] at hk
        exact hk
      · rw [if_neg c122] at hf
        refine mx_WP.beq (x := u117.1) (y := u121.1) (q := 900) (p3 := 222) rfl (fun hh => absurd hh c122) (fun _ => ?_)
        refine mx_WP.go 1 (pc' := 223) (L' := [some (mx_r (some (2, 63, 0))), some (mx_r (some (0, 0, 0))), some (mx_r (some (1, 11, 0))), some (mx_i s.1)]) (st' := [mx_i (0 : Int32)]) (σ' := (hC u117.2 s.2.2.1 s.2.2.2.1, hM u121.2 s.2.2.2.2.2, (L, xs), kz)) rfl ?_
        rw [← Option.some.inj hf] at hk
        refine mx_WP.ret (v := some (mx_i (0 : Int32))) rfl ?_
        exact hk _ _ _ _ _
    rw [if_neg c113] at hf
    by_cases c125 : ((xs s.1.toNatClampNeg) &&& (31 : Int32)) = (2 : Int32)
    · rw [if_pos c125] at hf
      refine mx_WP.sw (c := (2 : Int32)) (q := 224) c125 (by rfl) ?_
      refine mx_WP.go 5 (pc' := 229) (L' := [some (mx_r (some (2, 63, 0))), some (mx_r (some (0, 0, 0))), some (mx_r (some (1, 11, 0))), some (mx_i s.1)]) (st' := [mx_i (s.1 + (1 : Int32)), mx_r (some (2, 63, 0)), mx_r (some (0, 0, 0))]) (σ' := (hC s.2.1 s.2.2.1 s.2.2.2.1, hM s.2.2.2.2.1 s.2.2.2.2.2, (L, xs), kz)) rfl ?_
      by_cases c126 : (s.1 + (1 : Int32)) < 0 ∨ L ≤ (s.1 + (1 : Int32)).toNatClampNeg
      · rw [if_pos c126] at hf
        cases hf
      rw [if_neg c126] at hf
      refine mx_WP.ialdx c126 ?_
      show mx_WP (d + 33) 168 230 [some (mx_r (some (2, 63, 0))), some (mx_r (some (0, 0, 0))), some (mx_r (some (1, 11, 0))), some (mx_i s.1)] [mx_i (xs ((s.1 + (1 : Int32)).toNatClampNeg)), mx_r (some (0, 0, 0))] (hC s.2.1 s.2.2.1 s.2.2.2.1, hM s.2.2.2.2.1 s.2.2.2.2.2, (L, xs), kz) Q
      refine mx_WP.go 7 (pc' := 238) (L' := [some (mx_r (some (2, 63, 0))), some (mx_r (some (0, 0, 0))), some (mx_r (some (1, 11, 0))), some (mx_i s.1)]) (st' := [mx_i (s.1 + (2 : Int32)), mx_r (some (2, 63, 0)), mx_l (((xs ((s.1 + (1 : Int32)).toNatClampNeg)).toInt64) <<< ((32 : Int32).toInt64 &&& 63)), mx_r (some (0, 0, 0))]) (σ' := (hC s.2.1 s.2.2.1 s.2.2.2.1, hM s.2.2.2.2.1 s.2.2.2.2.2, (L, xs), kz)) rfl ?_
      by_cases c127 : (s.1 + (2 : Int32)) < 0 ∨ L ≤ (s.1 + (2 : Int32)).toNatClampNeg
      · rw [if_pos c127] at hf
        cases hf
      rw [if_neg c127] at hf
      refine mx_WP.ialdx c127 ?_
      show mx_WP (d + 33) 168 239 [some (mx_r (some (2, 63, 0))), some (mx_r (some (0, 0, 0))), some (mx_r (some (1, 11, 0))), some (mx_i s.1)] [mx_i (xs ((s.1 + (2 : Int32)).toNatClampNeg)), mx_l (((xs ((s.1 + (1 : Int32)).toNatClampNeg)).toInt64) <<< ((32 : Int32).toInt64 &&& 63)), mx_r (some (0, 0, 0))] (hC s.2.1 s.2.2.1 s.2.2.2.1, hM s.2.2.2.2.1 s.2.2.2.2.2, (L, xs), kz) Q
      refine mx_WP.go 8 (pc' := 249) (L' := [some (mx_r (some (2, 63, 0))), some (mx_r (some (0, 0, 0))), some (mx_r (some (1, 11, 0))), some (mx_i s.1)]) (st' := [mx_i (s.1 + (3 : Int32)), mx_r (some (2, 63, 0)), mx_l ((((xs ((s.1 + (1 : Int32)).toNatClampNeg)).toInt64) <<< ((32 : Int32).toInt64 &&& 63)) ||| (((xs ((s.1 + (2 : Int32)).toNatClampNeg)).toInt64) &&& (4294967295 : Int64))), mx_r (some (0, 0, 0))]) (σ' := (hC s.2.1 s.2.2.1 s.2.2.2.1, hM s.2.2.2.2.1 s.2.2.2.2.2, (L, xs), kz)) rfl ?_
      by_cases c128 : (s.1 + (3 : Int32)) < 0 ∨ L ≤ (s.1 + (3 : Int32)).toNatClampNeg
      · rw [if_pos c128] at hf
        cases hf
      rw [if_neg c128] at hf
      refine mx_WP.ialdx c128 ?_
      show mx_WP (d + 33) 168 250 [some (mx_r (some (2, 63, 0))), some (mx_r (some (0, 0, 0))), some (mx_r (some (1, 11, 0))), some (mx_i s.1)] [mx_i (xs ((s.1 + (3 : Int32)).toNatClampNeg)), mx_l ((((xs ((s.1 + (1 : Int32)).toNatClampNeg)).toInt64) <<< ((32 : Int32).toInt64 &&& 63)) ||| (((xs ((s.1 + (2 : Int32)).toNatClampNeg)).toInt64) &&& (4294967295 : Int64))), mx_r (some (0, 0, 0))] (hC s.2.1 s.2.2.1 s.2.2.2.1, hM s.2.2.2.2.1 s.2.2.2.2.2, (L, xs), kz) Q
      obtain ⟨u129, e136, hf⟩ := Option.bind_eq_some_iff.mp hf
      refine mx_WP.call (d := d + 32) (y := 5) (as := [mx_r (some (0, 0, 0)), mx_l ((((xs ((s.1 + (1 : Int32)).toNatClampNeg)).toInt64) <<< ((32 : Int32).toInt64 &&& 63)) ||| (((xs ((s.1 + (2 : Int32)).toNatClampNeg)).toInt64) &&& (4294967295 : Int64))), mx_i (xs ((s.1 + (3 : Int32)).toNatClampNeg))]) (pc' := 253) (r := []) rfl rfl (T5 (d := d + 29)  e136 ?_)
      show mx_WP (d + 33) 168 253 [some (mx_r (some (2, 63, 0))), some (mx_r (some (0, 0, 0))), some (mx_r (some (1, 11, 0))), some (mx_i s.1)] [mx_i u129.1] (hC u129.2.1 u129.2.2 s.2.2.2.1, hM s.2.2.2.2.1 s.2.2.2.2.2, (L, xs), kz) Q
      refine mx_WP.go 5 (pc' := 258) (L' := [some (mx_r (some (2, 63, 0))), some (mx_r (some (0, 0, 0))), some (mx_r (some (1, 11, 0))), some (mx_i s.1)]) (st' := [mx_i (s.1 + (1 : Int32)), mx_r (some (2, 63, 0)), mx_r (some (1, 11, 0)), mx_i u129.1]) (σ' := (hC u129.2.1 u129.2.2 s.2.2.2.1, hM s.2.2.2.2.1 s.2.2.2.2.2, (L, xs), kz)) rfl ?_
      by_cases c130 : (s.1 + (1 : Int32)) < 0 ∨ L ≤ (s.1 + (1 : Int32)).toNatClampNeg
      · rw [if_pos c130] at hf
        cases hf
      rw [if_neg c130] at hf
      refine mx_WP.ialdx c130 ?_
      show mx_WP (d + 33) 168 259 [some (mx_r (some (2, 63, 0))), some (mx_r (some (0, 0, 0))), some (mx_r (some (1, 11, 0))), some (mx_i s.1)] [mx_i (xs ((s.1 + (1 : Int32)).toNatClampNeg)), mx_r (some (1, 11, 0)), mx_i u129.1] (hC u129.2.1 u129.2.2 s.2.2.2.1, hM s.2.2.2.2.1 s.2.2.2.2.2, (L, xs), kz) Q
      refine mx_WP.go 7 (pc' := 267) (L' := [some (mx_r (some (2, 63, 0))), some (mx_r (some (0, 0, 0))), some (mx_r (some (1, 11, 0))), some (mx_i s.1)]) (st' := [mx_i (s.1 + (2 : Int32)), mx_r (some (2, 63, 0)), mx_l (((xs ((s.1 + (1 : Int32)).toNatClampNeg)).toInt64) <<< ((32 : Int32).toInt64 &&& 63)), mx_r (some (1, 11, 0)), mx_i u129.1]) (σ' := (hC u129.2.1 u129.2.2 s.2.2.2.1, hM s.2.2.2.2.1 s.2.2.2.2.2, (L, xs), kz)) rfl ?_
      by_cases c131 : (s.1 + (2 : Int32)) < 0 ∨ L ≤ (s.1 + (2 : Int32)).toNatClampNeg
      · rw [if_pos c131] at hf
        cases hf
      rw [if_neg c131] at hf
      refine mx_WP.ialdx c131 ?_
      show mx_WP (d + 33) 168 268 [some (mx_r (some (2, 63, 0))), some (mx_r (some (0, 0, 0))), some (mx_r (some (1, 11, 0))), some (mx_i s.1)] [mx_i (xs ((s.1 + (2 : Int32)).toNatClampNeg)), mx_l (((xs ((s.1 + (1 : Int32)).toNatClampNeg)).toInt64) <<< ((32 : Int32).toInt64 &&& 63)), mx_r (some (1, 11, 0)), mx_i u129.1] (hC u129.2.1 u129.2.2 s.2.2.2.1, hM s.2.2.2.2.1 s.2.2.2.2.2, (L, xs), kz) Q
      refine mx_WP.go 8 (pc' := 278) (L' := [some (mx_r (some (2, 63, 0))), some (mx_r (some (0, 0, 0))), some (mx_r (some (1, 11, 0))), some (mx_i s.1)]) (st' := [mx_i (s.1 + (3 : Int32)), mx_r (some (2, 63, 0)), mx_l ((((xs ((s.1 + (1 : Int32)).toNatClampNeg)).toInt64) <<< ((32 : Int32).toInt64 &&& 63)) ||| (((xs ((s.1 + (2 : Int32)).toNatClampNeg)).toInt64) &&& (4294967295 : Int64))), mx_r (some (1, 11, 0)), mx_i u129.1]) (σ' := (hC u129.2.1 u129.2.2 s.2.2.2.1, hM s.2.2.2.2.1 s.2.2.2.2.2, (L, xs), kz)) rfl ?_
      by_cases c132 : (s.1 + (3 : Int32)) < 0 ∨ L ≤ (s.1 + (3 : Int32)).toNatClampNeg
      · rw [if_pos c132] at hf
        cases hf
      rw [if_neg c132] at hf
      refine mx_WP.ialdx c132 ?_
      show mx_WP (d + 33) 168 279 [some (mx_r (some (2, 63, 0))), some (mx_r (some (0, 0, 0))), some (mx_r (some (1, 11, 0))), some (mx_i s.1)] [mx_i (xs ((s.1 + (3 : Int32)).toNatClampNeg)), mx_l ((((xs ((s.1 + (1 : Int32)).toNatClampNeg)).toInt64) <<< ((32 : Int32).toInt64 &&& 63)) ||| (((xs ((s.1 + (2 : Int32)).toNatClampNeg)).toInt64) &&& (4294967295 : Int64))), mx_r (some (1, 11, 0)), mx_i u129.1] (hC u129.2.1 u129.2.2 s.2.2.2.1, hM s.2.2.2.2.1 s.2.2.2.2.2, (L, xs), kz) Q
      obtain ⟨u133, e135, hf⟩ := Option.bind_eq_some_iff.mp hf
      refine mx_WP.call (d := d + 32) (y := 121) (as := [mx_r (some (1, 11, 0)), mx_l ((((xs ((s.1 + (1 : Int32)).toNatClampNeg)).toInt64) <<< ((32 : Int32).toInt64 &&& 63)) ||| (((xs ((s.1 + (2 : Int32)).toNatClampNeg)).toInt64) &&& (4294967295 : Int64))), mx_i (xs ((s.1 + (3 : Int32)).toNatClampNeg))]) (pc' := 282) (r := [mx_i u129.1]) rfl rfl (T121 (d := d + 29)  e135 ?_)
      show mx_WP (d + 33) 168 282 [some (mx_r (some (2, 63, 0))), some (mx_r (some (0, 0, 0))), some (mx_r (some (1, 11, 0))), some (mx_i s.1)] [mx_i u133.1, mx_i u129.1] (hC u129.2.1 u129.2.2 s.2.2.2.1, hM u133.2.1 u133.2.2, (L, xs), kz) Q
      by_cases c134 : u129.1 = u133.1
      · rw [if_pos c134] at hf
        refine mx_WP.beq (x := u129.1) (y := u133.1) (q := 900) (p3 := 285) rfl (fun _ => ?_) (fun hh => absurd c134 hh)
        refine mx_WP.go 2 (pc' := 18) (L' := [some (mx_r (some (2, 63, 0))), some (mx_r (some (0, 0, 0))), some (mx_r (some (1, 11, 0))), some (mx_i (s.1 + 4))]) (st' := []) (σ' := (hC u129.2.1 u129.2.2 s.2.2.2.1, hM u133.2.1 u133.2.2, (L, xs), kz)) rfl ?_
        rw [← Option.some.inj hf] at hk
        exact hk
      · rw [if_neg c134] at hf
        refine mx_WP.beq (x := u129.1) (y := u133.1) (q := 900) (p3 := 285) rfl (fun hh => absurd hh c134) (fun _ => ?_)
        refine mx_WP.go 1 (pc' := 286) (L' := [some (mx_r (some (2, 63, 0))), some (mx_r (some (0, 0, 0))), some (mx_r (some (1, 11, 0))), some (mx_i s.1)]) (st' := [mx_i (0 : Int32)]) (σ' := (hC u129.2.1 u129.2.2 s.2.2.2.1, hM u133.2.1 u133.2.2, (L, xs), kz)) rfl ?_
        rw [← Option.some.inj hf] at hk
        refine mx_WP.ret (v := some (mx_i (0 : Int32))) rfl ?_
        exact hk _ _ _ _ _
    rw [if_neg c125] at hf
    by_cases c137 : ((xs s.1.toNatClampNeg) &&& (31 : Int32)) = (3 : Int32)
    · rw [if_pos c137] at hf
      refine mx_WP.sw (c := (3 : Int32)) (q := 287) c137 (by rfl) ?_
      refine mx_WP.go 5 (pc' := 292) (L' := [some (mx_r (some (2, 63, 0))), some (mx_r (some (0, 0, 0))), some (mx_r (some (1, 11, 0))), some (mx_i s.1)]) (st' := [mx_i (s.1 + (1 : Int32)), mx_r (some (2, 63, 0)), mx_r (some (0, 0, 0))]) (σ' := (hC s.2.1 s.2.2.1 s.2.2.2.1, hM s.2.2.2.2.1 s.2.2.2.2.2, (L, xs), kz)) rfl ?_
      by_cases c138 : (s.1 + (1 : Int32)) < 0 ∨ L ≤ (s.1 + (1 : Int32)).toNatClampNeg
      · rw [if_pos c138] at hf
        cases hf
      rw [if_neg c138] at hf
      refine mx_WP.ialdx c138 ?_
      show mx_WP (d + 33) 168 293 [some (mx_r (some (2, 63, 0))), some (mx_r (some (0, 0, 0))), some (mx_r (some (1, 11, 0))), some (mx_i s.1)] [mx_i (xs ((s.1 + (1 : Int32)).toNatClampNeg)), mx_r (some (0, 0, 0))] (hC s.2.1 s.2.2.1 s.2.2.2.1, hM s.2.2.2.2.1 s.2.2.2.2.2, (L, xs), kz) Q
      refine mx_WP.go 4 (pc' := 297) (L' := [some (mx_r (some (2, 63, 0))), some (mx_r (some (0, 0, 0))), some (mx_r (some (1, 11, 0))), some (mx_i s.1)]) (st' := [mx_i (s.1 + (2 : Int32)), mx_r (some (2, 63, 0)), mx_i (xs ((s.1 + (1 : Int32)).toNatClampNeg)), mx_r (some (0, 0, 0))]) (σ' := (hC s.2.1 s.2.2.1 s.2.2.2.1, hM s.2.2.2.2.1 s.2.2.2.2.2, (L, xs), kz)) rfl ?_
      by_cases c139 : (s.1 + (2 : Int32)) < 0 ∨ L ≤ (s.1 + (2 : Int32)).toNatClampNeg
      · rw [if_pos c139] at hf
        cases hf
      rw [if_neg c139] at hf
      refine mx_WP.ialdx c139 ?_
      show mx_WP (d + 33) 168 298 [some (mx_r (some (2, 63, 0))), some (mx_r (some (0, 0, 0))), some (mx_r (some (1, 11, 0))), some (mx_i s.1)] [mx_i (xs ((s.1 + (2 : Int32)).toNatClampNeg)), mx_i (xs ((s.1 + (1 : Int32)).toNatClampNeg)), mx_r (some (0, 0, 0))] (hC s.2.1 s.2.2.1 s.2.2.2.1, hM s.2.2.2.2.1 s.2.2.2.2.2, (L, xs), kz) Q
      refine mx_WP.go 7 (pc' := 306) (L' := [some (mx_r (some (2, 63, 0))), some (mx_r (some (0, 0, 0))), some (mx_r (some (1, 11, 0))), some (mx_i s.1)]) (st' := [mx_i (s.1 + (3 : Int32)), mx_r (some (2, 63, 0)), mx_l (((xs ((s.1 + (2 : Int32)).toNatClampNeg)).toInt64) <<< ((32 : Int32).toInt64 &&& 63)), mx_i (xs ((s.1 + (1 : Int32)).toNatClampNeg)), mx_r (some (0, 0, 0))]) (σ' := (hC s.2.1 s.2.2.1 s.2.2.2.1, hM s.2.2.2.2.1 s.2.2.2.2.2, (L, xs), kz)) rfl ?_
      by_cases c140 : (s.1 + (3 : Int32)) < 0 ∨ L ≤ (s.1 + (3 : Int32)).toNatClampNeg
      · rw [if_pos c140] at hf
        cases hf
      rw [if_neg c140] at hf
      refine mx_WP.ialdx c140 ?_
      show mx_WP (d + 33) 168 307 [some (mx_r (some (2, 63, 0))), some (mx_r (some (0, 0, 0))), some (mx_r (some (1, 11, 0))), some (mx_i s.1)] [mx_i (xs ((s.1 + (3 : Int32)).toNatClampNeg)), mx_l (((xs ((s.1 + (2 : Int32)).toNatClampNeg)).toInt64) <<< ((32 : Int32).toInt64 &&& 63)), mx_i (xs ((s.1 + (1 : Int32)).toNatClampNeg)), mx_r (some (0, 0, 0))] (hC s.2.1 s.2.2.1 s.2.2.2.1, hM s.2.2.2.2.1 s.2.2.2.2.2, (L, xs), kz) Q
      refine mx_WP.go 4 (pc' := 313) (L' := [some (mx_r (some (2, 63, 0))), some (mx_r (some (0, 0, 0))), some (mx_r (some (1, 11, 0))), some (mx_i s.1)]) (st' := [mx_l ((((xs ((s.1 + (2 : Int32)).toNatClampNeg)).toInt64) <<< ((32 : Int32).toInt64 &&& 63)) ||| (((xs ((s.1 + (3 : Int32)).toNatClampNeg)).toInt64) &&& (4294967295 : Int64))), mx_i (xs ((s.1 + (1 : Int32)).toNatClampNeg)), mx_r (some (0, 0, 0))]) (σ' := (hC s.2.1 s.2.2.1 s.2.2.2.1, hM s.2.2.2.2.1 s.2.2.2.2.2, (L, xs), kz)) rfl ?_
      obtain ⟨u141, e148, hf⟩ := Option.bind_eq_some_iff.mp hf
      refine mx_WP.call (d := d + 32) (y := 9) (as := [mx_r (some (0, 0, 0)), mx_i (xs ((s.1 + (1 : Int32)).toNatClampNeg)), mx_l ((((xs ((s.1 + (2 : Int32)).toNatClampNeg)).toInt64) <<< ((32 : Int32).toInt64 &&& 63)) ||| (((xs ((s.1 + (3 : Int32)).toNatClampNeg)).toInt64) &&& (4294967295 : Int64)))]) (pc' := 316) (r := []) rfl rfl (T9 (d := d + 29)  e148 ?_)
      show mx_WP (d + 33) 168 316 [some (mx_r (some (2, 63, 0))), some (mx_r (some (0, 0, 0))), some (mx_r (some (1, 11, 0))), some (mx_i s.1)] [mx_i (b2i u141.1)] (hC u141.2.1 u141.2.2 s.2.2.2.1, hM s.2.2.2.2.1 s.2.2.2.2.2, (L, xs), kz) Q
      refine mx_WP.go 5 (pc' := 321) (L' := [some (mx_r (some (2, 63, 0))), some (mx_r (some (0, 0, 0))), some (mx_r (some (1, 11, 0))), some (mx_i s.1)]) (st' := [mx_i (s.1 + (1 : Int32)), mx_r (some (2, 63, 0)), mx_r (some (1, 11, 0)), mx_i (b2i u141.1)]) (σ' := (hC u141.2.1 u141.2.2 s.2.2.2.1, hM s.2.2.2.2.1 s.2.2.2.2.2, (L, xs), kz)) rfl ?_
      by_cases c142 : (s.1 + (1 : Int32)) < 0 ∨ L ≤ (s.1 + (1 : Int32)).toNatClampNeg
      · rw [if_pos c142] at hf
        cases hf
      rw [if_neg c142] at hf
      refine mx_WP.ialdx c142 ?_
      show mx_WP (d + 33) 168 322 [some (mx_r (some (2, 63, 0))), some (mx_r (some (0, 0, 0))), some (mx_r (some (1, 11, 0))), some (mx_i s.1)] [mx_i (xs ((s.1 + (1 : Int32)).toNatClampNeg)), mx_r (some (1, 11, 0)), mx_i (b2i u141.1)] (hC u141.2.1 u141.2.2 s.2.2.2.1, hM s.2.2.2.2.1 s.2.2.2.2.2, (L, xs), kz) Q
      refine mx_WP.go 4 (pc' := 326) (L' := [some (mx_r (some (2, 63, 0))), some (mx_r (some (0, 0, 0))), some (mx_r (some (1, 11, 0))), some (mx_i s.1)]) (st' := [mx_i (s.1 + (2 : Int32)), mx_r (some (2, 63, 0)), mx_i (xs ((s.1 + (1 : Int32)).toNatClampNeg)), mx_r (some (1, 11, 0)), mx_i (b2i u141.1)]) (σ' := (hC u141.2.1 u141.2.2 s.2.2.2.1, hM s.2.2.2.2.1 s.2.2.2.2.2, (L, xs), kz)) rfl ?_
      by_cases c143 : (s.1 + (2 : Int32)) < 0 ∨ L ≤ (s.1 + (2 : Int32)).toNatClampNeg
      · rw [if_pos c143] at hf
        cases hf
      rw [if_neg c143] at hf
      refine mx_WP.ialdx c143 ?_
      show mx_WP (d + 33) 168 327 [some (mx_r (some (2, 63, 0))), some (mx_r (some (0, 0, 0))), some (mx_r (some (1, 11, 0))), some (mx_i s.1)] [mx_i (xs ((s.1 + (2 : Int32)).toNatClampNeg)), mx_i (xs ((s.1 + (1 : Int32)).toNatClampNeg)), mx_r (some (1, 11, 0)), mx_i (b2i u141.1)] (hC u141.2.1 u141.2.2 s.2.2.2.1, hM s.2.2.2.2.1 s.2.2.2.2.2, (L, xs), kz) Q
      refine mx_WP.go 7 (pc' := 335) (L' := [some (mx_r (some (2, 63, 0))), some (mx_r (some (0, 0, 0))), some (mx_r (some (1, 11, 0))), some (mx_i s.1)]) (st' := [mx_i (s.1 + (3 : Int32)), mx_r (some (2, 63, 0)), mx_l (((xs ((s.1 + (2 : Int32)).toNatClampNeg)).toInt64) <<< ((32 : Int32).toInt64 &&& 63)), mx_i (xs ((s.1 + (1 : Int32)).toNatClampNeg)), mx_r (some (1, 11, 0)), mx_i (b2i u141.1)]) (σ' := (hC u141.2.1 u141.2.2 s.2.2.2.1, hM s.2.2.2.2.1 s.2.2.2.2.2, (L, xs), kz)) rfl ?_
      by_cases c144 : (s.1 + (3 : Int32)) < 0 ∨ L ≤ (s.1 + (3 : Int32)).toNatClampNeg
      · rw [if_pos c144] at hf
        cases hf
      rw [if_neg c144] at hf
      refine mx_WP.ialdx c144 ?_
      show mx_WP (d + 33) 168 336 [some (mx_r (some (2, 63, 0))), some (mx_r (some (0, 0, 0))), some (mx_r (some (1, 11, 0))), some (mx_i s.1)] [mx_i (xs ((s.1 + (3 : Int32)).toNatClampNeg)), mx_l (((xs ((s.1 + (2 : Int32)).toNatClampNeg)).toInt64) <<< ((32 : Int32).toInt64 &&& 63)), mx_i (xs ((s.1 + (1 : Int32)).toNatClampNeg)), mx_r (some (1, 11, 0)), mx_i (b2i u141.1)] (hC u141.2.1 u141.2.2 s.2.2.2.1, hM s.2.2.2.2.1 s.2.2.2.2.2, (L, xs), kz) Q
      refine mx_WP.go 4 (pc' := 342) (L' := [some (mx_r (some (2, 63, 0))), some (mx_r (some (0, 0, 0))), some (mx_r (some (1, 11, 0))), some (mx_i s.1)]) (st' := [mx_l ((((xs ((s.1 + (2 : Int32)).toNatClampNeg)).toInt64) <<< ((32 : Int32).toInt64 &&& 63)) ||| (((xs ((s.1 + (3 : Int32)).toNatClampNeg)).toInt64) &&& (4294967295 : Int64))), mx_i (xs ((s.1 + (1 : Int32)).toNatClampNeg)), mx_r (some (1, 11, 0)), mx_i (b2i u141.1)]) (σ' := (hC u141.2.1 u141.2.2 s.2.2.2.1, hM s.2.2.2.2.1 s.2.2.2.2.2, (L, xs), kz)) rfl ?_
      obtain ⟨u145, e147, hf⟩ := Option.bind_eq_some_iff.mp hf
      refine mx_WP.call (d := d + 32) (y := 124) (as := [mx_r (some (1, 11, 0)), mx_i (xs ((s.1 + (1 : Int32)).toNatClampNeg)), mx_l ((((xs ((s.1 + (2 : Int32)).toNatClampNeg)).toInt64) <<< ((32 : Int32).toInt64 &&& 63)) ||| (((xs ((s.1 + (3 : Int32)).toNatClampNeg)).toInt64) &&& (4294967295 : Int64)))]) (pc' := 345) (r := [mx_i (b2i u141.1)]) rfl rfl (T124 (d := d + 29)  e147 ?_)
      show mx_WP (d + 33) 168 345 [some (mx_r (some (2, 63, 0))), some (mx_r (some (0, 0, 0))), some (mx_r (some (1, 11, 0))), some (mx_i s.1)] [mx_i (b2i u145.1), mx_i (b2i u141.1)] (hC u141.2.1 u141.2.2 s.2.2.2.1, hM u145.2.1 u145.2.2, (L, xs), kz) Q
      by_cases c146 : (b2i u141.1) = (b2i u145.1)
      · rw [if_pos c146] at hf
        refine mx_WP.beq (x := (b2i u141.1)) (y := (b2i u145.1)) (q := 900) (p3 := 348) rfl (fun _ => ?_) (fun hh => absurd c146 hh)
        refine mx_WP.go 2 (pc' := 18) (L' := [some (mx_r (some (2, 63, 0))), some (mx_r (some (0, 0, 0))), some (mx_r (some (1, 11, 0))), some (mx_i (s.1 + 4))]) (st' := []) (σ' := (hC u141.2.1 u141.2.2 s.2.2.2.1, hM u145.2.1 u145.2.2, (L, xs), kz)) rfl ?_
        rw [← Option.some.inj hf] at hk
        exact hk
      · rw [if_neg c146] at hf
        refine mx_WP.beq (x := (b2i u141.1)) (y := (b2i u145.1)) (q := 900) (p3 := 348) rfl (fun hh => absurd hh c146) (fun _ => ?_)
        refine mx_WP.go 1 (pc' := 349) (L' := [some (mx_r (some (2, 63, 0))), some (mx_r (some (0, 0, 0))), some (mx_r (some (1, 11, 0))), some (mx_i s.1)]) (st' := [mx_i (0 : Int32)]) (σ' := (hC u141.2.1 u141.2.2 s.2.2.2.1, hM u145.2.1 u145.2.2, (L, xs), kz)) rfl ?_
        rw [← Option.some.inj hf] at hk
        refine mx_WP.ret (v := some (mx_i (0 : Int32))) rfl ?_
        exact hk _ _ _ _ _
    rw [if_neg c137] at hf
    by_cases c149 : ((xs s.1.toNatClampNeg) &&& (31 : Int32)) = (4 : Int32)
    · rw [if_pos c149] at hf
      refine mx_WP.sw (c := (4 : Int32)) (q := 350) c149 (by rfl) ?_
      refine mx_WP.go 1 (pc' := 351) (L' := [some (mx_r (some (2, 63, 0))), some (mx_r (some (0, 0, 0))), some (mx_r (some (1, 11, 0))), some (mx_i s.1)]) (st' := [mx_r (some (0, 0, 0))]) (σ' := (hC s.2.1 s.2.2.1 s.2.2.2.1, hM s.2.2.2.2.1 s.2.2.2.2.2, (L, xs), kz)) rfl ?_
      obtain ⟨u150, e154, hf⟩ := Option.bind_eq_some_iff.mp hf
      refine mx_WP.call (d := d + 32) (y := 10) (as := [mx_r (some (0, 0, 0))]) (pc' := 354) (r := []) rfl rfl (T10 (d := d + 29)  e154 ?_)
      show mx_WP (d + 33) 168 354 [some (mx_r (some (2, 63, 0))), some (mx_r (some (0, 0, 0))), some (mx_r (some (1, 11, 0))), some (mx_i s.1)] [mx_i u150.1] (hC u150.2.1 u150.2.2 s.2.2.2.1, hM s.2.2.2.2.1 s.2.2.2.2.2, (L, xs), kz) Q
      refine mx_WP.go 1 (pc' := 355) (L' := [some (mx_r (some (2, 63, 0))), some (mx_r (some (0, 0, 0))), some (mx_r (some (1, 11, 0))), some (mx_i s.1)]) (st' := [mx_r (some (1, 11, 0)), mx_i u150.1]) (σ' := (hC u150.2.1 u150.2.2 s.2.2.2.1, hM s.2.2.2.2.1 s.2.2.2.2.2, (L, xs), kz)) rfl ?_
      obtain ⟨u151, e153, hf⟩ := Option.bind_eq_some_iff.mp hf
      refine mx_WP.call (d := d + 32) (y := 125) (as := [mx_r (some (1, 11, 0))]) (pc' := 358) (r := [mx_i u150.1]) rfl rfl (T125 (d := d + 32)  e153 ?_)
      show mx_WP (d + 33) 168 358 [some (mx_r (some (2, 63, 0))), some (mx_r (some (0, 0, 0))), some (mx_r (some (1, 11, 0))), some (mx_i s.1)] [mx_i u151.1, mx_i u150.1] (hC u150.2.1 u150.2.2 s.2.2.2.1, hM u151.2.1 u151.2.2, (L, xs), kz) Q
      by_cases c152 : u150.1 = u151.1
      · rw [if_pos c152] at hf
        refine mx_WP.beq (x := u150.1) (y := u151.1) (q := 900) (p3 := 361) rfl (fun _ => ?_) (fun hh => absurd c152 hh)
        refine mx_WP.go 2 (pc' := 18) (L' := [some (mx_r (some (2, 63, 0))), some (mx_r (some (0, 0, 0))), some (mx_r (some (1, 11, 0))), some (mx_i (s.1 + 4))]) (st' := []) (σ' := (hC u150.2.1 u150.2.2 s.2.2.2.1, hM u151.2.1 u151.2.2, (L, xs), kz)) rfl ?_
        rw [← Option.some.inj hf] at hk
        exact hk
      · rw [if_neg c152] at hf
        refine mx_WP.beq (x := u150.1) (y := u151.1) (q := 900) (p3 := 361) rfl (fun hh => absurd hh c152) (fun _ => ?_)
        refine mx_WP.go 1 (pc' := 362) (L' := [some (mx_r (some (2, 63, 0))), some (mx_r (some (0, 0, 0))), some (mx_r (some (1, 11, 0))), some (mx_i s.1)]) (st' := [mx_i (0 : Int32)]) (σ' := (hC u150.2.1 u150.2.2 s.2.2.2.1, hM u151.2.1 u151.2.2, (L, xs), kz)) rfl ?_
        rw [← Option.some.inj hf] at hk
        refine mx_WP.ret (v := some (mx_i (0 : Int32))) rfl ?_
        exact hk _ _ _ _ _
    rw [if_neg c149] at hf
    by_cases c155 : ((xs s.1.toNatClampNeg) &&& (31 : Int32)) = (5 : Int32)
    · rw [if_pos c155] at hf
      refine mx_WP.sw (c := (5 : Int32)) (q := 363) c155 (by rfl) ?_
      refine mx_WP.go 5 (pc' := 368) (L' := [some (mx_r (some (2, 63, 0))), some (mx_r (some (0, 0, 0))), some (mx_r (some (1, 11, 0))), some (mx_i s.1)]) (st' := [mx_i (s.1 + (1 : Int32)), mx_r (some (2, 63, 0)), mx_r (some (0, 0, 0))]) (σ' := (hC s.2.1 s.2.2.1 s.2.2.2.1, hM s.2.2.2.2.1 s.2.2.2.2.2, (L, xs), kz)) rfl ?_
      by_cases c156 : (s.1 + (1 : Int32)) < 0 ∨ L ≤ (s.1 + (1 : Int32)).toNatClampNeg
      · rw [if_pos c156] at hf
        cases hf
      rw [if_neg c156] at hf
      refine mx_WP.ialdx c156 ?_
      show mx_WP (d + 33) 168 369 [some (mx_r (some (2, 63, 0))), some (mx_r (some (0, 0, 0))), some (mx_r (some (1, 11, 0))), some (mx_i s.1)] [mx_i (xs ((s.1 + (1 : Int32)).toNatClampNeg)), mx_r (some (0, 0, 0))] (hC s.2.1 s.2.2.1 s.2.2.2.1, hM s.2.2.2.2.1 s.2.2.2.2.2, (L, xs), kz) Q
      refine mx_WP.go 4 (pc' := 373) (L' := [some (mx_r (some (2, 63, 0))), some (mx_r (some (0, 0, 0))), some (mx_r (some (1, 11, 0))), some (mx_i s.1)]) (st' := [mx_i (s.1 + (2 : Int32)), mx_r (some (2, 63, 0)), mx_i (xs ((s.1 + (1 : Int32)).toNatClampNeg)), mx_r (some (0, 0, 0))]) (σ' := (hC s.2.1 s.2.2.1 s.2.2.2.1, hM s.2.2.2.2.1 s.2.2.2.2.2, (L, xs), kz)) rfl ?_
      by_cases c157 : (s.1 + (2 : Int32)) < 0 ∨ L ≤ (s.1 + (2 : Int32)).toNatClampNeg
      · rw [if_pos c157] at hf
        cases hf
      rw [if_neg c157] at hf
      refine mx_WP.ialdx c157 ?_
      show mx_WP (d + 33) 168 374 [some (mx_r (some (2, 63, 0))), some (mx_r (some (0, 0, 0))), some (mx_r (some (1, 11, 0))), some (mx_i s.1)] [mx_i (xs ((s.1 + (2 : Int32)).toNatClampNeg)), mx_i (xs ((s.1 + (1 : Int32)).toNatClampNeg)), mx_r (some (0, 0, 0))] (hC s.2.1 s.2.2.1 s.2.2.2.1, hM s.2.2.2.2.1 s.2.2.2.2.2, (L, xs), kz) Q
      obtain ⟨u158, e164, hf⟩ := Option.bind_eq_some_iff.mp hf
      refine mx_WP.call (d := d + 32) (y := 11) (as := [mx_r (some (0, 0, 0)), mx_i (xs ((s.1 + (1 : Int32)).toNatClampNeg)), mx_i (xs ((s.1 + (2 : Int32)).toNatClampNeg))]) (pc' := 377) (r := []) rfl rfl (T11 (d := d + 25)  e164 ?_)
      show mx_WP (d + 33) 168 377 [some (mx_r (some (2, 63, 0))), some (mx_r (some (0, 0, 0))), some (mx_r (some (1, 11, 0))), some (mx_i s.1)] [mx_i u158.1] (hC u158.2.1 u158.2.2.1 u158.2.2.2, hM s.2.2.2.2.1 s.2.2.2.2.2, (L, xs), kz) Q
      refine mx_WP.go 5 (pc' := 382) (L' := [some (mx_r (some (2, 63, 0))), some (mx_r (some (0, 0, 0))), some (mx_r (some (1, 11, 0))), some (mx_i s.1)]) (st' := [mx_i (s.1 + (1 : Int32)), mx_r (some (2, 63, 0)), mx_r (some (1, 11, 0)), mx_i u158.1]) (σ' := (hC u158.2.1 u158.2.2.1 u158.2.2.2, hM s.2.2.2.2.1 s.2.2.2.2.2, (L, xs), kz)) rfl ?_
      by_cases c159 : (s.1 + (1 : Int32)) < 0 ∨ L ≤ (s.1 + (1 : Int32)).toNatClampNeg
      · rw [if_pos c159] at hf
        cases hf
      rw [if_neg c159] at hf
      refine mx_WP.ialdx c159 ?_
      show mx_WP (d + 33) 168 383 [some (mx_r (some (2, 63, 0))), some (mx_r (some (0, 0, 0))), some (mx_r (some (1, 11, 0))), some (mx_i s.1)] [mx_i (xs ((s.1 + (1 : Int32)).toNatClampNeg)), mx_r (some (1, 11, 0)), mx_i u158.1] (hC u158.2.1 u158.2.2.1 u158.2.2.2, hM s.2.2.2.2.1 s.2.2.2.2.2, (L, xs), kz) Q
      refine mx_WP.go 4 (pc' := 387) (L' := [some (mx_r (some (2, 63, 0))), some (mx_r (some (0, 0, 0))), some (mx_r (some (1, 11, 0))), some (mx_i s.1)]) (st' := [mx_i (s.1 + (2 : Int32)), mx_r (some (2, 63, 0)), mx_i (xs ((s.1 + (1 : Int32)).toNatClampNeg)), mx_r (some (1, 11, 0)), mx_i u158.1]) (σ' := (hC u158.2.1 u158.2.2.1 u158.2.2.2, hM s.2.2.2.2.1 s.2.2.2.2.2, (L, xs), kz)) rfl ?_
      by_cases c160 : (s.1 + (2 : Int32)) < 0 ∨ L ≤ (s.1 + (2 : Int32)).toNatClampNeg
      · rw [if_pos c160] at hf
        cases hf
      rw [if_neg c160] at hf
      refine mx_WP.ialdx c160 ?_
      show mx_WP (d + 33) 168 388 [some (mx_r (some (2, 63, 0))), some (mx_r (some (0, 0, 0))), some (mx_r (some (1, 11, 0))), some (mx_i s.1)] [mx_i (xs ((s.1 + (2 : Int32)).toNatClampNeg)), mx_i (xs ((s.1 + (1 : Int32)).toNatClampNeg)), mx_r (some (1, 11, 0)), mx_i u158.1] (hC u158.2.1 u158.2.2.1 u158.2.2.2, hM s.2.2.2.2.1 s.2.2.2.2.2, (L, xs), kz) Q
      obtain ⟨u161, e163, hf⟩ := Option.bind_eq_some_iff.mp hf
      refine mx_WP.call (d := d + 32) (y := 126) (as := [mx_r (some (1, 11, 0)), mx_i (xs ((s.1 + (1 : Int32)).toNatClampNeg)), mx_i (xs ((s.1 + (2 : Int32)).toNatClampNeg))]) (pc' := 391) (r := [mx_i u158.1]) rfl rfl (T126 (d := d + 26)  e163 ?_)
      show mx_WP (d + 33) 168 391 [some (mx_r (some (2, 63, 0))), some (mx_r (some (0, 0, 0))), some (mx_r (some (1, 11, 0))), some (mx_i s.1)] [mx_i u161.1, mx_i u158.1] (hC u158.2.1 u158.2.2.1 u158.2.2.2, hM u161.2.1 u161.2.2, (L, xs), kz) Q
      by_cases c162 : u158.1 = u161.1
      · rw [if_pos c162] at hf
        refine mx_WP.beq (x := u158.1) (y := u161.1) (q := 900) (p3 := 394) rfl (fun _ => ?_) (fun hh => absurd c162 hh)
        refine mx_WP.go 2 (pc' := 18) (L' := [some (mx_r (some (2, 63, 0))), some (mx_r (some (0, 0, 0))), some (mx_r (some (1, 11, 0))), some (mx_i (s.1 + 4))]) (st' := []) (σ' := (hC u158.2.1 u158.2.2.1 u158.2.2.2, hM u161.2.1 u161.2.2, (L, xs), kz)) rfl ?_
        rw [← Option.some.inj hf] at hk
        exact hk
      · rw [if_neg c162] at hf
        refine mx_WP.beq (x := u158.1) (y := u161.1) (q := 900) (p3 := 394) rfl (fun hh => absurd hh c162) (fun _ => ?_)
        refine mx_WP.go 1 (pc' := 395) (L' := [some (mx_r (some (2, 63, 0))), some (mx_r (some (0, 0, 0))), some (mx_r (some (1, 11, 0))), some (mx_i s.1)]) (st' := [mx_i (0 : Int32)]) (σ' := (hC u158.2.1 u158.2.2.1 u158.2.2.2, hM u161.2.1 u161.2.2, (L, xs), kz)) rfl ?_
        rw [← Option.some.inj hf] at hk
        refine mx_WP.ret (v := some (mx_i (0 : Int32))) rfl ?_
        exact hk _ _ _ _ _
    rw [if_neg c155] at hf
    by_cases c165 : ((xs s.1.toNatClampNeg) &&& (31 : Int32)) = (6 : Int32)
    · rw [if_pos c165] at hf
      refine mx_WP.sw (c := (6 : Int32)) (q := 396) c165 (by rfl) ?_
      refine mx_WP.go 5 (pc' := 401) (L' := [some (mx_r (some (2, 63, 0))), some (mx_r (some (0, 0, 0))), some (mx_r (some (1, 11, 0))), some (mx_i s.1)]) (st' := [mx_i (s.1 + (1 : Int32)), mx_r (some (2, 63, 0)), mx_r (some (0, 0, 0))]) (σ' := (hC s.2.1 s.2.2.1 s.2.2.2.1, hM s.2.2.2.2.1 s.2.2.2.2.2, (L, xs), kz)) rfl ?_
      by_cases c166 : (s.1 + (1 : Int32)) < 0 ∨ L ≤ (s.1 + (1 : Int32)).toNatClampNeg
      · rw [if_pos c166] at hf
        cases hf
      rw [if_neg c166] at hf
      refine mx_WP.ialdx c166 ?_
      show mx_WP (d + 33) 168 402 [some (mx_r (some (2, 63, 0))), some (mx_r (some (0, 0, 0))), some (mx_r (some (1, 11, 0))), some (mx_i s.1)] [mx_i (xs ((s.1 + (1 : Int32)).toNatClampNeg)), mx_r (some (0, 0, 0))] (hC s.2.1 s.2.2.1 s.2.2.2.1, hM s.2.2.2.2.1 s.2.2.2.2.2, (L, xs), kz) Q
      obtain ⟨u167, e172, hf⟩ := Option.bind_eq_some_iff.mp hf
      refine mx_WP.call (d := d + 32) (y := 13) (as := [mx_r (some (0, 0, 0)), mx_i (xs ((s.1 + (1 : Int32)).toNatClampNeg))]) (pc' := 405) (r := []) rfl rfl (T13 (d := d + 26)  e172 ?_)
      show mx_WP (d + 33) 168 405 [some (mx_r (some (2, 63, 0))), some (mx_r (some (0, 0, 0))), some (mx_r (some (1, 11, 0))), some (mx_i s.1)] [mx_i u167.1] (hC u167.2 s.2.2.1 s.2.2.2.1, hM s.2.2.2.2.1 s.2.2.2.2.2, (L, xs), kz) Q
      refine mx_WP.go 5 (pc' := 410) (L' := [some (mx_r (some (2, 63, 0))), some (mx_r (some (0, 0, 0))), some (mx_r (some (1, 11, 0))), some (mx_i s.1)]) (st' := [mx_i (s.1 + (1 : Int32)), mx_r (some (2, 63, 0)), mx_r (some (1, 11, 0)), mx_i u167.1]) (σ' := (hC u167.2 s.2.2.1 s.2.2.2.1, hM s.2.2.2.2.1 s.2.2.2.2.2, (L, xs), kz)) rfl ?_
      by_cases c168 : (s.1 + (1 : Int32)) < 0 ∨ L ≤ (s.1 + (1 : Int32)).toNatClampNeg
      · rw [if_pos c168] at hf
        cases hf
      rw [if_neg c168] at hf
      refine mx_WP.ialdx c168 ?_
      show mx_WP (d + 33) 168 411 [some (mx_r (some (2, 63, 0))), some (mx_r (some (0, 0, 0))), some (mx_r (some (1, 11, 0))), some (mx_i s.1)] [mx_i (xs ((s.1 + (1 : Int32)).toNatClampNeg)), mx_r (some (1, 11, 0)), mx_i u167.1] (hC u167.2 s.2.2.1 s.2.2.2.1, hM s.2.2.2.2.1 s.2.2.2.2.2, (L, xs), kz) Q
      obtain ⟨u169, e171, hf⟩ := Option.bind_eq_some_iff.mp hf
      refine mx_WP.call (d := d + 32) (y := 146) (as := [mx_r (some (1, 11, 0)), mx_i (xs ((s.1 + (1 : Int32)).toNatClampNeg))]) (pc' := 414) (r := [mx_i u167.1]) rfl rfl (T146 (d := d + 26)  e171 ?_)
      show mx_WP (d + 33) 168 414 [some (mx_r (some (2, 63, 0))), some (mx_r (some (0, 0, 0))), some (mx_r (some (1, 11, 0))), some (mx_i s.1)] [mx_i u169.1, mx_i u167.1] (hC u167.2 s.2.2.1 s.2.2.2.1, hM u169.2 s.2.2.2.2.2, (L, xs), kz) Q
      by_cases c170 : u167.1 = u169.1
      · rw [if_pos c170] at hf
        refine mx_WP.beq (x := u167.1) (y := u169.1) (q := 900) (p3 := 417) rfl (fun _ => ?_) (fun hh => absurd c170 hh)
        refine mx_WP.go 2 (pc' := 18) (L' := [some (mx_r (some (2, 63, 0))), some (mx_r (some (0, 0, 0))), some (mx_r (some (1, 11, 0))), some (mx_i (s.1 + 4))]) (st' := []) (σ' := (hC u167.2 s.2.2.1 s.2.2.2.1, hM u169.2 s.2.2.2.2.2, (L, xs), kz)) rfl ?_
        rw [← Option.some.inj hf] at hk
        exact hk
      · rw [if_neg c170] at hf
        refine mx_WP.beq (x := u167.1) (y := u169.1) (q := 900) (p3 := 417) rfl (fun hh => absurd hh c170) (fun _ => ?_)
        refine mx_WP.go 1 (pc' := 418) (L' := [some (mx_r (some (2, 63, 0))), some (mx_r (some (0, 0, 0))), some (mx_r (some (1, 11, 0))), some (mx_i s.1)]) (st' := [mx_i (0 : Int32)]) (σ' := (hC u167.2 s.2.2.1 s.2.2.2.1, hM u169.2 s.2.2.2.2.2, (L, xs), kz)) rfl ?_
        rw [← Option.some.inj hf] at hk
        refine mx_WP.ret (v := some (mx_i (0 : Int32))) rfl ?_
        exact hk _ _ _ _ _
    rw [if_neg c165] at hf
    by_cases c173 : ((xs s.1.toNatClampNeg) &&& (31 : Int32)) = (7 : Int32)
    · rw [if_pos c173] at hf
      refine mx_WP.sw (c := (7 : Int32)) (q := 419) c173 (by rfl) ?_
      refine mx_WP.go 5 (pc' := 424) (L' := [some (mx_r (some (2, 63, 0))), some (mx_r (some (0, 0, 0))), some (mx_r (some (1, 11, 0))), some (mx_i s.1)]) (st' := [mx_i (s.1 + (1 : Int32)), mx_r (some (2, 63, 0)), mx_r (some (0, 0, 0))]) (σ' := (hC s.2.1 s.2.2.1 s.2.2.2.1, hM s.2.2.2.2.1 s.2.2.2.2.2, (L, xs), kz)) rfl ?_
      by_cases c174 : (s.1 + (1 : Int32)) < 0 ∨ L ≤ (s.1 + (1 : Int32)).toNatClampNeg
      · rw [if_pos c174] at hf
        cases hf
      rw [if_neg c174] at hf
      refine mx_WP.ialdx c174 ?_
      show mx_WP (d + 33) 168 425 [some (mx_r (some (2, 63, 0))), some (mx_r (some (0, 0, 0))), some (mx_r (some (1, 11, 0))), some (mx_i s.1)] [mx_i (xs ((s.1 + (1 : Int32)).toNatClampNeg)), mx_r (some (0, 0, 0))] (hC s.2.1 s.2.2.1 s.2.2.2.1, hM s.2.2.2.2.1 s.2.2.2.2.2, (L, xs), kz) Q
      refine mx_WP.go 4 (pc' := 429) (L' := [some (mx_r (some (2, 63, 0))), some (mx_r (some (0, 0, 0))), some (mx_r (some (1, 11, 0))), some (mx_i s.1)]) (st' := [mx_i (s.1 + (2 : Int32)), mx_r (some (2, 63, 0)), mx_i (xs ((s.1 + (1 : Int32)).toNatClampNeg)), mx_r (some (0, 0, 0))]) (σ' := (hC s.2.1 s.2.2.1 s.2.2.2.1, hM s.2.2.2.2.1 s.2.2.2.2.2, (L, xs), kz)) rfl ?_
      by_cases c175 : (s.1 + (2 : Int32)) < 0 ∨ L ≤ (s.1 + (2 : Int32)).toNatClampNeg
      · rw [if_pos c175] at hf
        cases hf
      rw [if_neg c175] at hf
      refine mx_WP.ialdx c175 ?_
      show mx_WP (d + 33) 168 430 [some (mx_r (some (2, 63, 0))), some (mx_r (some (0, 0, 0))), some (mx_r (some (1, 11, 0))), some (mx_i s.1)] [mx_i (xs ((s.1 + (2 : Int32)).toNatClampNeg)), mx_i (xs ((s.1 + (1 : Int32)).toNatClampNeg)), mx_r (some (0, 0, 0))] (hC s.2.1 s.2.2.1 s.2.2.2.1, hM s.2.2.2.2.1 s.2.2.2.2.2, (L, xs), kz) Q
      obtain ⟨u176, e182, hf⟩ := Option.bind_eq_some_iff.mp hf
      refine mx_WP.call (d := d + 32) (y := 14) (as := [mx_r (some (0, 0, 0)), mx_i (xs ((s.1 + (1 : Int32)).toNatClampNeg)), mx_i (xs ((s.1 + (2 : Int32)).toNatClampNeg))]) (pc' := 433) (r := []) rfl rfl (T14 (d := d + 31)  e182 ?_)
      show mx_WP (d + 33) 168 433 [some (mx_r (some (2, 63, 0))), some (mx_r (some (0, 0, 0))), some (mx_r (some (1, 11, 0))), some (mx_i s.1)] [mx_i u176] (hC s.2.1 s.2.2.1 s.2.2.2.1, hM s.2.2.2.2.1 s.2.2.2.2.2, (L, xs), kz) Q
      refine mx_WP.go 5 (pc' := 438) (L' := [some (mx_r (some (2, 63, 0))), some (mx_r (some (0, 0, 0))), some (mx_r (some (1, 11, 0))), some (mx_i s.1)]) (st' := [mx_i (s.1 + (1 : Int32)), mx_r (some (2, 63, 0)), mx_r (some (1, 11, 0)), mx_i u176]) (σ' := (hC s.2.1 s.2.2.1 s.2.2.2.1, hM s.2.2.2.2.1 s.2.2.2.2.2, (L, xs), kz)) rfl ?_
      by_cases c177 : (s.1 + (1 : Int32)) < 0 ∨ L ≤ (s.1 + (1 : Int32)).toNatClampNeg
      · rw [if_pos c177] at hf
        cases hf
      rw [if_neg c177] at hf
      refine mx_WP.ialdx c177 ?_
      show mx_WP (d + 33) 168 439 [some (mx_r (some (2, 63, 0))), some (mx_r (some (0, 0, 0))), some (mx_r (some (1, 11, 0))), some (mx_i s.1)] [mx_i (xs ((s.1 + (1 : Int32)).toNatClampNeg)), mx_r (some (1, 11, 0)), mx_i u176] (hC s.2.1 s.2.2.1 s.2.2.2.1, hM s.2.2.2.2.1 s.2.2.2.2.2, (L, xs), kz) Q
      refine mx_WP.go 4 (pc' := 443) (L' := [some (mx_r (some (2, 63, 0))), some (mx_r (some (0, 0, 0))), some (mx_r (some (1, 11, 0))), some (mx_i s.1)]) (st' := [mx_i (s.1 + (2 : Int32)), mx_r (some (2, 63, 0)), mx_i (xs ((s.1 + (1 : Int32)).toNatClampNeg)), mx_r (some (1, 11, 0)), mx_i u176]) (σ' := (hC s.2.1 s.2.2.1 s.2.2.2.1, hM s.2.2.2.2.1 s.2.2.2.2.2, (L, xs), kz)) rfl ?_
      by_cases c178 : (s.1 + (2 : Int32)) < 0 ∨ L ≤ (s.1 + (2 : Int32)).toNatClampNeg
      · rw [if_pos c178] at hf
        cases hf
      rw [if_neg c178] at hf
      refine mx_WP.ialdx c178 ?_
      show mx_WP (d + 33) 168 444 [some (mx_r (some (2, 63, 0))), some (mx_r (some (0, 0, 0))), some (mx_r (some (1, 11, 0))), some (mx_i s.1)] [mx_i (xs ((s.1 + (2 : Int32)).toNatClampNeg)), mx_i (xs ((s.1 + (1 : Int32)).toNatClampNeg)), mx_r (some (1, 11, 0)), mx_i u176] (hC s.2.1 s.2.2.1 s.2.2.2.1, hM s.2.2.2.2.1 s.2.2.2.2.2, (L, xs), kz) Q
      obtain ⟨u179, e181, hf⟩ := Option.bind_eq_some_iff.mp hf
      refine mx_WP.call (d := d + 32) (y := 154) (as := [mx_r (some (1, 11, 0)), mx_i (xs ((s.1 + (1 : Int32)).toNatClampNeg)), mx_i (xs ((s.1 + (2 : Int32)).toNatClampNeg))]) (pc' := 447) (r := [mx_i u176]) rfl rfl (T154 (d := d + 29)  e181 ?_)
      show mx_WP (d + 33) 168 447 [some (mx_r (some (2, 63, 0))), some (mx_r (some (0, 0, 0))), some (mx_r (some (1, 11, 0))), some (mx_i s.1)] [mx_i u179, mx_i u176] (hC s.2.1 s.2.2.1 s.2.2.2.1, hM s.2.2.2.2.1 s.2.2.2.2.2, (L, xs), kz) Q
      by_cases c180 : u176 = u179
      · rw [if_pos c180] at hf
        refine mx_WP.beq (x := u176) (y := u179) (q := 900) (p3 := 450) rfl (fun _ => ?_) (fun hh => absurd c180 hh)
        refine mx_WP.go 2 (pc' := 18) (L' := [some (mx_r (some (2, 63, 0))), some (mx_r (some (0, 0, 0))), some (mx_r (some (1, 11, 0))), some (mx_i (s.1 + 4))]) (st' := []) (σ' := (hC s.2.1 s.2.2.1 s.2.2.2.1, hM s.2.2.2.2.1 s.2.2.2.2.2, (L, xs), kz)) rfl ?_
        rw [← Option.some.inj hf] at hk
        exact hk
      · rw [if_neg c180] at hf
        refine mx_WP.beq (x := u176) (y := u179) (q := 900) (p3 := 450) rfl (fun hh => absurd hh c180) (fun _ => ?_)
        refine mx_WP.go 1 (pc' := 451) (L' := [some (mx_r (some (2, 63, 0))), some (mx_r (some (0, 0, 0))), some (mx_r (some (1, 11, 0))), some (mx_i s.1)]) (st' := [mx_i (0 : Int32)]) (σ' := (hC s.2.1 s.2.2.1 s.2.2.2.1, hM s.2.2.2.2.1 s.2.2.2.2.2, (L, xs), kz)) rfl ?_
        rw [← Option.some.inj hf] at hk
        refine mx_WP.ret (v := some (mx_i (0 : Int32))) rfl ?_
        exact hk _ _ _ _ _
    rw [if_neg c173] at hf
    by_cases c183 : ((xs s.1.toNatClampNeg) &&& (31 : Int32)) = (8 : Int32)
    · rw [if_pos c183] at hf
      refine mx_WP.sw (c := (8 : Int32)) (q := 452) c183 (by rfl) ?_
      refine mx_WP.go 5 (pc' := 457) (L' := [some (mx_r (some (2, 63, 0))), some (mx_r (some (0, 0, 0))), some (mx_r (some (1, 11, 0))), some (mx_i s.1)]) (st' := [mx_i (s.1 + (1 : Int32)), mx_r (some (2, 63, 0)), mx_r (some (0, 0, 0))]) (σ' := (hC s.2.1 s.2.2.1 s.2.2.2.1, hM s.2.2.2.2.1 s.2.2.2.2.2, (L, xs), kz)) rfl ?_
      by_cases c184 : (s.1 + (1 : Int32)) < 0 ∨ L ≤ (s.1 + (1 : Int32)).toNatClampNeg
      · rw [if_pos c184] at hf
        cases hf
      rw [if_neg c184] at hf
      refine mx_WP.ialdx c184 ?_
      show mx_WP (d + 33) 168 458 [some (mx_r (some (2, 63, 0))), some (mx_r (some (0, 0, 0))), some (mx_r (some (1, 11, 0))), some (mx_i s.1)] [mx_i (xs ((s.1 + (1 : Int32)).toNatClampNeg)), mx_r (some (0, 0, 0))] (hC s.2.1 s.2.2.1 s.2.2.2.1, hM s.2.2.2.2.1 s.2.2.2.2.2, (L, xs), kz) Q
      refine mx_WP.go 7 (pc' := 466) (L' := [some (mx_r (some (2, 63, 0))), some (mx_r (some (0, 0, 0))), some (mx_r (some (1, 11, 0))), some (mx_i s.1)]) (st' := [mx_i (s.1 + (2 : Int32)), mx_r (some (2, 63, 0)), mx_l (((xs ((s.1 + (1 : Int32)).toNatClampNeg)).toInt64) <<< ((32 : Int32).toInt64 &&& 63)), mx_r (some (0, 0, 0))]) (σ' := (hC s.2.1 s.2.2.1 s.2.2.2.1, hM s.2.2.2.2.1 s.2.2.2.2.2, (L, xs), kz)) rfl ?_
      by_cases c185 : (s.1 + (2 : Int32)) < 0 ∨ L ≤ (s.1 + (2 : Int32)).toNatClampNeg
      · rw [if_pos c185] at hf
        cases hf
      rw [if_neg c185] at hf
      refine mx_WP.ialdx c185 ?_
      show mx_WP (d + 33) 168 467 [some (mx_r (some (2, 63, 0))), some (mx_r (some (0, 0, 0))), some (mx_r (some (1, 11, 0))), some (mx_i s.1)] [mx_i (xs ((s.1 + (2 : Int32)).toNatClampNeg)), mx_l (((xs ((s.1 + (1 : Int32)).toNatClampNeg)).toInt64) <<< ((32 : Int32).toInt64 &&& 63)), mx_r (some (0, 0, 0))] (hC s.2.1 s.2.2.1 s.2.2.2.1, hM s.2.2.2.2.1 s.2.2.2.2.2, (L, xs), kz) Q
      refine mx_WP.go 4 (pc' := 473) (L' := [some (mx_r (some (2, 63, 0))), some (mx_r (some (0, 0, 0))), some (mx_r (some (1, 11, 0))), some (mx_i s.1)]) (st' := [mx_l ((((xs ((s.1 + (1 : Int32)).toNatClampNeg)).toInt64) <<< ((32 : Int32).toInt64 &&& 63)) ||| (((xs ((s.1 + (2 : Int32)).toNatClampNeg)).toInt64) &&& (4294967295 : Int64))), mx_r (some (0, 0, 0))]) (σ' := (hC s.2.1 s.2.2.1 s.2.2.2.1, hM s.2.2.2.2.1 s.2.2.2.2.2, (L, xs), kz)) rfl ?_
      obtain ⟨u186, e192, hf⟩ := Option.bind_eq_some_iff.mp hf
      refine mx_WP.call (d := d + 32) (y := 15) (as := [mx_r (some (0, 0, 0)), mx_l ((((xs ((s.1 + (1 : Int32)).toNatClampNeg)).toInt64) <<< ((32 : Int32).toInt64 &&& 63)) ||| (((xs ((s.1 + (2 : Int32)).toNatClampNeg)).toInt64) &&& (4294967295 : Int64)))]) (pc' := 476) (r := []) rfl rfl (T15 (d := d + 29)  e192 ?_)
      show mx_WP (d + 33) 168 476 [some (mx_r (some (2, 63, 0))), some (mx_r (some (0, 0, 0))), some (mx_r (some (1, 11, 0))), some (mx_i s.1)] [mx_i u186] (hC s.2.1 s.2.2.1 s.2.2.2.1, hM s.2.2.2.2.1 s.2.2.2.2.2, (L, xs), kz) Q
      refine mx_WP.go 5 (pc' := 481) (L' := [some (mx_r (some (2, 63, 0))), some (mx_r (some (0, 0, 0))), some (mx_r (some (1, 11, 0))), some (mx_i s.1)]) (st' := [mx_i (s.1 + (1 : Int32)), mx_r (some (2, 63, 0)), mx_r (some (1, 11, 0)), mx_i u186]) (σ' := (hC s.2.1 s.2.2.1 s.2.2.2.1, hM s.2.2.2.2.1 s.2.2.2.2.2, (L, xs), kz)) rfl ?_
      by_cases c187 : (s.1 + (1 : Int32)) < 0 ∨ L ≤ (s.1 + (1 : Int32)).toNatClampNeg
      · rw [if_pos c187] at hf
        cases hf
      rw [if_neg c187] at hf
      refine mx_WP.ialdx c187 ?_
      show mx_WP (d + 33) 168 482 [some (mx_r (some (2, 63, 0))), some (mx_r (some (0, 0, 0))), some (mx_r (some (1, 11, 0))), some (mx_i s.1)] [mx_i (xs ((s.1 + (1 : Int32)).toNatClampNeg)), mx_r (some (1, 11, 0)), mx_i u186] (hC s.2.1 s.2.2.1 s.2.2.2.1, hM s.2.2.2.2.1 s.2.2.2.2.2, (L, xs), kz) Q
      refine mx_WP.go 7 (pc' := 490) (L' := [some (mx_r (some (2, 63, 0))), some (mx_r (some (0, 0, 0))), some (mx_r (some (1, 11, 0))), some (mx_i s.1)]) (st' := [mx_i (s.1 + (2 : Int32)), mx_r (some (2, 63, 0)), mx_l (((xs ((s.1 + (1 : Int32)).toNatClampNeg)).toInt64) <<< ((32 : Int32).toInt64 &&& 63)), mx_r (some (1, 11, 0)), mx_i u186]) (σ' := (hC s.2.1 s.2.2.1 s.2.2.2.1, hM s.2.2.2.2.1 s.2.2.2.2.2, (L, xs), kz)) rfl ?_
      by_cases c188 : (s.1 + (2 : Int32)) < 0 ∨ L ≤ (s.1 + (2 : Int32)).toNatClampNeg
      · rw [if_pos c188] at hf
        cases hf
      rw [if_neg c188] at hf
      refine mx_WP.ialdx c188 ?_
      show mx_WP (d + 33) 168 491 [some (mx_r (some (2, 63, 0))), some (mx_r (some (0, 0, 0))), some (mx_r (some (1, 11, 0))), some (mx_i s.1)] [mx_i (xs ((s.1 + (2 : Int32)).toNatClampNeg)), mx_l (((xs ((s.1 + (1 : Int32)).toNatClampNeg)).toInt64) <<< ((32 : Int32).toInt64 &&& 63)), mx_r (some (1, 11, 0)), mx_i u186] (hC s.2.1 s.2.2.1 s.2.2.2.1, hM s.2.2.2.2.1 s.2.2.2.2.2, (L, xs), kz) Q
      refine mx_WP.go 4 (pc' := 497) (L' := [some (mx_r (some (2, 63, 0))), some (mx_r (some (0, 0, 0))), some (mx_r (some (1, 11, 0))), some (mx_i s.1)]) (st' := [mx_l ((((xs ((s.1 + (1 : Int32)).toNatClampNeg)).toInt64) <<< ((32 : Int32).toInt64 &&& 63)) ||| (((xs ((s.1 + (2 : Int32)).toNatClampNeg)).toInt64) &&& (4294967295 : Int64))), mx_r (some (1, 11, 0)), mx_i u186]) (σ' := (hC s.2.1 s.2.2.1 s.2.2.2.1, hM s.2.2.2.2.1 s.2.2.2.2.2, (L, xs), kz)) rfl ?_
      obtain ⟨u189, e191, hf⟩ := Option.bind_eq_some_iff.mp hf
      refine mx_WP.call (d := d + 32) (y := 155) (as := [mx_r (some (1, 11, 0)), mx_l ((((xs ((s.1 + (1 : Int32)).toNatClampNeg)).toInt64) <<< ((32 : Int32).toInt64 &&& 63)) ||| (((xs ((s.1 + (2 : Int32)).toNatClampNeg)).toInt64) &&& (4294967295 : Int64)))]) (pc' := 500) (r := [mx_i u186]) rfl rfl (T155 (d := d + 28)  e191 ?_)
      show mx_WP (d + 33) 168 500 [some (mx_r (some (2, 63, 0))), some (mx_r (some (0, 0, 0))), some (mx_r (some (1, 11, 0))), some (mx_i s.1)] [mx_i u189, mx_i u186] (hC s.2.1 s.2.2.1 s.2.2.2.1, hM s.2.2.2.2.1 s.2.2.2.2.2, (L, xs), kz) Q
      by_cases c190 : u186 = u189
      · rw [if_pos c190] at hf
        refine mx_WP.beq (x := u186) (y := u189) (q := 900) (p3 := 503) rfl (fun _ => ?_) (fun hh => absurd c190 hh)
        refine mx_WP.go 2 (pc' := 18) (L' := [some (mx_r (some (2, 63, 0))), some (mx_r (some (0, 0, 0))), some (mx_r (some (1, 11, 0))), some (mx_i (s.1 + 4))]) (st' := []) (σ' := (hC s.2.1 s.2.2.1 s.2.2.2.1, hM s.2.2.2.2.1 s.2.2.2.2.2, (L, xs), kz)) rfl ?_
        rw [← Option.some.inj hf] at hk
        exact hk
      · rw [if_neg c190] at hf
        refine mx_WP.beq (x := u186) (y := u189) (q := 900) (p3 := 503) rfl (fun hh => absurd hh c190) (fun _ => ?_)
        refine mx_WP.go 1 (pc' := 504) (L' := [some (mx_r (some (2, 63, 0))), some (mx_r (some (0, 0, 0))), some (mx_r (some (1, 11, 0))), some (mx_i s.1)]) (st' := [mx_i (0 : Int32)]) (σ' := (hC s.2.1 s.2.2.1 s.2.2.2.1, hM s.2.2.2.2.1 s.2.2.2.2.2, (L, xs), kz)) rfl ?_
        rw [← Option.some.inj hf] at hk
        refine mx_WP.ret (v := some (mx_i (0 : Int32))) rfl ?_
        exact hk _ _ _ _ _
    rw [if_neg c183] at hf
    by_cases c193 : ((xs s.1.toNatClampNeg) &&& (31 : Int32)) = (9 : Int32)
    · rw [if_pos c193] at hf
      refine mx_WP.sw (c := (9 : Int32)) (q := 505) c193 (by rfl) ?_
      refine mx_WP.go 5 (pc' := 510) (L' := [some (mx_r (some (2, 63, 0))), some (mx_r (some (0, 0, 0))), some (mx_r (some (1, 11, 0))), some (mx_i s.1)]) (st' := [mx_i (s.1 + (1 : Int32)), mx_r (some (2, 63, 0)), mx_r (some (0, 0, 0))]) (σ' := (hC s.2.1 s.2.2.1 s.2.2.2.1, hM s.2.2.2.2.1 s.2.2.2.2.2, (L, xs), kz)) rfl ?_
      by_cases c194 : (s.1 + (1 : Int32)) < 0 ∨ L ≤ (s.1 + (1 : Int32)).toNatClampNeg
      · rw [if_pos c194] at hf
        cases hf
      rw [if_neg c194] at hf
      refine mx_WP.ialdx c194 ?_
      show mx_WP (d + 33) 168 511 [some (mx_r (some (2, 63, 0))), some (mx_r (some (0, 0, 0))), some (mx_r (some (1, 11, 0))), some (mx_i s.1)] [mx_i (xs ((s.1 + (1 : Int32)).toNatClampNeg)), mx_r (some (0, 0, 0))] (hC s.2.1 s.2.2.1 s.2.2.2.1, hM s.2.2.2.2.1 s.2.2.2.2.2, (L, xs), kz) Q
      refine mx_WP.go 7 (pc' := 519) (L' := [some (mx_r (some (2, 63, 0))), some (mx_r (some (0, 0, 0))), some (mx_r (some (1, 11, 0))), some (mx_i s.1)]) (st' := [mx_i (s.1 + (2 : Int32)), mx_r (some (2, 63, 0)), mx_l (((xs ((s.1 + (1 : Int32)).toNatClampNeg)).toInt64) <<< ((32 : Int32).toInt64 &&& 63)), mx_r (some (0, 0, 0))]) (σ' := (hC s.2.1 s.2.2.1 s.2.2.2.1, hM s.2.2.2.2.1 s.2.2.2.2.2, (L, xs), kz)) rfl ?_
      by_cases c195 : (s.1 + (2 : Int32)) < 0 ∨ L ≤ (s.1 + (2 : Int32)).toNatClampNeg
      · rw [if_pos c195] at hf
        cases hf
      rw [if_neg c195] at hf
      refine mx_WP.ialdx c195 ?_
      show mx_WP (d + 33) 168 520 [some (mx_r (some (2, 63, 0))), some (mx_r (some (0, 0, 0))), some (mx_r (some (1, 11, 0))), some (mx_i s.1)] [mx_i (xs ((s.1 + (2 : Int32)).toNatClampNeg)), mx_l (((xs ((s.1 + (1 : Int32)).toNatClampNeg)).toInt64) <<< ((32 : Int32).toInt64 &&& 63)), mx_r (some (0, 0, 0))] (hC s.2.1 s.2.2.1 s.2.2.2.1, hM s.2.2.2.2.1 s.2.2.2.2.2, (L, xs), kz) Q
      refine mx_WP.go 8 (pc' := 530) (L' := [some (mx_r (some (2, 63, 0))), some (mx_r (some (0, 0, 0))), some (mx_r (some (1, 11, 0))), some (mx_i s.1)]) (st' := [mx_i (s.1 + (3 : Int32)), mx_r (some (2, 63, 0)), mx_l ((((xs ((s.1 + (1 : Int32)).toNatClampNeg)).toInt64) <<< ((32 : Int32).toInt64 &&& 63)) ||| (((xs ((s.1 + (2 : Int32)).toNatClampNeg)).toInt64) &&& (4294967295 : Int64))), mx_r (some (0, 0, 0))]) (σ' := (hC s.2.1 s.2.2.1 s.2.2.2.1, hM s.2.2.2.2.1 s.2.2.2.2.2, (L, xs), kz)) rfl ?_
      by_cases c196 : (s.1 + (3 : Int32)) < 0 ∨ L ≤ (s.1 + (3 : Int32)).toNatClampNeg
      · rw [if_pos c196] at hf
        cases hf
      rw [if_neg c196] at hf
      refine mx_WP.ialdx c196 ?_
      show mx_WP (d + 33) 168 531 [some (mx_r (some (2, 63, 0))), some (mx_r (some (0, 0, 0))), some (mx_r (some (1, 11, 0))), some (mx_i s.1)] [mx_i (xs ((s.1 + (3 : Int32)).toNatClampNeg)), mx_l ((((xs ((s.1 + (1 : Int32)).toNatClampNeg)).toInt64) <<< ((32 : Int32).toInt64 &&& 63)) ||| (((xs ((s.1 + (2 : Int32)).toNatClampNeg)).toInt64) &&& (4294967295 : Int64))), mx_r (some (0, 0, 0))] (hC s.2.1 s.2.2.1 s.2.2.2.1, hM s.2.2.2.2.1 s.2.2.2.2.2, (L, xs), kz) Q
      obtain ⟨u197, e204, hf⟩ := Option.bind_eq_some_iff.mp hf
      refine mx_WP.call (d := d + 32) (y := 16) (as := [mx_r (some (0, 0, 0)), mx_l ((((xs ((s.1 + (1 : Int32)).toNatClampNeg)).toInt64) <<< ((32 : Int32).toInt64 &&& 63)) ||| (((xs ((s.1 + (2 : Int32)).toNatClampNeg)).toInt64) &&& (4294967295 : Int64))), mx_i (xs ((s.1 + (3 : Int32)).toNatClampNeg))]) (pc' := 534) (r := []) rfl rfl (T16 (d := d + 29)  e204 ?_)
      show mx_WP (d + 33) 168 534 [some (mx_r (some (2, 63, 0))), some (mx_r (some (0, 0, 0))), some (mx_r (some (1, 11, 0))), some (mx_i s.1)] [mx_i u197] (hC s.2.1 s.2.2.1 s.2.2.2.1, hM s.2.2.2.2.1 s.2.2.2.2.2, (L, xs), kz) Q
      refine mx_WP.go 5 (pc' := 539) (L' := [some (mx_r (some (2, 63, 0))), some (mx_r (some (0, 0, 0))), some (mx_r (some (1, 11, 0))), some (mx_i s.1)]) (st' := [mx_i (s.1 + (1 : Int32)), mx_r (some (2, 63, 0)), mx_r (some (1, 11, 0)), mx_i u197]) (σ' := (hC s.2.1 s.2.2.1 s.2.2.2.1, hM s.2.2.2.2.1 s.2.2.2.2.2, (L, xs), kz)) rfl ?_
      by_cases c198 : (s.1 + (1 : Int32)) < 0 ∨ L ≤ (s.1 + (1 : Int32)).toNatClampNeg
      · rw [if_pos c198] at hf
        cases hf
      rw [if_neg c198] at hf
      refine mx_WP.ialdx c198 ?_
      show mx_WP (d + 33) 168 540 [some (mx_r (some (2, 63, 0))), some (mx_r (some (0, 0, 0))), some (mx_r (some (1, 11, 0))), some (mx_i s.1)] [mx_i (xs ((s.1 + (1 : Int32)).toNatClampNeg)), mx_r (some (1, 11, 0)), mx_i u197] (hC s.2.1 s.2.2.1 s.2.2.2.1, hM s.2.2.2.2.1 s.2.2.2.2.2, (L, xs), kz) Q
      refine mx_WP.go 7 (pc' := 548) (L' := [some (mx_r (some (2, 63, 0))), some (mx_r (some (0, 0, 0))), some (mx_r (some (1, 11, 0))), some (mx_i s.1)]) (st' := [mx_i (s.1 + (2 : Int32)), mx_r (some (2, 63, 0)), mx_l (((xs ((s.1 + (1 : Int32)).toNatClampNeg)).toInt64) <<< ((32 : Int32).toInt64 &&& 63)), mx_r (some (1, 11, 0)), mx_i u197]) (σ' := (hC s.2.1 s.2.2.1 s.2.2.2.1, hM s.2.2.2.2.1 s.2.2.2.2.2, (L, xs), kz)) rfl ?_
      by_cases c199 : (s.1 + (2 : Int32)) < 0 ∨ L ≤ (s.1 + (2 : Int32)).toNatClampNeg
      · rw [if_pos c199] at hf
        cases hf
      rw [if_neg c199] at hf
      refine mx_WP.ialdx c199 ?_
      show mx_WP (d + 33) 168 549 [some (mx_r (some (2, 63, 0))), some (mx_r (some (0, 0, 0))), some (mx_r (some (1, 11, 0))), some (mx_i s.1)] [mx_i (xs ((s.1 + (2 : Int32)).toNatClampNeg)), mx_l (((xs ((s.1 + (1 : Int32)).toNatClampNeg)).toInt64) <<< ((32 : Int32).toInt64 &&& 63)), mx_r (some (1, 11, 0)), mx_i u197] (hC s.2.1 s.2.2.1 s.2.2.2.1, hM s.2.2.2.2.1 s.2.2.2.2.2, (L, xs), kz) Q
      refine mx_WP.go 8 (pc' := 559) (L' := [some (mx_r (some (2, 63, 0))), some (mx_r (some (0, 0, 0))), some (mx_r (some (1, 11, 0))), some (mx_i s.1)]) (st' := [mx_i (s.1 + (3 : Int32)), mx_r (some (2, 63, 0)), mx_l ((((xs ((s.1 + (1 : Int32)).toNatClampNeg)).toInt64) <<< ((32 : Int32).toInt64 &&& 63)) ||| (((xs ((s.1 + (2 : Int32)).toNatClampNeg)).toInt64) &&& (4294967295 : Int64))), mx_r (some (1, 11, 0)), mx_i u197]) (σ' := (hC s.2.1 s.2.2.1 s.2.2.2.1, hM s.2.2.2.2.1 s.2.2.2.2.2, (L, xs), kz)) rfl ?_
      by_cases c200 : (s.1 + (3 : Int32)) < 0 ∨ L ≤ (s.1 + (3 : Int32)).toNatClampNeg
      · rw [if_pos c200] at hf
        cases hf
      rw [if_neg c200] at hf
      refine mx_WP.ialdx c200 ?_
      show mx_WP (d + 33) 168 560 [some (mx_r (some (2, 63, 0))), some (mx_r (some (0, 0, 0))), some (mx_r (some (1, 11, 0))), some (mx_i s.1)] [mx_i (xs ((s.1 + (3 : Int32)).toNatClampNeg)), mx_l ((((xs ((s.1 + (1 : Int32)).toNatClampNeg)).toInt64) <<< ((32 : Int32).toInt64 &&& 63)) ||| (((xs ((s.1 + (2 : Int32)).toNatClampNeg)).toInt64) &&& (4294967295 : Int64))), mx_r (some (1, 11, 0)), mx_i u197] (hC s.2.1 s.2.2.1 s.2.2.2.1, hM s.2.2.2.2.1 s.2.2.2.2.2, (L, xs), kz) Q
      obtain ⟨u201, e203, hf⟩ := Option.bind_eq_some_iff.mp hf
      refine mx_WP.call (d := d + 32) (y := 156) (as := [mx_r (some (1, 11, 0)), mx_l ((((xs ((s.1 + (1 : Int32)).toNatClampNeg)).toInt64) <<< ((32 : Int32).toInt64 &&& 63)) ||| (((xs ((s.1 + (2 : Int32)).toNatClampNeg)).toInt64) &&& (4294967295 : Int64))), mx_i (xs ((s.1 + (3 : Int32)).toNatClampNeg))]) (pc' := 563) (r := [mx_i u197]) rfl rfl (T156 (d := d + 31)  e203 ?_)
      show mx_WP (d + 33) 168 563 [some (mx_r (some (2, 63, 0))), some (mx_r (some (0, 0, 0))), some (mx_r (some (1, 11, 0))), some (mx_i s.1)] [mx_i u201, mx_i u197] (hC s.2.1 s.2.2.1 s.2.2.2.1, hM s.2.2.2.2.1 s.2.2.2.2.2, (L, xs), kz) Q
      by_cases c202 : u197 = u201
      · rw [if_pos c202] at hf
        refine mx_WP.beq (x := u197) (y := u201) (q := 900) (p3 := 566) rfl (fun _ => ?_) (fun hh => absurd c202 hh)
        refine mx_WP.go 2 (pc' := 18) (L' := [some (mx_r (some (2, 63, 0))), some (mx_r (some (0, 0, 0))), some (mx_r (some (1, 11, 0))), some (mx_i (s.1 + 4))]) (st' := []) (σ' := (hC s.2.1 s.2.2.1 s.2.2.2.1, hM s.2.2.2.2.1 s.2.2.2.2.2, (L, xs), kz)) rfl ?_
        rw [← Option.some.inj hf] at hk
        exact hk
      · rw [if_neg c202] at hf
        refine mx_WP.beq (x := u197) (y := u201) (q := 900) (p3 := 566) rfl (fun hh => absurd hh c202) (fun _ => ?_)
        refine mx_WP.go 1 (pc' := 567) (L' := [some (mx_r (some (2, 63, 0))), some (mx_r (some (0, 0, 0))), some (mx_r (some (1, 11, 0))), some (mx_i s.1)]) (st' := [mx_i (0 : Int32)]) (σ' := (hC s.2.1 s.2.2.1 s.2.2.2.1, hM s.2.2.2.2.1 s.2.2.2.2.2, (L, xs), kz)) rfl ?_
        rw [← Option.some.inj hf] at hk
        refine mx_WP.ret (v := some (mx_i (0 : Int32))) rfl ?_
        exact hk _ _ _ _ _
    rw [if_neg c193] at hf
    by_cases c205 : ((xs s.1.toNatClampNeg) &&& (31 : Int32)) = (10 : Int32)
    · rw [if_pos c205] at hf
      refine mx_WP.sw (c := (10 : Int32)) (q := 568) c205 (by rfl) ?_
      refine mx_WP.go 5 (pc' := 573) (L' := [some (mx_r (some (2, 63, 0))), some (mx_r (some (0, 0, 0))), some (mx_r (some (1, 11, 0))), some (mx_i s.1)]) (st' := [mx_i (s.1 + (1 : Int32)), mx_r (some (2, 63, 0)), mx_r (some (0, 0, 0))]) (σ' := (hC s.2.1 s.2.2.1 s.2.2.2.1, hM s.2.2.2.2.1 s.2.2.2.2.2, (L, xs), kz)) rfl ?_
      by_cases c206 : (s.1 + (1 : Int32)) < 0 ∨ L ≤ (s.1 + (1 : Int32)).toNatClampNeg
      · rw [if_pos c206] at hf
        cases hf
      rw [if_neg c206] at hf
      refine mx_WP.ialdx c206 ?_
      show mx_WP (d + 33) 168 574 [some (mx_r (some (2, 63, 0))), some (mx_r (some (0, 0, 0))), some (mx_r (some (1, 11, 0))), some (mx_i s.1)] [mx_i (xs ((s.1 + (1 : Int32)).toNatClampNeg)), mx_r (some (0, 0, 0))] (hC s.2.1 s.2.2.1 s.2.2.2.1, hM s.2.2.2.2.1 s.2.2.2.2.2, (L, xs), kz) Q
      refine mx_WP.go 4 (pc' := 578) (L' := [some (mx_r (some (2, 63, 0))), some (mx_r (some (0, 0, 0))), some (mx_r (some (1, 11, 0))), some (mx_i s.1)]) (st' := [mx_i (s.1 + (2 : Int32)), mx_r (some (2, 63, 0)), mx_i (xs ((s.1 + (1 : Int32)).toNatClampNeg)), mx_r (some (0, 0, 0))]) (σ' := (hC s.2.1 s.2.2.1 s.2.2.2.1, hM s.2.2.2.2.1 s.2.2.2.2.2, (L, xs), kz)) rfl ?_
      by_cases c207 : (s.1 + (2 : Int32)) < 0 ∨ L ≤ (s.1 + (2 : Int32)).toNatClampNeg
      · rw [if_pos c207] at hf
        cases hf
      rw [if_neg c207] at hf
      refine mx_WP.ialdx c207 ?_
      show mx_WP (d + 33) 168 579 [some (mx_r (some (2, 63, 0))), some (mx_r (some (0, 0, 0))), some (mx_r (some (1, 11, 0))), some (mx_i s.1)] [mx_i (xs ((s.1 + (2 : Int32)).toNatClampNeg)), mx_i (xs ((s.1 + (1 : Int32)).toNatClampNeg)), mx_r (some (0, 0, 0))] (hC s.2.1 s.2.2.1 s.2.2.2.1, hM s.2.2.2.2.1 s.2.2.2.2.2, (L, xs), kz) Q
      obtain ⟨u208, e214, hf⟩ := Option.bind_eq_some_iff.mp hf
      refine mx_WP.call (d := d + 32) (y := 17) (as := [mx_r (some (0, 0, 0)), mx_i (xs ((s.1 + (1 : Int32)).toNatClampNeg)), mx_i (xs ((s.1 + (2 : Int32)).toNatClampNeg))]) (pc' := 582) (r := []) rfl rfl (T17 (d := d + 28)  e214 ?_)
      show mx_WP (d + 33) 168 582 [some (mx_r (some (2, 63, 0))), some (mx_r (some (0, 0, 0))), some (mx_r (some (1, 11, 0))), some (mx_i s.1)] [mx_i u208] (hC s.2.1 s.2.2.1 s.2.2.2.1, hM s.2.2.2.2.1 s.2.2.2.2.2, (L, xs), kz) Q
      refine mx_WP.go 5 (pc' := 587) (L' := [some (mx_r (some (2, 63, 0))), some (mx_r (some (0, 0, 0))), some (mx_r (some (1, 11, 0))), some (mx_i s.1)]) (st' := [mx_i (s.1 + (1 : Int32)), mx_r (some (2, 63, 0)), mx_r (some (1, 11, 0)), mx_i u208]) (σ' := (hC s.2.1 s.2.2.1 s.2.2.2.1, hM s.2.2.2.2.1 s.2.2.2.2.2, (L, xs), kz)) rfl ?_
      by_cases c209 : (s.1 + (1 : Int32)) < 0 ∨ L ≤ (s.1 + (1 : Int32)).toNatClampNeg
      · rw [if_pos c209] at hf
        cases hf
      rw [if_neg c209] at hf
      refine mx_WP.ialdx c209 ?_
      show mx_WP (d + 33) 168 588 [some (mx_r (some (2, 63, 0))), some (mx_r (some (0, 0, 0))), some (mx_r (some (1, 11, 0))), some (mx_i s.1)] [mx_i (xs ((s.1 + (1 : Int32)).toNatClampNeg)), mx_r (some (1, 11, 0)), mx_i u208] (hC s.2.1 s.2.2.1 s.2.2.2.1, hM s.2.2.2.2.1 s.2.2.2.2.2, (L, xs), kz) Q
      refine mx_WP.go 4 (pc' := 592) (L' := [some (mx_r (some (2, 63, 0))), some (mx_r (some (0, 0, 0))), some (mx_r (some (1, 11, 0))), some (mx_i s.1)]) (st' := [mx_i (s.1 + (2 : Int32)), mx_r (some (2, 63, 0)), mx_i (xs ((s.1 + (1 : Int32)).toNatClampNeg)), mx_r (some (1, 11, 0)), mx_i u208]) (σ' := (hC s.2.1 s.2.2.1 s.2.2.2.1, hM s.2.2.2.2.1 s.2.2.2.2.2, (L, xs), kz)) rfl ?_
      by_cases c210 : (s.1 + (2 : Int32)) < 0 ∨ L ≤ (s.1 + (2 : Int32)).toNatClampNeg
      · rw [if_pos c210] at hf
        cases hf
      rw [if_neg c210] at hf
      refine mx_WP.ialdx c210 ?_
      show mx_WP (d + 33) 168 593 [some (mx_r (some (2, 63, 0))), some (mx_r (some (0, 0, 0))), some (mx_r (some (1, 11, 0))), some (mx_i s.1)] [mx_i (xs ((s.1 + (2 : Int32)).toNatClampNeg)), mx_i (xs ((s.1 + (1 : Int32)).toNatClampNeg)), mx_r (some (1, 11, 0)), mx_i u208] (hC s.2.1 s.2.2.1 s.2.2.2.1, hM s.2.2.2.2.1 s.2.2.2.2.2, (L, xs), kz) Q
      obtain ⟨u211, e213, hf⟩ := Option.bind_eq_some_iff.mp hf
      refine mx_WP.call (d := d + 32) (y := 157) (as := [mx_r (some (1, 11, 0)), mx_i (xs ((s.1 + (1 : Int32)).toNatClampNeg)), mx_i (xs ((s.1 + (2 : Int32)).toNatClampNeg))]) (pc' := 596) (r := [mx_i u208]) rfl rfl (T157 (d := d + 29)  e213 ?_)
      show mx_WP (d + 33) 168 596 [some (mx_r (some (2, 63, 0))), some (mx_r (some (0, 0, 0))), some (mx_r (some (1, 11, 0))), some (mx_i s.1)] [mx_i u211, mx_i u208] (hC s.2.1 s.2.2.1 s.2.2.2.1, hM s.2.2.2.2.1 s.2.2.2.2.2, (L, xs), kz) Q
      by_cases c212 : u208 = u211
      · rw [if_pos c212] at hf
        refine mx_WP.beq (x := u208) (y := u211) (q := 900) (p3 := 599) rfl (fun _ => ?_) (fun hh => absurd c212 hh)
        refine mx_WP.go 2 (pc' := 18) (L' := [some (mx_r (some (2, 63, 0))), some (mx_r (some (0, 0, 0))), some (mx_r (some (1, 11, 0))), some (mx_i (s.1 + 4))]) (st' := []) (σ' := (hC s.2.1 s.2.2.1 s.2.2.2.1, hM s.2.2.2.2.1 s.2.2.2.2.2, (L, xs), kz)) rfl ?_
        rw [← Option.some.inj hf] at hk
        exact hk
      · rw [if_neg c212] at hf
        refine mx_WP.beq (x := u208) (y := u211) (q := 900) (p3 := 599) rfl (fun hh => absurd hh c212) (fun _ => ?_)
        refine mx_WP.go 1 (pc' := 600) (L' := [some (mx_r (some (2, 63, 0))), some (mx_r (some (0, 0, 0))), some (mx_r (some (1, 11, 0))), some (mx_i s.1)]) (st' := [mx_i (0 : Int32)]) (σ' := (hC s.2.1 s.2.2.1 s.2.2.2.1, hM s.2.2.2.2.1 s.2.2.2.2.2, (L, xs), kz)) rfl ?_
        rw [← Option.some.inj hf] at hk
        refine mx_WP.ret (v := some (mx_i (0 : Int32))) rfl ?_
        exact hk _ _ _ _ _
    rw [if_neg c205] at hf
    by_cases c215 : ((xs s.1.toNatClampNeg) &&& (31 : Int32)) = (11 : Int32)
    · rw [if_pos c215] at hf
      refine mx_WP.sw (c := (11 : Int32)) (q := 601) c215 (by rfl) ?_
      refine mx_WP.go 5 (pc' := 606) (L' := [some (mx_r (some (2, 63, 0))), some (mx_r (some (0, 0, 0))), some (mx_r (some (1, 11, 0))), some (mx_i s.1)]) (st' := [mx_i (s.1 + (1 : Int32)), mx_r (some (2, 63, 0)), mx_r (some (0, 0, 0))]) (σ' := (hC s.2.1 s.2.2.1 s.2.2.2.1, hM s.2.2.2.2.1 s.2.2.2.2.2, (L, xs), kz)) rfl ?_
      by_cases c216 : (s.1 + (1 : Int32)) < 0 ∨ L ≤ (s.1 + (1 : Int32)).toNatClampNeg
      · rw [if_pos c216] at hf
        cases hf
      rw [if_neg c216] at hf
      refine mx_WP.ialdx c216 ?_
      show mx_WP (d + 33) 168 607 [some (mx_r (some (2, 63, 0))), some (mx_r (some (0, 0, 0))), some (mx_r (some (1, 11, 0))), some (mx_i s.1)] [mx_i (xs ((s.1 + (1 : Int32)).toNatClampNeg)), mx_r (some (0, 0, 0))] (hC s.2.1 s.2.2.1 s.2.2.2.1, hM s.2.2.2.2.1 s.2.2.2.2.2, (L, xs), kz) Q
      obtain ⟨u217, e222, hf⟩ := Option.bind_eq_some_iff.mp hf
      refine mx_WP.call (d := d + 32) (y := 19) (as := [mx_r (some (0, 0, 0)), mx_i (xs ((s.1 + (1 : Int32)).toNatClampNeg))]) (pc' := 610) (r := []) rfl rfl (T19 (d := d + 30)  e222 ?_)
      show mx_WP (d + 33) 168 610 [some (mx_r (some (2, 63, 0))), some (mx_r (some (0, 0, 0))), some (mx_r (some (1, 11, 0))), some (mx_i s.1)] [mx_l u217] (hC s.2.1 s.2.2.1 s.2.2.2.1, hM s.2.2.2.2.1 s.2.2.2.2.2, (L, xs), kz) Q
      refine mx_WP.go 5 (pc' := 615) (L' := [some (mx_r (some (2, 63, 0))), some (mx_r (some (0, 0, 0))), some (mx_r (some (1, 11, 0))), some (mx_i s.1)]) (st' := [mx_i (s.1 + (1 : Int32)), mx_r (some (2, 63, 0)), mx_r (some (1, 11, 0)), mx_l u217]) (σ' := (hC s.2.1 s.2.2.1 s.2.2.2.1, hM s.2.2.2.2.1 s.2.2.2.2.2, (L, xs), kz)) rfl ?_
      by_cases c218 : (s.1 + (1 : Int32)) < 0 ∨ L ≤ (s.1 + (1 : Int32)).toNatClampNeg
      · rw [if_pos c218] at hf
        cases hf
      rw [if_neg c218] at hf
      refine mx_WP.ialdx c218 ?_
      show mx_WP (d + 33) 168 616 [some (mx_r (some (2, 63, 0))), some (mx_r (some (0, 0, 0))), some (mx_r (some (1, 11, 0))), some (mx_i s.1)] [mx_i (xs ((s.1 + (1 : Int32)).toNatClampNeg)), mx_r (some (1, 11, 0)), mx_l u217] (hC s.2.1 s.2.2.1 s.2.2.2.1, hM s.2.2.2.2.1 s.2.2.2.2.2, (L, xs), kz) Q
      obtain ⟨u219, e221, hf⟩ := Option.bind_eq_some_iff.mp hf
      refine mx_WP.call (d := d + 32) (y := 159) (as := [mx_r (some (1, 11, 0)), mx_i (xs ((s.1 + (1 : Int32)).toNatClampNeg))]) (pc' := 619) (r := [mx_l u217]) rfl rfl (T159 (d := d + 30)  e221 ?_)
      show mx_WP (d + 33) 168 619 [some (mx_r (some (2, 63, 0))), some (mx_r (some (0, 0, 0))), some (mx_r (some (1, 11, 0))), some (mx_i s.1)] [mx_l u219, mx_l u217] (hC s.2.1 s.2.2.1 s.2.2.2.1, hM s.2.2.2.2.1 s.2.2.2.2.2, (L, xs), kz) Q
      refine mx_WP.go 1 (pc' := 620) (L' := [some (mx_r (some (2, 63, 0))), some (mx_r (some (0, 0, 0))), some (mx_r (some (1, 11, 0))), some (mx_i s.1)]) (st' := [mx_i (lg_cmp u217 u219)]) (σ' := (hC s.2.1 s.2.2.1 s.2.2.2.1, hM s.2.2.2.2.1 s.2.2.2.2.2, (L, xs), kz)) rfl ?_
      by_cases c220 : (lg_cmp u217 u219) = (0 : Int32)
      · rw [if_pos c220] at hf
        refine mx_WP.beq (x := (lg_cmp u217 u219)) (y := (0 : Int32)) (q := 900) (p3 := 623) rfl (fun _ => ?_) (fun hh => absurd c220 hh)
        refine mx_WP.go 2 (pc' := 18) (L' := [some (mx_r (some (2, 63, 0))), some (mx_r (some (0, 0, 0))), some (mx_r (some (1, 11, 0))), some (mx_i (s.1 + 4))]) (st' := []) (σ' := (hC s.2.1 s.2.2.1 s.2.2.2.1, hM s.2.2.2.2.1 s.2.2.2.2.2, (L, xs), kz)) rfl ?_
        rw [← Option.some.inj hf] at hk
        exact hk
      · rw [if_neg c220] at hf
        refine mx_WP.beq (x := (lg_cmp u217 u219)) (y := (0 : Int32)) (q := 900) (p3 := 623) rfl (fun hh => absurd hh c220) (fun _ => ?_)
        refine mx_WP.go 1 (pc' := 624) (L' := [some (mx_r (some (2, 63, 0))), some (mx_r (some (0, 0, 0))), some (mx_r (some (1, 11, 0))), some (mx_i s.1)]) (st' := [mx_i (0 : Int32)]) (σ' := (hC s.2.1 s.2.2.1 s.2.2.2.1, hM s.2.2.2.2.1 s.2.2.2.2.2, (L, xs), kz)) rfl ?_
        rw [← Option.some.inj hf] at hk
        refine mx_WP.ret (v := some (mx_i (0 : Int32))) rfl ?_
        exact hk _ _ _ _ _
    rw [if_neg c215] at hf
    by_cases c223 : ((xs s.1.toNatClampNeg) &&& (31 : Int32)) = (12 : Int32)
    · rw [if_pos c223] at hf
      refine mx_WP.sw (c := (12 : Int32)) (q := 625) c223 (by rfl) ?_
      refine mx_WP.go 5 (pc' := 630) (L' := [some (mx_r (some (2, 63, 0))), some (mx_r (some (0, 0, 0))), some (mx_r (some (1, 11, 0))), some (mx_i s.1)]) (st' := [mx_i (s.1 + (1 : Int32)), mx_r (some (2, 63, 0)), mx_r (some (0, 0, 0))]) (σ' := (hC s.2.1 s.2.2.1 s.2.2.2.1, hM s.2.2.2.2.1 s.2.2.2.2.2, (L, xs), kz)) rfl ?_
      by_cases c224 : (s.1 + (1 : Int32)) < 0 ∨ L ≤ (s.1 + (1 : Int32)).toNatClampNeg
      · rw [if_pos c224] at hf
        cases hf
      rw [if_neg c224] at hf
      refine mx_WP.ialdx c224 ?_
      show mx_WP (d + 33) 168 631 [some (mx_r (some (2, 63, 0))), some (mx_r (some (0, 0, 0))), some (mx_r (some (1, 11, 0))), some (mx_i s.1)] [mx_i (xs ((s.1 + (1 : Int32)).toNatClampNeg)), mx_r (some (0, 0, 0))] (hC s.2.1 s.2.2.1 s.2.2.2.1, hM s.2.2.2.2.1 s.2.2.2.2.2, (L, xs), kz) Q
      refine mx_WP.go 4 (pc' := 635) (L' := [some (mx_r (some (2, 63, 0))), some (mx_r (some (0, 0, 0))), some (mx_r (some (1, 11, 0))), some (mx_i s.1)]) (st' := [mx_i (s.1 + (2 : Int32)), mx_r (some (2, 63, 0)), mx_i (xs ((s.1 + (1 : Int32)).toNatClampNeg)), mx_r (some (0, 0, 0))]) (σ' := (hC s.2.1 s.2.2.1 s.2.2.2.1, hM s.2.2.2.2.1 s.2.2.2.2.2, (L, xs), kz)) rfl ?_
      by_cases c225 : (s.1 + (2 : Int32)) < 0 ∨ L ≤ (s.1 + (2 : Int32)).toNatClampNeg
      · rw [if_pos c225] at hf
        cases hf
      rw [if_neg c225] at hf
      refine mx_WP.ialdx c225 ?_
      show mx_WP (d + 33) 168 636 [some (mx_r (some (2, 63, 0))), some (mx_r (some (0, 0, 0))), some (mx_r (some (1, 11, 0))), some (mx_i s.1)] [mx_i (xs ((s.1 + (2 : Int32)).toNatClampNeg)), mx_i (xs ((s.1 + (1 : Int32)).toNatClampNeg)), mx_r (some (0, 0, 0))] (hC s.2.1 s.2.2.1 s.2.2.2.1, hM s.2.2.2.2.1 s.2.2.2.2.2, (L, xs), kz) Q
      obtain ⟨u226, e232, hf⟩ := Option.bind_eq_some_iff.mp hf
      refine mx_WP.call (d := d + 32) (y := 20) (as := [mx_r (some (0, 0, 0)), mx_i (xs ((s.1 + (1 : Int32)).toNatClampNeg)), mx_i (xs ((s.1 + (2 : Int32)).toNatClampNeg))]) (pc' := 639) (r := []) rfl rfl (T20 (d := d + 29)  e232 ?_)
      show mx_WP (d + 33) 168 639 [some (mx_r (some (2, 63, 0))), some (mx_r (some (0, 0, 0))), some (mx_r (some (1, 11, 0))), some (mx_i s.1)] [mx_i u226] (hC s.2.1 s.2.2.1 s.2.2.2.1, hM s.2.2.2.2.1 s.2.2.2.2.2, (L, xs), kz) Q
      refine mx_WP.go 5 (pc' := 644) (L' := [some (mx_r (some (2, 63, 0))), some (mx_r (some (0, 0, 0))), some (mx_r (some (1, 11, 0))), some (mx_i s.1)]) (st' := [mx_i (s.1 + (1 : Int32)), mx_r (some (2, 63, 0)), mx_r (some (1, 11, 0)), mx_i u226]) (σ' := (hC s.2.1 s.2.2.1 s.2.2.2.1, hM s.2.2.2.2.1 s.2.2.2.2.2, (L, xs), kz)) rfl ?_
      by_cases c227 : (s.1 + (1 : Int32)) < 0 ∨ L ≤ (s.1 + (1 : Int32)).toNatClampNeg
      · rw [if_pos c227] at hf
        cases hf
      rw [if_neg c227] at hf
      refine mx_WP.ialdx c227 ?_
      show mx_WP (d + 33) 168 645 [some (mx_r (some (2, 63, 0))), some (mx_r (some (0, 0, 0))), some (mx_r (some (1, 11, 0))), some (mx_i s.1)] [mx_i (xs ((s.1 + (1 : Int32)).toNatClampNeg)), mx_r (some (1, 11, 0)), mx_i u226] (hC s.2.1 s.2.2.1 s.2.2.2.1, hM s.2.2.2.2.1 s.2.2.2.2.2, (L, xs), kz) Q
      refine mx_WP.go 4 (pc' := 649) (L' := [some (mx_r (some (2, 63, 0))), some (mx_r (some (0, 0, 0))), some (mx_r (some (1, 11, 0))), some (mx_i s.1)]) (st' := [mx_i (s.1 + (2 : Int32)), mx_r (some (2, 63, 0)), mx_i (xs ((s.1 + (1 : Int32)).toNatClampNeg)), mx_r (some (1, 11, 0)), mx_i u226]) (σ' := (hC s.2.1 s.2.2.1 s.2.2.2.1, hM s.2.2.2.2.1 s.2.2.2.2.2, (L, xs), kz)) rfl ?_
      by_cases c228 : (s.1 + (2 : Int32)) < 0 ∨ L ≤ (s.1 + (2 : Int32)).toNatClampNeg
      · rw [if_pos c228] at hf
        cases hf
      rw [if_neg c228] at hf
      refine mx_WP.ialdx c228 ?_
      show mx_WP (d + 33) 168 650 [some (mx_r (some (2, 63, 0))), some (mx_r (some (0, 0, 0))), some (mx_r (some (1, 11, 0))), some (mx_i s.1)] [mx_i (xs ((s.1 + (2 : Int32)).toNatClampNeg)), mx_i (xs ((s.1 + (1 : Int32)).toNatClampNeg)), mx_r (some (1, 11, 0)), mx_i u226] (hC s.2.1 s.2.2.1 s.2.2.2.1, hM s.2.2.2.2.1 s.2.2.2.2.2, (L, xs), kz) Q
      obtain ⟨u229, e231, hf⟩ := Option.bind_eq_some_iff.mp hf
      refine mx_WP.call (d := d + 32) (y := 160) (as := [mx_r (some (1, 11, 0)), mx_i (xs ((s.1 + (1 : Int32)).toNatClampNeg)), mx_i (xs ((s.1 + (2 : Int32)).toNatClampNeg))]) (pc' := 653) (r := [mx_i u226]) rfl rfl (T160 (d := d + 30)  e231 ?_)
      show mx_WP (d + 33) 168 653 [some (mx_r (some (2, 63, 0))), some (mx_r (some (0, 0, 0))), some (mx_r (some (1, 11, 0))), some (mx_i s.1)] [mx_i u229, mx_i u226] (hC s.2.1 s.2.2.1 s.2.2.2.1, hM s.2.2.2.2.1 s.2.2.2.2.2, (L, xs), kz) Q
      by_cases c230 : u226 = u229
      · rw [if_pos c230] at hf
        refine mx_WP.beq (x := u226) (y := u229) (q := 900) (p3 := 656) rfl (fun _ => ?_) (fun hh => absurd c230 hh)
        refine mx_WP.go 2 (pc' := 18) (L' := [some (mx_r (some (2, 63, 0))), some (mx_r (some (0, 0, 0))), some (mx_r (some (1, 11, 0))), some (mx_i (s.1 + 4))]) (st' := []) (σ' := (hC s.2.1 s.2.2.1 s.2.2.2.1, hM s.2.2.2.2.1 s.2.2.2.2.2, (L, xs), kz)) rfl ?_
        rw [← Option.some.inj hf] at hk
        exact hk
      · rw [if_neg c230] at hf
        refine mx_WP.beq (x := u226) (y := u229) (q := 900) (p3 := 656) rfl (fun hh => absurd hh c230) (fun _ => ?_)
        refine mx_WP.go 1 (pc' := 657) (L' := [some (mx_r (some (2, 63, 0))), some (mx_r (some (0, 0, 0))), some (mx_r (some (1, 11, 0))), some (mx_i s.1)]) (st' := [mx_i (0 : Int32)]) (σ' := (hC s.2.1 s.2.2.1 s.2.2.2.1, hM s.2.2.2.2.1 s.2.2.2.2.2, (L, xs), kz)) rfl ?_
        rw [← Option.some.inj hf] at hk
        refine mx_WP.ret (v := some (mx_i (0 : Int32))) rfl ?_
        exact hk _ _ _ _ _
    rw [if_neg c223] at hf
    by_cases c233 : ((xs s.1.toNatClampNeg) &&& (31 : Int32)) = (13 : Int32)
    · rw [if_pos c233] at hf
      refine mx_WP.sw (c := (13 : Int32)) (q := 658) c233 (by rfl) ?_
      refine mx_WP.go 5 (pc' := 663) (L' := [some (mx_r (some (2, 63, 0))), some (mx_r (some (0, 0, 0))), some (mx_r (some (1, 11, 0))), some (mx_i s.1)]) (st' := [mx_i (s.1 + (1 : Int32)), mx_r (some (2, 63, 0)), mx_r (some (0, 0, 0))]) (σ' := (hC s.2.1 s.2.2.1 s.2.2.2.1, hM s.2.2.2.2.1 s.2.2.2.2.2, (L, xs), kz)) rfl ?_
      by_cases c234 : (s.1 + (1 : Int32)) < 0 ∨ L ≤ (s.1 + (1 : Int32)).toNatClampNeg
      · rw [if_pos c234] at hf
        cases hf
      rw [if_neg c234] at hf
      refine mx_WP.ialdx c234 ?_
      show mx_WP (d + 33) 168 664 [some (mx_r (some (2, 63, 0))), some (mx_r (some (0, 0, 0))), some (mx_r (some (1, 11, 0))), some (mx_i s.1)] [mx_i (xs ((s.1 + (1 : Int32)).toNatClampNeg)), mx_r (some (0, 0, 0))] (hC s.2.1 s.2.2.1 s.2.2.2.1, hM s.2.2.2.2.1 s.2.2.2.2.2, (L, xs), kz) Q
      refine mx_WP.go 4 (pc' := 668) (L' := [some (mx_r (some (2, 63, 0))), some (mx_r (some (0, 0, 0))), some (mx_r (some (1, 11, 0))), some (mx_i s.1)]) (st' := [mx_i (s.1 + (2 : Int32)), mx_r (some (2, 63, 0)), mx_i (xs ((s.1 + (1 : Int32)).toNatClampNeg)), mx_r (some (0, 0, 0))]) (σ' := (hC s.2.1 s.2.2.1 s.2.2.2.1, hM s.2.2.2.2.1 s.2.2.2.2.2, (L, xs), kz)) rfl ?_
      by_cases c235 : (s.1 + (2 : Int32)) < 0 ∨ L ≤ (s.1 + (2 : Int32)).toNatClampNeg
      · rw [if_pos c235] at hf
        cases hf
      rw [if_neg c235] at hf
      refine mx_WP.ialdx c235 ?_
      show mx_WP (d + 33) 168 669 [some (mx_r (some (2, 63, 0))), some (mx_r (some (0, 0, 0))), some (mx_r (some (1, 11, 0))), some (mx_i s.1)] [mx_i (xs ((s.1 + (2 : Int32)).toNatClampNeg)), mx_i (xs ((s.1 + (1 : Int32)).toNatClampNeg)), mx_r (some (0, 0, 0))] (hC s.2.1 s.2.2.1 s.2.2.2.1, hM s.2.2.2.2.1 s.2.2.2.2.2, (L, xs), kz) Q
      refine mx_WP.go 7 (pc' := 677) (L' := [some (mx_r (some (2, 63, 0))), some (mx_r (some (0, 0, 0))), some (mx_r (some (1, 11, 0))), some (mx_i s.1)]) (st' := [mx_i (s.1 + (3 : Int32)), mx_r (some (2, 63, 0)), mx_l (((xs ((s.1 + (2 : Int32)).toNatClampNeg)).toInt64) <<< ((32 : Int32).toInt64 &&& 63)), mx_i (xs ((s.1 + (1 : Int32)).toNatClampNeg)), mx_r (some (0, 0, 0))]) (σ' := (hC s.2.1 s.2.2.1 s.2.2.2.1, hM s.2.2.2.2.1 s.2.2.2.2.2, (L, xs), kz)) rfl ?_
      by_cases c236 : (s.1 + (3 : Int32)) < 0 ∨ L ≤ (s.1 + (3 : Int32)).toNatClampNeg
      · rw [if_pos c236] at hf
        cases hf
      rw [if_neg c236] at hf
      refine mx_WP.ialdx c236 ?_
      show mx_WP (d + 33) 168 678 [some (mx_r (some (2, 63, 0))), some (mx_r (some (0, 0, 0))), some (mx_r (some (1, 11, 0))), some (mx_i s.1)] [mx_i (xs ((s.1 + (3 : Int32)).toNatClampNeg)), mx_l (((xs ((s.1 + (2 : Int32)).toNatClampNeg)).toInt64) <<< ((32 : Int32).toInt64 &&& 63)), mx_i (xs ((s.1 + (1 : Int32)).toNatClampNeg)), mx_r (some (0, 0, 0))] (hC s.2.1 s.2.2.1 s.2.2.2.1, hM s.2.2.2.2.1 s.2.2.2.2.2, (L, xs), kz) Q
      refine mx_WP.go 4 (pc' := 684) (L' := [some (mx_r (some (2, 63, 0))), some (mx_r (some (0, 0, 0))), some (mx_r (some (1, 11, 0))), some (mx_i s.1)]) (st' := [mx_l ((((xs ((s.1 + (2 : Int32)).toNatClampNeg)).toInt64) <<< ((32 : Int32).toInt64 &&& 63)) ||| (((xs ((s.1 + (3 : Int32)).toNatClampNeg)).toInt64) &&& (4294967295 : Int64))), mx_i (xs ((s.1 + (1 : Int32)).toNatClampNeg)), mx_r (some (0, 0, 0))]) (σ' := (hC s.2.1 s.2.2.1 s.2.2.2.1, hM s.2.2.2.2.1 s.2.2.2.2.2, (L, xs), kz)) rfl ?_
      obtain ⟨u237, e244, hf⟩ := Option.bind_eq_some_iff.mp hf
      refine mx_WP.call (d := d + 32) (y := 21) (as := [mx_r (some (0, 0, 0)), mx_i (xs ((s.1 + (1 : Int32)).toNatClampNeg)), mx_l ((((xs ((s.1 + (2 : Int32)).toNatClampNeg)).toInt64) <<< ((32 : Int32).toInt64 &&& 63)) ||| (((xs ((s.1 + (3 : Int32)).toNatClampNeg)).toInt64) &&& (4294967295 : Int64)))]) (pc' := 687) (r := []) rfl rfl (T21 (d := d + 30)  e244 ?_)
      show mx_WP (d + 33) 168 687 [some (mx_r (some (2, 63, 0))), some (mx_r (some (0, 0, 0))), some (mx_r (some (1, 11, 0))), some (mx_i s.1)] [mx_l u237] (hC s.2.1 s.2.2.1 s.2.2.2.1, hM s.2.2.2.2.1 s.2.2.2.2.2, (L, xs), kz) Q
      refine mx_WP.go 5 (pc' := 692) (L' := [some (mx_r (some (2, 63, 0))), some (mx_r (some (0, 0, 0))), some (mx_r (some (1, 11, 0))), some (mx_i s.1)]) (st' := [mx_i (s.1 + (1 : Int32)), mx_r (some (2, 63, 0)), mx_r (some (1, 11, 0)), mx_l u237]) (σ' := (hC s.2.1 s.2.2.1 s.2.2.2.1, hM s.2.2.2.2.1 s.2.2.2.2.2, (L, xs), kz)) rfl ?_
      by_cases c238 : (s.1 + (1 : Int32)) < 0 ∨ L ≤ (s.1 + (1 : Int32)).toNatClampNeg
      · rw [if_pos c238] at hf
        cases hf
      rw [if_neg c238] at hf
      refine mx_WP.ialdx c238 ?_
      show mx_WP (d + 33) 168 693 [some (mx_r (some (2, 63, 0))), some (mx_r (some (0, 0, 0))), some (mx_r (some (1, 11, 0))), some (mx_i s.1)] [mx_i (xs ((s.1 + (1 : Int32)).toNatClampNeg)), mx_r (some (1, 11, 0)), mx_l u237] (hC s.2.1 s.2.2.1 s.2.2.2.1, hM s.2.2.2.2.1 s.2.2.2.2.2, (L, xs), kz) Q
      refine mx_WP.go 4 (pc' := 697) (L' := [some (mx_r (some (2, 63, 0))), some (mx_r (some (0, 0, 0))), some (mx_r (some (1, 11, 0))), some (mx_i s.1)]) (st' := [mx_i (s.1 + (2 : Int32)), mx_r (some (2, 63, 0)), mx_i (xs ((s.1 + (1 : Int32)).toNatClampNeg)), mx_r (some (1, 11, 0)), mx_l u237]) (σ' := (hC s.2.1 s.2.2.1 s.2.2.2.1, hM s.2.2.2.2.1 s.2.2.2.2.2, (L, xs), kz)) rfl ?_
      by_cases c239 : (s.1 + (2 : Int32)) < 0 ∨ L ≤ (s.1 + (2 : Int32)).toNatClampNeg
      · rw [if_pos c239] at hf
        cases hf
      rw [if_neg c239] at hf
      refine mx_WP.ialdx c239 ?_
      show mx_WP (d + 33) 168 698 [some (mx_r (some (2, 63, 0))), some (mx_r (some (0, 0, 0))), some (mx_r (some (1, 11, 0))), some (mx_i s.1)] [mx_i (xs ((s.1 + (2 : Int32)).toNatClampNeg)), mx_i (xs ((s.1 + (1 : Int32)).toNatClampNeg)), mx_r (some (1, 11, 0)), mx_l u237] (hC s.2.1 s.2.2.1 s.2.2.2.1, hM s.2.2.2.2.1 s.2.2.2.2.2, (L, xs), kz) Q
      refine mx_WP.go 7 (pc' := 706) (L' := [some (mx_r (some (2, 63, 0))), some (mx_r (some (0, 0, 0))), some (mx_r (some (1, 11, 0))), some (mx_i s.1)]) (st' := [mx_i (s.1 + (3 : Int32)), mx_r (some (2, 63, 0)), mx_l (((xs ((s.1 + (2 : Int32)).toNatClampNeg)).toInt64) <<< ((32 : Int32).toInt64 &&& 63)), mx_i (xs ((s.1 + (1 : Int32)).toNatClampNeg)), mx_r (some (1, 11, 0)), mx_l u237]) (σ' := (hC s.2.1 s.2.2.1 s.2.2.2.1, hM s.2.2.2.2.1 s.2.2.2.2.2, (L, xs), kz)) rfl ?_
      by_cases c240 : (s.1 + (3 : Int32)) < 0 ∨ L ≤ (s.1 + (3 : Int32)).toNatClampNeg
      · rw [if_pos c240] at hf
        cases hf
      rw [if_neg c240] at hf
      refine mx_WP.ialdx c240 ?_
      show mx_WP (d + 33) 168 707 [some (mx_r (some (2, 63, 0))), some (mx_r (some (0, 0, 0))), some (mx_r (some (1, 11, 0))), some (mx_i s.1)] [mx_i (xs ((s.1 + (3 : Int32)).toNatClampNeg)), mx_l (((xs ((s.1 + (2 : Int32)).toNatClampNeg)).toInt64) <<< ((32 : Int32).toInt64 &&& 63)), mx_i (xs ((s.1 + (1 : Int32)).toNatClampNeg)), mx_r (some (1, 11, 0)), mx_l u237] (hC s.2.1 s.2.2.1 s.2.2.2.1, hM s.2.2.2.2.1 s.2.2.2.2.2, (L, xs), kz) Q
      refine mx_WP.go 4 (pc' := 713) (L' := [some (mx_r (some (2, 63, 0))), some (mx_r (some (0, 0, 0))), some (mx_r (some (1, 11, 0))), some (mx_i s.1)]) (st' := [mx_l ((((xs ((s.1 + (2 : Int32)).toNatClampNeg)).toInt64) <<< ((32 : Int32).toInt64 &&& 63)) ||| (((xs ((s.1 + (3 : Int32)).toNatClampNeg)).toInt64) &&& (4294967295 : Int64))), mx_i (xs ((s.1 + (1 : Int32)).toNatClampNeg)), mx_r (some (1, 11, 0)), mx_l u237]) (σ' := (hC s.2.1 s.2.2.1 s.2.2.2.1, hM s.2.2.2.2.1 s.2.2.2.2.2, (L, xs), kz)) rfl ?_
      obtain ⟨u241, e243, hf⟩ := Option.bind_eq_some_iff.mp hf
      refine mx_WP.call (d := d + 32) (y := 161) (as := [mx_r (some (1, 11, 0)), mx_i (xs ((s.1 + (1 : Int32)).toNatClampNeg)), mx_l ((((xs ((s.1 + (2 : Int32)).toNatClampNeg)).toInt64) <<< ((32 : Int32).toInt64 &&& 63)) ||| (((xs ((s.1 + (3 : Int32)).toNatClampNeg)).toInt64) &&& (4294967295 : Int64)))]) (pc' := 716) (r := [mx_l u237]) rfl rfl (T161 (d := d + 30)  e243 ?_)
      show mx_WP (d + 33) 168 716 [some (mx_r (some (2, 63, 0))), some (mx_r (some (0, 0, 0))), some (mx_r (some (1, 11, 0))), some (mx_i s.1)] [mx_l u241, mx_l u237] (hC s.2.1 s.2.2.1 s.2.2.2.1, hM s.2.2.2.2.1 s.2.2.2.2.2, (L, xs), kz) Q
      refine mx_WP.go 1 (pc' := 717) (L' := [some (mx_r (some (2, 63, 0))), some (mx_r (some (0, 0, 0))), some (mx_r (some (1, 11, 0))), some (mx_i s.1)]) (st' := [mx_i (lg_cmp u237 u241)]) (σ' := (hC s.2.1 s.2.2.1 s.2.2.2.1, hM s.2.2.2.2.1 s.2.2.2.2.2, (L, xs), kz)) rfl ?_
      by_cases c242 : (lg_cmp u237 u241) = (0 : Int32)
      · rw [if_pos c242] at hf
        refine mx_WP.beq (x := (lg_cmp u237 u241)) (y := (0 : Int32)) (q := 900) (p3 := 720) rfl (fun _ => ?_) (fun hh => absurd c242 hh)
        refine mx_WP.go 2 (pc' := 18) (L' := [some (mx_r (some (2, 63, 0))), some (mx_r (some (0, 0, 0))), some (mx_r (some (1, 11, 0))), some (mx_i (s.1 + 4))]) (st' := []) (σ' := (hC s.2.1 s.2.2.1 s.2.2.2.1, hM s.2.2.2.2.1 s.2.2.2.2.2, (L, xs), kz)) rfl ?_
        rw [← Option.some.inj hf] at hk
        exact hk
      · rw [if_neg c242] at hf
        refine mx_WP.beq (x := (lg_cmp u237 u241)) (y := (0 : Int32)) (q := 900) (p3 := 720) rfl (fun hh => absurd hh c242) (fun _ => ?_)
        refine mx_WP.go 1 (pc' := 721) (L' := [some (mx_r (some (2, 63, 0))), some (mx_r (some (0, 0, 0))), some (mx_r (some (1, 11, 0))), some (mx_i s.1)]) (st' := [mx_i (0 : Int32)]) (σ' := (hC s.2.1 s.2.2.1 s.2.2.2.1, hM s.2.2.2.2.1 s.2.2.2.2.2, (L, xs), kz)) rfl ?_
        rw [← Option.some.inj hf] at hk
        refine mx_WP.ret (v := some (mx_i (0 : Int32))) rfl ?_
        exact hk _ _ _ _ _
    rw [if_neg c233] at hf
    by_cases c245 : ((xs s.1.toNatClampNeg) &&& (31 : Int32)) = (14 : Int32)
    · rw [if_pos c245] at hf
      refine mx_WP.sw (c := (14 : Int32)) (q := 722) c245 (by rfl) ?_
      refine mx_WP.go 5 (pc' := 727) (L' := [some (mx_r (some (2, 63, 0))), some (mx_r (some (0, 0, 0))), some (mx_r (some (1, 11, 0))), some (mx_i s.1)]) (st' := [mx_i (s.1 + (1 : Int32)), mx_r (some (2, 63, 0)), mx_r (some (0, 0, 0))]) (σ' := (hC s.2.1 s.2.2.1 s.2.2.2.1, hM s.2.2.2.2.1 s.2.2.2.2.2, (L, xs), kz)) rfl ?_
      by_cases c246 : (s.1 + (1 : Int32)) < 0 ∨ L ≤ (s.1 + (1 : Int32)).toNatClampNeg
      · rw [if_pos c246] at hf
        cases hf
      rw [if_neg c246] at hf
      refine mx_WP.ialdx c246 ?_
      show mx_WP (d + 33) 168 728 [some (mx_r (some (2, 63, 0))), some (mx_r (some (0, 0, 0))), some (mx_r (some (1, 11, 0))), some (mx_i s.1)] [mx_i (xs ((s.1 + (1 : Int32)).toNatClampNeg)), mx_r (some (0, 0, 0))] (hC s.2.1 s.2.2.1 s.2.2.2.1, hM s.2.2.2.2.1 s.2.2.2.2.2, (L, xs), kz) Q
      refine mx_WP.go 4 (pc' := 732) (L' := [some (mx_r (some (2, 63, 0))), some (mx_r (some (0, 0, 0))), some (mx_r (some (1, 11, 0))), some (mx_i s.1)]) (st' := [mx_i (s.1 + (2 : Int32)), mx_r (some (2, 63, 0)), mx_i (xs ((s.1 + (1 : Int32)).toNatClampNeg)), mx_r (some (0, 0, 0))]) (σ' := (hC s.2.1 s.2.2.1 s.2.2.2.1, hM s.2.2.2.2.1 s.2.2.2.2.2, (L, xs), kz)) rfl ?_
      by_cases c247 : (s.1 + (2 : Int32)) < 0 ∨ L ≤ (s.1 + (2 : Int32)).toNatClampNeg
      · rw [if_pos c247] at hf
        cases hf
      rw [if_neg c247] at hf
      refine mx_WP.ialdx c247 ?_
      show mx_WP (d + 33) 168 733 [some (mx_r (some (2, 63, 0))), some (mx_r (some (0, 0, 0))), some (mx_r (some (1, 11, 0))), some (mx_i s.1)] [mx_i (xs ((s.1 + (2 : Int32)).toNatClampNeg)), mx_i (xs ((s.1 + (1 : Int32)).toNatClampNeg)), mx_r (some (0, 0, 0))] (hC s.2.1 s.2.2.1 s.2.2.2.1, hM s.2.2.2.2.1 s.2.2.2.2.2, (L, xs), kz) Q
      refine mx_WP.go 7 (pc' := 741) (L' := [some (mx_r (some (2, 63, 0))), some (mx_r (some (0, 0, 0))), some (mx_r (some (1, 11, 0))), some (mx_i s.1)]) (st' := [mx_i (s.1 + (3 : Int32)), mx_r (some (2, 63, 0)), mx_l (((xs ((s.1 + (2 : Int32)).toNatClampNeg)).toInt64) <<< ((32 : Int32).toInt64 &&& 63)), mx_i (xs ((s.1 + (1 : Int32)).toNatClampNeg)), mx_r (some (0, 0, 0))]) (σ' := (hC s.2.1 s.2.2.1 s.2.2.2.1, hM s.2.2.2.2.1 s.2.2.2.2.2, (L, xs), kz)) rfl ?_
      by_cases c248 : (s.1 + (3 : Int32)) < 0 ∨ L ≤ (s.1 + (3 : Int32)).toNatClampNeg
      · rw [if_pos c248] at hf
        cases hf
      rw [if_neg c248] at hf
      refine mx_WP.ialdx c248 ?_
      show mx_WP (d + 33) 168 742 [some (mx_r (some (2, 63, 0))), some (mx_r (some (0, 0, 0))), some (mx_r (some (1, 11, 0))), some (mx_i s.1)] [mx_i (xs ((s.1 + (3 : Int32)).toNatClampNeg)), mx_l (((xs ((s.1 + (2 : Int32)).toNatClampNeg)).toInt64) <<< ((32 : Int32).toInt64 &&& 63)), mx_i (xs ((s.1 + (1 : Int32)).toNatClampNeg)), mx_r (some (0, 0, 0))] (hC s.2.1 s.2.2.1 s.2.2.2.1, hM s.2.2.2.2.1 s.2.2.2.2.2, (L, xs), kz) Q
      refine mx_WP.go 4 (pc' := 748) (L' := [some (mx_r (some (2, 63, 0))), some (mx_r (some (0, 0, 0))), some (mx_r (some (1, 11, 0))), some (mx_i s.1)]) (st' := [mx_l ((((xs ((s.1 + (2 : Int32)).toNatClampNeg)).toInt64) <<< ((32 : Int32).toInt64 &&& 63)) ||| (((xs ((s.1 + (3 : Int32)).toNatClampNeg)).toInt64) &&& (4294967295 : Int64))), mx_i (xs ((s.1 + (1 : Int32)).toNatClampNeg)), mx_r (some (0, 0, 0))]) (σ' := (hC s.2.1 s.2.2.1 s.2.2.2.1, hM s.2.2.2.2.1 s.2.2.2.2.2, (L, xs), kz)) rfl ?_
      obtain ⟨u249, e256, hf⟩ := Option.bind_eq_some_iff.mp hf
      refine mx_WP.call (d := d + 32) (y := 22) (as := [mx_r (some (0, 0, 0)), mx_i (xs ((s.1 + (1 : Int32)).toNatClampNeg)), mx_l ((((xs ((s.1 + (2 : Int32)).toNatClampNeg)).toInt64) <<< ((32 : Int32).toInt64 &&& 63)) ||| (((xs ((s.1 + (3 : Int32)).toNatClampNeg)).toInt64) &&& (4294967295 : Int64)))]) (pc' := 751) (r := []) rfl rfl (T22 (d := d + 1)  e256 ?_)
      show mx_WP (d + 33) 168 751 [some (mx_r (some (2, 63, 0))), some (mx_r (some (0, 0, 0))), some (mx_r (some (1, 11, 0))), some (mx_i s.1)] [mx_i u249.1] (hC u249.2 s.2.2.1 s.2.2.2.1, hM s.2.2.2.2.1 s.2.2.2.2.2, (L, xs), kz) Q
      refine mx_WP.go 5 (pc' := 756) (L' := [some (mx_r (some (2, 63, 0))), some (mx_r (some (0, 0, 0))), some (mx_r (some (1, 11, 0))), some (mx_i s.1)]) (st' := [mx_i (s.1 + (1 : Int32)), mx_r (some (2, 63, 0)), mx_r (some (1, 11, 0)), mx_i u249.1]) (σ' := (hC u249.2 s.2.2.1 s.2.2.2.1, hM s.2.2.2.2.1 s.2.2.2.2.2, (L, xs), kz)) rfl ?_
      by_cases c250 : (s.1 + (1 : Int32)) < 0 ∨ L ≤ (s.1 + (1 : Int32)).toNatClampNeg
      · rw [if_pos c250] at hf
        cases hf
      rw [if_neg c250] at hf
      refine mx_WP.ialdx c250 ?_
      show mx_WP (d + 33) 168 757 [some (mx_r (some (2, 63, 0))), some (mx_r (some (0, 0, 0))), some (mx_r (some (1, 11, 0))), some (mx_i s.1)] [mx_i (xs ((s.1 + (1 : Int32)).toNatClampNeg)), mx_r (some (1, 11, 0)), mx_i u249.1] (hC u249.2 s.2.2.1 s.2.2.2.1, hM s.2.2.2.2.1 s.2.2.2.2.2, (L, xs), kz) Q
      refine mx_WP.go 4 (pc' := 761) (L' := [some (mx_r (some (2, 63, 0))), some (mx_r (some (0, 0, 0))), some (mx_r (some (1, 11, 0))), some (mx_i s.1)]) (st' := [mx_i (s.1 + (2 : Int32)), mx_r (some (2, 63, 0)), mx_i (xs ((s.1 + (1 : Int32)).toNatClampNeg)), mx_r (some (1, 11, 0)), mx_i u249.1]) (σ' := (hC u249.2 s.2.2.1 s.2.2.2.1, hM s.2.2.2.2.1 s.2.2.2.2.2, (L, xs), kz)) rfl ?_
      by_cases c251 : (s.1 + (2 : Int32)) < 0 ∨ L ≤ (s.1 + (2 : Int32)).toNatClampNeg
      · rw [if_pos c251] at hf
        cases hf
      rw [if_neg c251] at hf
      refine mx_WP.ialdx c251 ?_
      show mx_WP (d + 33) 168 762 [some (mx_r (some (2, 63, 0))), some (mx_r (some (0, 0, 0))), some (mx_r (some (1, 11, 0))), some (mx_i s.1)] [mx_i (xs ((s.1 + (2 : Int32)).toNatClampNeg)), mx_i (xs ((s.1 + (1 : Int32)).toNatClampNeg)), mx_r (some (1, 11, 0)), mx_i u249.1] (hC u249.2 s.2.2.1 s.2.2.2.1, hM s.2.2.2.2.1 s.2.2.2.2.2, (L, xs), kz) Q
      refine mx_WP.go 7 (pc' := 770) (L' := [some (mx_r (some (2, 63, 0))), some (mx_r (some (0, 0, 0))), some (mx_r (some (1, 11, 0))), some (mx_i s.1)]) (st' := [mx_i (s.1 + (3 : Int32)), mx_r (some (2, 63, 0)), mx_l (((xs ((s.1 + (2 : Int32)).toNatClampNeg)).toInt64) <<< ((32 : Int32).toInt64 &&& 63)), mx_i (xs ((s.1 + (1 : Int32)).toNatClampNeg)), mx_r (some (1, 11, 0)), mx_i u249.1]) (σ' := (hC u249.2 s.2.2.1 s.2.2.2.1, hM s.2.2.2.2.1 s.2.2.2.2.2, (L, xs), kz)) rfl ?_
      by_cases c252 : (s.1 + (3 : Int32)) < 0 ∨ L ≤ (s.1 + (3 : Int32)).toNatClampNeg
      · rw [if_pos c252] at hf
        cases hf
      rw [if_neg c252] at hf
      refine mx_WP.ialdx c252 ?_
      show mx_WP (d + 33) 168 771 [some (mx_r (some (2, 63, 0))), some (mx_r (some (0, 0, 0))), some (mx_r (some (1, 11, 0))), some (mx_i s.1)] [mx_i (xs ((s.1 + (3 : Int32)).toNatClampNeg)), mx_l (((xs ((s.1 + (2 : Int32)).toNatClampNeg)).toInt64) <<< ((32 : Int32).toInt64 &&& 63)), mx_i (xs ((s.1 + (1 : Int32)).toNatClampNeg)), mx_r (some (1, 11, 0)), mx_i u249.1] (hC u249.2 s.2.2.1 s.2.2.2.1, hM s.2.2.2.2.1 s.2.2.2.2.2, (L, xs), kz) Q
      refine mx_WP.go 4 (pc' := 777) (L' := [some (mx_r (some (2, 63, 0))), some (mx_r (some (0, 0, 0))), some (mx_r (some (1, 11, 0))), some (mx_i s.1)]) (st' := [mx_l ((((xs ((s.1 + (2 : Int32)).toNatClampNeg)).toInt64) <<< ((32 : Int32).toInt64 &&& 63)) ||| (((xs ((s.1 + (3 : Int32)).toNatClampNeg)).toInt64) &&& (4294967295 : Int64))), mx_i (xs ((s.1 + (1 : Int32)).toNatClampNeg)), mx_r (some (1, 11, 0)), mx_i u249.1]) (σ' := (hC u249.2 s.2.2.1 s.2.2.2.1, hM s.2.2.2.2.1 s.2.2.2.2.2, (L, xs), kz)) rfl ?_
      obtain ⟨u253, e255, hf⟩ := Option.bind_eq_some_iff.mp hf
      refine mx_WP.call (d := d + 32) (y := 150) (as := [mx_r (some (1, 11, 0)), mx_i (xs ((s.1 + (1 : Int32)).toNatClampNeg)), mx_l ((((xs ((s.1 + (2 : Int32)).toNatClampNeg)).toInt64) <<< ((32 : Int32).toInt64 &&& 63)) ||| (((xs ((s.1 + (3 : Int32)).toNatClampNeg)).toInt64) &&& (4294967295 : Int64)))]) (pc' := 780) (r := [mx_i u249.1]) rfl rfl (T150 (d := d + 30)  e255 ?_)
      show mx_WP (d + 33) 168 780 [some (mx_r (some (2, 63, 0))), some (mx_r (some (0, 0, 0))), some (mx_r (some (1, 11, 0))), some (mx_i s.1)] [mx_i u253.1, mx_i u249.1] (hC u249.2 s.2.2.1 s.2.2.2.1, hM u253.2 s.2.2.2.2.2, (L, xs), kz) Q
      by_cases c254 : u249.1 = u253.1
      · rw [if_pos c254] at hf
        refine mx_WP.beq (x := u249.1) (y := u253.1) (q := 900) (p3 := 783) rfl (fun _ => ?_) (fun hh => absurd c254 hh)
        refine mx_WP.go 2 (pc' := 18) (L' := [some (mx_r (some (2, 63, 0))), some (mx_r (some (0, 0, 0))), some (mx_r (some (1, 11, 0))), some (mx_i (s.1 + 4))]) (st' := []) (σ' := (hC u249.2 s.2.2.1 s.2.2.2.1, hM u253.2 s.2.2.2.2.2, (L, xs), kz)) rfl ?_
        rw [← Option.some.inj hf] at hk
        exact hk
      · rw [if_neg c254] at hf
        refine mx_WP.beq (x := u249.1) (y := u253.1) (q := 900) (p3 := 783) rfl (fun hh => absurd hh c254) (fun _ => ?_)
        refine mx_WP.go 1 (pc' := 784) (L' := [some (mx_r (some (2, 63, 0))), some (mx_r (some (0, 0, 0))), some (mx_r (some (1, 11, 0))), some (mx_i s.1)]) (st' := [mx_i (0 : Int32)]) (σ' := (hC u249.2 s.2.2.1 s.2.2.2.1, hM u253.2 s.2.2.2.2.2, (L, xs), kz)) rfl ?_
        rw [← Option.some.inj hf] at hk
        refine mx_WP.ret (v := some (mx_i (0 : Int32))) rfl ?_
        exact hk _ _ _ _ _
    rw [if_neg c245] at hf
    by_cases c257 : ((xs s.1.toNatClampNeg) &&& (31 : Int32)) = (15 : Int32)
    · rw [if_pos c257] at hf
      refine mx_WP.sw (c := (15 : Int32)) (q := 785) c257 (by rfl) ?_
      refine mx_WP.go 5 (pc' := 790) (L' := [some (mx_r (some (2, 63, 0))), some (mx_r (some (0, 0, 0))), some (mx_r (some (1, 11, 0))), some (mx_i s.1)]) (st' := [mx_i (s.1 + (1 : Int32)), mx_r (some (2, 63, 0)), mx_r (some (0, 0, 0))]) (σ' := (hC s.2.1 s.2.2.1 s.2.2.2.1, hM s.2.2.2.2.1 s.2.2.2.2.2, (L, xs), kz)) rfl ?_
      by_cases c258 : (s.1 + (1 : Int32)) < 0 ∨ L ≤ (s.1 + (1 : Int32)).toNatClampNeg
      · rw [if_pos c258] at hf
        cases hf
      rw [if_neg c258] at hf
      refine mx_WP.ialdx c258 ?_
      show mx_WP (d + 33) 168 791 [some (mx_r (some (2, 63, 0))), some (mx_r (some (0, 0, 0))), some (mx_r (some (1, 11, 0))), some (mx_i s.1)] [mx_i (xs ((s.1 + (1 : Int32)).toNatClampNeg)), mx_r (some (0, 0, 0))] (hC s.2.1 s.2.2.1 s.2.2.2.1, hM s.2.2.2.2.1 s.2.2.2.2.2, (L, xs), kz) Q
      refine mx_WP.go 4 (pc' := 795) (L' := [some (mx_r (some (2, 63, 0))), some (mx_r (some (0, 0, 0))), some (mx_r (some (1, 11, 0))), some (mx_i s.1)]) (st' := [mx_i (s.1 + (2 : Int32)), mx_r (some (2, 63, 0)), mx_i (xs ((s.1 + (1 : Int32)).toNatClampNeg)), mx_r (some (0, 0, 0))]) (σ' := (hC s.2.1 s.2.2.1 s.2.2.2.1, hM s.2.2.2.2.1 s.2.2.2.2.2, (L, xs), kz)) rfl ?_
      by_cases c259 : (s.1 + (2 : Int32)) < 0 ∨ L ≤ (s.1 + (2 : Int32)).toNatClampNeg
      · rw [if_pos c259] at hf
        cases hf
      rw [if_neg c259] at hf
      refine mx_WP.ialdx c259 ?_
      show mx_WP (d + 33) 168 796 [some (mx_r (some (2, 63, 0))), some (mx_r (some (0, 0, 0))), some (mx_r (some (1, 11, 0))), some (mx_i s.1)] [mx_i (xs ((s.1 + (2 : Int32)).toNatClampNeg)), mx_i (xs ((s.1 + (1 : Int32)).toNatClampNeg)), mx_r (some (0, 0, 0))] (hC s.2.1 s.2.2.1 s.2.2.2.1, hM s.2.2.2.2.1 s.2.2.2.2.2, (L, xs), kz) Q
      obtain ⟨u260, e266, hf⟩ := Option.bind_eq_some_iff.mp hf
      refine mx_WP.call (d := d + 32) (y := 23) (as := [mx_r (some (0, 0, 0)), mx_i (xs ((s.1 + (1 : Int32)).toNatClampNeg)), mx_i (xs ((s.1 + (2 : Int32)).toNatClampNeg))]) (pc' := 799) (r := []) rfl rfl (T23 (d := d + 32)  e266 ?_)
      show mx_WP (d + 33) 168 799 [some (mx_r (some (2, 63, 0))), some (mx_r (some (0, 0, 0))), some (mx_r (some (1, 11, 0))), some (mx_i s.1)] [mx_i u260] (hC s.2.1 s.2.2.1 s.2.2.2.1, hM s.2.2.2.2.1 s.2.2.2.2.2, (L, xs), kz) Q
      refine mx_WP.go 5 (pc' := 804) (L' := [some (mx_r (some (2, 63, 0))), some (mx_r (some (0, 0, 0))), some (mx_r (some (1, 11, 0))), some (mx_i s.1)]) (st' := [mx_i (s.1 + (1 : Int32)), mx_r (some (2, 63, 0)), mx_r (some (1, 11, 0)), mx_i u260]) (σ' := (hC s.2.1 s.2.2.1 s.2.2.2.1, hM s.2.2.2.2.1 s.2.2.2.2.2, (L, xs), kz)) rfl ?_
      by_cases c261 : (s.1 + (1 : Int32)) < 0 ∨ L ≤ (s.1 + (1 : Int32)).toNatClampNeg
      · rw [if_pos c261] at hf
        cases hf
      rw [if_neg c261] at hf
      refine mx_WP.ialdx c261 ?_
      show mx_WP (d + 33) 168 805 [some (mx_r (some (2, 63, 0))), some (mx_r (some (0, 0, 0))), some (mx_r (some (1, 11, 0))), some (mx_i s.1)] [mx_i (xs ((s.1 + (1 : Int32)).toNatClampNeg)), mx_r (some (1, 11, 0)), mx_i u260] (hC s.2.1 s.2.2.1 s.2.2.2.1, hM s.2.2.2.2.1 s.2.2.2.2.2, (L, xs), kz) Q
      refine mx_WP.go 4 (pc' := 809) (L' := [some (mx_r (some (2, 63, 0))), some (mx_r (some (0, 0, 0))), some (mx_r (some (1, 11, 0))), some (mx_i s.1)]) (st' := [mx_i (s.1 + (2 : Int32)), mx_r (some (2, 63, 0)), mx_i (xs ((s.1 + (1 : Int32)).toNatClampNeg)), mx_r (some (1, 11, 0)), mx_i u260]) (σ' := (hC s.2.1 s.2.2.1 s.2.2.2.1, hM s.2.2.2.2.1 s.2.2.2.2.2, (L, xs), kz)) rfl ?_
      by_cases c262 : (s.1 + (2 : Int32)) < 0 ∨ L ≤ (s.1 + (2 : Int32)).toNatClampNeg
      · rw [if_pos c262] at hf
        cases hf
      rw [if_neg c262] at hf
      refine mx_WP.ialdx c262 ?_
      show mx_WP (d + 33) 168 810 [some (mx_r (some (2, 63, 0))), some (mx_r (some (0, 0, 0))), some (mx_r (some (1, 11, 0))), some (mx_i s.1)] [mx_i (xs ((s.1 + (2 : Int32)).toNatClampNeg)), mx_i (xs ((s.1 + (1 : Int32)).toNatClampNeg)), mx_r (some (1, 11, 0)), mx_i u260] (hC s.2.1 s.2.2.1 s.2.2.2.1, hM s.2.2.2.2.1 s.2.2.2.2.2, (L, xs), kz) Q
      obtain ⟨u263, e265, hf⟩ := Option.bind_eq_some_iff.mp hf
      refine mx_WP.call (d := d + 32) (y := 162) (as := [mx_r (some (1, 11, 0)), mx_i (xs ((s.1 + (1 : Int32)).toNatClampNeg)), mx_i (xs ((s.1 + (2 : Int32)).toNatClampNeg))]) (pc' := 813) (r := [mx_i u260]) rfl rfl (T162 (d := d + 31)  e265 ?_)
      show mx_WP (d + 33) 168 813 [some (mx_r (some (2, 63, 0))), some (mx_r (some (0, 0, 0))), some (mx_r (some (1, 11, 0))), some (mx_i s.1)] [mx_i u263, mx_i u260] (hC s.2.1 s.2.2.1 s.2.2.2.1, hM s.2.2.2.2.1 s.2.2.2.2.2, (L, xs), kz) Q
      by_cases c264 : u260 = u263
      · rw [if_pos c264] at hf
        refine mx_WP.beq (x := u260) (y := u263) (q := 900) (p3 := 816) rfl (fun _ => ?_) (fun hh => absurd c264 hh)
        refine mx_WP.go 2 (pc' := 18) (L' := [some (mx_r (some (2, 63, 0))), some (mx_r (some (0, 0, 0))), some (mx_r (some (1, 11, 0))), some (mx_i (s.1 + 4))]) (st' := []) (σ' := (hC s.2.1 s.2.2.1 s.2.2.2.1, hM s.2.2.2.2.1 s.2.2.2.2.2, (L, xs), kz)) rfl ?_
        rw [← Option.some.inj hf] at hk
        exact hk
      · rw [if_neg c264] at hf
        refine mx_WP.beq (x := u260) (y := u263) (q := 900) (p3 := 816) rfl (fun hh => absurd hh c264) (fun _ => ?_)
        refine mx_WP.go 1 (pc' := 817) (L' := [some (mx_r (some (2, 63, 0))), some (mx_r (some (0, 0, 0))), some (mx_r (some (1, 11, 0))), some (mx_i s.1)]) (st' := [mx_i (0 : Int32)]) (σ' := (hC s.2.1 s.2.2.1 s.2.2.2.1, hM s.2.2.2.2.1 s.2.2.2.2.2, (L, xs), kz)) rfl ?_
        rw [← Option.some.inj hf] at hk
        refine mx_WP.ret (v := some (mx_i (0 : Int32))) rfl ?_
        exact hk _ _ _ _ _
    rw [if_neg c257] at hf
    by_cases c267 : ((xs s.1.toNatClampNeg) &&& (31 : Int32)) = (16 : Int32)
    · rw [if_pos c267] at hf
      refine mx_WP.sw (c := (16 : Int32)) (q := 818) c267 (by rfl) ?_
      refine mx_WP.go 5 (pc' := 823) (L' := [some (mx_r (some (2, 63, 0))), some (mx_r (some (0, 0, 0))), some (mx_r (some (1, 11, 0))), some (mx_i s.1)]) (st' := [mx_i (s.1 + (1 : Int32)), mx_r (some (2, 63, 0)), mx_r (some (0, 0, 0))]) (σ' := (hC s.2.1 s.2.2.1 s.2.2.2.1, hM s.2.2.2.2.1 s.2.2.2.2.2, (L, xs), kz)) rfl ?_
      by_cases c268 : (s.1 + (1 : Int32)) < 0 ∨ L ≤ (s.1 + (1 : Int32)).toNatClampNeg
      · rw [if_pos c268] at hf
        cases hf
      rw [if_neg c268] at hf
      refine mx_WP.ialdx c268 ?_
      show mx_WP (d + 33) 168 824 [some (mx_r (some (2, 63, 0))), some (mx_r (some (0, 0, 0))), some (mx_r (some (1, 11, 0))), some (mx_i s.1)] [mx_i (xs ((s.1 + (1 : Int32)).toNatClampNeg)), mx_r (some (0, 0, 0))] (hC s.2.1 s.2.2.1 s.2.2.2.1, hM s.2.2.2.2.1 s.2.2.2.2.2, (L, xs), kz) Q
      obtain ⟨u269, e274, hf⟩ := Option.bind_eq_some_iff.mp hf
      refine mx_WP.call (d := d + 32) (y := 24) (as := [mx_r (some (0, 0, 0)), mx_i (xs ((s.1 + (1 : Int32)).toNatClampNeg))]) (pc' := 827) (r := []) rfl rfl (T24 (d := d + 30)  e274 ?_)
      show mx_WP (d + 33) 168 827 [some (mx_r (some (2, 63, 0))), some (mx_r (some (0, 0, 0))), some (mx_r (some (1, 11, 0))), some (mx_i s.1)] [mx_i u269] (hC s.2.1 s.2.2.1 s.2.2.2.1, hM s.2.2.2.2.1 s.2.2.2.2.2, (L, xs), kz) Q
      refine mx_WP.go 5 (pc' := 832) (L' := [some (mx_r (some (2, 63, 0))), some (mx_r (some (0, 0, 0))), some (mx_r (some (1, 11, 0))), some (mx_i s.1)]) (st' := [mx_i (s.1 + (1 : Int32)), mx_r (some (2, 63, 0)), mx_r (some (1, 11, 0)), mx_i u269]) (σ' := (hC s.2.1 s.2.2.1 s.2.2.2.1, hM s.2.2.2.2.1 s.2.2.2.2.2, (L, xs), kz)) rfl ?_
      by_cases c270 : (s.1 + (1 : Int32)) < 0 ∨ L ≤ (s.1 + (1 : Int32)).toNatClampNeg
      · rw [if_pos c270] at hf
        cases hf
      rw [if_neg c270] at hf
      refine mx_WP.ialdx c270 ?_
      show mx_WP (d + 33) 168 833 [some (mx_r (some (2, 63, 0))), some (mx_r (some (0, 0, 0))), some (mx_r (some (1, 11, 0))), some (mx_i s.1)] [mx_i (xs ((s.1 + (1 : Int32)).toNatClampNeg)), mx_r (some (1, 11, 0)), mx_i u269] (hC s.2.1 s.2.2.1 s.2.2.2.1, hM s.2.2.2.2.1 s.2.2.2.2.2, (L, xs), kz) Q
      obtain ⟨u271, e273, hf⟩ := Option.bind_eq_some_iff.mp hf
      refine mx_WP.call (d := d + 32) (y := 163) (as := [mx_r (some (1, 11, 0)), mx_i (xs ((s.1 + (1 : Int32)).toNatClampNeg))]) (pc' := 836) (r := [mx_i u269]) rfl rfl (T163 (d := d + 31)  e273 ?_)
      show mx_WP (d + 33) 168 836 [some (mx_r (some (2, 63, 0))), some (mx_r (some (0, 0, 0))), some (mx_r (some (1, 11, 0))), some (mx_i s.1)] [mx_i u271, mx_i u269] (hC s.2.1 s.2.2.1 s.2.2.2.1, hM s.2.2.2.2.1 s.2.2.2.2.2, (L, xs), kz) Q
      by_cases c272 : u269 = u271
      · rw [if_pos c272] at hf
        refine mx_WP.beq (x := u269) (y := u271) (q := 900) (p3 := 839) rfl (fun _ => ?_) (fun hh => absurd c272 hh)
        refine mx_WP.go 2 (pc' := 18) (L' := [some (mx_r (some (2, 63, 0))), some (mx_r (some (0, 0, 0))), some (mx_r (some (1, 11, 0))), some (mx_i (s.1 + 4))]) (st' := []) (σ' := (hC s.2.1 s.2.2.1 s.2.2.2.1, hM s.2.2.2.2.1 s.2.2.2.2.2, (L, xs), kz)) rfl ?_
        rw [← Option.some.inj hf] at hk
        exact hk
      · rw [if_neg c272] at hf
        refine mx_WP.beq (x := u269) (y := u271) (q := 900) (p3 := 839) rfl (fun hh => absurd hh c272) (fun _ => ?_)
        refine mx_WP.go 1 (pc' := 840) (L' := [some (mx_r (some (2, 63, 0))), some (mx_r (some (0, 0, 0))), some (mx_r (some (1, 11, 0))), some (mx_i s.1)]) (st' := [mx_i (0 : Int32)]) (σ' := (hC s.2.1 s.2.2.1 s.2.2.2.1, hM s.2.2.2.2.1 s.2.2.2.2.2, (L, xs), kz)) rfl ?_
        rw [← Option.some.inj hf] at hk
        refine mx_WP.ret (v := some (mx_i (0 : Int32))) rfl ?_
        exact hk _ _ _ _ _
    rw [if_neg c267] at hf
    by_cases c275 : ((xs s.1.toNatClampNeg) &&& (31 : Int32)) = (17 : Int32)
    · rw [if_pos c275] at hf
      refine mx_WP.sw (c := (17 : Int32)) (q := 841) c275 (by rfl) ?_
      refine mx_WP.go 1 (pc' := 842) (L' := [some (mx_r (some (2, 63, 0))), some (mx_r (some (0, 0, 0))), some (mx_r (some (1, 11, 0))), some (mx_i s.1)]) (st' := [mx_r (some (0, 0, 0))]) (σ' := (hC s.2.1 s.2.2.1 s.2.2.2.1, hM s.2.2.2.2.1 s.2.2.2.2.2, (L, xs), kz)) rfl ?_
      obtain ⟨u276, e280, hf⟩ := Option.bind_eq_some_iff.mp hf
      refine mx_WP.call (d := d + 32) (y := 25) (as := [mx_r (some (0, 0, 0))]) (pc' := 845) (r := []) rfl rfl (T25 (d := d + 28)  e280 ?_)
      show mx_WP (d + 33) 168 845 [some (mx_r (some (2, 63, 0))), some (mx_r (some (0, 0, 0))), some (mx_r (some (1, 11, 0))), some (mx_i s.1)] [mx_i u276.1] (hC u276.2 s.2.2.1 s.2.2.2.1, hM s.2.2.2.2.1 s.2.2.2.2.2, (L, xs), kz) Q
      refine mx_WP.go 1 (pc' := 846) (L' := [some (mx_r (some (2, 63, 0))), some (mx_r (some (0, 0, 0))), some (mx_r (some (1, 11, 0))), some (mx_i s.1)]) (st' := [mx_r (some (1, 11, 0)), mx_i u276.1]) (σ' := (hC u276.2 s.2.2.1 s.2.2.2.1, hM s.2.2.2.2.1 s.2.2.2.2.2, (L, xs), kz)) rfl ?_
      obtain ⟨u277, e279, hf⟩ := Option.bind_eq_some_iff.mp hf
      refine mx_WP.call (d := d + 32) (y := 148) (as := [mx_r (some (1, 11, 0))]) (pc' := 849) (r := [mx_i u276.1]) rfl rfl (T148 (d := d + 31)  e279 ?_)
      show mx_WP (d + 33) 168 849 [some (mx_r (some (2, 63, 0))), some (mx_r (some (0, 0, 0))), some (mx_r (some (1, 11, 0))), some (mx_i s.1)] [mx_i u277.1, mx_i u276.1] (hC u276.2 s.2.2.1 s.2.2.2.1, hM u277.2 s.2.2.2.2.2, (L, xs), kz) Q
      by_cases c278 : u276.1 = u277.1
      · rw [if_pos c278] at hf
        refine mx_WP.beq (x := u276.1) (y := u277.1) (q := 900) (p3 := 852) rfl (fun _ => ?_) (fun hh => absurd c278 hh)
        refine mx_WP.go 2 (pc' := 18) (L' := [some (mx_r (some (2, 63, 0))), some (mx_r (some (0, 0, 0))), some (mx_r (some (1, 11, 0))), some (mx_i (s.1 + 4))]) (st' := []) (σ' := (hC u276.2 s.2.2.1 s.2.2.2.1, hM u277.2 s.2.2.2.2.2, (L, xs), kz)) rfl ?_
        rw [← Option.some.inj hf] at hk
        exact hk
      · rw [if_neg c278] at hf
        refine mx_WP.beq (x := u276.1) (y := u277.1) (q := 900) (p3 := 852) rfl (fun hh => absurd hh c278) (fun _ => ?_)
        refine mx_WP.go 1 (pc' := 853) (L' := [some (mx_r (some (2, 63, 0))), some (mx_r (some (0, 0, 0))), some (mx_r (some (1, 11, 0))), some (mx_i s.1)]) (st' := [mx_i (0 : Int32)]) (σ' := (hC u276.2 s.2.2.1 s.2.2.2.1, hM u277.2 s.2.2.2.2.2, (L, xs), kz)) rfl ?_
        rw [← Option.some.inj hf] at hk
        refine mx_WP.ret (v := some (mx_i (0 : Int32))) rfl ?_
        exact hk _ _ _ _ _
    rw [if_neg c275] at hf
    by_cases c281 : ((xs s.1.toNatClampNeg) &&& (31 : Int32)) = (18 : Int32)
    · rw [if_pos c281] at hf
      refine mx_WP.sw (c := (18 : Int32)) (q := 854) c281 (by rfl) ?_
      refine mx_WP.go 5 (pc' := 859) (L' := [some (mx_r (some (2, 63, 0))), some (mx_r (some (0, 0, 0))), some (mx_r (some (1, 11, 0))), some (mx_i s.1)]) (st' := [mx_i (s.1 + (1 : Int32)), mx_r (some (2, 63, 0)), mx_r (some (0, 0, 0))]) (σ' := (hC s.2.1 s.2.2.1 s.2.2.2.1, hM s.2.2.2.2.1 s.2.2.2.2.2, (L, xs), kz)) rfl ?_
      by_cases c282 : (s.1 + (1 : Int32)) < 0 ∨ L ≤ (s.1 + (1 : Int32)).toNatClampNeg
      · rw [if_pos c282] at hf
        cases hf
      rw [if_neg c282] at hf
      refine mx_WP.ialdx c282 ?_
      show mx_WP (d + 33) 168 860 [some (mx_r (some (2, 63, 0))), some (mx_r (some (0, 0, 0))), some (mx_r (some (1, 11, 0))), some (mx_i s.1)] [mx_i (xs ((s.1 + (1 : Int32)).toNatClampNeg)), mx_r (some (0, 0, 0))] (hC s.2.1 s.2.2.1 s.2.2.2.1, hM s.2.2.2.2.1 s.2.2.2.2.2, (L, xs), kz) Q
      obtain ⟨u283, e288, hf⟩ := Option.bind_eq_some_iff.mp hf
      refine mx_WP.call (d := d + 32) (y := 26) (as := [mx_r (some (0, 0, 0)), mx_i (xs ((s.1 + (1 : Int32)).toNatClampNeg))]) (pc' := 863) (r := []) rfl rfl (T26 (d := d + 30)  e288 ?_)
      show mx_WP (d + 33) 168 863 [some (mx_r (some (2, 63, 0))), some (mx_r (some (0, 0, 0))), some (mx_r (some (1, 11, 0))), some (mx_i s.1)] [mx_i u283] (hC s.2.1 s.2.2.1 s.2.2.2.1, hM s.2.2.2.2.1 s.2.2.2.2.2, (L, xs), kz) Q
      refine mx_WP.go 5 (pc' := 868) (L' := [some (mx_r (some (2, 63, 0))), some (mx_r (some (0, 0, 0))), some (mx_r (some (1, 11, 0))), some (mx_i s.1)]) (st' := [mx_i (s.1 + (1 : Int32)), mx_r (some (2, 63, 0)), mx_r (some (1, 11, 0)), mx_i u283]) (σ' := (hC s.2.1 s.2.2.1 s.2.2.2.1, hM s.2.2.2.2.1 s.2.2.2.2.2, (L, xs), kz)) rfl ?_
      by_cases c284 : (s.1 + (1 : Int32)) < 0 ∨ L ≤ (s.1 + (1 : Int32)).toNatClampNeg
      · rw [if_pos c284] at hf
        cases hf
      rw [if_neg c284] at hf
      refine mx_WP.ialdx c284 ?_
      show mx_WP (d + 33) 168 869 [some (mx_r (some (2, 63, 0))), some (mx_r (some (0, 0, 0))), some (mx_r (some (1, 11, 0))), some (mx_i s.1)] [mx_i (xs ((s.1 + (1 : Int32)).toNatClampNeg)), mx_r (some (1, 11, 0)), mx_i u283] (hC s.2.1 s.2.2.1 s.2.2.2.1, hM s.2.2.2.2.1 s.2.2.2.2.2, (L, xs), kz) Q
      obtain ⟨u285, e287, hf⟩ := Option.bind_eq_some_iff.mp hf
      refine mx_WP.call (d := d + 32) (y := 164) (as := [mx_r (some (1, 11, 0)), mx_i (xs ((s.1 + (1 : Int32)).toNatClampNeg))]) (pc' := 872) (r := [mx_i u283]) rfl rfl (T164 (d := d + 31)  e287 ?_)
      show mx_WP (d + 33) 168 872 [some (mx_r (some (2, 63, 0))), some (mx_r (some (0, 0, 0))), some (mx_r (some (1, 11, 0))), some (mx_i s.1)] [mx_i u285, mx_i u283] (hC s.2.1 s.2.2.1 s.2.2.2.1, hM s.2.2.2.2.1 s.2.2.2.2.2, (L, xs), kz) Q
      by_cases c286 : u283 = u285
      · rw [if_pos c286] at hf
        refine mx_WP.beq (x := u283) (y := u285) (q := 900) (p3 := 875) rfl (fun _ => ?_) (fun hh => absurd c286 hh)
        refine mx_WP.go 2 (pc' := 18) (L' := [some (mx_r (some (2, 63, 0))), some (mx_r (some (0, 0, 0))), some (mx_r (some (1, 11, 0))), some (mx_i (s.1 + 4))]) (st' := []) (σ' := (hC s.2.1 s.2.2.1 s.2.2.2.1, hM s.2.2.2.2.1 s.2.2.2.2.2, (L, xs), kz)) rfl ?_
        rw [← Option.some.inj hf] at hk
        exact hk
      · rw [if_neg c286] at hf
        refine mx_WP.beq (x := u283) (y := u285) (q := 900) (p3 := 875) rfl (fun hh => absurd hh c286) (fun _ => ?_)
        refine mx_WP.go 1 (pc' := 876) (L' := [some (mx_r (some (2, 63, 0))), some (mx_r (some (0, 0, 0))), some (mx_r (some (1, 11, 0))), some (mx_i s.1)]) (st' := [mx_i (0 : Int32)]) (σ' := (hC s.2.1 s.2.2.1 s.2.2.2.1, hM s.2.2.2.2.1 s.2.2.2.2.2, (L, xs), kz)) rfl ?_
        rw [← Option.some.inj hf] at hk
        refine mx_WP.ret (v := some (mx_i (0 : Int32))) rfl ?_
        exact hk _ _ _ _ _
    rw [if_neg c281] at hf
    by_cases c289 : ((xs s.1.toNatClampNeg) &&& (31 : Int32)) = (19 : Int32)
    · rw [if_pos c289] at hf
      refine mx_WP.sw (c := (19 : Int32)) (q := 877) c289 (by rfl) ?_
      refine mx_WP.go 5 (pc' := 882) (L' := [some (mx_r (some (2, 63, 0))), some (mx_r (some (0, 0, 0))), some (mx_r (some (1, 11, 0))), some (mx_i s.1)]) (st' := [mx_i (s.1 + (1 : Int32)), mx_r (some (2, 63, 0)), mx_r (some (0, 0, 0))]) (σ' := (hC s.2.1 s.2.2.1 s.2.2.2.1, hM s.2.2.2.2.1 s.2.2.2.2.2, (L, xs), kz)) rfl ?_
      by_cases c290 : (s.1 + (1 : Int32)) < 0 ∨ L ≤ (s.1 + (1 : Int32)).toNatClampNeg
      · rw [if_pos c290] at hf
        cases hf
      rw [if_neg c290] at hf
      refine mx_WP.ialdx c290 ?_
      show mx_WP (d + 33) 168 883 [some (mx_r (some (2, 63, 0))), some (mx_r (some (0, 0, 0))), some (mx_r (some (1, 11, 0))), some (mx_i s.1)] [mx_i (xs ((s.1 + (1 : Int32)).toNatClampNeg)), mx_r (some (0, 0, 0))] (hC s.2.1 s.2.2.1 s.2.2.2.1, hM s.2.2.2.2.1 s.2.2.2.2.2, (L, xs), kz) Q
      obtain ⟨u291, e296, hf⟩ := Option.bind_eq_some_iff.mp hf
      refine mx_WP.call (d := d + 32) (y := 27) (as := [mx_r (some (0, 0, 0)), mx_i (xs ((s.1 + (1 : Int32)).toNatClampNeg))]) (pc' := 886) (r := []) rfl rfl (T27 (d := d + 30)  e296 ?_)
      show mx_WP (d + 33) 168 886 [some (mx_r (some (2, 63, 0))), some (mx_r (some (0, 0, 0))), some (mx_r (some (1, 11, 0))), some (mx_i s.1)] [mx_i u291] (hC s.2.1 s.2.2.1 s.2.2.2.1, hM s.2.2.2.2.1 s.2.2.2.2.2, (L, xs), kz) Q
      refine mx_WP.go 5 (pc' := 891) (L' := [some (mx_r (some (2, 63, 0))), some (mx_r (some (0, 0, 0))), some (mx_r (some (1, 11, 0))), some (mx_i s.1)]) (st' := [mx_i (s.1 + (1 : Int32)), mx_r (some (2, 63, 0)), mx_r (some (1, 11, 0)), mx_i u291]) (σ' := (hC s.2.1 s.2.2.1 s.2.2.2.1, hM s.2.2.2.2.1 s.2.2.2.2.2, (L, xs), kz)) rfl ?_
      by_cases c292 : (s.1 + (1 : Int32)) < 0 ∨ L ≤ (s.1 + (1 : Int32)).toNatClampNeg
      · rw [if_pos c292] at hf
        cases hf
      rw [if_neg c292] at hf
      refine mx_WP.ialdx c292 ?_
      show mx_WP (d + 33) 168 892 [some (mx_r (some (2, 63, 0))), some (mx_r (some (0, 0, 0))), some (mx_r (some (1, 11, 0))), some (mx_i s.1)] [mx_i (xs ((s.1 + (1 : Int32)).toNatClampNeg)), mx_r (some (1, 11, 0)), mx_i u291] (hC s.2.1 s.2.2.1 s.2.2.2.1, hM s.2.2.2.2.1 s.2.2.2.2.2, (L, xs), kz) Q
      obtain ⟨u293, e295, hf⟩ := Option.bind_eq_some_iff.mp hf
      refine mx_WP.call (d := d + 32) (y := 165) (as := [mx_r (some (1, 11, 0)), mx_i (xs ((s.1 + (1 : Int32)).toNatClampNeg))]) (pc' := 895) (r := [mx_i u291]) rfl rfl (T165 (d := d + 28)  e295 ?_)
      show mx_WP (d + 33) 168 895 [some (mx_r (some (2, 63, 0))), some (mx_r (some (0, 0, 0))), some (mx_r (some (1, 11, 0))), some (mx_i s.1)] [mx_i u293, mx_i u291] (hC s.2.1 s.2.2.1 s.2.2.2.1, hM s.2.2.2.2.1 s.2.2.2.2.2, (L, xs), kz) Q
      by_cases c294 : u291 = u293
      · rw [if_pos c294] at hf
        refine mx_WP.beq (x := u291) (y := u293) (q := 900) (p3 := 898) rfl (fun _ => ?_) (fun hh => absurd c294 hh)
        refine mx_WP.go 2 (pc' := 18) (L' := [some (mx_r (some (2, 63, 0))), some (mx_r (some (0, 0, 0))), some (mx_r (some (1, 11, 0))), some (mx_i (s.1 + 4))]) (st' := []) (σ' := (hC s.2.1 s.2.2.1 s.2.2.2.1, hM s.2.2.2.2.1 s.2.2.2.2.2, (L, xs), kz)) rfl ?_
        rw [← Option.some.inj hf] at hk
        exact hk
      · rw [if_neg c294] at hf
        refine mx_WP.beq (x := u291) (y := u293) (q := 900) (p3 := 898) rfl (fun hh => absurd hh c294) (fun _ => ?_)
        refine mx_WP.go 1 (pc' := 899) (L' := [some (mx_r (some (2, 63, 0))), some (mx_r (some (0, 0, 0))), some (mx_r (some (1, 11, 0))), some (mx_i s.1)]) (st' := [mx_i (0 : Int32)]) (σ' := (hC s.2.1 s.2.2.1 s.2.2.2.1, hM s.2.2.2.2.1 s.2.2.2.2.2, (L, xs), kz)) rfl ?_
        rw [← Option.some.inj hf] at hk
        refine mx_WP.ret (v := some (mx_i (0 : Int32))) rfl ?_
        exact hk _ _ _ _ _
    rw [if_neg c289] at hf
    refine mx_WP.swt (q := 900) (mx_tso20 c103 c113 c125 c137 c149 c155 c165 c173 c183 c193 c205 c215 c223 c233 c245 c257 c267 c275 c281 c289) (by rfl) (by rfl) ?_
    refine mx_WP.go 2 (pc' := 18) (L' := [some (mx_r (some (2, 63, 0))), some (mx_r (some (0, 0, 0))), some (mx_r (some (1, 11, 0))), some (mx_i (s.1 + 4))]) (st' := []) (σ' := (hC s.2.1 s.2.2.1 s.2.2.2.1, hM s.2.2.2.2.1 s.2.2.2.2.2, (L, xs), kz)) rfl ?_
    rw [← Option.some.inj hf] at hk
    exact hk
theorem L168_18 {d : Nat} {L : Nat} {xs : Nat → Int32}  {kz : Nat × Nat} {I : Nat → Nat → Nat → Int32} {J : Nat → Nat → Nat → Int64} {h : Nat → Nat} {A : Nat → Nat → Nat → Int32} {B : Nat → Nat → Nat → Int64} {Q : Option mx_V → mx_Hp → Prop} {n : Nat} {s : Int32 × (Nat → Nat → Nat → Int32) × (Nat → Nat → Nat → Int64) × (Nat → Nat) × (Nat → Nat → Nat → Int32) × (Nat → Nat → Nat → Int64)} {o : (Int32 × (Nat → Nat → Nat → Int32) × (Nat → Nat → Nat → Int64) × (Nat → Nat) × (Nat → Nat → Nat → Int32) × (Nat → Nat → Nat → Int64)) ⊕ (Bool)} (hf : mx_lp (b168_18 L xs I J h A B) n s = some o) (hk : (Sum.elim (fun x : Int32 × (Nat → Nat → Nat → Int32) × (Nat → Nat → Nat → Int64) × (Nat → Nat) × (Nat → Nat → Nat → Int32) × (Nat → Nat → Nat → Int64) => mx_WP (d + 33) 168 906 [some (mx_r (some (2, 63, 0))), some (mx_r (some (0, 0, 0))), some (mx_r (some (1, 11, 0))), some (mx_i x.1)] [] (hC x.2.1 x.2.2.1 x.2.2.2.1, hM x.2.2.2.2.1 x.2.2.2.2.2, (L, xs), kz) Q) (fun x : Bool => ∀ (I : Nat → Nat → Nat → Int32) (J : Nat → Nat → Nat → Int64) (h : Nat → Nat) (A : Nat → Nat → Nat → Int32) (B : Nat → Nat → Nat → Int64), Q (some (mx_i (b2i x))) (hC I J h, hM A B, (L, xs), kz))) o) : mx_WP (d + 33) 168 18 [some (mx_r (some (2, 63, 0))), some (mx_r (some (0, 0, 0))), some (mx_r (some (1, 11, 0))), some (mx_i s.1)] [] (hC s.2.1 s.2.2.1 s.2.2.2.1, hM s.2.2.2.2.1 s.2.2.2.2.2, (L, xs), kz) Q := mx_lp_ok (P := fun s : Int32 × (Nat → Nat → Nat → Int32) × (Nat → Nat → Nat → Int64) × (Nat → Nat) × (Nat → Nat → Nat → Int32) × (Nat → Nat → Nat → Int64) => mx_WP (d + 33) 168 18 [some (mx_r (some (2, 63, 0))), some (mx_r (some (0, 0, 0))), some (mx_r (some (1, 11, 0))), some (mx_i s.1)] [] (hC s.2.1 s.2.2.1 s.2.2.2.1, hM s.2.2.2.2.1 s.2.2.2.2.2, (L, xs), kz) Q) (E := (Sum.elim (fun x : Int32 × (Nat → Nat → Nat → Int32) × (Nat → Nat → Nat → Int64) × (Nat → Nat) × (Nat → Nat → Nat → Int32) × (Nat → Nat → Nat → Int64) => mx_WP (d + 33) 168 906 [some (mx_r (some (2, 63, 0))), some (mx_r (some (0, 0, 0))), some (mx_r (some (1, 11, 0))), some (mx_i x.1)] [] (hC x.2.1 x.2.2.1 x.2.2.2.1, hM x.2.2.2.2.1 x.2.2.2.2.2, (L, xs), kz) Q) (fun x : Bool => ∀ (I : Nat → Nat → Nat → Int32) (J : Nat → Nat → Nat → Int64) (h : Nat → Nat) (A : Nat → Nat → Nat → Int32) (B : Nat → Nat → Nat → Int64), Q (some (mx_i (b2i x))) (hC I J h, hM A B, (L, xs), kz)))) (fun s o hf hk => B168_18 hf hk) n s o hf hk
def f168 (L : Nat) (xs : Nat → Int32) (I : Nat → Nat → Nat → Int32) (J : Nat → Nat → Nat → Int64) (h : Nat → Nat) (A : Nat → Nat → Nat → Int32) (B : Nat → Nat → Nat → Int64) : Option Bool :=
  (mx_lp (b168_18 L xs I J h A B) mx_fu ((0 : Int32), I, J, h, A, B)).bind fun u297 => Sum.elim (fun w299 =>
  some true) (fun y300 => some y300) u297
theorem T168 {d : Nat} {L : Nat} {xs : Nat → Int32} {kz : Nat × Nat} {I : Nat → Nat → Nat → Int32} {J : Nat → Nat → Nat → Int64} {h : Nat → Nat} {A : Nat → Nat → Nat → Int32} {B : Nat → Nat → Nat → Int64} {Q : Option mx_V → mx_Hp → Prop} {o : Bool} (hf : f168 L xs I J h A B = some o) (hk : ∀ I J h A B, Q (some (mx_i (b2i o))) (hC I J h, hM A B, (L, xs), kz)) : mx_WP (d + 33) 168 18 [some (mx_r (some (2, 63, 0))), some (mx_r (some (0, 0, 0))), some (mx_r (some (1, 11, 0))), some (mx_i (0 : Int32))] [] (hC I J h, hM A B, (L, xs), kz) Q := by
  unfold f168 at hf
  obtain ⟨u297, e298, hf⟩ := Option.bind_eq_some_iff.mp hf
  cases u297 with
  | inr y300 =>
    rw [Sum.elim_inr] at hf
    rw [← Option.some.inj hf] at hk
    exact (L168_18 (d := d) e298 hk)
  | inl w299 =>
    rw [Sum.elim_inl] at hf
    refine (L168_18 (d := d) e298 ?_)
    show mx_WP (d + 33) 168 906 [some (mx_r (some (2, 63, 0))), some (mx_r (some (0, 0, 0))), some (mx_r (some (1, 11, 0))), some (mx_i w299.1)] [] (hC w299.2.1 w299.2.2.1 w299.2.2.2.1, hM w299.2.2.2.2.1 w299.2.2.2.2.2, (L, xs), kz) Q
    refine mx_WP.go 1 (pc' := 907) (L' := [some (mx_r (some (2, 63, 0))), some (mx_r (some (0, 0, 0))), some (mx_r (some (1, 11, 0))), some (mx_i w299.1)]) (st' := [mx_i (1 : Int32)]) (σ' := (hC w299.2.1 w299.2.2.1 w299.2.2.2.1, hM w299.2.2.2.2.1 w299.2.2.2.2.2, (L, xs), kz)) rfl ?_
    rw [← Option.some.inj hf] at hk
    refine mx_WP.ret (v := some (mx_i (1 : Int32))) rfl ?_
    exact hk _ _ _ _ _
