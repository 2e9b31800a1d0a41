def P_Labels_empty  : Option (Int32 × Int32) :=
  Option.bind (P_Row_empty) (fun x4 => some ((0 : Int32), x4))
def P_Labels_add (N_a1_codes : Nat) (n_this_count : Int32) (n_this_codes_size : Int32) (f_this_codes_codes : Nat → Int32) (f_this_ends : Nat → Int32) (f_this_rules : Nat → Int32) (f_this_tagged : Nat → Int32) (n_a1_size : Int32) (f_a1_codes : Nat → Int32) (a2 : Int32) (a3 : Int32) : Option (Int32 × Int32 × (Nat → Int32) × (Nat → Int32) × (Nat → Int32) × (Nat → Int32)) :=
  if n_this_count < (49 : Int32) then (Option.bind (P_Row_size n_a1_size) (fun x17 => Option.bind (P_Row_addPart 96 N_a1_codes n_this_codes_size f_this_codes_codes n_a1_size f_a1_codes (0 : Int32) x17) (fun x20 => Option.bind (P_Row_size x20.1) (fun x35 => gi n_this_count 49 (gi n_this_count 49 (gi n_this_count 49 (some ((n_this_count + (1 : Int32)), x20.1, x20.2, (upd f_this_ends (n_this_count).toNatClampNeg x35), (upd f_this_rules (n_this_count).toNatClampNeg a3), (upd f_this_tagged (n_this_count).toNatClampNeg (vp_nar .boolean a2)))))))))) else (some (n_this_count, n_this_codes_size, f_this_codes_codes, f_this_ends, f_this_rules, f_this_tagged))
def P_Labels_codes  : Option (Unit) :=
  some ()
def P_Labels_count (n_this_count : Int32) : Option (Int32) :=
  some (n_this_count)
def P_Labels_has (n_this_count : Int32) (a1 : Int32) : Option (Int32) :=
  if a1 < 0 then (some ((0 : Int32))) else (if n_this_count ≤ a1 then (some ((0 : Int32))) else (some ((1 : Int32))))
def P_Labels_copyLabel_33 (N_a2_codes : Nat) (n_this_codes_size : Int32) (f_this_codes_codes : Nat → Int32) (f_this_ends : Nat → Int32) (a1 : Int32) (s0 : Int32) (n_a2_size : Int32) (f_a2_codes : Nat → Int32) : Option (Int32 × (Nat → Int32)) :=
  gi a1 49 (Option.bind (P_Row_addPart N_a2_codes 96 n_a2_size f_a2_codes n_this_codes_size f_this_codes_codes s0 (f_this_ends (a1).toNatClampNeg)) (fun x39 => some (x39.1, x39.2)))
def P_Labels_copyLabel (N_a2_codes : Nat) (n_this_count : Int32) (n_this_codes_size : Int32) (f_this_codes_codes : Nat → Int32) (f_this_ends : Nat → Int32) (f_a2_codes : Nat → Int32) (a1 : Int32) : Option (Int32 × (Nat → Int32)) :=
  Option.bind (P_Row_empty) (fun x1 => Option.bind (P_Labels_has n_this_count a1) (fun x6 => if x6 = 0 then (some (x1, f_a2_codes)) else (if a1 = 0 then (P_Labels_copyLabel_33 N_a2_codes n_this_codes_size f_this_codes_codes f_this_ends a1 (0 : Int32) x1 f_a2_codes) else (gi (a1 - (1 : Int32)) 49 (P_Labels_copyLabel_33 N_a2_codes n_this_codes_size f_this_codes_codes f_this_ends a1 (f_this_ends ((a1 - (1 : Int32))).toNatClampNeg) x1 f_a2_codes)))))
def P_Labels_rules (n_this_count : Int32) (f_this_rules : Nat → Int32) (a1 : Int32) : Option (Int32) :=
  Option.bind (P_Labels_has n_this_count a1) (fun x2 => if x2 = 0 then (some ((-1 : Int32))) else (gi a1 49 (some ((f_this_rules (a1).toNatClampNeg)))))
def P_Labels_wasTagged (n_this_count : Int32) (f_this_tagged : Nat → Int32) (a1 : Int32) : Option (Int32) :=
  Option.bind (P_Labels_has n_this_count a1) (fun x2 => if x2 = 0 then (some ((0 : Int32))) else (gi a1 49 (if (f_this_tagged (a1).toNatClampNeg) = 0 then (some ((0 : Int32))) else (some ((1 : Int32))))))
def P_Labels_addRules (n_this_count : Int32) (f_this_rules : Nat → Int32) (a1 : Int32) (a2 : Int32) : Option ((Nat → Int32)) :=
  Option.bind (P_Labels_has n_this_count a1) (fun x2 => if x2 = 0 then (some (f_this_rules)) else (gi a1 49 (gi a1 49 (some ((upd f_this_rules (a1).toNatClampNeg ((f_this_rules (a1).toNatClampNeg) ||| a2)))))))
def P_Labels_allRules_4 (n_this_count : Int32) (f_this_rules : Nat → Int32) (k4 : (Int32) → (Int32) → Option (Int32)) (v1 : Int32) (v2 : Int32) : Option (Int32) :=
  if n_this_count ≤ v2 then (some (v1)) else (gi v2 49 (k4 (v1 ||| (f_this_rules (v2).toNatClampNeg)) (v2 + (1 : Int32))))
def P_Labels_allRules (n_this_count : Int32) (f_this_rules : Nat → Int32) : Option (Int32) :=
  fl2 (P_Labels_allRules_4 n_this_count f_this_rules) fu (0 : Int32) (0 : Int32)
