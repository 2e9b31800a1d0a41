def P_Row_add (N_this_codes : Nat) (n_this_size : Int32) (f_this_codes : Nat → Int32) (a1 : Int32) : Option (Int32 × Int32 × (Nat → Int32)) :=
  if n_this_size < (nI N_this_codes) then (gi n_this_size N_this_codes (some ((1 : Int32), (n_this_size + (1 : Int32)), (upd f_this_codes (n_this_size).toNatClampNeg a1)))) else (some ((0 : Int32), n_this_size, f_this_codes))
def P_Row_size (n_this_size : Int32) : Option (Int32) :=
  some (n_this_size)
def P_Row_empty  : Option (Int32) :=
  some ((0 : Int32))
def P_Row_get (N_this_codes : Nat) (n_this_size : Int32) (f_this_codes : Nat → Int32) (a1 : Int32) : Option (Int32) :=
  if a1 < 0 then (some ((-1 : Int32))) else (if a1 < n_this_size then (gi a1 N_this_codes (some ((f_this_codes (a1).toNatClampNeg)))) else (some ((-1 : Int32))))
def P_Row_set (N_this_codes : Nat) (n_this_size : Int32) (f_this_codes : Nat → Int32) (a1 : Int32) (a2 : Int32) : Option ((Nat → Int32)) :=
  if a1 < 0 then (some (f_this_codes)) else (if n_this_size ≤ a1 then (some (f_this_codes)) else (gi a1 N_this_codes (some ((upd f_this_codes (a1).toNatClampNeg a2)))))
def P_Row_addPart_3 (N_this_codes : Nat) (N_a1_codes : Nat) (n_a1_size : Int32) (f_a1_codes : Nat → Int32) (a3 : Int32) (k3 : (Int32) → (Int32) → (Nat → Int32) → Option (Int32 × (Nat → Int32))) (v4 : Int32) (n_this_size : Int32) (f_this_codes : Nat → Int32) : Option (Int32 × (Nat → Int32)) :=
  if a3 ≤ v4 then (some (n_this_size, f_this_codes)) else (Option.bind (P_Row_get N_a1_codes n_a1_size f_a1_codes v4) (fun x13 => Option.bind (P_Row_add N_this_codes n_this_size f_this_codes x13) (fun x16 => k3 (v4 + (1 : Int32)) x16.2.1 x16.2.2)))
def P_Row_addPart (N_this_codes : Nat) (N_a1_codes : Nat) (n_this_size : Int32) (f_this_codes : Nat → Int32) (n_a1_size : Int32) (f_a1_codes : Nat → Int32) (a2 : Int32) (a3 : Int32) : Option (Int32 × (Nat → Int32)) :=
  fl3 (P_Row_addPart_3 N_this_codes N_a1_codes n_a1_size f_a1_codes a3) fu a2 n_this_size f_this_codes
def P_Row_insert_31 (N_this_codes : Nat) (a1 : Int32) (a2 : Int32) (n_this_size : Int32) (k31 : (Int32) → (Nat → Int32) → Option (Int32 × Int32 × (Nat → Int32))) (v3 : Int32) (f_this_codes : Nat → Int32) : Option (Int32 × Int32 × (Nat → Int32)) :=
  if v3 ≤ a1 then (gi a1 N_this_codes (some ((1 : Int32), (n_this_size + (1 : Int32)), (upd f_this_codes (a1).toNatClampNeg a2)))) else (gi (v3 - (1 : Int32)) N_this_codes (gi v3 N_this_codes (k31 (v3 + (-1 : Int32)) (upd f_this_codes (v3).toNatClampNeg (f_this_codes ((v3 - (1 : Int32))).toNatClampNeg)))))
def P_Row_insert (N_this_codes : Nat) (n_this_size : Int32) (f_this_codes : Nat → Int32) (a1 : Int32) (a2 : Int32) : Option (Int32 × Int32 × (Nat → Int32)) :=
  if (nI N_this_codes) ≤ n_this_size then (some ((0 : Int32), n_this_size, f_this_codes)) else (if a1 < 0 then (some ((0 : Int32), n_this_size, f_this_codes)) else (if a1 ≤ n_this_size then (fl2 (P_Row_insert_31 N_this_codes a1 a2 n_this_size) fu n_this_size f_this_codes) else (some ((0 : Int32), n_this_size, f_this_codes))))
def P_Row_hasAbove_2 (N_this_codes : Nat) (n_this_size : Int32) (f_this_codes : Nat → Int32) (a1 : Int32) (k2 : (Int32) → Option (Int32)) (v2 : Int32) : Option (Int32) :=
  if n_this_size ≤ v2 then (some ((0 : Int32))) else (gi v2 N_this_codes (if (f_this_codes (v2).toNatClampNeg) ≤ a1 then (k2 (v2 + (1 : Int32))) else (some ((1 : Int32)))))
def P_Row_hasAbove (N_this_codes : Nat) (n_this_size : Int32) (f_this_codes : Nat → Int32) (a1 : Int32) : Option (Int32) :=
  fl1 (P_Row_hasAbove_2 N_this_codes n_this_size f_this_codes a1) fu (0 : Int32)
def P_Row_isSameAs_15 (N_this_codes : Nat) (N_a1_codes : Nat) (n_this_size : Int32) (f_this_codes : Nat → Int32) (n_a1_size : Int32) (f_a1_codes : Nat → Int32) (k15 : (Int32) → Option (Int32)) (v2 : Int32) : Option (Int32) :=
  if n_this_size ≤ v2 then (some ((1 : Int32))) else (gi v2 N_this_codes (Option.bind (P_Row_get N_a1_codes n_a1_size f_a1_codes v2) (fun x31 => if (f_this_codes (v2).toNatClampNeg) = x31 then (k15 (v2 + (1 : Int32))) else (some ((0 : Int32))))))
def P_Row_isSameAs (N_this_codes : Nat) (N_a1_codes : Nat) (n_this_size : Int32) (f_this_codes : Nat → Int32) (n_a1_size : Int32) (f_a1_codes : Nat → Int32) : Option (Int32) :=
  Option.bind (P_Row_size n_a1_size) (fun x5 => if n_this_size = x5 then (fl1 (P_Row_isSameAs_15 N_this_codes N_a1_codes n_this_size f_this_codes n_a1_size f_a1_codes) fu (0 : Int32)) else (some ((0 : Int32))))
