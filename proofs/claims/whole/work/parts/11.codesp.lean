def P_Codes_isWithin (a1 : Int32) (a2 : Int32) (a3 : Int32) : Option (Int32) :=
  if a1 < a2 then (some ((0 : Int32))) else (if a3 < a1 then (some ((0 : Int32))) else (some ((1 : Int32))))
def P_Codes_isOdd (a1 : Int32) : Option (Int32) :=
  if a1 = (223 : Int32) then (some ((1 : Int32))) else (if a1 = (962 : Int32) then (some ((1 : Int32))) else (if a1 = (8204 : Int32) then (some ((1 : Int32))) else (if a1 = (8205 : Int32) then (some ((1 : Int32))) else (some ((0 : Int32))))))
def P_Codes_isCapital (a1 : Int32) : Option (Int32) :=
  if a1 < (65 : Int32) then (some ((0 : Int32))) else (if (90 : Int32) < a1 then (some ((0 : Int32))) else (some ((1 : Int32))))
def P_Codes_mappedTo_93 (a1 : Int32) (v1 : Int32) (s0 : Int32) : Option (Int32) :=
  Option.bind (P_Codes_isCapital a1) (fun x95 => if x95 = 0 then (if v1 = 0 then (if s0 = 0 then (some (a1)) else (some ((a1 + (32 : Int32))))) else (some ((a1 + (32 : Int32))))) else (some ((a1 + (32 : Int32)))))
def P_Codes_mappedTo_67 (a1 : Int32) (s0 : Int32) : Option (Int32) :=
  Option.bind (P_Codes_isWithin a1 (913 : Int32) (937 : Int32)) (fun x75 => if x75 = 0 then (P_Codes_mappedTo_93 a1 s0 (0 : Int32)) else (if a1 = (930 : Int32) then (P_Codes_mappedTo_93 a1 s0 (0 : Int32)) else (P_Codes_mappedTo_93 a1 s0 (1 : Int32))))
def P_Codes_mappedTo (a1 : Int32) : Option (Int32) :=
  Option.bind (P_Codes_isWithin a1 (65281 : Int32) (65374 : Int32)) (fun x5 => if x5 = 0 then (if a1 = (12290 : Int32) then (some ((46 : Int32))) else (Option.bind (P_Codes_isWithin a1 (192 : Int32) (222 : Int32)) (fun x49 => if x49 = 0 then (P_Codes_mappedTo_67 a1 (0 : Int32)) else (if a1 = (215 : Int32) then (P_Codes_mappedTo_67 a1 (0 : Int32)) else (P_Codes_mappedTo_67 a1 (1 : Int32)))))) else (Option.bind (P_Codes_isCapital (a1 - (65248 : Int32))) (fun x17 => if x17 = 0 then (some ((a1 - (65248 : Int32)))) else (some (((a1 - (65248 : Int32)) + (32 : Int32)))))))
def P_Codes_isInGoodRanges_2 (a1 : Int32) (k2 : (Int32) → Option (Int32)) (v1 : Int32) : Option (Int32) :=
  if (36 : Int32) ≤ (v1 + (1 : Int32)) then (some ((0 : Int32))) else (gi v1 36 (if a1 < (tb_good (v1).toNatClampNeg) then (k2 (v1 + (2 : Int32))) else (gi (v1 + (1 : Int32)) 36 (if (tb_good ((v1 + (1 : Int32))).toNatClampNeg) < a1 then (k2 (v1 + (2 : Int32))) else (some ((1 : Int32)))))))
def P_Codes_isInGoodRanges (a1 : Int32) : Option (Int32) :=
  fl1 (P_Codes_isInGoodRanges_2 a1) fu (0 : Int32)
def P_Codes_isPlain (a1 : Int32) : Option (Int32) :=
  Option.bind (P_Codes_isWithin a1 (0 : Int32) (127 : Int32)) (fun x4 => if x4 = 0 then (some ((0 : Int32))) else (Option.bind (P_Codes_isCapital a1) (fun x11 => if x11 = 0 then (Option.bind (P_Codes_isInGoodRanges a1) (fun x18 => if x18 = 0 then (some ((1 : Int32))) else (some ((0 : Int32))))) else (some ((0 : Int32))))))
def P_Codes_isGood_18 (a1 : Int32) (a3 : Int32) : Option (Int32) :=
  if a3 = 0 then (Option.bind (P_Codes_isOdd a1) (fun x23 => if x23 = 0 then (some ((0 : Int32))) else (some ((1 : Int32))))) else (some ((0 : Int32)))
def P_Codes_isGood (a1 : Int32) (a2 : Int32) (a3 : Int32) : Option (Int32) :=
  Option.bind (P_Codes_isInGoodRanges a1) (fun x1 => if x1 = 0 then (if a2 = 0 then (Option.bind (P_Codes_isPlain a1) (fun x12 => if x12 = 0 then (P_Codes_isGood_18 a1 a3) else (some ((1 : Int32))))) else (P_Codes_isGood_18 a1 a3)) else (some ((1 : Int32))))
def P_Codes_order (a1 : Int32) : Option (Int32) :=
  if a1 = (768 : Int32) then (some ((230 : Int32))) else (if a1 = (769 : Int32) then (some ((230 : Int32))) else (if a1 = (776 : Int32) then (some ((230 : Int32))) else (if a1 = (807 : Int32) then (some ((202 : Int32))) else (if a1 = (1614 : Int32) then (some ((30 : Int32))) else (if a1 = (2381 : Int32) then (some ((9 : Int32))) else (some ((0 : Int32))))))))
def P_Codes_isMark (a1 : Int32) : Option (Int32) :=
  Option.bind (P_Codes_order a1) (fun x1 => if x1 ≤ 0 then (some ((0 : Int32))) else (some ((1 : Int32))))
def P_Codes_asciiDirection (a1 : Int32) : Option (Int32) :=
  Option.bind (P_Codes_isWithin a1 (48 : Int32) (57 : Int32)) (fun x5 => if x5 = 0 then (if a1 = (45 : Int32) then (some ((32 : Int32))) else (Option.bind (P_Codes_isCapital a1) (fun x24 => if x24 = 0 then (Option.bind (P_Codes_isWithin a1 (97 : Int32) (122 : Int32)) (fun x35 => if x35 = 0 then (some ((256 : Int32))) else (some ((1 : Int32))))) else (some ((1 : Int32)))))) else (some ((16 : Int32))))
def P_Codes_direction (a1 : Int32) : Option (Int32) :=
  Option.bind (P_Codes_isMark a1) (fun x1 => if x1 = 0 then (Option.bind (P_Codes_isWithin a1 (0 : Int32) (127 : Int32)) (fun x14 => if x14 = 0 then (Option.bind (P_Codes_isWithin a1 (1488 : Int32) (1514 : Int32)) (fun x32 => if x32 = 0 then (if a1 = (1575 : Int32) then (some ((4 : Int32))) else (if a1 = (1576 : Int32) then (some ((4 : Int32))) else (Option.bind (P_Codes_isWithin a1 (1632 : Int32) (1641 : Int32)) (fun x63 => if x63 = 0 then (Option.bind (P_Codes_isWithin a1 (1776 : Int32) (1785 : Int32)) (fun x79 => if x79 = 0 then (if a1 = (8204 : Int32) then (some ((128 : Int32))) else (if a1 = (8205 : Int32) then (some ((128 : Int32))) else (some ((1 : Int32))))) else (some ((16 : Int32))))) else (some ((8 : Int32))))))) else (some ((2 : Int32))))) else (Option.bind (P_Codes_asciiDirection a1) (fun x21 => some (x21))))) else (some ((64 : Int32))))
def P_Codes_hasRightToLeft_2 (N_a1_codes : Nat) (n_a1_size : Int32) (f_a1_codes : Nat → Int32) (k2 : (Int32) → Option (Int32)) (v1 : Int32) : Option (Int32) :=
  Option.bind (P_Row_size n_a1_size) (fun x4 => if x4 ≤ v1 then (some ((0 : Int32))) else (Option.bind (P_Row_get N_a1_codes n_a1_size f_a1_codes v1) (fun x12 => Option.bind (P_Codes_direction x12) (fun x15 => if (x15 &&& (14 : Int32)) = 0 then (k2 (v1 + (1 : Int32))) else (some ((1 : Int32)))))))
def P_Codes_hasRightToLeft (N_a1_codes : Nat) (n_a1_size : Int32) (f_a1_codes : Nat → Int32) : Option (Int32) :=
  fl1 (P_Codes_hasRightToLeft_2 N_a1_codes n_a1_size f_a1_codes) fu (0 : Int32)
def P_Codes_joining (a1 : Int32) : Option (Int32) :=
  if a1 = (1575 : Int32) then (some ((1 : Int32))) else (if a1 = (1576 : Int32) then (some ((2 : Int32))) else (if a1 = (1614 : Int32) then (some ((3 : Int32))) else (if a1 = (2381 : Int32) then (some ((3 : Int32))) else (some ((0 : Int32))))))
