def P_Mod_within (a1 : Int32) (a2 : Int32) (a3 : Int32) : Option (Int32) :=
  if a1 < a2 then (some ((0 : Int32))) else (if a3 < a1 then (some ((0 : Int32))) else (some ((1 : Int32))))
def P_Mod_order (a1 : Int32) : Option (Int32) :=
  if a1 = (768 : Int32) then (some ((230 : Int32))) else (if a1 = (769 : Int32) then (some ((230 : Int32))) else (if a1 = (776 : Int32) then (some ((230 : Int32))) else (if a1 = (807 : Int32) then (some ((202 : Int32))) else (if a1 = (1614 : Int32) then (some ((30 : Int32))) else (if a1 = (2381 : Int32) then (some ((9 : Int32))) else (some ((0 : Int32))))))))
def P_Mod_isGood_119 (a1 : Int32) (v1 : Int32) (s0 : Int32) : Option (Int32) :=
  if v1 = 0 then (if s0 = 0 then (Option.bind (P_Mod_within a1 (1632 : Int32) (1641 : Int32)) (fun x135 => if x135 = 0 then (Option.bind (P_Mod_within a1 (1776 : Int32) (1785 : Int32)) (fun x148 => if x148 = 0 then (Option.bind (P_Mod_within a1 (2325 : Int32) (2361 : Int32)) (fun x161 => if x161 = 0 then (Option.bind (P_Mod_within a1 (19968 : Int32) (40959 : Int32)) (fun x173 => if x173 = 0 then (some ((0 : Int32))) else (some ((1 : Int32))))) else (some ((1 : Int32))))) else (some ((1 : Int32))))) else (some ((1 : Int32))))) else (some ((1 : Int32)))) else (some ((1 : Int32)))
def P_Mod_isGood_87 (a1 : Int32) (v1 : Int32) : Option (Int32) :=
  Option.bind (P_Mod_within a1 (1488 : Int32) (1514 : Int32)) (fun x94 => if x94 = 0 then (if a1 = (1575 : Int32) then (P_Mod_isGood_119 a1 v1 (1 : Int32)) else (if a1 = (1576 : Int32) then (P_Mod_isGood_119 a1 v1 (1 : Int32)) else (P_Mod_isGood_119 a1 v1 (0 : Int32)))) else (P_Mod_isGood_119 a1 v1 (1 : Int32)))
def P_Mod_isGood_59 (a1 : Int32) (s0 : Int32) : Option (Int32) :=
  Option.bind (P_Mod_order a1) (fun x61 => if 0 < x61 then (P_Mod_isGood_119 a1 s0 (1 : Int32)) else (Option.bind (P_Mod_within a1 (945 : Int32) (969 : Int32)) (fun x74 => if x74 = 0 then (P_Mod_isGood_87 a1 s0) else (if a1 = (962 : Int32) then (P_Mod_isGood_87 a1 s0) else (P_Mod_isGood_119 a1 s0 (1 : Int32))))))
def P_Mod_isGood (a1 : Int32) : Option (Int32) :=
  if a1 = (45 : Int32) then (P_Mod_isGood_59 a1 (1 : Int32)) else (if a1 = (46 : Int32) then (P_Mod_isGood_59 a1 (1 : Int32)) else (Option.bind (P_Mod_within a1 (48 : Int32) (57 : Int32)) (fun x17 => if x17 = 0 then (Option.bind (P_Mod_within a1 (97 : Int32) (122 : Int32)) (fun x28 => if x28 = 0 then (Option.bind (P_Mod_within a1 (224 : Int32) (255 : Int32)) (fun x41 => if x41 = 0 then (P_Mod_isGood_59 a1 (0 : Int32)) else (if a1 = (247 : Int32) then (P_Mod_isGood_59 a1 (0 : Int32)) else (P_Mod_isGood_59 a1 (1 : Int32))))) else (P_Mod_isGood_59 a1 (1 : Int32)))) else (P_Mod_isGood_59 a1 (1 : Int32)))))
def P_Mod_isPlain (a1 : Int32) : Option (Int32) :=
  Option.bind (P_Mod_within a1 (0 : Int32) (127 : Int32)) (fun x4 => if x4 = 0 then (some ((0 : Int32))) else (Option.bind (P_Mod_isGood a1) (fun x11 => if x11 = 0 then (Option.bind (P_Mod_within a1 (65 : Int32) (90 : Int32)) (fun x22 => if x22 = 0 then (some ((1 : Int32))) else (some ((0 : Int32))))) else (some ((0 : Int32))))))
def P_Mod_image_56 (a1 : Int32) : Option (Int32) :=
  if a1 = (12290 : Int32) then (some ((46 : Int32))) else (Option.bind (P_Mod_within a1 (65281 : Int32) (65374 : Int32)) (fun x71 => if x71 = 0 then (some ((-1 : Int32))) else (Option.bind (P_Mod_within (a1 - (65248 : Int32)) (65 : Int32) (90 : Int32)) (fun x87 => if x87 = 0 then (some ((a1 - (65248 : Int32)))) else (some (((a1 - (65248 : Int32)) + (32 : Int32))))))))
def P_Mod_image_31 (a1 : Int32) : Option (Int32) :=
  Option.bind (P_Mod_within a1 (913 : Int32) (937 : Int32)) (fun x38 => if x38 = 0 then (P_Mod_image_56 a1) else (if a1 = (930 : Int32) then (P_Mod_image_56 a1) else (some ((a1 + (32 : Int32))))))
def P_Mod_image (a1 : Int32) : Option (Int32) :=
  Option.bind (P_Mod_within a1 (65 : Int32) (90 : Int32)) (fun x5 => if x5 = 0 then (Option.bind (P_Mod_within a1 (192 : Int32) (222 : Int32)) (fun x18 => if x18 = 0 then (P_Mod_image_31 a1) else (if a1 = (215 : Int32) then (P_Mod_image_31 a1) else (some ((a1 + (32 : Int32))))))) else (some ((a1 + (32 : Int32)))))
def P_Mod_isOdd (a1 : Int32) : Option (Int32) :=
  if a1 = (223 : Int32) then (some ((1 : Int32))) else (if a1 = (962 : Int32) then (some ((1 : Int32))) else (if a1 = (8204 : Int32) then (some ((1 : Int32))) else (if a1 = (8205 : Int32) then (some ((1 : Int32))) else (some ((0 : Int32))))))
def P_Mod_direction (a1 : Int32) : Option (Int32) :=
  Option.bind (P_Mod_within a1 (1488 : Int32) (1514 : Int32)) (fun x7 => if x7 = 0 then (if a1 = (1575 : Int32) then (some ((2 : Int32))) else (if a1 = (1576 : Int32) then (some ((2 : Int32))) else (Option.bind (P_Mod_within a1 (1632 : Int32) (1641 : Int32)) (fun x38 => if x38 = 0 then (Option.bind (P_Mod_within a1 (48 : Int32) (57 : Int32)) (fun x51 => if x51 = 0 then (Option.bind (P_Mod_within a1 (1776 : Int32) (1785 : Int32)) (fun x64 => if x64 = 0 then (if a1 = (45 : Int32) then (some ((5 : Int32))) else (Option.bind (P_Mod_order a1) (fun x81 => if x81 ≤ 0 then (if a1 = (8204 : Int32) then (some ((7 : Int32))) else (if a1 = (8205 : Int32) then (some ((7 : Int32))) else (Option.bind (P_Mod_within a1 (0 : Int32) (127 : Int32)) (fun x111 => if x111 = 0 then (some ((9 : Int32))) else (Option.bind (P_Mod_within a1 (65 : Int32) (90 : Int32)) (fun x122 => if x122 = 0 then (Option.bind (P_Mod_within a1 (97 : Int32) (122 : Int32)) (fun x133 => if x133 = 0 then (some ((8 : Int32))) else (some ((9 : Int32))))) else (some ((9 : Int32))))))))) else (some ((6 : Int32)))))) else (some ((4 : Int32))))) else (some ((4 : Int32))))) else (some ((3 : Int32))))))) else (some ((1 : Int32))))
def P_Mod_pair_167 (a2 : Int32) (v2 : Int32) (s0 : Int32) : Option (Int32) :=
  if a2 = (768 : Int32) then (if v2 = (5 : Int32) then (some ((0 : Int32))) else (some (s0))) else (if a2 = (769 : Int32) then (some ((s0 + (1 : Int32)))) else (if v2 = 0 then (some ((228 : Int32))) else (if v2 = (1 : Int32) then (some ((235 : Int32))) else (if v2 = (2 : Int32) then (some ((239 : Int32))) else (if v2 = (3 : Int32) then (some ((246 : Int32))) else (if v2 = (4 : Int32) then (some ((252 : Int32))) else (some ((255 : Int32)))))))))
def P_Mod_pair_110 (a2 : Int32) (v2 : Int32) : Option (Int32) :=
  if v2 = 0 then (P_Mod_pair_167 a2 v2 (224 : Int32)) else (if v2 = (1 : Int32) then (P_Mod_pair_167 a2 v2 (232 : Int32)) else (if v2 = (2 : Int32) then (P_Mod_pair_167 a2 v2 (236 : Int32)) else (if v2 = (3 : Int32) then (P_Mod_pair_167 a2 v2 (242 : Int32)) else (if v2 = (4 : Int32) then (P_Mod_pair_167 a2 v2 (249 : Int32)) else (P_Mod_pair_167 a2 v2 (252 : Int32))))))
def P_Mod_pair_61 (a1 : Int32) (a2 : Int32) (s0 : Int32) : Option (Int32) :=
  if a2 = (807 : Int32) then (if a1 = (99 : Int32) then (some ((231 : Int32))) else (some ((0 : Int32)))) else (if s0 < 0 then (some ((0 : Int32))) else (if a2 = (768 : Int32) then (P_Mod_pair_110 a2 s0) else (if a2 = (769 : Int32) then (P_Mod_pair_110 a2 s0) else (if a2 = (776 : Int32) then (P_Mod_pair_110 a2 s0) else (some ((0 : Int32)))))))
def P_Mod_pair (a1 : Int32) (a2 : Int32) : Option (Int32) :=
  if a1 = (97 : Int32) then (P_Mod_pair_61 a1 a2 (0 : Int32)) else (if a1 = (101 : Int32) then (P_Mod_pair_61 a1 a2 (1 : Int32)) else (if a1 = (105 : Int32) then (P_Mod_pair_61 a1 a2 (2 : Int32)) else (if a1 = (111 : Int32) then (P_Mod_pair_61 a1 a2 (3 : Int32)) else (if a1 = (117 : Int32) then (P_Mod_pair_61 a1 a2 (4 : Int32)) else (if a1 = (121 : Int32) then (P_Mod_pair_61 a1 a2 (5 : Int32)) else (P_Mod_pair_61 a1 a2 (-1 : Int32)))))))
def P_Mod_letterOf_60 (a1 : Int32) (k5 : (Int32) → (Int32) → Option (Int32)) (v1 : Int32) (v2 : Int32) (s0 : Int32) : Option (Int32) :=
  if a1 ≤ 0 then (k5 v1 (v2 + (1 : Int32))) else (if s0 = 0 then (k5 v1 (v2 + (1 : Int32))) else (k5 v2 (v2 + (1 : Int32))))
def P_Mod_letterOf_5 (a1 : Int32) (k5 : (Int32) → (Int32) → Option (Int32)) (v1 : Int32) (v2 : Int32) : Option (Int32) :=
  if (121 : Int32) < v2 then (some (v1)) else (Option.bind (P_Mod_pair v2 (768 : Int32)) (fun x15 => if x15 = a1 then (P_Mod_letterOf_60 a1 k5 v1 v2 (1 : Int32)) else (Option.bind (P_Mod_pair v2 (769 : Int32)) (fun x26 => if x26 = a1 then (P_Mod_letterOf_60 a1 k5 v1 v2 (1 : Int32)) else (Option.bind (P_Mod_pair v2 (776 : Int32)) (fun x37 => if x37 = a1 then (P_Mod_letterOf_60 a1 k5 v1 v2 (1 : Int32)) else (Option.bind (P_Mod_pair v2 (807 : Int32)) (fun x48 => if x48 = a1 then (P_Mod_letterOf_60 a1 k5 v1 v2 (1 : Int32)) else (P_Mod_letterOf_60 a1 k5 v1 v2 (0 : Int32))))))))))
def P_Mod_letterOf (a1 : Int32) : Option (Int32) :=
  fl2 (P_Mod_letterOf_5 a1) fu (0 : Int32) (97 : Int32)
def P_Mod_markOf (a1 : Int32) : Option (Int32) :=
  Option.bind (P_Mod_letterOf a1) (fun x1 => Option.bind (P_Mod_pair x1 (768 : Int32)) (fun x9 => if x9 = a1 then (some ((768 : Int32))) else (Option.bind (P_Mod_pair x1 (769 : Int32)) (fun x26 => if x26 = a1 then (some ((769 : Int32))) else (Option.bind (P_Mod_pair x1 (776 : Int32)) (fun x43 => if x43 = a1 then (some ((776 : Int32))) else (some ((807 : Int32)))))))))
def P_Mod_adapt_29 (k29 : (Int32) → (Int32) → Option (Int32)) (v4 : Int32) (v5 : Int32) : Option (Int32) :=
  if v4 ≤ (455 : Int32) then (gz (v4 + (38 : Int32)) (some ((v5 + (((36 : Int32) * v4) / (v4 + (38 : Int32))))))) else (k29 (v4 / (35 : Int32)) (v5 + (36 : Int32)))
def P_Mod_adapt_15 (a2 : Int32) (s0 : Int32) : Option (Int32) :=
  gz a2 (fl2 (P_Mod_adapt_29) fu (s0 + (s0 / a2)) (0 : Int32))
def P_Mod_adapt (a1 : Int32) (a2 : Int32) (a3 : Int32) : Option (Int32) :=
  if a3 = 0 then (P_Mod_adapt_15 a2 (a1 / (2 : Int32))) else (P_Mod_adapt_15 a2 (a1 / (700 : Int32)))
def P_Mod_threshold (n_this_bias : Int32) (a1 : Int32) : Option (Int32) :=
  if (1 : Int32) ≤ (a1 - n_this_bias) then (if (a1 - n_this_bias) ≤ (26 : Int32) then (some ((a1 - n_this_bias))) else (some ((26 : Int32)))) else (some ((1 : Int32)))
def P_Mod_out (n_this_size : Int32) (f_this_result : Nat → Int32) (a1 : Int32) : Option (Int32 × (Nat → Int32)) :=
  gi n_this_size 2000 (some ((n_this_size + (1 : Int32)), (upd f_this_result (n_this_size).toNatClampNeg a1)))
def P_Mod_outDigit_18 (s0 : Int32) (n_this_size : Int32) (f_this_result : Nat → Int32) : Option (Int32 × (Nat → Int32)) :=
  Option.bind (P_Mod_out n_this_size f_this_result s0) (fun x18 => some (x18.1, x18.2))
def P_Mod_outDigit (n_this_size : Int32) (f_this_result : Nat → Int32) (a1 : Int32) : Option (Int32 × (Nat → Int32)) :=
  if (26 : Int32) ≤ a1 then (P_Mod_outDigit_18 ((22 : Int32) + a1) n_this_size f_this_result) else (P_Mod_outDigit_18 ((97 : Int32) + a1) n_this_size f_this_result)
def P_Mod_digit (a1 : Int32) : Option (Int32) :=
  Option.bind (P_Mod_within a1 (97 : Int32) (122 : Int32)) (fun x5 => if x5 = 0 then (Option.bind (P_Mod_within a1 (65 : Int32) (90 : Int32)) (fun x23 => if x23 = 0 then (Option.bind (P_Mod_within a1 (48 : Int32) (57 : Int32)) (fun x41 => if x41 = 0 then (some ((-1 : Int32))) else (some ((a1 - (22 : Int32)))))) else (some ((a1 - (65 : Int32)))))) else (some ((a1 - (97 : Int32)))))
def P_Mod_on (a1 : Int32) (a2 : Int32) : Option (Int32) :=
  if (a1 &&& a2) = 0 then (some ((0 : Int32))) else (some ((1 : Int32)))
def P_Mod_add (n_this_rowSize : Int32) (f_this_row : Nat → Int32) (a1 : Int32) : Option (Int32 × (Nat → Int32)) :=
  gi n_this_rowSize 200 (some ((n_this_rowSize + (1 : Int32)), (upd f_this_row (n_this_rowSize).toNatClampNeg a1)))
def P_Mod_codeOf (f_this_starts : Nat → Int32) (f_this_pool : Nat → Int32) (a1 : Int32) (a2 : Int32) : Option (Int32) :=
  gi a1 50 (gi ((f_this_starts (a1).toNatClampNeg) + a2) 300 (some ((f_this_pool (((f_this_starts (a1).toNatClampNeg) + a2)).toNatClampNeg))))
def P_Mod_joins (a1 : Int32) : Option (Int32) :=
  if a1 = (1575 : Int32) then (some ((1 : Int32))) else (if a1 = (1576 : Int32) then (some ((2 : Int32))) else (if a1 = (1614 : Int32) then (some ((3 : Int32))) else (if a1 = (2381 : Int32) then (some ((3 : Int32))) else (some ((0 : Int32))))))
