def hn_T : List Cond := lw_tbl.filter goodWord
theorem hn_in {w : Cond} (i : Nat) (h : tables_1[i]? = some w) (hg : goodWord w = true) : w ∈ hn_T := List.mem_filter.mpr ⟨List.mem_append_right _ (List.mem_of_getElem? h), hg⟩
theorem hn_inS {w : Cond} (i : Nat) (h : (k2_sels lw_privs)[i]? = some w) (hg : goodWord w = true) : w ∈ hn_T := List.mem_filter.mpr ⟨List.mem_append_left _ (List.mem_of_getElem? h), hg⟩
theorem mw_0 : Cond.initialized R_Law ∈ hn_T := hn_in 0 (by decide +kernel) rfl
theorem mw_1 : Cond.initialized R_Host ∈ hn_T := hn_in 1 (by decide +kernel) rfl
theorem mw_2 : Cond.initialized R_Row ∈ hn_T := hn_in 2 (by decide +kernel) rfl
theorem mw_3 : Cond.initialized R_Labels ∈ hn_T := hn_in 3 (by decide +kernel) rfl
theorem mw_4 : Cond.initialized R_Composer ∈ hn_T := hn_in 4 (by decide +kernel) rfl
theorem mw_5 : Cond.initialized R_Packer ∈ hn_T := hn_in 5 (by decide +kernel) rfl
theorem mw_6 : Cond.initialized R_Checker ∈ hn_T := hn_in 6 (by decide +kernel) rfl
theorem mw_7 : Cond.initialized R_Mod ∈ hn_T := hn_in 7 (by decide +kernel) rfl
theorem mw_8 : Cond.initialized R_Codes ∈ hn_T := hn_in 8 (by decide +kernel) rfl
theorem mw_9 : Cond.initialized R_Math ∈ hn_T := hn_in 9 (by decide +kernel) rfl
theorem mw_10 : Cond.classLink R_Law 7 R_Host ∈ hn_T := hn_in 10 (by decide +kernel) rfl
theorem mw_11 : Cond.instantiable R_Host 10 ∈ hn_T := hn_in 11 (by decide +kernel) rfl
theorem mw_12 : Cond.methodLink R_Law 9 y_Host_init ∈ hn_T := hn_in 12 (by decide +kernel) rfl
theorem mw_13 : Cond.instanceMethod y_Host_init ∈ hn_T := hn_in 13 (by decide +kernel) rfl
set_option maxRecDepth 100000 in
theorem mw_14 : Cond.code y_Host_init b_Host_init 1 none ∈ hn_T := hn_in 14 rfl rfl
theorem mw_15 : Cond.methodLink R_Host 3 objectInit ∈ hn_T := hn_in 15 (by decide +kernel) rfl
theorem mw_16 : Cond.instanceMethod objectInit ∈ hn_T := hn_in 16 (by decide +kernel) rfl
set_option maxRecDepth 100000 in
theorem mw_17 : Cond.code objectInit ⟨#[0xb1]⟩ 1 none ∈ hn_T := hn_in 17 rfl rfl
theorem mw_18 : Cond.classLink R_Host 9 R_Row ∈ hn_T := hn_in 18 (by decide +kernel) rfl
theorem mw_19 : Cond.instantiable R_Row 2 ∈ hn_T := hn_in 19 (by decide +kernel) rfl
theorem mw_20 : Cond.methodLink R_Host 11 y_Row_init ∈ hn_T := hn_in 20 (by decide +kernel) rfl
theorem mw_21 : Cond.instanceMethod y_Row_init ∈ hn_T := hn_in 21 (by decide +kernel) rfl
set_option maxRecDepth 100000 in
theorem mw_22 : Cond.code y_Row_init b_Row_init 2 none ∈ hn_T := hn_in 22 rfl rfl
theorem mw_23 : Cond.methodLink R_Row 3 objectInit ∈ hn_T := hn_in 23 (by decide +kernel) rfl
theorem mw_24 : Cond.fieldLink R_Row 9 "HostNames$Row" "codes" "[I" ∈ hn_T := hn_in 24 (by decide +kernel) rfl
theorem mw_25 : Cond.fieldLink R_Row 15 "HostNames$Row" "size" "I" ∈ hn_T := hn_in 25 (by decide +kernel) rfl
theorem mw_31 : Cond.arrayClass .int ∈ hn_T := hn_in 31 (by decide +kernel) rfl
theorem mw_32 : Cond.classLink R_Host 33 R_Labels ∈ hn_T := hn_in 32 (by decide +kernel) rfl
theorem mw_33 : Cond.instantiable R_Labels 5 ∈ hn_T := hn_in 33 (by decide +kernel) rfl
theorem mw_34 : Cond.methodLink R_Host 35 y_Labels_init ∈ hn_T := hn_in 34 (by decide +kernel) rfl
theorem mw_35 : Cond.instanceMethod y_Labels_init ∈ hn_T := hn_in 35 (by decide +kernel) rfl
set_option maxRecDepth 100000 in
theorem mw_36 : Cond.code y_Labels_init b_Labels_init 1 none ∈ hn_T := hn_in 36 rfl rfl
theorem mw_37 : Cond.methodLink R_Labels 3 objectInit ∈ hn_T := hn_in 37 (by decide +kernel) rfl
theorem mw_38 : Cond.classLink R_Labels 9 R_Row ∈ hn_T := hn_in 38 (by decide +kernel) rfl
theorem mw_39 : Cond.methodLink R_Labels 11 y_Row_init ∈ hn_T := hn_in 39 (by decide +kernel) rfl
theorem mw_40 : Cond.fieldLink R_Labels 14 "HostNames$Labels" "codes" "LHostNames$Row;" ∈ hn_T := hn_in 40 (by decide +kernel) rfl
theorem mw_41 : Cond.fieldLink R_Labels 20 "HostNames$Labels" "ends" "[I" ∈ hn_T := hn_in 41 (by decide +kernel) rfl
theorem mw_42 : Cond.fieldLink R_Labels 24 "HostNames$Labels" "rules" "[I" ∈ hn_T := hn_in 42 (by decide +kernel) rfl
theorem mw_43 : Cond.fieldLink R_Labels 27 "HostNames$Labels" "tagged" "[Z" ∈ hn_T := hn_in 43 (by decide +kernel) rfl
theorem mw_44 : Cond.fieldLink R_Labels 31 "HostNames$Labels" "count" "I" ∈ hn_T := hn_in 44 (by decide +kernel) rfl
theorem mw_56 : Cond.arrayClass .boolean ∈ hn_T := hn_in 56 (by decide +kernel) rfl
theorem mw_57 : Cond.classLink R_Host 40 R_Composer ∈ hn_T := hn_in 57 (by decide +kernel) rfl
theorem mw_58 : Cond.instantiable R_Composer 1 ∈ hn_T := hn_in 58 (by decide +kernel) rfl
theorem mw_59 : Cond.methodLink R_Host 42 y_Composer_init ∈ hn_T := hn_in 59 (by decide +kernel) rfl
theorem mw_60 : Cond.instanceMethod y_Composer_init ∈ hn_T := hn_in 60 (by decide +kernel) rfl
set_option maxRecDepth 100000 in
theorem mw_61 : Cond.code y_Composer_init b_Composer_init 1 none ∈ hn_T := hn_in 61 rfl rfl
theorem mw_62 : Cond.methodLink R_Composer 3 objectInit ∈ hn_T := hn_in 62 (by decide +kernel) rfl
theorem mw_63 : Cond.classLink R_Composer 9 R_Row ∈ hn_T := hn_in 63 (by decide +kernel) rfl
theorem mw_64 : Cond.methodLink R_Composer 11 y_Row_init ∈ hn_T := hn_in 64 (by decide +kernel) rfl
theorem mw_65 : Cond.fieldLink R_Composer 14 "HostNames$Composer" "parts" "LHostNames$Row;" ∈ hn_T := hn_in 65 (by decide +kernel) rfl
theorem mw_69 : Cond.classLink R_Host 47 R_Packer ∈ hn_T := hn_in 69 (by decide +kernel) rfl
theorem mw_70 : Cond.instantiable R_Packer 2 ∈ hn_T := hn_in 70 (by decide +kernel) rfl
theorem mw_71 : Cond.methodLink R_Host 49 y_Packer_init ∈ hn_T := hn_in 71 (by decide +kernel) rfl
theorem mw_72 : Cond.instanceMethod y_Packer_init ∈ hn_T := hn_in 72 (by decide +kernel) rfl
set_option maxRecDepth 100000 in
theorem mw_73 : Cond.code y_Packer_init b_Packer_init 1 none ∈ hn_T := hn_in 73 rfl rfl
theorem mw_74 : Cond.methodLink R_Packer 3 objectInit ∈ hn_T := hn_in 74 (by decide +kernel) rfl
theorem mw_75 : Cond.fieldLink R_Packer 11 "HostNames$Packer" "bias" "I" ∈ hn_T := hn_in 75 (by decide +kernel) rfl
theorem mw_76 : Cond.fieldLink R_Packer 15 "HostNames$Packer" "next" "I" ∈ hn_T := hn_in 76 (by decide +kernel) rfl
theorem mw_82 : Cond.classLink R_Host 54 R_Checker ∈ hn_T := hn_in 82 (by decide +kernel) rfl
theorem mw_83 : Cond.instantiable R_Checker 2 ∈ hn_T := hn_in 83 (by decide +kernel) rfl
theorem mw_84 : Cond.methodLink R_Host 56 y_Checker_init ∈ hn_T := hn_in 84 (by decide +kernel) rfl
theorem mw_85 : Cond.instanceMethod y_Checker_init ∈ hn_T := hn_in 85 (by decide +kernel) rfl
set_option maxRecDepth 100000 in
theorem mw_86 : Cond.code y_Checker_init b_Checker_init 1 none ∈ hn_T := hn_in 86 rfl rfl
theorem mw_87 : Cond.methodLink R_Checker 3 objectInit ∈ hn_T := hn_in 87 (by decide +kernel) rfl
theorem mw_88 : Cond.classLink R_Checker 9 R_Composer ∈ hn_T := hn_in 88 (by decide +kernel) rfl
theorem mw_89 : Cond.methodLink R_Checker 11 y_Composer_init ∈ hn_T := hn_in 89 (by decide +kernel) rfl
theorem mw_90 : Cond.classLink R_Checker 18 R_Row ∈ hn_T := hn_in 90 (by decide +kernel) rfl
theorem mw_91 : Cond.methodLink R_Checker 20 y_Row_init ∈ hn_T := hn_in 91 (by decide +kernel) rfl
theorem mw_92 : Cond.fieldLink R_Checker 12 "HostNames$Checker" "composer" "LHostNames$Composer;" ∈ hn_T := hn_in 92 (by decide +kernel) rfl
theorem mw_93 : Cond.fieldLink R_Checker 23 "HostNames$Checker" "form" "LHostNames$Row;" ∈ hn_T := hn_in 93 (by decide +kernel) rfl
theorem mw_99 : Cond.fieldLink R_Host 14 "HostNames" "text" "LHostNames$Row;" ∈ hn_T := hn_in 99 (by decide +kernel) rfl
theorem mw_100 : Cond.fieldLink R_Host 18 "HostNames" "result" "LHostNames$Row;" ∈ hn_T := hn_in 100 (by decide +kernel) rfl
theorem mw_101 : Cond.fieldLink R_Host 21 "HostNames" "mapped" "LHostNames$Row;" ∈ hn_T := hn_in 101 (by decide +kernel) rfl
theorem mw_102 : Cond.fieldLink R_Host 24 "HostNames" "composed" "LHostNames$Row;" ∈ hn_T := hn_in 102 (by decide +kernel) rfl
theorem mw_103 : Cond.fieldLink R_Host 27 "HostNames" "label" "LHostNames$Row;" ∈ hn_T := hn_in 103 (by decide +kernel) rfl
theorem mw_104 : Cond.fieldLink R_Host 30 "HostNames" "unpacked" "LHostNames$Row;" ∈ hn_T := hn_in 104 (by decide +kernel) rfl
theorem mw_105 : Cond.fieldLink R_Host 36 "HostNames" "found" "LHostNames$Labels;" ∈ hn_T := hn_in 105 (by decide +kernel) rfl
theorem mw_106 : Cond.fieldLink R_Host 43 "HostNames" "composer" "LHostNames$Composer;" ∈ hn_T := hn_in 106 (by decide +kernel) rfl
theorem mw_107 : Cond.fieldLink R_Host 50 "HostNames" "packer" "LHostNames$Packer;" ∈ hn_T := hn_in 107 (by decide +kernel) rfl
theorem mw_108 : Cond.fieldLink R_Host 57 "HostNames" "checker" "LHostNames$Checker;" ∈ hn_T := hn_in 108 (by decide +kernel) rfl
theorem mw_130 : Cond.methodLink R_Law 13 y_Host_put ∈ hn_T := hn_in 130 (by decide +kernel) rfl
theorem mw_131 : Cond.instanceMethod y_Host_put ∈ hn_T := hn_in 131 (by decide +kernel) rfl
theorem mw_132 : Cond.selects R_Host y_Host_put y_Host_put ∈ hn_T := hn_in 132 (by decide +kernel) rfl
set_option maxRecDepth 100000 in
theorem mw_133 : Cond.code y_Host_put b_Host_put 3 (some .boolean) ∈ hn_T := hn_in 133 rfl rfl
theorem mw_134 : Cond.constant R_Host 61 55296 ∈ hn_T := hn_in 134 (by decide +kernel) rfl
theorem mw_135 : Cond.constant R_Host 62 57343 ∈ hn_T := hn_in 135 (by decide +kernel) rfl
theorem mw_136 : Cond.methodLink R_Host 63 y_Codes_isWithin ∈ hn_T := hn_in 136 (by decide +kernel) rfl
theorem mw_137 : Cond.static y_Codes_isWithin ∈ hn_T := hn_in 137 (by decide +kernel) rfl
set_option maxRecDepth 100000 in
theorem mw_138 : Cond.code y_Codes_isWithin b_Codes_isWithin 3 (some .boolean) ∈ hn_T := hn_in 138 rfl rfl
theorem mw_139 : Cond.constant R_Host 69 1114111 ∈ hn_T := hn_in 139 (by decide +kernel) rfl
theorem mw_140 : Cond.methodLink R_Host 70 y_Row_add ∈ hn_T := hn_in 140 (by decide +kernel) rfl
theorem mw_141 : Cond.instanceMethod y_Row_add ∈ hn_T := hn_in 141 (by decide +kernel) rfl
theorem mw_142 : Cond.selects R_Row y_Row_add y_Row_add ∈ hn_T := hn_in 142 (by decide +kernel) rfl
set_option maxRecDepth 100000 in
theorem mw_143 : Cond.code y_Row_add b_Row_add 2 (some .boolean) ∈ hn_T := hn_in 143 rfl rfl
theorem mw_144 : Cond.methodLink R_Law 20 y_Host_type ∈ hn_T := hn_in 144 (by decide +kernel) rfl
theorem mw_145 : Cond.instanceMethod y_Host_type ∈ hn_T := hn_in 145 (by decide +kernel) rfl
theorem mw_146 : Cond.selects R_Host y_Host_type y_Host_type ∈ hn_T := hn_in 146 (by decide +kernel) rfl
set_option maxRecDepth 100000 in
theorem mw_147 : Cond.code y_Host_type b_Host_type 5 (some .boolean) ∈ hn_T := hn_in 147 rfl rfl
theorem mw_148 : Cond.methodLink R_Host 74 y_Row_size ∈ hn_T := hn_in 148 (by decide +kernel) rfl
theorem mw_149 : Cond.instanceMethod y_Row_size ∈ hn_T := hn_in 149 (by decide +kernel) rfl
theorem mw_150 : Cond.selects R_Row y_Row_size y_Row_size ∈ hn_T := hn_in 150 (by decide +kernel) rfl
set_option maxRecDepth 100000 in
theorem mw_151 : Cond.code y_Row_size b_Row_size 1 (some .int) ∈ hn_T := hn_in 151 rfl rfl
theorem mw_152 : Cond.methodLink R_Law 25 y_Host_clear ∈ hn_T := hn_in 152 (by decide +kernel) rfl
theorem mw_153 : Cond.instanceMethod y_Host_clear ∈ hn_T := hn_in 153 (by decide +kernel) rfl
theorem mw_154 : Cond.selects R_Host y_Host_clear y_Host_clear ∈ hn_T := hn_in 154 (by decide +kernel) rfl
set_option maxRecDepth 100000 in
theorem mw_155 : Cond.code y_Host_clear b_Host_clear 2 (some .int) ∈ hn_T := hn_in 155 rfl rfl
theorem mw_156 : Cond.methodLink R_Host 78 y_Row_empty ∈ hn_T := hn_in 156 (by decide +kernel) rfl
theorem mw_157 : Cond.instanceMethod y_Row_empty ∈ hn_T := hn_in 157 (by decide +kernel) rfl
theorem mw_158 : Cond.selects R_Row y_Row_empty y_Row_empty ∈ hn_T := hn_in 158 (by decide +kernel) rfl
set_option maxRecDepth 100000 in
theorem mw_159 : Cond.code y_Row_empty b_Row_empty 1 none ∈ hn_T := hn_in 159 rfl rfl
theorem mw_160 : Cond.methodLink R_Law 30 y_Host_process ∈ hn_T := hn_in 160 (by decide +kernel) rfl
theorem mw_161 : Cond.instanceMethod y_Host_process ∈ hn_T := hn_in 161 (by decide +kernel) rfl
theorem mw_162 : Cond.selects R_Host y_Host_process y_Host_process ∈ hn_T := hn_in 162 (by decide +kernel) rfl
set_option maxRecDepth 100000 in
theorem mw_163 : Cond.code y_Host_process b_Host_process 4 (some .int) ∈ hn_T := hn_in 163 rfl rfl
theorem mw_164 : Cond.methodLink R_Host 81 y_Host_mapText ∈ hn_T := hn_in 164 (by decide +kernel) rfl
theorem mw_166 : Cond.instanceMethod y_Host_mapText ∈ hn_T := hn_in 166 (by decide +kernel) rfl
set_option maxRecDepth 100000 in
theorem mw_167 : Cond.code y_Host_mapText b_Host_mapText 6 (some .int) ∈ hn_T := hn_in 167 rfl rfl
theorem mw_168 : Cond.methodLink R_Host 102 y_Row_get ∈ hn_T := hn_in 168 (by decide +kernel) rfl
theorem mw_169 : Cond.instanceMethod y_Row_get ∈ hn_T := hn_in 169 (by decide +kernel) rfl
theorem mw_170 : Cond.selects R_Row y_Row_get y_Row_get ∈ hn_T := hn_in 170 (by decide +kernel) rfl
set_option maxRecDepth 100000 in
theorem mw_171 : Cond.code y_Row_get b_Row_get 2 (some .int) ∈ hn_T := hn_in 171 rfl rfl
theorem mw_172 : Cond.methodLink R_Host 122 y_Host_mapCode ∈ hn_T := hn_in 172 (by decide +kernel) rfl
theorem mw_174 : Cond.instanceMethod y_Host_mapCode ∈ hn_T := hn_in 174 (by decide +kernel) rfl
set_option maxRecDepth 100000 in
theorem mw_175 : Cond.code y_Host_mapCode b_Host_mapCode 5 (some .boolean) ∈ hn_T := hn_in 175 rfl rfl
theorem mw_176 : Cond.methodLink R_Host 129 y_Codes_isOdd ∈ hn_T := hn_in 176 (by decide +kernel) rfl
theorem mw_177 : Cond.static y_Codes_isOdd ∈ hn_T := hn_in 177 (by decide +kernel) rfl
set_option maxRecDepth 100000 in
theorem mw_178 : Cond.code y_Codes_isOdd b_Codes_isOdd 1 (some .boolean) ∈ hn_T := hn_in 178 rfl rfl
theorem mw_179 : Cond.methodLink R_Host 132 y_Host_mapOdd ∈ hn_T := hn_in 179 (by decide +kernel) rfl
theorem mw_181 : Cond.instanceMethod y_Host_mapOdd ∈ hn_T := hn_in 181 (by decide +kernel) rfl
set_option maxRecDepth 100000 in
theorem mw_182 : Cond.code y_Host_mapOdd b_Host_mapOdd 2 none ∈ hn_T := hn_in 182 rfl rfl
theorem mw_183 : Cond.methodLink R_Host 135 y_Codes_mappedTo ∈ hn_T := hn_in 183 (by decide +kernel) rfl
theorem mw_184 : Cond.static y_Codes_mappedTo ∈ hn_T := hn_in 184 (by decide +kernel) rfl
set_option maxRecDepth 100000 in
theorem mw_185 : Cond.code y_Codes_mappedTo b_Codes_mappedTo 3 (some .int) ∈ hn_T := hn_in 185 rfl rfl
theorem mw_186 : Cond.constant R_Codes 32 65281 ∈ hn_T := hn_in 186 (by decide +kernel) rfl
theorem mw_187 : Cond.constant R_Codes 33 65374 ∈ hn_T := hn_in 187 (by decide +kernel) rfl
theorem mw_188 : Cond.methodLink R_Codes 15 y_Codes_isWithin ∈ hn_T := hn_in 188 (by decide +kernel) rfl
theorem mw_189 : Cond.constant R_Codes 34 65248 ∈ hn_T := hn_in 189 (by decide +kernel) rfl
theorem mw_190 : Cond.methodLink R_Codes 19 y_Codes_isCapital ∈ hn_T := hn_in 190 (by decide +kernel) rfl
theorem mw_191 : Cond.static y_Codes_isCapital ∈ hn_T := hn_in 191 (by decide +kernel) rfl
set_option maxRecDepth 100000 in
theorem mw_192 : Cond.code y_Codes_isCapital b_Codes_isCapital 1 (some .boolean) ∈ hn_T := hn_in 192 rfl rfl
theorem mw_193 : Cond.methodLink R_Host 138 y_Codes_isGood ∈ hn_T := hn_in 193 (by decide +kernel) rfl
theorem mw_194 : Cond.static y_Codes_isGood ∈ hn_T := hn_in 194 (by decide +kernel) rfl
set_option maxRecDepth 100000 in
theorem mw_195 : Cond.code y_Codes_isGood b_Codes_isGood 3 (some .boolean) ∈ hn_T := hn_in 195 rfl rfl
theorem mw_196 : Cond.methodLink R_Codes 23 y_Codes_isInGoodRanges ∈ hn_T := hn_in 196 (by decide +kernel) rfl
theorem mw_197 : Cond.static y_Codes_isInGoodRanges ∈ hn_T := hn_in 197 (by decide +kernel) rfl
set_option maxRecDepth 100000 in
theorem mw_198 : Cond.code y_Codes_isInGoodRanges b_Codes_isInGoodRanges 2 (some .boolean) ∈ hn_T := hn_in 198 rfl rfl
theorem mw_199 : Cond.fieldLink R_Codes 9 "HostNames$Codes" "GOOD_RANGES" "[I" ∈ hn_T := hn_in 199 (by decide +kernel) rfl
theorem mw_201 : Cond.methodLink R_Codes 26 y_Codes_isPlain ∈ hn_T := hn_in 201 (by decide +kernel) rfl
theorem mw_202 : Cond.static y_Codes_isPlain ∈ hn_T := hn_in 202 (by decide +kernel) rfl
set_option maxRecDepth 100000 in
theorem mw_203 : Cond.code y_Codes_isPlain b_Codes_isPlain 1 (some .boolean) ∈ hn_T := hn_in 203 rfl rfl
theorem mw_204 : Cond.methodLink R_Codes 29 y_Codes_isOdd ∈ hn_T := hn_in 204 (by decide +kernel) rfl
theorem mw_205 : Cond.methodLink R_Host 126 y_Host_bit ∈ hn_T := hn_in 205 (by decide +kernel) rfl
theorem mw_206 : Cond.static y_Host_bit ∈ hn_T := hn_in 206 (by decide +kernel) rfl
set_option maxRecDepth 100000 in
theorem mw_207 : Cond.code y_Host_bit b_Host_bit 1 (some .int) ∈ hn_T := hn_in 207 rfl rfl
theorem mw_208 : Cond.methodLink R_Host 85 y_Composer_form ∈ hn_T := hn_in 208 (by decide +kernel) rfl
theorem mw_209 : Cond.instanceMethod y_Composer_form ∈ hn_T := hn_in 209 (by decide +kernel) rfl
theorem mw_210 : Cond.selects R_Composer y_Composer_form y_Composer_form ∈ hn_T := hn_in 210 (by decide +kernel) rfl
set_option maxRecDepth 100000 in
theorem mw_211 : Cond.code y_Composer_form b_Composer_form 3 none ∈ hn_T := hn_in 211 rfl rfl
theorem mw_212 : Cond.methodLink R_Composer 20 y_Composer_takeApart ∈ hn_T := hn_in 212 (by decide +kernel) rfl
theorem mw_214 : Cond.instanceMethod y_Composer_takeApart ∈ hn_T := hn_in 214 (by decide +kernel) rfl
set_option maxRecDepth 100000 in
theorem mw_215 : Cond.code y_Composer_takeApart b_Composer_takeApart 5 none ∈ hn_T := hn_in 215 rfl rfl
theorem mw_216 : Cond.methodLink R_Composer 30 y_Row_empty ∈ hn_T := hn_in 216 (by decide +kernel) rfl
theorem mw_217 : Cond.methodLink R_Composer 33 y_Row_size ∈ hn_T := hn_in 217 (by decide +kernel) rfl
theorem mw_218 : Cond.methodLink R_Composer 37 y_Row_get ∈ hn_T := hn_in 218 (by decide +kernel) rfl
theorem mw_219 : Cond.methodLink R_Composer 41 y_Composer_pairOfCode ∈ hn_T := hn_in 219 (by decide +kernel) rfl
theorem mw_220 : Cond.static y_Composer_pairOfCode ∈ hn_T := hn_in 220 (by decide +kernel) rfl
set_option maxRecDepth 100000 in
theorem mw_221 : Cond.code y_Composer_pairOfCode b_Composer_pairOfCode 2 (some .int) ∈ hn_T := hn_in 221 rfl rfl
theorem mw_222 : Cond.fieldLink R_Composer 55 "HostNames$Composer" "PAIR_CODES" "[I" ∈ hn_T := hn_in 222 (by decide +kernel) rfl
theorem mw_224 : Cond.methodLink R_Composer 44 y_Row_add ∈ hn_T := hn_in 224 (by decide +kernel) rfl
theorem mw_225 : Cond.fieldLink R_Composer 48 "HostNames$Composer" "PAIR_LETTERS" "[I" ∈ hn_T := hn_in 225 (by decide +kernel) rfl
theorem mw_227 : Cond.fieldLink R_Composer 52 "HostNames$Composer" "PAIR_MARKS" "[I" ∈ hn_T := hn_in 227 (by decide +kernel) rfl
theorem mw_229 : Cond.methodLink R_Composer 24 y_Composer_sortMarks ∈ hn_T := hn_in 229 (by decide +kernel) rfl
theorem mw_231 : Cond.instanceMethod y_Composer_sortMarks ∈ hn_T := hn_in 231 (by decide +kernel) rfl
set_option maxRecDepth 100000 in
theorem mw_232 : Cond.code y_Composer_sortMarks b_Composer_sortMarks 6 none ∈ hn_T := hn_in 232 rfl rfl
theorem mw_233 : Cond.methodLink R_Composer 58 y_Codes_order ∈ hn_T := hn_in 233 (by decide +kernel) rfl
theorem mw_234 : Cond.static y_Codes_order ∈ hn_T := hn_in 234 (by decide +kernel) rfl
set_option maxRecDepth 100000 in
theorem mw_235 : Cond.code y_Codes_order b_Codes_order 1 (some .int) ∈ hn_T := hn_in 235 rfl rfl
theorem mw_236 : Cond.methodLink R_Composer 63 y_Row_set ∈ hn_T := hn_in 236 (by decide +kernel) rfl
theorem mw_237 : Cond.instanceMethod y_Row_set ∈ hn_T := hn_in 237 (by decide +kernel) rfl
theorem mw_238 : Cond.selects R_Row y_Row_set y_Row_set ∈ hn_T := hn_in 238 (by decide +kernel) rfl
set_option maxRecDepth 100000 in
theorem mw_239 : Cond.code y_Row_set b_Row_set 3 none ∈ hn_T := hn_in 239 rfl rfl
theorem mw_240 : Cond.methodLink R_Composer 27 y_Composer_join ∈ hn_T := hn_in 240 (by decide +kernel) rfl
theorem mw_242 : Cond.instanceMethod y_Composer_join ∈ hn_T := hn_in 242 (by decide +kernel) rfl
set_option maxRecDepth 100000 in
theorem mw_243 : Cond.code y_Composer_join b_Composer_join 8 none ∈ hn_T := hn_in 243 rfl rfl
theorem mw_244 : Cond.methodLink R_Composer 67 y_Composer_pairOfParts ∈ hn_T := hn_in 244 (by decide +kernel) rfl
theorem mw_245 : Cond.static y_Composer_pairOfParts ∈ hn_T := hn_in 245 (by decide +kernel) rfl
set_option maxRecDepth 100000 in
theorem mw_246 : Cond.code y_Composer_pairOfParts b_Composer_pairOfParts 3 (some .int) ∈ hn_T := hn_in 246 rfl rfl
theorem mw_247 : Cond.methodLink R_Host 89 y_Host_cutIntoLabels ∈ hn_T := hn_in 247 (by decide +kernel) rfl
theorem mw_249 : Cond.instanceMethod y_Host_cutIntoLabels ∈ hn_T := hn_in 249 (by decide +kernel) rfl
set_option maxRecDepth 100000 in
theorem mw_250 : Cond.code y_Host_cutIntoLabels b_Host_cutIntoLabels 3 none ∈ hn_T := hn_in 250 rfl rfl
theorem mw_251 : Cond.methodLink R_Host 141 y_Labels_empty ∈ hn_T := hn_in 251 (by decide +kernel) rfl
theorem mw_252 : Cond.instanceMethod y_Labels_empty ∈ hn_T := hn_in 252 (by decide +kernel) rfl
theorem mw_253 : Cond.selects R_Labels y_Labels_empty y_Labels_empty ∈ hn_T := hn_in 253 (by decide +kernel) rfl
set_option maxRecDepth 100000 in
theorem mw_254 : Cond.code y_Labels_empty b_Labels_empty 1 none ∈ hn_T := hn_in 254 rfl rfl
theorem mw_255 : Cond.methodLink R_Labels 35 y_Row_empty ∈ hn_T := hn_in 255 (by decide +kernel) rfl
theorem mw_256 : Cond.methodLink R_Host 118 y_Row_addPart ∈ hn_T := hn_in 256 (by decide +kernel) rfl
theorem mw_257 : Cond.instanceMethod y_Row_addPart ∈ hn_T := hn_in 257 (by decide +kernel) rfl
theorem mw_258 : Cond.selects R_Row y_Row_addPart y_Row_addPart ∈ hn_T := hn_in 258 (by decide +kernel) rfl
set_option maxRecDepth 100000 in
theorem mw_259 : Cond.code y_Row_addPart b_Row_addPart 5 none ∈ hn_T := hn_in 259 rfl rfl
theorem mw_260 : Cond.methodLink R_Row 19 y_Row_get ∈ hn_T := hn_in 260 (by decide +kernel) rfl
theorem mw_261 : Cond.methodLink R_Row 23 y_Row_add ∈ hn_T := hn_in 261 (by decide +kernel) rfl
theorem mw_262 : Cond.methodLink R_Host 142 y_Host_keepLabel ∈ hn_T := hn_in 262 (by decide +kernel) rfl
theorem mw_264 : Cond.instanceMethod y_Host_keepLabel ∈ hn_T := hn_in 264 (by decide +kernel) rfl
set_option maxRecDepth 100000 in
theorem mw_265 : Cond.code y_Host_keepLabel b_Host_keepLabel 2 none ∈ hn_T := hn_in 265 rfl rfl
theorem mw_266 : Cond.methodLink R_Host 145 y_Checker_isTagged ∈ hn_T := hn_in 266 (by decide +kernel) rfl
theorem mw_267 : Cond.static y_Checker_isTagged ∈ hn_T := hn_in 267 (by decide +kernel) rfl
set_option maxRecDepth 100000 in
theorem mw_268 : Cond.code y_Checker_isTagged b_Checker_isTagged 2 (some .boolean) ∈ hn_T := hn_in 268 rfl rfl
theorem mw_269 : Cond.fieldLink R_Checker 27 "HostNames$Checker" "TAG" "[I" ∈ hn_T := hn_in 269 (by decide +kernel) rfl
theorem mw_271 : Cond.methodLink R_Checker 31 y_Row_get ∈ hn_T := hn_in 271 (by decide +kernel) rfl
theorem mw_272 : Cond.methodLink R_Host 149 y_Labels_add ∈ hn_T := hn_in 272 (by decide +kernel) rfl
theorem mw_273 : Cond.instanceMethod y_Labels_add ∈ hn_T := hn_in 273 (by decide +kernel) rfl
theorem mw_274 : Cond.selects R_Labels y_Labels_add y_Labels_add ∈ hn_T := hn_in 274 (by decide +kernel) rfl
set_option maxRecDepth 100000 in
theorem mw_275 : Cond.code y_Labels_add b_Labels_add 4 none ∈ hn_T := hn_in 275 rfl rfl
theorem mw_276 : Cond.methodLink R_Labels 38 y_Row_size ∈ hn_T := hn_in 276 (by decide +kernel) rfl
theorem mw_277 : Cond.methodLink R_Labels 42 y_Row_addPart ∈ hn_T := hn_in 277 (by decide +kernel) rfl
theorem mw_278 : Cond.methodLink R_Host 114 y_Packer_read ∈ hn_T := hn_in 278 (by decide +kernel) rfl
theorem mw_279 : Cond.instanceMethod y_Packer_read ∈ hn_T := hn_in 279 (by decide +kernel) rfl
theorem mw_280 : Cond.selects R_Packer y_Packer_read y_Packer_read ∈ hn_T := hn_in 280 (by decide +kernel) rfl
set_option maxRecDepth 100000 in
theorem mw_281 : Cond.code y_Packer_read b_Packer_read 12 (some .boolean) ∈ hn_T := hn_in 281 rfl rfl
theorem mw_282 : Cond.methodLink R_Packer 73 y_Row_empty ∈ hn_T := hn_in 282 (by decide +kernel) rfl
theorem mw_283 : Cond.methodLink R_Packer 76 y_Packer_readBasic ∈ hn_T := hn_in 283 (by decide +kernel) rfl
theorem mw_285 : Cond.instanceMethod y_Packer_readBasic ∈ hn_T := hn_in 285 (by decide +kernel) rfl
set_option maxRecDepth 100000 in
theorem mw_286 : Cond.code y_Packer_readBasic b_Packer_readBasic 6 (some .boolean) ∈ hn_T := hn_in 286 rfl rfl
theorem mw_287 : Cond.methodLink R_Packer 22 y_Row_size ∈ hn_T := hn_in 287 (by decide +kernel) rfl
theorem mw_288 : Cond.methodLink R_Packer 32 y_Row_get ∈ hn_T := hn_in 288 (by decide +kernel) rfl
theorem mw_289 : Cond.methodLink R_Packer 44 y_Row_add ∈ hn_T := hn_in 289 (by decide +kernel) rfl
theorem mw_290 : Cond.constantLong R_Packer 80 128 ∈ hn_T := hn_in 290 (by decide +kernel) rfl
theorem mw_291 : Cond.methodLink R_Packer 82 y_Packer_readNumber ∈ hn_T := hn_in 291 (by decide +kernel) rfl
theorem mw_293 : Cond.instanceMethod y_Packer_readNumber ∈ hn_T := hn_in 293 (by decide +kernel) rfl
set_option maxRecDepth 100000 in
theorem mw_294 : Cond.code y_Packer_readNumber b_Packer_readNumber 11 (some .long) ∈ hn_T := hn_in 294 rfl rfl
theorem mw_295 : Cond.methodLink R_Packer 94 y_Packer_digitOfCode ∈ hn_T := hn_in 295 (by decide +kernel) rfl
theorem mw_296 : Cond.static y_Packer_digitOfCode ∈ hn_T := hn_in 296 (by decide +kernel) rfl
set_option maxRecDepth 100000 in
theorem mw_297 : Cond.code y_Packer_digitOfCode b_Packer_digitOfCode 1 (some .int) ∈ hn_T := hn_in 297 rfl rfl
theorem mw_298 : Cond.methodLink R_Packer 64 y_Codes_isWithin ∈ hn_T := hn_in 298 (by decide +kernel) rfl
theorem mw_299 : Cond.methodLink R_Packer 70 y_Codes_isCapital ∈ hn_T := hn_in 299 (by decide +kernel) rfl
theorem mw_300 : Cond.constantLong R_Packer 86 (-1) ∈ hn_T := hn_in 300 (by decide +kernel) rfl
theorem mw_301 : Cond.methodLink R_Packer 58 y_Packer_threshold ∈ hn_T := hn_in 301 (by decide +kernel) rfl
theorem mw_303 : Cond.instanceMethod y_Packer_threshold ∈ hn_T := hn_in 303 (by decide +kernel) rfl
set_option maxRecDepth 100000 in
theorem mw_304 : Cond.code y_Packer_threshold b_Packer_threshold 2 (some .int) ∈ hn_T := hn_in 304 rfl rfl
theorem mw_305 : Cond.methodLink R_Packer 49 y_Math_min ∈ hn_T := hn_in 305 (by decide +kernel) rfl
theorem mw_306 : Cond.static y_Math_min ∈ hn_T := hn_in 306 (by decide +kernel) rfl
set_option maxRecDepth 100000 in
theorem mw_307 : Cond.code y_Math_min b_Math_min 2 (some .int) ∈ hn_T := hn_in 307 rfl rfl
theorem mw_308 : Cond.methodLink R_Packer 55 y_Math_max ∈ hn_T := hn_in 308 (by decide +kernel) rfl
theorem mw_309 : Cond.static y_Math_max ∈ hn_T := hn_in 309 (by decide +kernel) rfl
set_option maxRecDepth 100000 in
theorem mw_310 : Cond.code y_Math_max b_Math_max 2 (some .int) ∈ hn_T := hn_in 310 rfl rfl
theorem mw_311 : Cond.constantLong R_Packer 97 2147483647 ∈ hn_T := hn_in 311 (by decide +kernel) rfl
theorem mw_312 : Cond.methodLink R_Packer 40 y_Packer_adapt ∈ hn_T := hn_in 312 (by decide +kernel) rfl
theorem mw_314 : Cond.instanceMethod y_Packer_adapt ∈ hn_T := hn_in 314 (by decide +kernel) rfl
set_option maxRecDepth 100000 in
theorem mw_315 : Cond.code y_Packer_adapt b_Packer_adapt 7 none ∈ hn_T := hn_in 315 rfl rfl
theorem mw_316 : Cond.constantLong R_Packer 88 1114111 ∈ hn_T := hn_in 316 (by decide +kernel) rfl
theorem mw_317 : Cond.methodLink R_Packer 90 y_Row_insert ∈ hn_T := hn_in 317 (by decide +kernel) rfl
theorem mw_318 : Cond.instanceMethod y_Row_insert ∈ hn_T := hn_in 318 (by decide +kernel) rfl
theorem mw_319 : Cond.selects R_Row y_Row_insert y_Row_insert ∈ hn_T := hn_in 319 (by decide +kernel) rfl
set_option maxRecDepth 100000 in
theorem mw_320 : Cond.code y_Row_insert b_Row_insert 4 (some .boolean) ∈ hn_T := hn_in 320 rfl rfl
theorem mw_321 : Cond.methodLink R_Host 152 y_Row_hasAbove ∈ hn_T := hn_in 321 (by decide +kernel) rfl
theorem mw_322 : Cond.instanceMethod y_Row_hasAbove ∈ hn_T := hn_in 322 (by decide +kernel) rfl
theorem mw_323 : Cond.selects R_Row y_Row_hasAbove y_Row_hasAbove ∈ hn_T := hn_in 323 (by decide +kernel) rfl
set_option maxRecDepth 100000 in
theorem mw_324 : Cond.code y_Row_hasAbove b_Row_hasAbove 3 (some .boolean) ∈ hn_T := hn_in 324 rfl rfl
theorem mw_325 : Cond.methodLink R_Host 92 y_Host_checkLabels ∈ hn_T := hn_in 325 (by decide +kernel) rfl
theorem mw_327 : Cond.instanceMethod y_Host_checkLabels ∈ hn_T := hn_in 327 (by decide +kernel) rfl
set_option maxRecDepth 100000 in
theorem mw_328 : Cond.code y_Host_checkLabels b_Host_checkLabels 5 none ∈ hn_T := hn_in 328 rfl rfl
theorem mw_329 : Cond.methodLink R_Host 155 y_Labels_codes ∈ hn_T := hn_in 329 (by decide +kernel) rfl
theorem mw_330 : Cond.instanceMethod y_Labels_codes ∈ hn_T := hn_in 330 (by decide +kernel) rfl
theorem mw_331 : Cond.selects R_Labels y_Labels_codes y_Labels_codes ∈ hn_T := hn_in 331 (by decide +kernel) rfl
set_option maxRecDepth 100000 in
theorem mw_332 : Cond.code y_Labels_codes b_Labels_codes 1 (some (.object "HostNames$Row")) ∈ hn_T := hn_in 332 rfl rfl
theorem mw_333 : Cond.methodLink R_Host 159 y_Codes_hasRightToLeft ∈ hn_T := hn_in 333 (by decide +kernel) rfl
theorem mw_334 : Cond.static y_Codes_hasRightToLeft ∈ hn_T := hn_in 334 (by decide +kernel) rfl
set_option maxRecDepth 100000 in
theorem mw_335 : Cond.code y_Codes_hasRightToLeft b_Codes_hasRightToLeft 2 (some .boolean) ∈ hn_T := hn_in 335 rfl rfl
theorem mw_336 : Cond.methodLink R_Codes 45 y_Row_size ∈ hn_T := hn_in 336 (by decide +kernel) rfl
theorem mw_337 : Cond.methodLink R_Codes 51 y_Row_get ∈ hn_T := hn_in 337 (by decide +kernel) rfl
theorem mw_338 : Cond.methodLink R_Codes 54 y_Codes_direction ∈ hn_T := hn_in 338 (by decide +kernel) rfl
theorem mw_339 : Cond.static y_Codes_direction ∈ hn_T := hn_in 339 (by decide +kernel) rfl
set_option maxRecDepth 100000 in
theorem mw_340 : Cond.code y_Codes_direction b_Codes_direction 1 (some .int) ∈ hn_T := hn_in 340 rfl rfl
theorem mw_341 : Cond.methodLink R_Codes 39 y_Codes_isMark ∈ hn_T := hn_in 341 (by decide +kernel) rfl
theorem mw_342 : Cond.static y_Codes_isMark ∈ hn_T := hn_in 342 (by decide +kernel) rfl
set_option maxRecDepth 100000 in
theorem mw_343 : Cond.code y_Codes_isMark b_Codes_isMark 1 (some .boolean) ∈ hn_T := hn_in 343 rfl rfl
theorem mw_344 : Cond.methodLink R_Codes 35 y_Codes_order ∈ hn_T := hn_in 344 (by decide +kernel) rfl
theorem mw_345 : Cond.methodLink R_Codes 42 y_Codes_asciiDirection ∈ hn_T := hn_in 345 (by decide +kernel) rfl
theorem mw_346 : Cond.static y_Codes_asciiDirection ∈ hn_T := hn_in 346 (by decide +kernel) rfl
set_option maxRecDepth 100000 in
theorem mw_347 : Cond.code y_Codes_asciiDirection b_Codes_asciiDirection 1 (some .int) ∈ hn_T := hn_in 347 rfl rfl
theorem mw_348 : Cond.methodLink R_Host 105 y_Labels_count ∈ hn_T := hn_in 348 (by decide +kernel) rfl
theorem mw_349 : Cond.instanceMethod y_Labels_count ∈ hn_T := hn_in 349 (by decide +kernel) rfl
theorem mw_350 : Cond.selects R_Labels y_Labels_count y_Labels_count ∈ hn_T := hn_in 350 (by decide +kernel) rfl
set_option maxRecDepth 100000 in
theorem mw_351 : Cond.code y_Labels_count b_Labels_count 1 (some .int) ∈ hn_T := hn_in 351 rfl rfl
theorem mw_352 : Cond.methodLink R_Host 162 y_Labels_copyLabel ∈ hn_T := hn_in 352 (by decide +kernel) rfl
theorem mw_353 : Cond.instanceMethod y_Labels_copyLabel ∈ hn_T := hn_in 353 (by decide +kernel) rfl
theorem mw_354 : Cond.selects R_Labels y_Labels_copyLabel y_Labels_copyLabel ∈ hn_T := hn_in 354 (by decide +kernel) rfl
set_option maxRecDepth 100000 in
theorem mw_355 : Cond.code y_Labels_copyLabel b_Labels_copyLabel 3 none ∈ hn_T := hn_in 355 rfl rfl
theorem mw_356 : Cond.methodLink R_Labels 46 y_Labels_has ∈ hn_T := hn_in 356 (by decide +kernel) rfl
theorem mw_357 : Cond.instanceMethod y_Labels_has ∈ hn_T := hn_in 357 (by decide +kernel) rfl
theorem mw_358 : Cond.selects R_Labels y_Labels_has y_Labels_has ∈ hn_T := hn_in 358 (by decide +kernel) rfl
set_option maxRecDepth 100000 in
theorem mw_359 : Cond.code y_Labels_has b_Labels_has 2 (some .boolean) ∈ hn_T := hn_in 359 rfl rfl
theorem mw_360 : Cond.methodLink R_Host 108 y_Labels_rules ∈ hn_T := hn_in 360 (by decide +kernel) rfl
theorem mw_361 : Cond.instanceMethod y_Labels_rules ∈ hn_T := hn_in 361 (by decide +kernel) rfl
theorem mw_362 : Cond.selects R_Labels y_Labels_rules y_Labels_rules ∈ hn_T := hn_in 362 (by decide +kernel) rfl
set_option maxRecDepth 100000 in
theorem mw_363 : Cond.code y_Labels_rules b_Labels_rules 2 (some .int) ∈ hn_T := hn_in 363 rfl rfl
theorem mw_364 : Cond.methodLink R_Host 166 y_Labels_wasTagged ∈ hn_T := hn_in 364 (by decide +kernel) rfl
theorem mw_365 : Cond.instanceMethod y_Labels_wasTagged ∈ hn_T := hn_in 365 (by decide +kernel) rfl
theorem mw_366 : Cond.selects R_Labels y_Labels_wasTagged y_Labels_wasTagged ∈ hn_T := hn_in 366 (by decide +kernel) rfl
set_option maxRecDepth 100000 in
theorem mw_367 : Cond.code y_Labels_wasTagged b_Labels_wasTagged 2 (some .boolean) ∈ hn_T := hn_in 367 rfl rfl
theorem mw_368 : Cond.methodLink R_Host 169 y_Checker_brokenRules ∈ hn_T := hn_in 368 (by decide +kernel) rfl
theorem mw_369 : Cond.instanceMethod y_Checker_brokenRules ∈ hn_T := hn_in 369 (by decide +kernel) rfl
theorem mw_370 : Cond.selects R_Checker y_Checker_brokenRules y_Checker_brokenRules ∈ hn_T := hn_in 370 (by decide +kernel) rfl
set_option maxRecDepth 100000 in
theorem mw_371 : Cond.code y_Checker_brokenRules b_Checker_brokenRules 5 (some .int) ∈ hn_T := hn_in 371 rfl rfl
theorem mw_372 : Cond.methodLink R_Checker 39 y_Composer_form ∈ hn_T := hn_in 372 (by decide +kernel) rfl
theorem mw_373 : Cond.methodLink R_Checker 42 y_Row_isSameAs ∈ hn_T := hn_in 373 (by decide +kernel) rfl
theorem mw_374 : Cond.instanceMethod y_Row_isSameAs ∈ hn_T := hn_in 374 (by decide +kernel) rfl
theorem mw_375 : Cond.selects R_Row y_Row_isSameAs y_Row_isSameAs ∈ hn_T := hn_in 375 (by decide +kernel) rfl
set_option maxRecDepth 100000 in
theorem mw_376 : Cond.code y_Row_isSameAs b_Row_isSameAs 3 (some .boolean) ∈ hn_T := hn_in 376 rfl rfl
theorem mw_377 : Cond.methodLink R_Row 27 y_Row_size ∈ hn_T := hn_in 377 (by decide +kernel) rfl
theorem mw_379 : Cond.methodLink R_Checker 49 y_Checker_brokenHyphenRules ∈ hn_T := hn_in 379 (by decide +kernel) rfl
theorem mw_380 : Cond.static y_Checker_brokenHyphenRules ∈ hn_T := hn_in 380 (by decide +kernel) rfl
set_option maxRecDepth 100000 in
theorem mw_381 : Cond.code y_Checker_brokenHyphenRules b_Checker_brokenHyphenRules 2 (some .int) ∈ hn_T := hn_in 381 rfl rfl
theorem mw_382 : Cond.methodLink R_Checker 71 y_Row_size ∈ hn_T := hn_in 382 (by decide +kernel) rfl
theorem mw_383 : Cond.methodLink R_Checker 53 y_Checker_isTagged ∈ hn_T := hn_in 383 (by decide +kernel) rfl
theorem mw_384 : Cond.methodLink R_Checker 56 y_Codes_isMark ∈ hn_T := hn_in 384 (by decide +kernel) rfl
theorem mw_385 : Cond.methodLink R_Checker 61 y_Checker_isAllGood ∈ hn_T := hn_in 385 (by decide +kernel) rfl
theorem mw_386 : Cond.static y_Checker_isAllGood ∈ hn_T := hn_in 386 (by decide +kernel) rfl
set_option maxRecDepth 100000 in
theorem mw_387 : Cond.code y_Checker_isAllGood b_Checker_isAllGood 4 (some .boolean) ∈ hn_T := hn_in 387 rfl rfl
theorem mw_388 : Cond.methodLink R_Checker 75 y_Codes_isGood ∈ hn_T := hn_in 388 (by decide +kernel) rfl
theorem mw_389 : Cond.methodLink R_Checker 65 y_Checker_areJoinersRight ∈ hn_T := hn_in 389 (by decide +kernel) rfl
theorem mw_390 : Cond.static y_Checker_areJoinersRight ∈ hn_T := hn_in 390 (by decide +kernel) rfl
set_option maxRecDepth 100000 in
theorem mw_391 : Cond.code y_Checker_areJoinersRight b_Checker_areJoinersRight 4 (some .boolean) ∈ hn_T := hn_in 391 rfl rfl
theorem mw_392 : Cond.methodLink R_Checker 79 y_Codes_order ∈ hn_T := hn_in 392 (by decide +kernel) rfl
theorem mw_393 : Cond.methodLink R_Checker 82 y_Checker_isBetweenJoining ∈ hn_T := hn_in 393 (by decide +kernel) rfl
theorem mw_394 : Cond.static y_Checker_isBetweenJoining ∈ hn_T := hn_in 394 (by decide +kernel) rfl
set_option maxRecDepth 100000 in
theorem mw_395 : Cond.code y_Checker_isBetweenJoining b_Checker_isBetweenJoining 5 (some .boolean) ∈ hn_T := hn_in 395 rfl rfl
theorem mw_396 : Cond.methodLink R_Checker 86 y_Checker_joiningBeyond ∈ hn_T := hn_in 396 (by decide +kernel) rfl
theorem mw_397 : Cond.static y_Checker_joiningBeyond ∈ hn_T := hn_in 397 (by decide +kernel) rfl
set_option maxRecDepth 100000 in
theorem mw_398 : Cond.code y_Checker_joiningBeyond b_Checker_joiningBeyond 5 (some .int) ∈ hn_T := hn_in 398 rfl rfl
theorem mw_399 : Cond.methodLink R_Checker 90 y_Codes_joining ∈ hn_T := hn_in 399 (by decide +kernel) rfl
theorem mw_400 : Cond.static y_Codes_joining ∈ hn_T := hn_in 400 (by decide +kernel) rfl
set_option maxRecDepth 100000 in
theorem mw_401 : Cond.code y_Codes_joining b_Codes_joining 1 (some .int) ∈ hn_T := hn_in 401 rfl rfl
theorem mw_402 : Cond.methodLink R_Checker 68 y_Checker_isDirectionRight ∈ hn_T := hn_in 402 (by decide +kernel) rfl
theorem mw_403 : Cond.static y_Checker_isDirectionRight ∈ hn_T := hn_in 403 (by decide +kernel) rfl
set_option maxRecDepth 100000 in
theorem mw_404 : Cond.code y_Checker_isDirectionRight b_Checker_isDirectionRight 6 (some .boolean) ∈ hn_T := hn_in 404 rfl rfl
theorem mw_405 : Cond.methodLink R_Checker 93 y_Codes_direction ∈ hn_T := hn_in 405 (by decide +kernel) rfl
theorem mw_406 : Cond.methodLink R_Host 173 y_Labels_addRules ∈ hn_T := hn_in 406 (by decide +kernel) rfl
theorem mw_407 : Cond.instanceMethod y_Labels_addRules ∈ hn_T := hn_in 407 (by decide +kernel) rfl
theorem mw_408 : Cond.selects R_Labels y_Labels_addRules y_Labels_addRules ∈ hn_T := hn_in 408 (by decide +kernel) rfl
set_option maxRecDepth 100000 in
theorem mw_409 : Cond.code y_Labels_addRules b_Labels_addRules 3 none ∈ hn_T := hn_in 409 rfl rfl
theorem mw_410 : Cond.methodLink R_Host 95 y_Host_writeResult ∈ hn_T := hn_in 410 (by decide +kernel) rfl
theorem mw_412 : Cond.instanceMethod y_Host_writeResult ∈ hn_T := hn_in 412 (by decide +kernel) rfl
set_option maxRecDepth 100000 in
theorem mw_413 : Cond.code y_Host_writeResult b_Host_writeResult 5 (some .int) ∈ hn_T := hn_in 413 rfl rfl
theorem mw_414 : Cond.methodLink R_Host 177 y_Host_writeLabel ∈ hn_T := hn_in 414 (by decide +kernel) rfl
theorem mw_416 : Cond.instanceMethod y_Host_writeLabel ∈ hn_T := hn_in 416 (by decide +kernel) rfl
set_option maxRecDepth 100000 in
theorem mw_417 : Cond.code y_Host_writeLabel b_Host_writeLabel 2 none ∈ hn_T := hn_in 417 rfl rfl
theorem mw_418 : Cond.methodLink R_Host 189 y_Checker_addTag ∈ hn_T := hn_in 418 (by decide +kernel) rfl
theorem mw_419 : Cond.static y_Checker_addTag ∈ hn_T := hn_in 419 (by decide +kernel) rfl
set_option maxRecDepth 100000 in
theorem mw_420 : Cond.code y_Checker_addTag b_Checker_addTag 2 none ∈ hn_T := hn_in 420 rfl rfl
theorem mw_421 : Cond.methodLink R_Checker 35 y_Row_add ∈ hn_T := hn_in 421 (by decide +kernel) rfl
theorem mw_422 : Cond.methodLink R_Host 111 y_Packer_write ∈ hn_T := hn_in 422 (by decide +kernel) rfl
theorem mw_423 : Cond.instanceMethod y_Packer_write ∈ hn_T := hn_in 423 (by decide +kernel) rfl
theorem mw_424 : Cond.selects R_Packer y_Packer_write y_Packer_write ∈ hn_T := hn_in 424 (by decide +kernel) rfl
set_option maxRecDepth 100000 in
theorem mw_425 : Cond.code y_Packer_write b_Packer_write 11 none ∈ hn_T := hn_in 425 rfl rfl
theorem mw_426 : Cond.methodLink R_Packer 18 y_Packer_writeBasic ∈ hn_T := hn_in 426 (by decide +kernel) rfl
theorem mw_427 : Cond.static y_Packer_writeBasic ∈ hn_T := hn_in 427 (by decide +kernel) rfl
set_option maxRecDepth 100000 in
theorem mw_428 : Cond.code y_Packer_writeBasic b_Packer_writeBasic 4 (some .int) ∈ hn_T := hn_in 428 rfl rfl
theorem mw_429 : Cond.methodLink R_Packer 28 y_Packer_leastFrom ∈ hn_T := hn_in 429 (by decide +kernel) rfl
theorem mw_430 : Cond.static y_Packer_leastFrom ∈ hn_T := hn_in 430 (by decide +kernel) rfl
set_option maxRecDepth 100000 in
theorem mw_431 : Cond.code y_Packer_leastFrom b_Packer_leastFrom 4 (some .int) ∈ hn_T := hn_in 431 rfl rfl
theorem mw_432 : Cond.constant R_Packer 48 1114111 ∈ hn_T := hn_in 432 (by decide +kernel) rfl
theorem mw_433 : Cond.methodLink R_Packer 36 y_Packer_writeNumber ∈ hn_T := hn_in 433 (by decide +kernel) rfl
theorem mw_435 : Cond.instanceMethod y_Packer_writeNumber ∈ hn_T := hn_in 435 (by decide +kernel) rfl
set_option maxRecDepth 100000 in
theorem mw_436 : Cond.code y_Packer_writeNumber b_Packer_writeNumber 6 none ∈ hn_T := hn_in 436 rfl rfl
theorem mw_437 : Cond.methodLink R_Packer 61 y_Packer_codeOfDigit ∈ hn_T := hn_in 437 (by decide +kernel) rfl
theorem mw_438 : Cond.static y_Packer_codeOfDigit ∈ hn_T := hn_in 438 (by decide +kernel) rfl
set_option maxRecDepth 100000 in
theorem mw_439 : Cond.code y_Packer_codeOfDigit b_Packer_codeOfDigit 1 (some .int) ∈ hn_T := hn_in 439 rfl rfl
theorem mw_440 : Cond.methodLink R_Host 181 y_Host_isWrongLength ∈ hn_T := hn_in 440 (by decide +kernel) rfl
theorem mw_442 : Cond.instanceMethod y_Host_isWrongLength ∈ hn_T := hn_in 442 (by decide +kernel) rfl
set_option maxRecDepth 100000 in
theorem mw_443 : Cond.code y_Host_isWrongLength b_Host_isWrongLength 4 (some .boolean) ∈ hn_T := hn_in 443 rfl rfl
theorem mw_444 : Cond.methodLink R_Host 185 y_Host_isWholeWrongLength ∈ hn_T := hn_in 444 (by decide +kernel) rfl
theorem mw_446 : Cond.instanceMethod y_Host_isWholeWrongLength ∈ hn_T := hn_in 446 (by decide +kernel) rfl
set_option maxRecDepth 100000 in
theorem mw_447 : Cond.code y_Host_isWholeWrongLength b_Host_isWholeWrongLength 2 (some .boolean) ∈ hn_T := hn_in 447 rfl rfl
theorem mw_448 : Cond.methodLink R_Host 99 y_Labels_allRules ∈ hn_T := hn_in 448 (by decide +kernel) rfl
theorem mw_449 : Cond.instanceMethod y_Labels_allRules ∈ hn_T := hn_in 449 (by decide +kernel) rfl
theorem mw_450 : Cond.selects R_Labels y_Labels_allRules y_Labels_allRules ∈ hn_T := hn_in 450 (by decide +kernel) rfl
set_option maxRecDepth 100000 in
theorem mw_451 : Cond.code y_Labels_allRules b_Labels_allRules 3 (some .int) ∈ hn_T := hn_in 451 rfl rfl
theorem mw_452 : Cond.methodLink R_Law 35 y_Host_length ∈ hn_T := hn_in 452 (by decide +kernel) rfl
theorem mw_453 : Cond.instanceMethod y_Host_length ∈ hn_T := hn_in 453 (by decide +kernel) rfl
theorem mw_454 : Cond.selects R_Host y_Host_length y_Host_length ∈ hn_T := hn_in 454 (by decide +kernel) rfl
set_option maxRecDepth 100000 in
theorem mw_455 : Cond.code y_Host_length b_Host_length 1 (some .int) ∈ hn_T := hn_in 455 rfl rfl
theorem mw_456 : Cond.methodLink R_Law 39 y_Host_at ∈ hn_T := hn_in 456 (by decide +kernel) rfl
theorem mw_457 : Cond.instanceMethod y_Host_at ∈ hn_T := hn_in 457 (by decide +kernel) rfl
theorem mw_458 : Cond.selects R_Host y_Host_at y_Host_at ∈ hn_T := hn_in 458 (by decide +kernel) rfl
set_option maxRecDepth 100000 in
theorem mw_459 : Cond.code y_Host_at b_Host_at 2 (some .int) ∈ hn_T := hn_in 459 rfl rfl
theorem mw_460 : Cond.methodLink R_Law 44 y_Host_labels ∈ hn_T := hn_in 460 (by decide +kernel) rfl
theorem mw_461 : Cond.instanceMethod y_Host_labels ∈ hn_T := hn_in 461 (by decide +kernel) rfl
theorem mw_462 : Cond.selects R_Host y_Host_labels y_Host_labels ∈ hn_T := hn_in 462 (by decide +kernel) rfl
set_option maxRecDepth 100000 in
theorem mw_463 : Cond.code y_Host_labels b_Host_labels 1 (some .int) ∈ hn_T := hn_in 463 rfl rfl
theorem mw_464 : Cond.methodLink R_Law 48 y_Host_broken ∈ hn_T := hn_in 464 (by decide +kernel) rfl
theorem mw_465 : Cond.instanceMethod y_Host_broken ∈ hn_T := hn_in 465 (by decide +kernel) rfl
theorem mw_466 : Cond.selects R_Host y_Host_broken y_Host_broken ∈ hn_T := hn_in 466 (by decide +kernel) rfl
set_option maxRecDepth 100000 in
theorem mw_467 : Cond.code y_Host_broken b_Host_broken 2 (some .int) ∈ hn_T := hn_in 467 rfl rfl
theorem mw_468 : Cond.methodLink R_Law 52 y_Host_pack ∈ hn_T := hn_in 468 (by decide +kernel) rfl
theorem mw_469 : Cond.instanceMethod y_Host_pack ∈ hn_T := hn_in 469 (by decide +kernel) rfl
theorem mw_470 : Cond.selects R_Host y_Host_pack y_Host_pack ∈ hn_T := hn_in 470 (by decide +kernel) rfl
set_option maxRecDepth 100000 in
theorem mw_471 : Cond.code y_Host_pack b_Host_pack 1 (some .int) ∈ hn_T := hn_in 471 rfl rfl
theorem mw_472 : Cond.methodLink R_Law 56 y_Host_unpack ∈ hn_T := hn_in 472 (by decide +kernel) rfl
theorem mw_473 : Cond.instanceMethod y_Host_unpack ∈ hn_T := hn_in 473 (by decide +kernel) rfl
theorem mw_474 : Cond.selects R_Host y_Host_unpack y_Host_unpack ∈ hn_T := hn_in 474 (by decide +kernel) rfl
set_option maxRecDepth 100000 in
theorem mw_475 : Cond.code y_Host_unpack b_Host_unpack 1 (some .boolean) ∈ hn_T := hn_in 475 rfl rfl
theorem mw_476 : Cond.methodLink R_Law 61 y_Host_compose ∈ hn_T := hn_in 476 (by decide +kernel) rfl
theorem mw_477 : Cond.instanceMethod y_Host_compose ∈ hn_T := hn_in 477 (by decide +kernel) rfl
theorem mw_478 : Cond.selects R_Host y_Host_compose y_Host_compose ∈ hn_T := hn_in 478 (by decide +kernel) rfl
set_option maxRecDepth 100000 in
theorem mw_479 : Cond.code y_Host_compose b_Host_compose 1 (some .int) ∈ hn_T := hn_in 479 rfl rfl
theorem mw_480 : Cond.classLink R_Law 10 R_Mod ∈ hn_T := hn_in 480 (by decide +kernel) rfl
theorem mw_481 : Cond.instantiable R_Mod 17 ∈ hn_T := hn_in 481 (by decide +kernel) rfl
theorem mw_482 : Cond.methodLink R_Law 12 y_Mod_init ∈ hn_T := hn_in 482 (by decide +kernel) rfl
theorem mw_483 : Cond.instanceMethod y_Mod_init ∈ hn_T := hn_in 483 (by decide +kernel) rfl
set_option maxRecDepth 100000 in
theorem mw_484 : Cond.code y_Mod_init b_Mod_init 1 none ∈ hn_T := hn_in 484 rfl rfl
theorem mw_485 : Cond.methodLink R_Mod 1 objectInit ∈ hn_T := hn_in 485 (by decide +kernel) rfl
theorem mw_486 : Cond.fieldLink R_Mod 113 "HostNamesModel" "textSize" "I" ∈ hn_T := hn_in 486 (by decide +kernel) rfl
theorem mw_487 : Cond.fieldLink R_Mod 7 "HostNamesModel" "text" "[I" ∈ hn_T := hn_in 487 (by decide +kernel) rfl
theorem mw_488 : Cond.fieldLink R_Mod 77 "HostNamesModel" "size" "I" ∈ hn_T := hn_in 488 (by decide +kernel) rfl
theorem mw_489 : Cond.fieldLink R_Mod 13 "HostNamesModel" "result" "[I" ∈ hn_T := hn_in 489 (by decide +kernel) rfl
theorem mw_490 : Cond.fieldLink R_Mod 64 "HostNamesModel" "rowSize" "I" ∈ hn_T := hn_in 490 (by decide +kernel) rfl
theorem mw_491 : Cond.fieldLink R_Mod 16 "HostNamesModel" "row" "[I" ∈ hn_T := hn_in 491 (by decide +kernel) rfl
theorem mw_492 : Cond.fieldLink R_Mod 19 "HostNamesModel" "other" "[I" ∈ hn_T := hn_in 492 (by decide +kernel) rfl
theorem mw_493 : Cond.fieldLink R_Mod 135 "HostNamesModel" "count" "I" ∈ hn_T := hn_in 493 (by decide +kernel) rfl
theorem mw_494 : Cond.fieldLink R_Mod 22 "HostNamesModel" "starts" "[I" ∈ hn_T := hn_in 494 (by decide +kernel) rfl
theorem mw_495 : Cond.fieldLink R_Mod 25 "HostNamesModel" "sizes" "[I" ∈ hn_T := hn_in 495 (by decide +kernel) rfl
theorem mw_496 : Cond.fieldLink R_Mod 28 "HostNamesModel" "rules" "[I" ∈ hn_T := hn_in 496 (by decide +kernel) rfl
theorem mw_497 : Cond.fieldLink R_Mod 31 "HostNamesModel" "tagged" "[Z" ∈ hn_T := hn_in 497 (by decide +kernel) rfl
theorem mw_498 : Cond.fieldLink R_Mod 132 "HostNamesModel" "poolSize" "I" ∈ hn_T := hn_in 498 (by decide +kernel) rfl
theorem mw_499 : Cond.fieldLink R_Mod 35 "HostNamesModel" "pool" "[I" ∈ hn_T := hn_in 499 (by decide +kernel) rfl
theorem mw_500 : Cond.fieldLink R_Mod 185 "HostNamesModel" "whole" "I" ∈ hn_T := hn_in 500 (by decide +kernel) rfl
theorem mw_501 : Cond.fieldLink R_Mod 38 "HostNamesModel" "placed" "[Z" ∈ hn_T := hn_in 501 (by decide +kernel) rfl
theorem mw_502 : Cond.fieldLink R_Mod 74 "HostNamesModel" "bias" "I" ∈ hn_T := hn_in 502 (by decide +kernel) rfl
theorem mw_538 : Cond.methodLink R_Law 17 y_Mod_put ∈ hn_T := hn_in 538 (by decide +kernel) rfl
theorem mw_539 : Cond.instanceMethod y_Mod_put ∈ hn_T := hn_in 539 (by decide +kernel) rfl
theorem mw_540 : Cond.selects R_Mod y_Mod_put y_Mod_put ∈ hn_T := hn_in 540 (by decide +kernel) rfl
set_option maxRecDepth 100000 in
theorem mw_541 : Cond.code y_Mod_put b_Mod_put 2 (some .boolean) ∈ hn_T := hn_in 541 rfl rfl
theorem mw_542 : Cond.constant R_Mod 110 1114111 ∈ hn_T := hn_in 542 (by decide +kernel) rfl
theorem mw_543 : Cond.methodLink R_Mod 41 y_Mod_within ∈ hn_T := hn_in 543 (by decide +kernel) rfl
theorem mw_544 : Cond.static y_Mod_within ∈ hn_T := hn_in 544 (by decide +kernel) rfl
set_option maxRecDepth 100000 in
theorem mw_545 : Cond.code y_Mod_within b_Mod_within 3 (some .boolean) ∈ hn_T := hn_in 545 rfl rfl
theorem mw_546 : Cond.constant R_Mod 111 55296 ∈ hn_T := hn_in 546 (by decide +kernel) rfl
theorem mw_547 : Cond.constant R_Mod 112 57343 ∈ hn_T := hn_in 547 (by decide +kernel) rfl
theorem mw_548 : Cond.methodLink R_Law 24 y_Mod_type ∈ hn_T := hn_in 548 (by decide +kernel) rfl
theorem mw_549 : Cond.instanceMethod y_Mod_type ∈ hn_T := hn_in 549 (by decide +kernel) rfl
theorem mw_550 : Cond.selects R_Mod y_Mod_type y_Mod_type ∈ hn_T := hn_in 550 (by decide +kernel) rfl
set_option maxRecDepth 100000 in
theorem mw_551 : Cond.code y_Mod_type b_Mod_type 5 (some .boolean) ∈ hn_T := hn_in 551 rfl rfl
theorem mw_552 : Cond.methodLink R_Law 29 y_Mod_clear ∈ hn_T := hn_in 552 (by decide +kernel) rfl
theorem mw_553 : Cond.instanceMethod y_Mod_clear ∈ hn_T := hn_in 553 (by decide +kernel) rfl
theorem mw_554 : Cond.selects R_Mod y_Mod_clear y_Mod_clear ∈ hn_T := hn_in 554 (by decide +kernel) rfl
set_option maxRecDepth 100000 in
theorem mw_555 : Cond.code y_Mod_clear b_Mod_clear 2 (some .int) ∈ hn_T := hn_in 555 rfl rfl
theorem mw_556 : Cond.methodLink R_Law 34 y_Mod_process ∈ hn_T := hn_in 556 (by decide +kernel) rfl
theorem mw_557 : Cond.instanceMethod y_Mod_process ∈ hn_T := hn_in 557 (by decide +kernel) rfl
theorem mw_558 : Cond.selects R_Mod y_Mod_process y_Mod_process ∈ hn_T := hn_in 558 (by decide +kernel) rfl
set_option maxRecDepth 100000 in
theorem mw_559 : Cond.code y_Mod_process b_Mod_process 6 (some .int) ∈ hn_T := hn_in 559 rfl rfl
theorem mw_560 : Cond.methodLink R_Mod 188 y_Mod_mapText ∈ hn_T := hn_in 560 (by decide +kernel) rfl
theorem mw_562 : Cond.instanceMethod y_Mod_mapText ∈ hn_T := hn_in 562 (by decide +kernel) rfl
set_option maxRecDepth 100000 in
theorem mw_563 : Cond.code y_Mod_mapText b_Mod_mapText 7 (some .boolean) ∈ hn_T := hn_in 563 rfl rfl
theorem mw_564 : Cond.methodLink R_Mod 116 y_Mod_isOdd ∈ hn_T := hn_in 564 (by decide +kernel) rfl
theorem mw_565 : Cond.static y_Mod_isOdd ∈ hn_T := hn_in 565 (by decide +kernel) rfl
set_option maxRecDepth 100000 in
theorem mw_566 : Cond.code y_Mod_isOdd b_Mod_isOdd 1 (some .boolean) ∈ hn_T := hn_in 566 rfl rfl
theorem mw_567 : Cond.methodLink R_Mod 119 y_Mod_on ∈ hn_T := hn_in 567 (by decide +kernel) rfl
theorem mw_568 : Cond.static y_Mod_on ∈ hn_T := hn_in 568 (by decide +kernel) rfl
set_option maxRecDepth 100000 in
theorem mw_569 : Cond.code y_Mod_on b_Mod_on 2 (some .boolean) ∈ hn_T := hn_in 569 rfl rfl
theorem mw_570 : Cond.methodLink R_Mod 123 y_Mod_image ∈ hn_T := hn_in 570 (by decide +kernel) rfl
theorem mw_571 : Cond.static y_Mod_image ∈ hn_T := hn_in 571 (by decide +kernel) rfl
set_option maxRecDepth 100000 in
theorem mw_572 : Cond.code y_Mod_image b_Mod_image 2 (some .int) ∈ hn_T := hn_in 572 rfl rfl
theorem mw_573 : Cond.constant R_Mod 54 65281 ∈ hn_T := hn_in 573 (by decide +kernel) rfl
theorem mw_574 : Cond.constant R_Mod 55 65374 ∈ hn_T := hn_in 574 (by decide +kernel) rfl
theorem mw_575 : Cond.constant R_Mod 56 65248 ∈ hn_T := hn_in 575 (by decide +kernel) rfl
theorem mw_576 : Cond.methodLink R_Mod 126 y_Mod_add ∈ hn_T := hn_in 576 (by decide +kernel) rfl
theorem mw_578 : Cond.instanceMethod y_Mod_add ∈ hn_T := hn_in 578 (by decide +kernel) rfl
set_option maxRecDepth 100000 in
theorem mw_579 : Cond.code y_Mod_add b_Mod_add 2 none ∈ hn_T := hn_in 579 rfl rfl
theorem mw_580 : Cond.methodLink R_Mod 129 y_Mod_isPlain ∈ hn_T := hn_in 580 (by decide +kernel) rfl
theorem mw_581 : Cond.static y_Mod_isPlain ∈ hn_T := hn_in 581 (by decide +kernel) rfl
set_option maxRecDepth 100000 in
theorem mw_582 : Cond.code y_Mod_isPlain b_Mod_isPlain 1 (some .boolean) ∈ hn_T := hn_in 582 rfl rfl
theorem mw_583 : Cond.methodLink R_Mod 50 y_Mod_isGood ∈ hn_T := hn_in 583 (by decide +kernel) rfl
theorem mw_584 : Cond.static y_Mod_isGood ∈ hn_T := hn_in 584 (by decide +kernel) rfl
set_option maxRecDepth 100000 in
theorem mw_585 : Cond.code y_Mod_isGood b_Mod_isGood 3 (some .boolean) ∈ hn_T := hn_in 585 rfl rfl
theorem mw_586 : Cond.methodLink R_Mod 45 y_Mod_order ∈ hn_T := hn_in 586 (by decide +kernel) rfl
theorem mw_587 : Cond.static y_Mod_order ∈ hn_T := hn_in 587 (by decide +kernel) rfl
set_option maxRecDepth 100000 in
theorem mw_588 : Cond.code y_Mod_order b_Mod_order 1 (some .int) ∈ hn_T := hn_in 588 rfl rfl
theorem mw_589 : Cond.constant R_Mod 49 40959 ∈ hn_T := hn_in 589 (by decide +kernel) rfl
theorem mw_590 : Cond.methodLink R_Mod 151 y_Mod_composeRow ∈ hn_T := hn_in 590 (by decide +kernel) rfl
theorem mw_592 : Cond.instanceMethod y_Mod_composeRow ∈ hn_T := hn_in 592 (by decide +kernel) rfl
set_option maxRecDepth 100000 in
theorem mw_593 : Cond.code y_Mod_composeRow b_Mod_composeRow 7 none ∈ hn_T := hn_in 593 rfl rfl
theorem mw_594 : Cond.methodLink R_Mod 71 y_Mod_takeApart ∈ hn_T := hn_in 594 (by decide +kernel) rfl
theorem mw_596 : Cond.instanceMethod y_Mod_takeApart ∈ hn_T := hn_in 596 (by decide +kernel) rfl
set_option maxRecDepth 100000 in
theorem mw_597 : Cond.code y_Mod_takeApart b_Mod_takeApart 5 none ∈ hn_T := hn_in 597 rfl rfl
theorem mw_598 : Cond.methodLink R_Mod 61 y_Mod_letterOf ∈ hn_T := hn_in 598 (by decide +kernel) rfl
theorem mw_599 : Cond.static y_Mod_letterOf ∈ hn_T := hn_in 599 (by decide +kernel) rfl
set_option maxRecDepth 100000 in
theorem mw_600 : Cond.code y_Mod_letterOf b_Mod_letterOf 4 (some .int) ∈ hn_T := hn_in 600 rfl rfl
theorem mw_601 : Cond.methodLink R_Mod 57 y_Mod_pair ∈ hn_T := hn_in 601 (by decide +kernel) rfl
theorem mw_602 : Cond.static y_Mod_pair ∈ hn_T := hn_in 602 (by decide +kernel) rfl
set_option maxRecDepth 100000 in
theorem mw_603 : Cond.code y_Mod_pair b_Mod_pair 4 (some .int) ∈ hn_T := hn_in 603 rfl rfl
theorem mw_604 : Cond.methodLink R_Mod 68 y_Mod_markOf ∈ hn_T := hn_in 604 (by decide +kernel) rfl
theorem mw_605 : Cond.static y_Mod_markOf ∈ hn_T := hn_in 605 (by decide +kernel) rfl
set_option maxRecDepth 100000 in
theorem mw_606 : Cond.code y_Mod_markOf b_Mod_markOf 2 (some .int) ∈ hn_T := hn_in 606 rfl rfl
theorem mw_607 : Cond.methodLink R_Mod 191 y_Mod_cut ∈ hn_T := hn_in 607 (by decide +kernel) rfl
theorem mw_609 : Cond.instanceMethod y_Mod_cut ∈ hn_T := hn_in 609 (by decide +kernel) rfl
set_option maxRecDepth 100000 in
theorem mw_610 : Cond.code y_Mod_cut b_Mod_cut 2 none ∈ hn_T := hn_in 610 rfl rfl
theorem mw_611 : Cond.methodLink R_Mod 194 y_Mod_open ∈ hn_T := hn_in 611 (by decide +kernel) rfl
theorem mw_613 : Cond.instanceMethod y_Mod_open ∈ hn_T := hn_in 613 (by decide +kernel) rfl
set_option maxRecDepth 100000 in
theorem mw_614 : Cond.code y_Mod_open b_Mod_open 5 none ∈ hn_T := hn_in 614 rfl rfl
theorem mw_615 : Cond.methodLink R_Mod 138 y_Mod_fetch ∈ hn_T := hn_in 615 (by decide +kernel) rfl
theorem mw_617 : Cond.instanceMethod y_Mod_fetch ∈ hn_T := hn_in 617 (by decide +kernel) rfl
set_option maxRecDepth 100000 in
theorem mw_618 : Cond.code y_Mod_fetch b_Mod_fetch 3 none ∈ hn_T := hn_in 618 rfl rfl
theorem mw_619 : Cond.methodLink R_Mod 141 y_Mod_hasTag ∈ hn_T := hn_in 619 (by decide +kernel) rfl
theorem mw_621 : Cond.instanceMethod y_Mod_hasTag ∈ hn_T := hn_in 621 (by decide +kernel) rfl
set_option maxRecDepth 100000 in
theorem mw_622 : Cond.code y_Mod_hasTag b_Mod_hasTag 1 (some .boolean) ∈ hn_T := hn_in 622 rfl rfl
theorem mw_623 : Cond.methodLink R_Mod 145 y_Mod_unpackRow ∈ hn_T := hn_in 623 (by decide +kernel) rfl
theorem mw_625 : Cond.instanceMethod y_Mod_unpackRow ∈ hn_T := hn_in 625 (by decide +kernel) rfl
set_option maxRecDepth 100000 in
theorem mw_626 : Cond.code y_Mod_unpackRow b_Mod_unpackRow 17 (some .boolean) ∈ hn_T := hn_in 626 rfl rfl
theorem mw_627 : Cond.constantLong R_Mod 101 128 ∈ hn_T := hn_in 627 (by decide +kernel) rfl
theorem mw_628 : Cond.methodLink R_Mod 103 y_Mod_digit ∈ hn_T := hn_in 628 (by decide +kernel) rfl
theorem mw_629 : Cond.static y_Mod_digit ∈ hn_T := hn_in 629 (by decide +kernel) rfl
set_option maxRecDepth 100000 in
theorem mw_630 : Cond.code y_Mod_digit b_Mod_digit 1 (some .int) ∈ hn_T := hn_in 630 rfl rfl
theorem mw_631 : Cond.methodLink R_Mod 84 y_Mod_threshold ∈ hn_T := hn_in 631 (by decide +kernel) rfl
theorem mw_633 : Cond.instanceMethod y_Mod_threshold ∈ hn_T := hn_in 633 (by decide +kernel) rfl
set_option maxRecDepth 100000 in
theorem mw_634 : Cond.code y_Mod_threshold b_Mod_threshold 3 (some .int) ∈ hn_T := hn_in 634 rfl rfl
theorem mw_635 : Cond.constantLong R_Mod 106 2147483647 ∈ hn_T := hn_in 635 (by decide +kernel) rfl
theorem mw_636 : Cond.methodLink R_Mod 97 y_Mod_adapt ∈ hn_T := hn_in 636 (by decide +kernel) rfl
theorem mw_638 : Cond.instanceMethod y_Mod_adapt ∈ hn_T := hn_in 638 (by decide +kernel) rfl
set_option maxRecDepth 100000 in
theorem mw_639 : Cond.code y_Mod_adapt b_Mod_adapt 6 none ∈ hn_T := hn_in 639 rfl rfl
theorem mw_640 : Cond.constantLong R_Mod 108 1114111 ∈ hn_T := hn_in 640 (by decide +kernel) rfl
theorem mw_641 : Cond.methodLink R_Mod 148 y_Mod_keep ∈ hn_T := hn_in 641 (by decide +kernel) rfl
theorem mw_643 : Cond.instanceMethod y_Mod_keep ∈ hn_T := hn_in 643 (by decide +kernel) rfl
set_option maxRecDepth 100000 in
theorem mw_644 : Cond.code y_Mod_keep b_Mod_keep 3 none ∈ hn_T := hn_in 644 rfl rfl
theorem mw_645 : Cond.methodLink R_Mod 197 y_Mod_anyRight ∈ hn_T := hn_in 645 (by decide +kernel) rfl
theorem mw_647 : Cond.instanceMethod y_Mod_anyRight ∈ hn_T := hn_in 647 (by decide +kernel) rfl
set_option maxRecDepth 100000 in
theorem mw_648 : Cond.code y_Mod_anyRight b_Mod_anyRight 4 (some .boolean) ∈ hn_T := hn_in 648 rfl rfl
theorem mw_649 : Cond.methodLink R_Mod 154 y_Mod_codeOf ∈ hn_T := hn_in 649 (by decide +kernel) rfl
theorem mw_651 : Cond.instanceMethod y_Mod_codeOf ∈ hn_T := hn_in 651 (by decide +kernel) rfl
set_option maxRecDepth 100000 in
theorem mw_652 : Cond.code y_Mod_codeOf b_Mod_codeOf 3 (some .int) ∈ hn_T := hn_in 652 rfl rfl
theorem mw_653 : Cond.methodLink R_Mod 164 y_Mod_direction ∈ hn_T := hn_in 653 (by decide +kernel) rfl
theorem mw_654 : Cond.static y_Mod_direction ∈ hn_T := hn_in 654 (by decide +kernel) rfl
set_option maxRecDepth 100000 in
theorem mw_655 : Cond.code y_Mod_direction b_Mod_direction 1 (some .int) ∈ hn_T := hn_in 655 rfl rfl
theorem mw_656 : Cond.methodLink R_Mod 200 y_Mod_check ∈ hn_T := hn_in 656 (by decide +kernel) rfl
theorem mw_658 : Cond.instanceMethod y_Mod_check ∈ hn_T := hn_in 658 (by decide +kernel) rfl
set_option maxRecDepth 100000 in
theorem mw_659 : Cond.code y_Mod_check b_Mod_check 5 (some .int) ∈ hn_T := hn_in 659 rfl rfl
theorem mw_660 : Cond.methodLink R_Mod 167 y_Mod_composed ∈ hn_T := hn_in 660 (by decide +kernel) rfl
theorem mw_662 : Cond.instanceMethod y_Mod_composed ∈ hn_T := hn_in 662 (by decide +kernel) rfl
set_option maxRecDepth 100000 in
theorem mw_663 : Cond.code y_Mod_composed b_Mod_composed 4 (some .boolean) ∈ hn_T := hn_in 663 rfl rfl
theorem mw_664 : Cond.methodLink R_Mod 170 y_Mod_hyphenRules ∈ hn_T := hn_in 664 (by decide +kernel) rfl
theorem mw_666 : Cond.instanceMethod y_Mod_hyphenRules ∈ hn_T := hn_in 666 (by decide +kernel) rfl
set_option maxRecDepth 100000 in
theorem mw_667 : Cond.code y_Mod_hyphenRules b_Mod_hyphenRules 4 (some .int) ∈ hn_T := hn_in 667 rfl rfl
theorem mw_668 : Cond.methodLink R_Mod 173 y_Mod_allGood ∈ hn_T := hn_in 668 (by decide +kernel) rfl
theorem mw_670 : Cond.instanceMethod y_Mod_allGood ∈ hn_T := hn_in 670 (by decide +kernel) rfl
set_option maxRecDepth 100000 in
theorem mw_671 : Cond.code y_Mod_allGood b_Mod_allGood 7 (some .boolean) ∈ hn_T := hn_in 671 rfl rfl
theorem mw_672 : Cond.methodLink R_Mod 176 y_Mod_joinersRight ∈ hn_T := hn_in 672 (by decide +kernel) rfl
theorem mw_674 : Cond.instanceMethod y_Mod_joinersRight ∈ hn_T := hn_in 674 (by decide +kernel) rfl
set_option maxRecDepth 100000 in
theorem mw_675 : Cond.code y_Mod_joinersRight b_Mod_joinersRight 8 (some .boolean) ∈ hn_T := hn_in 675 rfl rfl
theorem mw_676 : Cond.methodLink R_Mod 160 y_Mod_across ∈ hn_T := hn_in 676 (by decide +kernel) rfl
theorem mw_678 : Cond.instanceMethod y_Mod_across ∈ hn_T := hn_in 678 (by decide +kernel) rfl
set_option maxRecDepth 100000 in
theorem mw_679 : Cond.code y_Mod_across b_Mod_across 5 (some .int) ∈ hn_T := hn_in 679 rfl rfl
theorem mw_680 : Cond.methodLink R_Mod 157 y_Mod_joins ∈ hn_T := hn_in 680 (by decide +kernel) rfl
theorem mw_681 : Cond.static y_Mod_joins ∈ hn_T := hn_in 681 (by decide +kernel) rfl
set_option maxRecDepth 100000 in
theorem mw_682 : Cond.code y_Mod_joins b_Mod_joins 1 (some .int) ∈ hn_T := hn_in 682 rfl rfl
theorem mw_683 : Cond.methodLink R_Mod 179 y_Mod_directed ∈ hn_T := hn_in 683 (by decide +kernel) rfl
theorem mw_685 : Cond.instanceMethod y_Mod_directed ∈ hn_T := hn_in 685 (by decide +kernel) rfl
set_option maxRecDepth 100000 in
theorem mw_686 : Cond.code y_Mod_directed b_Mod_directed 8 (some .boolean) ∈ hn_T := hn_in 686 rfl rfl
theorem mw_687 : Cond.methodLink R_Mod 204 y_Mod_give ∈ hn_T := hn_in 687 (by decide +kernel) rfl
theorem mw_689 : Cond.instanceMethod y_Mod_give ∈ hn_T := hn_in 689 (by decide +kernel) rfl
set_option maxRecDepth 100000 in
theorem mw_690 : Cond.code y_Mod_give b_Mod_give 8 none ∈ hn_T := hn_in 690 rfl rfl
theorem mw_691 : Cond.methodLink R_Mod 80 y_Mod_out ∈ hn_T := hn_in 691 (by decide +kernel) rfl
theorem mw_693 : Cond.instanceMethod y_Mod_out ∈ hn_T := hn_in 693 (by decide +kernel) rfl
set_option maxRecDepth 100000 in
theorem mw_694 : Cond.code y_Mod_out b_Mod_out 2 none ∈ hn_T := hn_in 694 rfl rfl
theorem mw_695 : Cond.methodLink R_Mod 182 y_Mod_packRow ∈ hn_T := hn_in 695 (by decide +kernel) rfl
theorem mw_697 : Cond.instanceMethod y_Mod_packRow ∈ hn_T := hn_in 697 (by decide +kernel) rfl
set_option maxRecDepth 100000 in
theorem mw_698 : Cond.code y_Mod_packRow b_Mod_packRow 8 none ∈ hn_T := hn_in 698 rfl rfl
theorem mw_699 : Cond.methodLink R_Mod 90 y_Mod_leastLeft ∈ hn_T := hn_in 699 (by decide +kernel) rfl
theorem mw_701 : Cond.instanceMethod y_Mod_leastLeft ∈ hn_T := hn_in 701 (by decide +kernel) rfl
set_option maxRecDepth 100000 in
theorem mw_702 : Cond.code y_Mod_leastLeft b_Mod_leastLeft 3 (some .int) ∈ hn_T := hn_in 702 rfl rfl
theorem mw_703 : Cond.methodLink R_Mod 94 y_Mod_outNumber ∈ hn_T := hn_in 703 (by decide +kernel) rfl
theorem mw_705 : Cond.instanceMethod y_Mod_outNumber ∈ hn_T := hn_in 705 (by decide +kernel) rfl
set_option maxRecDepth 100000 in
theorem mw_706 : Cond.code y_Mod_outNumber b_Mod_outNumber 5 none ∈ hn_T := hn_in 706 rfl rfl
theorem mw_707 : Cond.methodLink R_Mod 87 y_Mod_outDigit ∈ hn_T := hn_in 707 (by decide +kernel) rfl
theorem mw_709 : Cond.instanceMethod y_Mod_outDigit ∈ hn_T := hn_in 709 (by decide +kernel) rfl
set_option maxRecDepth 100000 in
theorem mw_710 : Cond.code y_Mod_outDigit b_Mod_outDigit 2 none ∈ hn_T := hn_in 710 rfl rfl
theorem mw_711 : Cond.methodLink R_Law 38 y_Mod_length ∈ hn_T := hn_in 711 (by decide +kernel) rfl
theorem mw_712 : Cond.instanceMethod y_Mod_length ∈ hn_T := hn_in 712 (by decide +kernel) rfl
theorem mw_713 : Cond.selects R_Mod y_Mod_length y_Mod_length ∈ hn_T := hn_in 713 (by decide +kernel) rfl
set_option maxRecDepth 100000 in
theorem mw_714 : Cond.code y_Mod_length b_Mod_length 1 (some .int) ∈ hn_T := hn_in 714 rfl rfl
theorem mw_715 : Cond.methodLink R_Law 43 y_Mod_at ∈ hn_T := hn_in 715 (by decide +kernel) rfl
theorem mw_716 : Cond.instanceMethod y_Mod_at ∈ hn_T := hn_in 716 (by decide +kernel) rfl
theorem mw_717 : Cond.selects R_Mod y_Mod_at y_Mod_at ∈ hn_T := hn_in 717 (by decide +kernel) rfl
set_option maxRecDepth 100000 in
theorem mw_718 : Cond.code y_Mod_at b_Mod_at 2 (some .int) ∈ hn_T := hn_in 718 rfl rfl
theorem mw_719 : Cond.methodLink R_Law 47 y_Mod_labels ∈ hn_T := hn_in 719 (by decide +kernel) rfl
theorem mw_720 : Cond.instanceMethod y_Mod_labels ∈ hn_T := hn_in 720 (by decide +kernel) rfl
theorem mw_721 : Cond.selects R_Mod y_Mod_labels y_Mod_labels ∈ hn_T := hn_in 721 (by decide +kernel) rfl
set_option maxRecDepth 100000 in
theorem mw_722 : Cond.code y_Mod_labels b_Mod_labels 1 (some .int) ∈ hn_T := hn_in 722 rfl rfl
theorem mw_723 : Cond.methodLink R_Law 51 y_Mod_broken ∈ hn_T := hn_in 723 (by decide +kernel) rfl
theorem mw_724 : Cond.instanceMethod y_Mod_broken ∈ hn_T := hn_in 724 (by decide +kernel) rfl
theorem mw_725 : Cond.selects R_Mod y_Mod_broken y_Mod_broken ∈ hn_T := hn_in 725 (by decide +kernel) rfl
set_option maxRecDepth 100000 in
theorem mw_726 : Cond.code y_Mod_broken b_Mod_broken 2 (some .int) ∈ hn_T := hn_in 726 rfl rfl
theorem mw_727 : Cond.methodLink R_Law 55 y_Mod_pack ∈ hn_T := hn_in 727 (by decide +kernel) rfl
theorem mw_728 : Cond.instanceMethod y_Mod_pack ∈ hn_T := hn_in 728 (by decide +kernel) rfl
theorem mw_729 : Cond.selects R_Mod y_Mod_pack y_Mod_pack ∈ hn_T := hn_in 729 (by decide +kernel) rfl
set_option maxRecDepth 100000 in
theorem mw_730 : Cond.code y_Mod_pack b_Mod_pack 1 (some .int) ∈ hn_T := hn_in 730 rfl rfl
theorem mw_731 : Cond.methodLink R_Mod 208 y_Mod_takeText ∈ hn_T := hn_in 731 (by decide +kernel) rfl
theorem mw_733 : Cond.instanceMethod y_Mod_takeText ∈ hn_T := hn_in 733 (by decide +kernel) rfl
set_option maxRecDepth 100000 in
theorem mw_734 : Cond.code y_Mod_takeText b_Mod_takeText 2 none ∈ hn_T := hn_in 734 rfl rfl
theorem mw_735 : Cond.methodLink R_Law 60 y_Mod_unpack ∈ hn_T := hn_in 735 (by decide +kernel) rfl
theorem mw_736 : Cond.instanceMethod y_Mod_unpack ∈ hn_T := hn_in 736 (by decide +kernel) rfl
theorem mw_737 : Cond.selects R_Mod y_Mod_unpack y_Mod_unpack ∈ hn_T := hn_in 737 (by decide +kernel) rfl
set_option maxRecDepth 100000 in
theorem mw_738 : Cond.code y_Mod_unpack b_Mod_unpack 1 (some .boolean) ∈ hn_T := hn_in 738 rfl rfl
theorem mw_739 : Cond.methodLink R_Mod 211 y_Mod_giveRow ∈ hn_T := hn_in 739 (by decide +kernel) rfl
theorem mw_741 : Cond.instanceMethod y_Mod_giveRow ∈ hn_T := hn_in 741 (by decide +kernel) rfl
set_option maxRecDepth 100000 in
theorem mw_742 : Cond.code y_Mod_giveRow b_Mod_giveRow 2 none ∈ hn_T := hn_in 742 rfl rfl
theorem mw_743 : Cond.methodLink R_Law 64 y_Mod_compose ∈ hn_T := hn_in 743 (by decide +kernel) rfl
theorem mw_744 : Cond.instanceMethod y_Mod_compose ∈ hn_T := hn_in 744 (by decide +kernel) rfl
theorem mw_745 : Cond.selects R_Mod y_Mod_compose y_Mod_compose ∈ hn_T := hn_in 745 (by decide +kernel) rfl
set_option maxRecDepth 100000 in
theorem mw_746 : Cond.code y_Mod_compose b_Mod_compose 1 (some .int) ∈ hn_T := hn_in 746 rfl rfl
theorem mw_747 : Cond.constantLong R_Law 18 4294967295 ∈ hn_T := hn_in 747 (by decide +kernel) rfl
theorem ms_0 : Cond.selects R_Host y_Host_mapText y_Host_mapText ∈ hn_T := hn_inS 0 (by decide +kernel) rfl
theorem ms_1 : Cond.selects R_Host y_Host_mapCode y_Host_mapCode ∈ hn_T := hn_inS 1 (by decide +kernel) rfl
theorem ms_2 : Cond.selects R_Host y_Host_mapOdd y_Host_mapOdd ∈ hn_T := hn_inS 2 (by decide +kernel) rfl
theorem ms_3 : Cond.selects R_Composer y_Composer_takeApart y_Composer_takeApart ∈ hn_T := hn_inS 3 (by decide +kernel) rfl
theorem ms_4 : Cond.selects R_Composer y_Composer_sortMarks y_Composer_sortMarks ∈ hn_T := hn_inS 4 (by decide +kernel) rfl
theorem ms_5 : Cond.selects R_Composer y_Composer_join y_Composer_join ∈ hn_T := hn_inS 5 (by decide +kernel) rfl
theorem ms_6 : Cond.selects R_Host y_Host_cutIntoLabels y_Host_cutIntoLabels ∈ hn_T := hn_inS 6 (by decide +kernel) rfl
theorem ms_7 : Cond.selects R_Host y_Host_keepLabel y_Host_keepLabel ∈ hn_T := hn_inS 7 (by decide +kernel) rfl
theorem ms_8 : Cond.selects R_Packer y_Packer_readBasic y_Packer_readBasic ∈ hn_T := hn_inS 8 (by decide +kernel) rfl
theorem ms_9 : Cond.selects R_Packer y_Packer_readNumber y_Packer_readNumber ∈ hn_T := hn_inS 9 (by decide +kernel) rfl
theorem ms_10 : Cond.selects R_Packer y_Packer_threshold y_Packer_threshold ∈ hn_T := hn_inS 10 (by decide +kernel) rfl
theorem ms_11 : Cond.selects R_Packer y_Packer_adapt y_Packer_adapt ∈ hn_T := hn_inS 11 (by decide +kernel) rfl
theorem ms_12 : Cond.selects R_Host y_Host_checkLabels y_Host_checkLabels ∈ hn_T := hn_inS 12 (by decide +kernel) rfl
theorem ms_13 : Cond.selects R_Host y_Host_writeResult y_Host_writeResult ∈ hn_T := hn_inS 13 (by decide +kernel) rfl
theorem ms_14 : Cond.selects R_Host y_Host_writeLabel y_Host_writeLabel ∈ hn_T := hn_inS 14 (by decide +kernel) rfl
theorem ms_15 : Cond.selects R_Packer y_Packer_writeNumber y_Packer_writeNumber ∈ hn_T := hn_inS 15 (by decide +kernel) rfl
theorem ms_16 : Cond.selects R_Host y_Host_isWrongLength y_Host_isWrongLength ∈ hn_T := hn_inS 16 (by decide +kernel) rfl
theorem ms_17 : Cond.selects R_Host y_Host_isWholeWrongLength y_Host_isWholeWrongLength ∈ hn_T := hn_inS 17 (by decide +kernel) rfl
theorem ms_18 : Cond.selects R_Mod y_Mod_mapText y_Mod_mapText ∈ hn_T := hn_inS 18 (by decide +kernel) rfl
theorem ms_19 : Cond.selects R_Mod y_Mod_add y_Mod_add ∈ hn_T := hn_inS 19 (by decide +kernel) rfl
theorem ms_20 : Cond.selects R_Mod y_Mod_composeRow y_Mod_composeRow ∈ hn_T := hn_inS 20 (by decide +kernel) rfl
theorem ms_21 : Cond.selects R_Mod y_Mod_takeApart y_Mod_takeApart ∈ hn_T := hn_inS 21 (by decide +kernel) rfl
theorem ms_22 : Cond.selects R_Mod y_Mod_cut y_Mod_cut ∈ hn_T := hn_inS 22 (by decide +kernel) rfl
theorem ms_23 : Cond.selects R_Mod y_Mod_open y_Mod_open ∈ hn_T := hn_inS 23 (by decide +kernel) rfl
theorem ms_24 : Cond.selects R_Mod y_Mod_fetch y_Mod_fetch ∈ hn_T := hn_inS 24 (by decide +kernel) rfl
theorem ms_25 : Cond.selects R_Mod y_Mod_hasTag y_Mod_hasTag ∈ hn_T := hn_inS 25 (by decide +kernel) rfl
theorem ms_26 : Cond.selects R_Mod y_Mod_unpackRow y_Mod_unpackRow ∈ hn_T := hn_inS 26 (by decide +kernel) rfl
theorem ms_27 : Cond.selects R_Mod y_Mod_threshold y_Mod_threshold ∈ hn_T := hn_inS 27 (by decide +kernel) rfl
theorem ms_28 : Cond.selects R_Mod y_Mod_adapt y_Mod_adapt ∈ hn_T := hn_inS 28 (by decide +kernel) rfl
theorem ms_29 : Cond.selects R_Mod y_Mod_keep y_Mod_keep ∈ hn_T := hn_inS 29 (by decide +kernel) rfl
theorem ms_30 : Cond.selects R_Mod y_Mod_anyRight y_Mod_anyRight ∈ hn_T := hn_inS 30 (by decide +kernel) rfl
theorem ms_31 : Cond.selects R_Mod y_Mod_codeOf y_Mod_codeOf ∈ hn_T := hn_inS 31 (by decide +kernel) rfl
theorem ms_32 : Cond.selects R_Mod y_Mod_check y_Mod_check ∈ hn_T := hn_inS 32 (by decide +kernel) rfl
theorem ms_33 : Cond.selects R_Mod y_Mod_composed y_Mod_composed ∈ hn_T := hn_inS 33 (by decide +kernel) rfl
theorem ms_34 : Cond.selects R_Mod y_Mod_hyphenRules y_Mod_hyphenRules ∈ hn_T := hn_inS 34 (by decide +kernel) rfl
theorem ms_35 : Cond.selects R_Mod y_Mod_allGood y_Mod_allGood ∈ hn_T := hn_inS 35 (by decide +kernel) rfl
theorem ms_36 : Cond.selects R_Mod y_Mod_joinersRight y_Mod_joinersRight ∈ hn_T := hn_inS 36 (by decide +kernel) rfl
theorem ms_37 : Cond.selects R_Mod y_Mod_across y_Mod_across ∈ hn_T := hn_inS 37 (by decide +kernel) rfl
theorem ms_38 : Cond.selects R_Mod y_Mod_directed y_Mod_directed ∈ hn_T := hn_inS 38 (by decide +kernel) rfl
theorem ms_39 : Cond.selects R_Mod y_Mod_give y_Mod_give ∈ hn_T := hn_inS 39 (by decide +kernel) rfl
theorem ms_40 : Cond.selects R_Mod y_Mod_out y_Mod_out ∈ hn_T := hn_inS 40 (by decide +kernel) rfl
theorem ms_41 : Cond.selects R_Mod y_Mod_packRow y_Mod_packRow ∈ hn_T := hn_inS 41 (by decide +kernel) rfl
theorem ms_42 : Cond.selects R_Mod y_Mod_leastLeft y_Mod_leastLeft ∈ hn_T := hn_inS 42 (by decide +kernel) rfl
theorem ms_43 : Cond.selects R_Mod y_Mod_outNumber y_Mod_outNumber ∈ hn_T := hn_inS 43 (by decide +kernel) rfl
theorem ms_44 : Cond.selects R_Mod y_Mod_outDigit y_Mod_outDigit ∈ hn_T := hn_inS 44 (by decide +kernel) rfl
theorem ms_45 : Cond.selects R_Mod y_Mod_takeText y_Mod_takeText ∈ hn_T := hn_inS 45 (by decide +kernel) rfl
theorem ms_46 : Cond.selects R_Mod y_Mod_giveRow y_Mod_giveRow ∈ hn_T := hn_inS 46 (by decide +kernel) rfl
theorem kc_Row : ∀ w ∈ u_ws R_Row F_Row 2, w ∈ hn_T := by decide +kernel
theorem kc_Labels : ∀ w ∈ u_ws R_Labels F_Labels 5, w ∈ hn_T := by decide +kernel
theorem kc_Composer : ∀ w ∈ u_ws R_Composer F_Composer 1, w ∈ hn_T := by decide +kernel
theorem kc_Packer : ∀ w ∈ u_ws R_Packer F_Packer 2, w ∈ hn_T := by decide +kernel
theorem kc_Checker : ∀ w ∈ u_ws R_Checker F_Checker 2, w ∈ hn_T := by decide +kernel
theorem kc_Host : ∀ w ∈ u_ws R_Host F_Host 10, w ∈ hn_T := by decide +kernel
theorem kc_Mod : ∀ w ∈ u_ws R_Mod F_Mod 17, w ∈ hn_T := by decide +kernel
