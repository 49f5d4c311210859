/-- the words that outlast a call: those of lw_tbl that are good -/
def gw : List Cond := lw_tbl.filter goodWord
theorem gw_t {w : Cond} (h : w ∈ tables_1) (hg : goodWord w = true) : w ∈ gw := List.mem_filter.mpr ⟨List.mem_append_right _ h, hg⟩
theorem gw_1 {w : Cond} (i : Nat) (h0 : tables_1_1[i]? = some w) (hg : goodWord w = true) : w ∈ gw := gw_t (have h := List.mem_of_getElem? h0; List.mem_append_left _ h) hg
theorem tb_1 {w : Cond} (i : Nat) (h0 : tables_1_1[i]? = some w) : w ∈ lw_tbl := List.mem_append_right _ (have h := List.mem_of_getElem? h0; List.mem_append_left _ h)
theorem gw_2 {w : Cond} (i : Nat) (h0 : tables_1_2[i]? = some w) (hg : goodWord w = true) : w ∈ gw := gw_t (have h := List.mem_of_getElem? h0; List.mem_append_right _ (List.mem_append_left _ h)) hg
theorem tb_2 {w : Cond} (i : Nat) (h0 : tables_1_2[i]? = some w) : w ∈ lw_tbl := List.mem_append_right _ (have h := List.mem_of_getElem? h0; List.mem_append_right _ (List.mem_append_left _ h))
theorem gw_3 {w : Cond} (i : Nat) (h0 : tables_1_3[i]? = some w) (hg : goodWord w = true) : w ∈ gw := gw_t (have h := List.mem_of_getElem? h0; List.mem_append_right _ (List.mem_append_right _ (List.mem_append_left _ h))) hg
theorem tb_3 {w : Cond} (i : Nat) (h0 : tables_1_3[i]? = some w) : w ∈ lw_tbl := List.mem_append_right _ (have h := List.mem_of_getElem? h0; List.mem_append_right _ (List.mem_append_right _ (List.mem_append_left _ h)))
theorem gw_4 {w : Cond} (i : Nat) (h0 : tables_1_4[i]? = some w) (hg : goodWord w = true) : w ∈ gw := gw_t (have h := List.mem_of_getElem? h0; List.mem_append_right _ (List.mem_append_right _ (List.mem_append_right _ (List.mem_append_left _ h)))) hg
theorem tb_4 {w : Cond} (i : Nat) (h0 : tables_1_4[i]? = some w) : w ∈ lw_tbl := List.mem_append_right _ (have h := List.mem_of_getElem? h0; List.mem_append_right _ (List.mem_append_right _ (List.mem_append_right _ (List.mem_append_left _ h))))
theorem gw_5 {w : Cond} (i : Nat) (h0 : tables_1_5[i]? = some w) (hg : goodWord w = true) : w ∈ gw := gw_t (have h := List.mem_of_getElem? h0; List.mem_append_right _ (List.mem_append_right _ (List.mem_append_right _ (List.mem_append_right _ (List.mem_append_left _ h))))) hg
theorem tb_5 {w : Cond} (i : Nat) (h0 : tables_1_5[i]? = some w) : w ∈ lw_tbl := List.mem_append_right _ (have h := List.mem_of_getElem? h0; List.mem_append_right _ (List.mem_append_right _ (List.mem_append_right _ (List.mem_append_right _ (List.mem_append_left _ h)))))
theorem gw_6 {w : Cond} (i : Nat) (h0 : tables_1_6[i]? = some w) (hg : goodWord w = true) : w ∈ gw := gw_t (have h := List.mem_of_getElem? h0; List.mem_append_right _ (List.mem_append_right _ (List.mem_append_right _ (List.mem_append_right _ (List.mem_append_right _ (List.mem_append_left _ h)))))) hg
theorem tb_6 {w : Cond} (i : Nat) (h0 : tables_1_6[i]? = some w) : w ∈ lw_tbl := List.mem_append_right _ (have h := List.mem_of_getElem? h0; List.mem_append_right _ (List.mem_append_right _ (List.mem_append_right _ (List.mem_append_right _ (List.mem_append_right _ (List.mem_append_left _ h))))))
theorem gw_7 {w : Cond} (i : Nat) (h0 : tables_1_7[i]? = some w) (hg : goodWord w = true) : w ∈ gw := gw_t (have h := List.mem_of_getElem? h0; List.mem_append_right _ (List.mem_append_right _ (List.mem_append_right _ (List.mem_append_right _ (List.mem_append_right _ (List.mem_append_right _ (h))))))) hg
theorem tb_7 {w : Cond} (i : Nat) (h0 : tables_1_7[i]? = some w) : w ∈ lw_tbl := List.mem_append_right _ (have h := List.mem_of_getElem? h0; List.mem_append_right _ (List.mem_append_right _ (List.mem_append_right _ (List.mem_append_right _ (List.mem_append_right _ (List.mem_append_right _ (h)))))))
theorem gw_s {q : MethodName × Nat} (h : q ∈ lw_privs) : Cond.selects q.1.cls q.1 q.1 ∈ gw := List.mem_filter.mpr ⟨List.mem_append_left _ (List.mem_map.mpr ⟨q, h, rfl⟩), rfl⟩
theorem gw_ok : ∀ w ∈ gw, (w.onTables && w.keeps) = true ∨ ∃ ty, w = .arrayClass ty := fun w h => good_of_word (List.mem_filter.mp h).2
theorem gw_hts {av : Array Value} {s : State} (h : ∀ w ∈ lw_tbl, w.before av s = true) : ∀ w ∈ gw, w.before av s = true := fun w hw => h w (List.mem_filter.mp hw).1
theorem ii_RL : Cond.initialized RL ∈ gw := gw_1 0 rfl rfl
theorem ii_RX11 : Cond.initialized RX11 ∈ gw := gw_1 1 rfl rfl
theorem ii_RX0 : Cond.initialized RX0 ∈ gw := gw_1 2 rfl rfl
theorem ii_RX4 : Cond.initialized RX4 ∈ gw := gw_1 3 rfl rfl
theorem ii_RX10 : Cond.initialized RX10 ∈ gw := gw_1 4 rfl rfl
theorem ii_RX8 : Cond.initialized RX8 ∈ gw := gw_1 5 rfl rfl
theorem ii_RJ7 : Cond.initialized RJ7 ∈ gw := gw_1 6 rfl rfl
theorem ii_RX1 : Cond.initialized RX1 ∈ gw := gw_1 7 rfl rfl
theorem ii_RX5 : Cond.initialized RX5 ∈ gw := gw_1 8 rfl rfl
theorem ii_RX7 : Cond.initialized RX7 ∈ gw := gw_1 9 rfl rfl
theorem ii_RX12 : Cond.initialized RX12 ∈ gw := gw_1 10 rfl rfl
theorem ii_RJ9 : Cond.initialized RJ9 ∈ gw := gw_1 11 rfl rfl
theorem ii_RX6 : Cond.initialized RX6 ∈ gw := gw_1 12 rfl rfl
theorem ii_RX3 : Cond.initialized RX3 ∈ gw := gw_1 13 rfl rfl
theorem ii_RX2 : Cond.initialized RX2 ∈ gw := gw_1 14 rfl rfl
theorem ii_RX9 : Cond.initialized RX9 ∈ gw := gw_1 15 rfl rfl
theorem ii_RJ6 : Cond.initialized RJ6 ∈ gw := gw_1 16 rfl rfl
theorem cl_RL_7 : Cond.classLink RL 7 RX11 ∈ gw := gw_1 17 rfl rfl
theorem it_RX11 : Cond.instantiable RX11 15 ∈ gw := gw_1 18 rfl rfl
theorem ml_RL_9 : Cond.methodLink RL 9 yX11_init ∈ gw := gw_1 19 rfl rfl
theorem im_X11_init : Cond.instanceMethod yX11_init ∈ gw := gw_1 20 rfl rfl
theorem cd_X11_init : Cond.code yX11_init cX11_init 2 none ∈ gw := gw_1 21 rfl rfl
theorem ml_RX11_3 : Cond.methodLink RX11 3 Lib.objectInit ∈ gw := gw_1 22 rfl rfl
theorem im_objInit : Cond.instanceMethod Lib.objectInit ∈ gw := gw_1 23 rfl rfl
theorem cd_objInit : Cond.code Lib.objectInit ⟨#[0xb1]⟩ 1 none ∈ gw := gw_1 24 rfl rfl
theorem cl_RX11_9 : Cond.classLink RX11 9 RX0 ∈ gw := gw_1 25 rfl rfl
theorem it_RX0 : Cond.instantiable RX0 5 ∈ gw := gw_1 26 rfl rfl
theorem im_X0_init : Cond.instanceMethod yX0_init ∈ gw := gw_1 28 rfl rfl
theorem cd_X0_init : Cond.code yX0_init cX0_init 1 none ∈ gw := gw_1 29 rfl rfl
theorem ml_RX0_3 : Cond.methodLink RX0 3 Lib.objectInit ∈ gw := gw_1 30 rfl rfl
theorem fl_RX0_9 : Cond.fieldLink RX0 9 "CampYears$Camps" "x" "[I" ∈ gw := gw_1 31 rfl rfl
theorem fl_RX5_49 : Cond.fieldLink RX5 49 "CampYears$Camps" "x" "[I" ∈ gw := gw_1 32 rfl rfl
theorem fl_RX11_326 : Cond.fieldLink RX11 326 "CampYears$Camps" "x" "[I" ∈ gw := gw_1 33 rfl rfl
theorem fl_RX0_15 : Cond.fieldLink RX0 15 "CampYears$Camps" "y" "[I" ∈ gw := gw_1 34 rfl rfl
theorem fl_RX5_50 : Cond.fieldLink RX5 50 "CampYears$Camps" "y" "[I" ∈ gw := gw_1 35 rfl rfl
theorem fl_RX11_329 : Cond.fieldLink RX11 329 "CampYears$Camps" "y" "[I" ∈ gw := gw_1 36 rfl rfl
theorem fl_RX0_18 : Cond.fieldLink RX0 18 "CampYears$Camps" "beds" "[I" ∈ gw := gw_1 37 rfl rfl
theorem fl_RX11_133 : Cond.fieldLink RX11 133 "CampYears$Camps" "beds" "[I" ∈ gw := gw_1 38 rfl rfl
theorem fl_RX0_21 : Cond.fieldLink RX0 21 "CampYears$Camps" "crew" "[I" ∈ gw := gw_1 39 rfl rfl
theorem fl_RX1_89 : Cond.fieldLink RX1 89 "CampYears$Camps" "crew" "[I" ∈ gw := gw_1 40 rfl rfl
theorem fl_RX11_277 : Cond.fieldLink RX11 277 "CampYears$Camps" "crew" "[I" ∈ gw := gw_1 41 rfl rfl
theorem fl_RX0_24 : Cond.fieldLink RX0 24 "CampYears$Camps" "count" "I" ∈ gw := gw_1 42 rfl rfl
theorem fl_RX1_41 : Cond.fieldLink RX1 41 "CampYears$Camps" "count" "I" ∈ gw := gw_1 43 rfl rfl
theorem fl_RX5_42 : Cond.fieldLink RX5 42 "CampYears$Camps" "count" "I" ∈ gw := gw_1 44 rfl rfl
theorem fl_RX11_155 : Cond.fieldLink RX11 155 "CampYears$Camps" "count" "I" ∈ gw := gw_1 45 rfl rfl
theorem ac_int : Cond.arrayClass .int ∈ gw := gw_1 57 rfl rfl
theorem cl_RX11_18 : Cond.classLink RX11 18 RX6 ∈ gw := gw_1 58 rfl rfl
theorem ao_RX6 : Cond.arrayOver (.object "CampYears$Post") ∈ lw_tbl := tb_1 59 rfl
theorem cl_RX11_28 : Cond.classLink RX11 28 RX2 ∈ gw := gw_1 60 rfl rfl
theorem ao_RX2 : Cond.arrayOver (.object "CampYears$Order") ∈ lw_tbl := tb_1 61 rfl
theorem cl_RX11_34 : Cond.classLink RX11 34 RX4 ∈ gw := gw_1 62 rfl rfl
theorem it_RX4 : Cond.instantiable RX4 7 ∈ gw := gw_1 63 rfl rfl
theorem im_X4_init : Cond.instanceMethod yX4_init ∈ gw := gw_1 65 rfl rfl
theorem cd_X4_init : Cond.code yX4_init cX4_init 1 none ∈ gw := gw_1 66 rfl rfl
theorem ml_RX4_3 : Cond.methodLink RX4 3 Lib.objectInit ∈ gw := gw_1 67 rfl rfl
theorem fl_RX4_9 : Cond.fieldLink RX4 9 "CampYears$Payroll" "rates" "[I" ∈ gw := gw_1 68 rfl rfl
theorem fl_RX11_200 : Cond.fieldLink RX11 200 "CampYears$Payroll" "rates" "[I" ∈ gw := gw_1 69 rfl rfl
theorem fl_RX4_15 : Cond.fieldLink RX4 15 "CampYears$Payroll" "homeShare" "I" ∈ gw := gw_1 70 rfl rfl
theorem fl_RX4_19 : Cond.fieldLink RX4 19 "CampYears$Payroll" "homeBy" "I" ∈ gw := gw_1 71 rfl rfl
theorem fl_RX4_22 : Cond.fieldLink RX4 22 "CampYears$Payroll" "fineMan" "[I" ∈ gw := gw_1 72 rfl rfl
theorem fl_RX4_25 : Cond.fieldLink RX4 25 "CampYears$Payroll" "fineDay" "[I" ∈ gw := gw_1 73 rfl rfl
theorem fl_RX4_28 : Cond.fieldLink RX4 28 "CampYears$Payroll" "fineCents" "[I" ∈ gw := gw_1 74 rfl rfl
theorem fl_RX4_31 : Cond.fieldLink RX4 31 "CampYears$Payroll" "fineCount" "I" ∈ gw := gw_1 75 rfl rfl
theorem fl_RX11_372 : Cond.fieldLink RX11 372 "CampYears$Payroll" "fineCount" "I" ∈ gw := gw_1 76 rfl rfl
theorem cl_RX11_41 : Cond.classLink RX11 41 RX10 ∈ gw := gw_1 92 rfl rfl
theorem it_RX10 : Cond.instantiable RX10 7 ∈ gw := gw_1 93 rfl rfl
theorem im_X10_init : Cond.instanceMethod yX10_init ∈ gw := gw_1 95 rfl rfl
theorem cd_X10_init : Cond.code yX10_init cX10_init 1 none ∈ gw := gw_1 96 rfl rfl
theorem ml_RX10_3 : Cond.methodLink RX10 3 Lib.objectInit ∈ gw := gw_1 97 rfl rfl
theorem cl_RX10_11 : Cond.classLink RX10 11 RX9 ∈ gw := gw_1 98 rfl rfl
theorem ao_RX9 : Cond.arrayOver (.object "CampYears$Work") ∈ lw_tbl := tb_1 99 rfl
theorem fl_RX10_13 : Cond.fieldLink RX10 13 "CampYears$Works" "works" "[LCampYears$Work;" ∈ gw := gw_1 100 rfl rfl
theorem fl_RX10_35 : Cond.fieldLink RX10 35 "CampYears$Works" "count" "I" ∈ gw := gw_1 101 rfl rfl
theorem fl_RX11_375 : Cond.fieldLink RX11 375 "CampYears$Works" "count" "I" ∈ gw := gw_1 102 rfl rfl
theorem fl_RX10_17 : Cond.fieldLink RX10 17 "CampYears$Works" "weather" "[I" ∈ gw := gw_1 103 rfl rfl
theorem fl_RX10_21 : Cond.fieldLink RX10 21 "CampYears$Works" "weatherCount" "I" ∈ gw := gw_1 104 rfl rfl
theorem fl_RX10_50 : Cond.fieldLink RX10 50 "CampYears$Works" "weeks" "I" ∈ gw := gw_1 105 rfl rfl
theorem fl_RX11_376 : Cond.fieldLink RX11 376 "CampYears$Works" "weeks" "I" ∈ gw := gw_1 106 rfl rfl
theorem fl_RX10_25 : Cond.fieldLink RX10 25 "CampYears$Works" "tellsOn" "[I" ∈ gw := gw_1 107 rfl rfl
theorem fl_RX10_28 : Cond.fieldLink RX10 28 "CampYears$Works" "tellsBy" "[I" ∈ gw := gw_1 108 rfl rfl
theorem cl_RX11_48 : Cond.classLink RX11 48 RX8 ∈ gw := gw_1 124 rfl rfl
theorem it_RX8 : Cond.instantiable RX8 6 ∈ gw := gw_1 125 rfl rfl
theorem ml_RX11_50 : Cond.methodLink RX11 50 yX8_init ∈ gw := gw_1 126 rfl rfl
theorem im_X8_init : Cond.instanceMethod yX8_init ∈ gw := gw_1 127 rfl rfl
theorem cd_X8_init : Cond.code yX8_init cX8_init 1 none ∈ gw := gw_1 128 rfl rfl
theorem ml_RX8_3 : Cond.methodLink RX8 3 Lib.objectInit ∈ gw := gw_1 129 rfl rfl
theorem ml_RX8_27 : Cond.methodLink RX8 27 yJ7_fill_53178 ∈ gw := gw_1 130 rfl rfl
theorem sm_J7_fill_53178 : Cond.static yJ7_fill_53178 ∈ gw := gw_1 131 rfl rfl
theorem cd_J7_fill_53178 : Cond.code yJ7_fill_53178 cJ7_fill_53178 4 none ∈ gw := gw_1 132 rfl rfl
theorem fl_RX8_11 : Cond.fieldLink RX8 11 "CampYears$Trees" "kind" "[I" ∈ gw := gw_1 133 rfl rfl
theorem fl_RX8_15 : Cond.fieldLink RX8 15 "CampYears$Trees" "slope" "[I" ∈ gw := gw_1 134 rfl rfl
theorem fl_RX8_18 : Cond.fieldLink RX8 18 "CampYears$Trees" "planted" "[I" ∈ gw := gw_1 135 rfl rfl
theorem fl_RX8_21 : Cond.fieldLink RX8 21 "CampYears$Trees" "year" "[I" ∈ gw := gw_1 136 rfl rfl
theorem fl_RX8_33 : Cond.fieldLink RX8 33 "CampYears$Trees" "count" "I" ∈ gw := gw_1 137 rfl rfl
theorem fl_RX11_379 : Cond.fieldLink RX11 379 "CampYears$Trees" "count" "I" ∈ gw := gw_1 138 rfl rfl
theorem fl_RX8_24 : Cond.fieldLink RX8 24 "CampYears$Trees" "table" "[I" ∈ gw := gw_1 139 rfl rfl
theorem cl_RX11_55 : Cond.classLink RX11 55 RX1 ∈ gw := gw_1 153 rfl rfl
theorem it_RX1 : Cond.instantiable RX1 9 ∈ gw := gw_1 154 rfl rfl
theorem im_X1_init : Cond.instanceMethod yX1_init ∈ gw := gw_1 156 rfl rfl
theorem cd_X1_init : Cond.code yX1_init cX1_init 1 none ∈ gw := gw_1 157 rfl rfl
theorem ml_RX1_5 : Cond.methodLink RX1 5 Lib.objectInit ∈ gw := gw_1 158 rfl rfl
theorem fl_RX1_11 : Cond.fieldLink RX1 11 "CampYears$Fires" "x" "[I" ∈ gw := gw_1 159 rfl rfl
theorem fl_RX1_15 : Cond.fieldLink RX1 15 "CampYears$Fires" "y" "[I" ∈ gw := gw_1 160 rfl rfl
theorem fl_RX1_18 : Cond.fieldLink RX1 18 "CampYears$Fires" "need" "[I" ∈ gw := gw_1 161 rfl rfl
theorem fl_RX1_21 : Cond.fieldLink RX1 21 "CampYears$Fires" "spread" "[I" ∈ gw := gw_1 162 rfl rfl
theorem fl_RX1_37 : Cond.fieldLink RX1 37 "CampYears$Fires" "count" "I" ∈ gw := gw_1 163 rfl rfl
theorem fl_RX11_380 : Cond.fieldLink RX11 380 "CampYears$Fires" "count" "I" ∈ gw := gw_1 164 rfl rfl
theorem fl_RX1_24 : Cond.fieldLink RX1 24 "CampYears$Fires" "hours" "[I" ∈ gw := gw_1 165 rfl rfl
theorem fl_RX1_27 : Cond.fieldLink RX1 27 "CampYears$Fires" "queue" "[I" ∈ gw := gw_1 166 rfl rfl
theorem fl_RX1_30 : Cond.fieldLink RX1 30 "CampYears$Fires" "sent" "[J" ∈ gw := gw_1 167 rfl rfl
theorem fl_RX1_34 : Cond.fieldLink RX1 34 "CampYears$Fires" "best" "[J" ∈ gw := gw_1 168 rfl rfl
theorem ac_long : Cond.arrayClass .long ∈ gw := gw_1 188 rfl rfl
theorem cl_RX11_62 : Cond.classLink RX11 62 RX5 ∈ gw := gw_1 189 rfl rfl
theorem it_RX5 : Cond.instantiable RX5 7 ∈ gw := gw_1 190 rfl rfl
theorem im_X5_init : Cond.instanceMethod yX5_init ∈ gw := gw_1 192 rfl rfl
theorem cd_X5_init : Cond.code yX5_init cX5_init 1 none ∈ gw := gw_1 193 rfl rfl
theorem ml_RX5_5 : Cond.methodLink RX5 5 Lib.objectInit ∈ gw := gw_1 194 rfl rfl
theorem fl_RX5_13 : Cond.fieldLink RX5 13 "CampYears$Places" "x" "[I" ∈ gw := gw_1 195 rfl rfl
theorem fl_RX5_17 : Cond.fieldLink RX5 17 "CampYears$Places" "y" "[I" ∈ gw := gw_1 196 rfl rfl
theorem fl_RX5_20 : Cond.fieldLink RX5 20 "CampYears$Places" "reach" "[I" ∈ gw := gw_1 197 rfl rfl
theorem fl_RX5_23 : Cond.fieldLink RX5 23 "CampYears$Places" "water" "[Z" ∈ gw := gw_1 198 rfl rfl
theorem fl_RX5_33 : Cond.fieldLink RX5 33 "CampYears$Places" "count" "I" ∈ gw := gw_1 199 rfl rfl
theorem fl_RX11_381 : Cond.fieldLink RX11 381 "CampYears$Places" "count" "I" ∈ gw := gw_1 200 rfl rfl
theorem fl_RX5_27 : Cond.fieldLink RX5 27 "CampYears$Places" "most" "[I" ∈ gw := gw_1 201 rfl rfl
theorem fl_RX5_30 : Cond.fieldLink RX5 30 "CampYears$Places" "chosen" "[I" ∈ gw := gw_1 202 rfl rfl
theorem fl_RX11_313 : Cond.fieldLink RX11 313 "CampYears$Places" "chosen" "[I" ∈ gw := gw_1 203 rfl rfl
theorem ac_boolean : Cond.arrayClass .boolean ∈ gw := gw_1 219 rfl rfl
theorem cl_RX11_69 : Cond.classLink RX11 69 RX7 ∈ gw := gw_1 220 rfl rfl
theorem ao_RX7 : Cond.arrayOver (.object "CampYears$Sheet") ∈ lw_tbl := tb_1 221 rfl
theorem it_RX7 : Cond.instantiable RX7 3 ∈ gw := gw_1 222 rfl rfl
theorem im_X7_init : Cond.instanceMethod yX7_init ∈ gw := gw_1 224 rfl rfl
theorem cd_X7_init : Cond.code yX7_init cX7_init 1 none ∈ gw := gw_1 225 rfl rfl
theorem ml_RX7_3 : Cond.methodLink RX7 3 Lib.objectInit ∈ gw := gw_1 226 rfl rfl
theorem fl_RX7_11 : Cond.fieldLink RX7 11 "CampYears$Sheet" "cells" "[I" ∈ gw := gw_1 227 rfl rfl
theorem fl_RX7_15 : Cond.fieldLink RX7 15 "CampYears$Sheet" "lane" "I" ∈ gw := gw_1 228 rfl rfl
theorem fl_RX11_339 : Cond.fieldLink RX11 339 "CampYears$Sheet" "lane" "I" ∈ gw := gw_1 229 rfl rfl
theorem fl_RX7_25 : Cond.fieldLink RX7 25 "CampYears$Sheet" "size" "I" ∈ gw := gw_1 230 rfl rfl
theorem fl_RX11_12 : Cond.fieldLink RX11 12 "CampYears" "camps" "LCampYears$Camps;" ∈ gw := gw_1 238 rfl rfl
theorem fl_RX11_88 : Cond.fieldLink RX11 88 "CampYears" "menCount" "I" ∈ gw := gw_1 239 rfl rfl
theorem fl_RX11_20 : Cond.fieldLink RX11 20 "CampYears" "posts" "[LCampYears$Post;" ∈ gw := gw_2 0 rfl rfl
theorem fl_RX11_108 : Cond.fieldLink RX11 108 "CampYears" "postCount" "I" ∈ gw := gw_2 1 rfl rfl
theorem fl_RX11_369 : Cond.fieldLink RX11 369 "CampYears" "traced" "I" ∈ gw := gw_2 2 rfl rfl
theorem fl_RX11_24 : Cond.fieldLink RX11 24 "CampYears" "delays" "[I" ∈ gw := gw_2 3 rfl rfl
theorem fl_RX11_30 : Cond.fieldLink RX11 30 "CampYears" "orders" "[LCampYears$Order;" ∈ gw := gw_2 4 rfl rfl
theorem fl_RX11_171 : Cond.fieldLink RX11 171 "CampYears" "orderCount" "I" ∈ gw := gw_2 5 rfl rfl
theorem fl_RX11_37 : Cond.fieldLink RX11 37 "CampYears" "payroll" "LCampYears$Payroll;" ∈ gw := gw_2 6 rfl rfl
theorem fl_RX11_44 : Cond.fieldLink RX11 44 "CampYears" "works" "LCampYears$Works;" ∈ gw := gw_2 7 rfl rfl
theorem fl_RX11_51 : Cond.fieldLink RX11 51 "CampYears" "trees" "LCampYears$Trees;" ∈ gw := gw_2 8 rfl rfl
theorem fl_RX11_58 : Cond.fieldLink RX11 58 "CampYears" "fires" "LCampYears$Fires;" ∈ gw := gw_2 9 rfl rfl
theorem fl_RX11_65 : Cond.fieldLink RX11 65 "CampYears" "places" "LCampYears$Places;" ∈ gw := gw_2 10 rfl rfl
theorem fl_RX11_71 : Cond.fieldLink RX11 71 "CampYears" "sheets" "[LCampYears$Sheet;" ∈ gw := gw_2 11 rfl rfl
theorem fl_RX11_136 : Cond.fieldLink RX11 136 "CampYears" "latestFault" "I" ∈ gw := gw_2 12 rfl rfl
theorem ml_RL_13 : Cond.methodLink RL 13 yX11_camp ∈ gw := gw_2 44 rfl rfl
theorem im_X11_camp : Cond.instanceMethod yX11_camp ∈ gw := gw_2 45 rfl rfl
theorem se_X11_camp : Cond.selects RX11 yX11_camp yX11_camp ∈ gw := gw_2 46 rfl rfl
theorem cd_X11_camp : Cond.code yX11_camp cX11_camp 4 (some .int) ∈ gw := gw_2 47 rfl rfl
theorem ml_RX11_76 : Cond.methodLink RX11 76 yX11_isSpot ∈ gw := gw_2 48 rfl rfl
theorem sm_X11_isSpot : Cond.static yX11_isSpot ∈ gw := gw_2 49 rfl rfl
theorem cd_X11_isSpot : Cond.code yX11_isSpot cX11_isSpot 2 (some .boolean) ∈ gw := gw_2 50 rfl rfl
theorem ml_RX11_80 : Cond.methodLink RX11 80 yX11_isWithin ∈ gw := gw_2 51 rfl rfl
theorem sm_X11_isWithin : Cond.static yX11_isWithin ∈ gw := gw_2 52 rfl rfl
theorem cd_X11_isWithin : Cond.code yX11_isWithin cX11_isWithin 3 (some .boolean) ∈ gw := gw_2 53 rfl rfl
theorem ml_RX11_84 : Cond.methodLink RX11 84 yX0_add ∈ gw := gw_2 54 rfl rfl
theorem im_X0_add : Cond.instanceMethod yX0_add ∈ gw := gw_2 55 rfl rfl
theorem se_X0_add : Cond.selects RX0 yX0_add yX0_add ∈ gw := gw_2 56 rfl rfl
theorem cd_X0_add : Cond.code yX0_add cX0_add 4 (some .int) ∈ gw := gw_2 57 rfl rfl
theorem ml_RL_18 : Cond.methodLink RL 18 yX11_man ∈ gw := gw_2 58 rfl rfl
theorem im_X11_man : Cond.instanceMethod yX11_man ∈ gw := gw_2 59 rfl rfl
theorem se_X11_man : Cond.selects RX11 yX11_man yX11_man ∈ gw := gw_2 60 rfl rfl
theorem cd_X11_man : Cond.code yX11_man cX11_man 1 (some .int) ∈ gw := gw_2 61 rfl rfl
theorem ml_RL_23 : Cond.methodLink RL 23 yX11_post ∈ gw := gw_2 62 rfl rfl
theorem im_X11_post : Cond.instanceMethod yX11_post ∈ gw := gw_2 63 rfl rfl
theorem se_X11_post : Cond.selects RX11 yX11_post yX11_post ∈ gw := gw_2 64 rfl rfl
theorem cd_X11_post : Cond.code yX11_post cX11_post 6 (some .int) ∈ gw := gw_2 65 rfl rfl
theorem ml_RX11_92 : Cond.methodLink RX11 92 yX11_isMan ∈ gw := gw_2 66 rfl rfl
theorem im_X11_isMan : Cond.instanceMethod yX11_isMan ∈ gw := gw_2 68 rfl rfl
theorem cd_X11_isMan : Cond.code yX11_isMan cX11_isMan 2 (some .boolean) ∈ gw := gw_2 69 rfl rfl
theorem ml_RX11_96 : Cond.methodLink RX11 96 yX0_has ∈ gw := gw_2 70 rfl rfl
theorem im_X0_has : Cond.instanceMethod yX0_has ∈ gw := gw_2 71 rfl rfl
theorem se_X0_has : Cond.selects RX0 yX0_has yX0_has ∈ gw := gw_2 72 rfl rfl
theorem cd_X0_has : Cond.code yX0_has cX0_has 2 (some .boolean) ∈ gw := gw_2 73 rfl rfl
theorem ml_RX11_99 : Cond.methodLink RX11 99 yX11_isKind ∈ gw := gw_2 75 rfl rfl
theorem sm_X11_isKind : Cond.static yX11_isKind ∈ gw := gw_2 76 rfl rfl
theorem cd_X11_isKind : Cond.code yX11_isKind cX11_isKind 1 (some .boolean) ∈ gw := gw_2 77 rfl rfl
theorem ml_RX11_102 : Cond.methodLink RX11 102 yX11_areDays ∈ gw := gw_2 78 rfl rfl
theorem sm_X11_areDays : Cond.static yX11_areDays ∈ gw := gw_2 79 rfl rfl
theorem cd_X11_areDays : Cond.code yX11_areDays cX11_areDays 2 (some .boolean) ∈ gw := gw_2 80 rfl rfl
theorem ml_RX11_114 : Cond.methodLink RX11 114 yX11_isDay ∈ gw := gw_2 81 rfl rfl
theorem sm_X11_isDay : Cond.static yX11_isDay ∈ gw := gw_2 82 rfl rfl
theorem cd_X11_isDay : Cond.code yX11_isDay cX11_isDay 1 (some .boolean) ∈ gw := gw_2 83 rfl rfl
theorem ml_RX11_105 : Cond.methodLink RX11 105 yX11_daysOnPosts ∈ gw := gw_2 84 rfl rfl
theorem im_X11_daysOnPosts : Cond.instanceMethod yX11_daysOnPosts ∈ gw := gw_2 86 rfl rfl
theorem cd_X11_daysOnPosts : Cond.code yX11_daysOnPosts cX11_daysOnPosts 9 (some .int) ∈ gw := gw_2 87 rfl rfl
theorem ml_RX11_385 : Cond.methodLink RX11 385 yX6_daysIn ∈ gw := gw_2 88 rfl rfl
theorem im_X6_daysIn : Cond.instanceMethod yX6_daysIn ∈ gw := gw_2 89 rfl rfl
theorem se_X6_daysIn : Cond.selects RX6 yX6_daysIn yX6_daysIn ∈ gw := gw_2 90 rfl rfl
theorem cd_X6_daysIn : Cond.code yX6_daysIn cX6_daysIn 3 (some .int) ∈ gw := gw_2 91 rfl rfl
theorem ml_RX6_31 : Cond.methodLink RX6 31 yJ9_min_7cf53 ∈ gw := gw_2 92 rfl rfl
theorem sm_J9_min_7cf53 : Cond.static yJ9_min_7cf53 ∈ gw := gw_2 93 rfl rfl
theorem cd_J9_min_7cf53 : Cond.code yJ9_min_7cf53 cJ9_min_7cf53 2 (some .int) ∈ gw := gw_2 94 rfl rfl
theorem ml_RX6_37 : Cond.methodLink RX6 37 yJ9_max_7cf53 ∈ gw := gw_2 95 rfl rfl
theorem sm_J9_max_7cf53 : Cond.static yJ9_max_7cf53 ∈ gw := gw_2 96 rfl rfl
theorem cd_J9_max_7cf53 : Cond.code yJ9_max_7cf53 cJ9_max_7cf53 2 (some .int) ∈ gw := gw_2 97 rfl rfl
theorem it_RX6 : Cond.instantiable RX6 5 ∈ gw := gw_2 98 rfl rfl
theorem ml_RX11_111 : Cond.methodLink RX11 111 yX6_init ∈ gw := gw_2 99 rfl rfl
theorem im_X6_init : Cond.instanceMethod yX6_init ∈ gw := gw_2 100 rfl rfl
theorem cd_X6_init : Cond.code yX6_init cX6_init 6 none ∈ gw := gw_2 101 rfl rfl
theorem ml_RX6_1 : Cond.methodLink RX6 1 Lib.objectInit ∈ gw := gw_2 102 rfl rfl
theorem fl_RX6_7 : Cond.fieldLink RX6 7 "CampYears$Post" "kind" "I" ∈ gw := gw_2 103 rfl rfl
theorem fl_RX4_47 : Cond.fieldLink RX4 47 "CampYears$Post" "kind" "I" ∈ gw := gw_2 104 rfl rfl
theorem fl_RX11_352 : Cond.fieldLink RX11 352 "CampYears$Post" "kind" "I" ∈ gw := gw_2 105 rfl rfl
theorem fl_RX6_13 : Cond.fieldLink RX6 13 "CampYears$Post" "man" "I" ∈ gw := gw_2 106 rfl rfl
theorem fl_RX4_38 : Cond.fieldLink RX4 38 "CampYears$Post" "man" "I" ∈ gw := gw_2 107 rfl rfl
theorem fl_RX11_117 : Cond.fieldLink RX11 117 "CampYears$Post" "man" "I" ∈ gw := gw_2 108 rfl rfl
theorem fl_RX6_16 : Cond.fieldLink RX6 16 "CampYears$Post" "camp" "I" ∈ gw := gw_2 109 rfl rfl
theorem fl_RX11_127 : Cond.fieldLink RX11 127 "CampYears$Post" "camp" "I" ∈ gw := gw_2 110 rfl rfl
theorem fl_RX6_19 : Cond.fieldLink RX6 19 "CampYears$Post" "from" "I" ∈ gw := gw_2 111 rfl rfl
theorem fl_RX11_130 : Cond.fieldLink RX11 130 "CampYears$Post" "from" "I" ∈ gw := gw_2 112 rfl rfl
theorem fl_RX6_22 : Cond.fieldLink RX6 22 "CampYears$Post" "till" "I" ∈ gw := gw_2 113 rfl rfl
theorem ml_RL_28 : Cond.methodLink RL 28 yX11_day ∈ gw := gw_2 125 rfl rfl
theorem im_X11_day : Cond.instanceMethod yX11_day ∈ gw := gw_2 126 rfl rfl
theorem se_X11_day : Cond.selects RX11 yX11_day yX11_day ∈ gw := gw_2 127 rfl rfl
theorem cd_X11_day : Cond.code yX11_day cX11_day 5 (some .int) ∈ gw := gw_2 128 rfl rfl
theorem ml_RX11_120 : Cond.methodLink RX11 120 yX6_holdsOn ∈ gw := gw_2 129 rfl rfl
theorem im_X6_holdsOn : Cond.instanceMethod yX6_holdsOn ∈ gw := gw_2 130 rfl rfl
theorem se_X6_holdsOn : Cond.selects RX6 yX6_holdsOn yX6_holdsOn ∈ gw := gw_2 131 rfl rfl
theorem cd_X6_holdsOn : Cond.code yX6_holdsOn cX6_holdsOn 2 (some .boolean) ∈ gw := gw_2 132 rfl rfl
theorem ml_RL_33 : Cond.methodLink RL 33 yX11_beds ∈ gw := gw_2 134 rfl rfl
theorem im_X11_beds : Cond.instanceMethod yX11_beds ∈ gw := gw_2 135 rfl rfl
theorem se_X11_beds : Cond.selects RX11 yX11_beds yX11_beds ∈ gw := gw_2 136 rfl rfl
theorem cd_X11_beds : Cond.code yX11_beds cX11_beds 3 (some .int) ∈ gw := gw_2 137 rfl rfl
theorem ml_RX11_123 : Cond.methodLink RX11 123 yX11_menAt ∈ gw := gw_2 138 rfl rfl
theorem im_X11_menAt : Cond.instanceMethod yX11_menAt ∈ gw := gw_2 140 rfl rfl
theorem cd_X11_menAt : Cond.code yX11_menAt cX11_menAt 8 (some .int) ∈ gw := gw_2 141 rfl rfl
theorem ml_RL_37 : Cond.methodLink RL 37 yX11_over ∈ gw := gw_2 142 rfl rfl
theorem im_X11_over : Cond.instanceMethod yX11_over ∈ gw := gw_2 143 rfl rfl
theorem se_X11_over : Cond.selects RX11 yX11_over yX11_over ∈ gw := gw_2 144 rfl rfl
theorem cd_X11_over : Cond.code yX11_over cX11_over 7 (some .int) ∈ gw := gw_2 145 rfl rfl
theorem ml_RL_42 : Cond.methodLink RL 42 yX11_order ∈ gw := gw_2 146 rfl rfl
theorem im_X11_order : Cond.instanceMethod yX11_order ∈ gw := gw_2 147 rfl rfl
theorem se_X11_order : Cond.selects RX11 yX11_order yX11_order ∈ gw := gw_2 148 rfl rfl
theorem cd_X11_order : Cond.code yX11_order cX11_order 9 (some .int) ∈ gw := gw_2 149 rfl rfl
theorem ml_RX11_139 : Cond.methodLink RX11 139 yX11_sheetAt ∈ gw := gw_2 150 rfl rfl
theorem im_X11_sheetAt : Cond.instanceMethod yX11_sheetAt ∈ gw := gw_2 152 rfl rfl
theorem cd_X11_sheetAt : Cond.code yX11_sheetAt cX11_sheetAt 2 (some (.object "CampYears$Sheet")) ∈ gw := gw_2 153 rfl rfl
theorem ml_RX11_143 : Cond.methodLink RX11 143 yX11_isLane ∈ gw := gw_2 154 rfl rfl
theorem sm_X11_isLane : Cond.static yX11_isLane ∈ gw := gw_2 155 rfl rfl
theorem cd_X11_isLane : Cond.code yX11_isLane cX11_isLane 1 (some .boolean) ∈ gw := gw_2 156 rfl rfl
theorem ml_RX11_146 : Cond.methodLink RX11 146 yX7_faultOf ∈ gw := gw_2 157 rfl rfl
theorem im_X7_faultOf : Cond.instanceMethod yX7_faultOf ∈ gw := gw_2 158 rfl rfl
theorem se_X7_faultOf : Cond.selects RX7 yX7_faultOf yX7_faultOf ∈ gw := gw_2 159 rfl rfl
theorem cd_X7_faultOf : Cond.code yX7_faultOf cX7_faultOf 4 (some .int) ∈ gw := gw_2 160 rfl rfl
theorem ml_RX11_149 : Cond.methodLink RX11 149 yX11_noteFault ∈ gw := gw_2 162 rfl rfl
theorem im_X11_noteFault : Cond.instanceMethod yX11_noteFault ∈ gw := gw_2 164 rfl rfl
theorem cd_X11_noteFault : Cond.code yX11_noteFault cX11_noteFault 2 (some .int) ∈ gw := gw_2 165 rfl rfl
theorem cl_RX11_153 : Cond.classLink RX11 153 RX3 ∈ gw := gw_2 166 rfl rfl
theorem it_RX3 : Cond.instantiable RX3 12 ∈ gw := gw_2 167 rfl rfl
theorem ml_RX11_158 : Cond.methodLink RX11 158 yX3_init ∈ gw := gw_2 168 rfl rfl
theorem im_X3_init : Cond.instanceMethod yX3_init ∈ gw := gw_2 169 rfl rfl
theorem cd_X3_init : Cond.code yX3_init cX3_init 5 none ∈ gw := gw_2 170 rfl rfl
theorem ml_RX3_3 : Cond.methodLink RX3 3 Lib.objectInit ∈ gw := gw_2 171 rfl rfl
theorem fl_RX3_15 : Cond.fieldLink RX3 15 "CampYears$OrderReader" "cells" "LCampYears$Sheet;" ∈ gw := gw_2 172 rfl rfl
theorem fl_RX3_19 : Cond.fieldLink RX3 19 "CampYears$OrderReader" "start" "I" ∈ gw := gw_2 173 rfl rfl
theorem fl_RX3_22 : Cond.fieldLink RX3 22 "CampYears$OrderReader" "length" "I" ∈ gw := gw_2 174 rfl rfl
theorem fl_RX3_25 : Cond.fieldLink RX3 25 "CampYears$OrderReader" "campCount" "I" ∈ gw := gw_2 175 rfl rfl
theorem fl_RX3_51 : Cond.fieldLink RX3 51 "CampYears$OrderReader" "at" "I" ∈ gw := gw_2 176 rfl rfl
theorem fl_RX3_11 : Cond.fieldLink RX3 11 "CampYears$OrderReader" "firstFault" "I" ∈ gw := gw_2 177 rfl rfl
theorem fl_RX11_168 : Cond.fieldLink RX11 168 "CampYears$OrderReader" "firstFault" "I" ∈ gw := gw_2 178 rfl rfl
theorem fl_RX2_9 : Cond.fieldLink RX2 9 "CampYears$OrderReader" "office" "I" ∈ gw := gw_2 179 rfl rfl
theorem fl_RX3_36 : Cond.fieldLink RX3 36 "CampYears$OrderReader" "office" "I" ∈ gw := gw_2 180 rfl rfl
theorem fl_RX2_18 : Cond.fieldLink RX2 18 "CampYears$OrderReader" "fromHour" "I" ∈ gw := gw_2 181 rfl rfl
theorem fl_RX3_39 : Cond.fieldLink RX3 39 "CampYears$OrderReader" "fromHour" "I" ∈ gw := gw_2 182 rfl rfl
theorem fl_RX2_22 : Cond.fieldLink RX2 22 "CampYears$OrderReader" "toHour" "I" ∈ gw := gw_2 183 rfl rfl
theorem fl_RX3_42 : Cond.fieldLink RX3 42 "CampYears$OrderReader" "toHour" "I" ∈ gw := gw_2 184 rfl rfl
theorem fl_RX2_26 : Cond.fieldLink RX2 26 "CampYears$OrderReader" "fromDay" "I" ∈ gw := gw_2 185 rfl rfl
theorem fl_RX3_45 : Cond.fieldLink RX3 45 "CampYears$OrderReader" "fromDay" "I" ∈ gw := gw_2 186 rfl rfl
theorem fl_RX2_30 : Cond.fieldLink RX2 30 "CampYears$OrderReader" "toDay" "I" ∈ gw := gw_2 187 rfl rfl
theorem fl_RX3_48 : Cond.fieldLink RX3 48 "CampYears$OrderReader" "toDay" "I" ∈ gw := gw_2 188 rfl rfl
theorem fl_RX2_34 : Cond.fieldLink RX2 34 "CampYears$OrderReader" "leftOut" "I" ∈ gw := gw_2 189 rfl rfl
theorem fl_RX3_61 : Cond.fieldLink RX3 61 "CampYears$OrderReader" "leftOut" "I" ∈ gw := gw_2 190 rfl rfl
theorem ml_RX11_161 : Cond.methodLink RX11 161 yX3_readAll ∈ gw := gw_2 216 rfl rfl
theorem im_X3_readAll : Cond.instanceMethod yX3_readAll ∈ gw := gw_2 217 rfl rfl
theorem se_X3_readAll : Cond.selects RX3 yX3_readAll yX3_readAll ∈ gw := gw_2 218 rfl rfl
theorem cd_X3_readAll : Cond.code yX3_readAll cX3_readAll 1 none ∈ gw := gw_2 219 rfl rfl
theorem ml_RX3_28 : Cond.methodLink RX3 28 yX3_readSign ∈ gw := gw_2 220 rfl rfl
theorem im_X3_readSign : Cond.instanceMethod yX3_readSign ∈ gw := gw_2 222 rfl rfl
theorem cd_X3_readSign : Cond.code yX3_readSign cX3_readSign 2 none ∈ gw := gw_2 223 rfl rfl
theorem ml_RX3_57 : Cond.methodLink RX3 57 yX3_isFaulty ∈ gw := gw_2 224 rfl rfl
theorem im_X3_isFaulty : Cond.instanceMethod yX3_isFaulty ∈ gw := gw_2 225 rfl rfl
theorem se_X3_isFaulty : Cond.selects RX3 yX3_isFaulty yX3_isFaulty ∈ gw := gw_2 226 rfl rfl
theorem cd_X3_isFaulty : Cond.code yX3_isFaulty cX3_isFaulty 1 (some .boolean) ∈ gw := gw_2 227 rfl rfl
theorem ml_RX3_64 : Cond.methodLink RX3 64 yX3_code ∈ gw := gw_2 228 rfl rfl
theorem im_X3_code : Cond.instanceMethod yX3_code ∈ gw := gw_2 230 rfl rfl
theorem cd_X3_code : Cond.code yX3_code cX3_code 1 (some .int) ∈ gw := gw_2 231 rfl rfl
theorem ml_RX3_72 : Cond.methodLink RX3 72 yX7_read ∈ gw := gw_2 232 rfl rfl
theorem im_X7_read : Cond.instanceMethod yX7_read ∈ gw := gw_2 233 rfl rfl
theorem se_X7_read : Cond.selects RX7 yX7_read yX7_read ∈ gw := gw_2 234 rfl rfl
theorem cd_X7_read : Cond.code yX7_read cX7_read 2 (some .int) ∈ gw := gw_2 235 rfl rfl
theorem ml_RX3_32 : Cond.methodLink RX3 32 yX3_readNumber ∈ gw := gw_2 236 rfl rfl
theorem im_X3_readNumber : Cond.instanceMethod yX3_readNumber ∈ gw := gw_2 238 rfl rfl
theorem cd_X3_readNumber : Cond.code yX3_readNumber cX3_readNumber 6 (some .int) ∈ gw := gw_2 239 rfl rfl
theorem ml_RX3_54 : Cond.methodLink RX3 54 yX3_readLeftOut ∈ gw := gw_3 1 rfl rfl
theorem im_X3_readLeftOut : Cond.instanceMethod yX3_readLeftOut ∈ gw := gw_3 3 rfl rfl
theorem cd_X3_readLeftOut : Cond.code yX3_readLeftOut cX3_readLeftOut 4 none ∈ gw := gw_3 4 rfl rfl
theorem ml_RX11_164 : Cond.methodLink RX11 164 yX3_isFaulty ∈ gw := gw_3 5 rfl rfl
theorem it_RX2 : Cond.instantiable RX2 7 ∈ gw := gw_3 6 rfl rfl
theorem ml_RX11_174 : Cond.methodLink RX11 174 yX2_init ∈ gw := gw_3 7 rfl rfl
theorem im_X2_init : Cond.instanceMethod yX2_init ∈ gw := gw_3 8 rfl rfl
theorem cd_X2_init : Cond.code yX2_init cX2_init 3 none ∈ gw := gw_3 9 rfl rfl
theorem ml_RX2_3 : Cond.methodLink RX2 3 Lib.objectInit ∈ gw := gw_3 10 rfl rfl
theorem fl_RX2_15 : Cond.fieldLink RX2 15 "CampYears$Order" "office" "I" ∈ gw := gw_3 11 rfl rfl
theorem fl_RX11_191 : Cond.fieldLink RX11 191 "CampYears$Order" "office" "I" ∈ gw := gw_3 12 rfl rfl
theorem fl_RX2_21 : Cond.fieldLink RX2 21 "CampYears$Order" "fromHour" "I" ∈ gw := gw_3 13 rfl rfl
theorem fl_RX2_25 : Cond.fieldLink RX2 25 "CampYears$Order" "toHour" "I" ∈ gw := gw_3 14 rfl rfl
theorem fl_RX2_29 : Cond.fieldLink RX2 29 "CampYears$Order" "fromDay" "I" ∈ gw := gw_3 15 rfl rfl
theorem fl_RX2_33 : Cond.fieldLink RX2 33 "CampYears$Order" "toDay" "I" ∈ gw := gw_3 16 rfl rfl
theorem fl_RX2_37 : Cond.fieldLink RX2 37 "CampYears$Order" "leftOut" "I" ∈ gw := gw_3 17 rfl rfl
theorem fl_RX2_38 : Cond.fieldLink RX2 38 "CampYears$Order" "given" "I" ∈ gw := gw_3 18 rfl rfl
theorem fl_RX11_388 : Cond.fieldLink RX11 388 "CampYears$Order" "given" "I" ∈ gw := gw_3 19 rfl rfl
theorem ml_RL_46 : Cond.methodLink RL 46 yX11_ofOrder ∈ gw := gw_3 35 rfl rfl
theorem im_X11_ofOrder : Cond.instanceMethod yX11_ofOrder ∈ gw := gw_3 36 rfl rfl
theorem se_X11_ofOrder : Cond.selects RX11 yX11_ofOrder yX11_ofOrder ∈ gw := gw_3 37 rfl rfl
theorem cd_X11_ofOrder : Cond.code yX11_ofOrder cX11_ofOrder 4 (some .int) ∈ gw := gw_3 38 rfl rfl
theorem ml_RX11_177 : Cond.methodLink RX11 177 yX11_orderAt ∈ gw := gw_3 39 rfl rfl
theorem im_X11_orderAt : Cond.instanceMethod yX11_orderAt ∈ gw := gw_3 41 rfl rfl
theorem cd_X11_orderAt : Cond.code yX11_orderAt cX11_orderAt 2 (some (.object "CampYears$Order")) ∈ gw := gw_3 42 rfl rfl
theorem ml_RX11_181 : Cond.methodLink RX11 181 yX2_fact ∈ gw := gw_3 43 rfl rfl
theorem im_X2_fact : Cond.instanceMethod yX2_fact ∈ gw := gw_3 44 rfl rfl
theorem se_X2_fact : Cond.selects RX2 yX2_fact yX2_fact ∈ gw := gw_3 45 rfl rfl
theorem cd_X2_fact : Cond.code yX2_fact cX2_fact 2 (some .int) ∈ gw := gw_3 46 rfl rfl
theorem ml_RL_50 : Cond.methodLink RL 50 yX11_delay ∈ gw := gw_3 47 rfl rfl
theorem im_X11_delay : Cond.instanceMethod yX11_delay ∈ gw := gw_3 48 rfl rfl
theorem se_X11_delay : Cond.selects RX11 yX11_delay yX11_delay ∈ gw := gw_3 49 rfl rfl
theorem cd_X11_delay : Cond.code yX11_delay cX11_delay 4 (some .int) ∈ gw := gw_3 50 rfl rfl
theorem ml_RX11_184 : Cond.methodLink RX11 184 yX11_isOffice ∈ gw := gw_3 51 rfl rfl
theorem sm_X11_isOffice : Cond.static yX11_isOffice ∈ gw := gw_3 52 rfl rfl
theorem cd_X11_isOffice : Cond.code yX11_isOffice cX11_isOffice 1 (some .boolean) ∈ gw := gw_3 53 rfl rfl
theorem ml_RL_54 : Cond.methodLink RL 54 yX11_word ∈ gw := gw_3 54 rfl rfl
theorem im_X11_word : Cond.instanceMethod yX11_word ∈ gw := gw_3 55 rfl rfl
theorem se_X11_word : Cond.selects RX11 yX11_word yX11_word ∈ gw := gw_3 56 rfl rfl
theorem cd_X11_word : Cond.code yX11_word cX11_word 7 (some .int) ∈ gw := gw_3 57 rfl rfl
theorem ml_RX11_187 : Cond.methodLink RX11 187 yX11_why ∈ gw := gw_3 58 rfl rfl
theorem im_X11_why : Cond.instanceMethod yX11_why ∈ gw := gw_3 59 rfl rfl
theorem se_X11_why : Cond.selects RX11 yX11_why yX11_why ∈ gw := gw_3 60 rfl rfl
theorem cd_X11_why : Cond.code yX11_why cX11_why 5 (some .int) ∈ gw := gw_3 61 rfl rfl
theorem ml_RX11_194 : Cond.methodLink RX11 194 yX11_latestHeard ∈ gw := gw_3 62 rfl rfl
theorem im_X11_latestHeard : Cond.instanceMethod yX11_latestHeard ∈ gw := gw_3 64 rfl rfl
theorem cd_X11_latestHeard : Cond.code yX11_latestHeard cX11_latestHeard 7 (some .int) ∈ gw := gw_3 65 rfl rfl
theorem ml_RX11_391 : Cond.methodLink RX11 391 yX2_tellsOf ∈ gw := gw_3 66 rfl rfl
theorem im_X2_tellsOf : Cond.instanceMethod yX2_tellsOf ∈ gw := gw_3 67 rfl rfl
theorem se_X2_tellsOf : Cond.selects RX2 yX2_tellsOf yX2_tellsOf ∈ gw := gw_3 68 rfl rfl
theorem cd_X2_tellsOf : Cond.code yX2_tellsOf cX2_tellsOf 4 (some .boolean) ∈ gw := gw_3 69 rfl rfl
theorem ml_RL_59 : Cond.methodLink RL 59 yX11_why ∈ gw := gw_3 71 rfl rfl
theorem ml_RL_63 : Cond.methodLink RL 63 yX11_quarrel ∈ gw := gw_3 72 rfl rfl
theorem im_X11_quarrel : Cond.instanceMethod yX11_quarrel ∈ gw := gw_3 73 rfl rfl
theorem se_X11_quarrel : Cond.selects RX11 yX11_quarrel yX11_quarrel ∈ gw := gw_3 74 rfl rfl
theorem cd_X11_quarrel : Cond.code yX11_quarrel cX11_quarrel 5 (some .int) ∈ gw := gw_3 75 rfl rfl
theorem ml_RX11_197 : Cond.methodLink RX11 197 yX11_officesThatClaim ∈ gw := gw_3 76 rfl rfl
theorem im_X11_officesThatClaim : Cond.instanceMethod yX11_officesThatClaim ∈ gw := gw_3 78 rfl rfl
theorem cd_X11_officesThatClaim : Cond.code yX11_officesThatClaim cX11_officesThatClaim 7 (some .int) ∈ gw := gw_3 79 rfl rfl
theorem ml_RL_67 : Cond.methodLink RL 67 yX11_rate ∈ gw := gw_3 80 rfl rfl
theorem im_X11_rate : Cond.instanceMethod yX11_rate ∈ gw := gw_3 81 rfl rfl
theorem se_X11_rate : Cond.selects RX11 yX11_rate yX11_rate ∈ gw := gw_3 82 rfl rfl
theorem cd_X11_rate : Cond.code yX11_rate cX11_rate 4 (some .int) ∈ gw := gw_3 83 rfl rfl
theorem ml_RL_71 : Cond.methodLink RL 71 yX11_home ∈ gw := gw_3 84 rfl rfl
theorem im_X11_home : Cond.instanceMethod yX11_home ∈ gw := gw_3 85 rfl rfl
theorem se_X11_home : Cond.selects RX11 yX11_home yX11_home ∈ gw := gw_3 86 rfl rfl
theorem cd_X11_home : Cond.code yX11_home cX11_home 3 (some .int) ∈ gw := gw_3 87 rfl rfl
theorem ml_RX11_203 : Cond.methodLink RX11 203 yX4_changeHome ∈ gw := gw_3 88 rfl rfl
theorem im_X4_changeHome : Cond.instanceMethod yX4_changeHome ∈ gw := gw_3 89 rfl rfl
theorem se_X4_changeHome : Cond.selects RX4 yX4_changeHome yX4_changeHome ∈ gw := gw_3 90 rfl rfl
theorem cd_X4_changeHome : Cond.code yX4_changeHome cX4_changeHome 4 (some .boolean) ∈ gw := gw_3 91 rfl rfl
theorem ml_RL_75 : Cond.methodLink RL 75 yX11_fine ∈ gw := gw_3 92 rfl rfl
theorem im_X11_fine : Cond.instanceMethod yX11_fine ∈ gw := gw_3 93 rfl rfl
theorem se_X11_fine : Cond.selects RX11 yX11_fine yX11_fine ∈ gw := gw_3 94 rfl rfl
theorem cd_X11_fine : Cond.code yX11_fine cX11_fine 4 (some .int) ∈ gw := gw_3 95 rfl rfl
theorem ml_RX11_206 : Cond.methodLink RX11 206 yX4_addFine ∈ gw := gw_3 96 rfl rfl
theorem im_X4_addFine : Cond.instanceMethod yX4_addFine ∈ gw := gw_3 97 rfl rfl
theorem se_X4_addFine : Cond.selects RX4 yX4_addFine yX4_addFine ∈ gw := gw_3 98 rfl rfl
theorem cd_X4_addFine : Cond.code yX4_addFine cX4_addFine 4 (some .int) ∈ gw := gw_3 99 rfl rfl
theorem ml_RL_79 : Cond.methodLink RL 79 yX11_pay ∈ gw := gw_3 100 rfl rfl
theorem im_X11_pay : Cond.instanceMethod yX11_pay ∈ gw := gw_3 101 rfl rfl
theorem se_X11_pay : Cond.selects RX11 yX11_pay yX11_pay ∈ gw := gw_3 102 rfl rfl
theorem cd_X11_pay : Cond.code yX11_pay cX11_pay 9 (some .int) ∈ gw := gw_3 103 rfl rfl
theorem ml_RX11_209 : Cond.methodLink RX11 209 yX4_earnedOn ∈ gw := gw_3 104 rfl rfl
theorem im_X4_earnedOn : Cond.instanceMethod yX4_earnedOn ∈ gw := gw_3 105 rfl rfl
theorem se_X4_earnedOn : Cond.selects RX4 yX4_earnedOn yX4_earnedOn ∈ gw := gw_3 106 rfl rfl
theorem cd_X4_earnedOn : Cond.code yX4_earnedOn cX4_earnedOn 10 (some .int) ∈ gw := gw_3 107 rfl rfl
theorem ml_RX4_43 : Cond.methodLink RX4 43 yX6_daysIn ∈ gw := gw_3 108 rfl rfl
theorem ml_RX11_213 : Cond.methodLink RX11 213 yX4_sentHome ∈ gw := gw_3 109 rfl rfl
theorem im_X4_sentHome : Cond.instanceMethod yX4_sentHome ∈ gw := gw_3 110 rfl rfl
theorem se_X4_sentHome : Cond.selects RX4 yX4_sentHome yX4_sentHome ∈ gw := gw_3 111 rfl rfl
theorem cd_X4_sentHome : Cond.code yX4_sentHome cX4_sentHome 2 (some .int) ∈ gw := gw_3 112 rfl rfl
theorem sm_X11_quotient : Cond.static yX11_quotient ∈ gw := gw_3 114 rfl rfl
theorem cd_X11_quotient : Cond.code yX11_quotient cX11_quotient 4 (some .long) ∈ gw := gw_3 115 rfl rfl
theorem ml_RX11_216 : Cond.methodLink RX11 216 yX4_finesOf ∈ gw := gw_3 116 rfl rfl
theorem im_X4_finesOf : Cond.instanceMethod yX4_finesOf ∈ gw := gw_3 117 rfl rfl
theorem se_X4_finesOf : Cond.selects RX4 yX4_finesOf yX4_finesOf ∈ gw := gw_3 118 rfl rfl
theorem cd_X4_finesOf : Cond.code yX4_finesOf cX4_finesOf 6 (some .int) ∈ gw := gw_3 119 rfl rfl
theorem ml_RX11_219 : Cond.methodLink RX11 219 yJ9_min_7cf53 ∈ gw := gw_3 121 rfl rfl
theorem ml_RL_83 : Cond.methodLink RL 83 yX11_work ∈ gw := gw_3 122 rfl rfl
theorem im_X11_work : Cond.instanceMethod yX11_work ∈ gw := gw_3 123 rfl rfl
theorem se_X11_work : Cond.selects RX11 yX11_work yX11_work ∈ gw := gw_3 124 rfl rfl
theorem cd_X11_work : Cond.code yX11_work cX11_work 4 (some .int) ∈ gw := gw_3 125 rfl rfl
theorem ml_RX11_224 : Cond.methodLink RX11 224 yX10_add ∈ gw := gw_3 126 rfl rfl
theorem im_X10_add : Cond.instanceMethod yX10_add ∈ gw := gw_3 127 rfl rfl
theorem se_X10_add : Cond.selects RX10 yX10_add yX10_add ∈ gw := gw_3 128 rfl rfl
theorem cd_X10_add : Cond.code yX10_add cX10_add 4 (some .int) ∈ gw := gw_3 129 rfl rfl
theorem it_RX9 : Cond.instantiable RX9 8 ∈ gw := gw_3 130 rfl rfl
theorem ml_RX10_38 : Cond.methodLink RX10 38 yX9_init ∈ gw := gw_3 131 rfl rfl
theorem im_X9_init : Cond.instanceMethod yX9_init ∈ gw := gw_3 132 rfl rfl
theorem cd_X9_init : Cond.code yX9_init cX9_init 4 none ∈ gw := gw_3 133 rfl rfl
theorem ml_RX9_3 : Cond.methodLink RX9 3 Lib.objectInit ∈ gw := gw_3 134 rfl rfl
theorem fl_RX9_9 : Cond.fieldLink RX9 9 "CampYears$Work" "camp" "I" ∈ gw := gw_3 135 rfl rfl
theorem fl_RX9_15 : Cond.fieldLink RX9 15 "CampYears$Work" "need" "I" ∈ gw := gw_3 136 rfl rfl
theorem fl_RX9_18 : Cond.fieldLink RX9 18 "CampYears$Work" "tools" "I" ∈ gw := gw_3 137 rfl rfl
theorem fl_RX9_21 : Cond.fieldLink RX9 21 "CampYears$Work" "hands" "I" ∈ gw := gw_3 138 rfl rfl
theorem fl_RX9_24 : Cond.fieldLink RX9 24 "CampYears$Work" "done" "I" ∈ gw := gw_3 139 rfl rfl
theorem fl_RX9_33 : Cond.fieldLink RX9 33 "CampYears$Work" "noTool" "I" ∈ gw := gw_3 140 rfl rfl
theorem fl_RX9_36 : Cond.fieldLink RX9 36 "CampYears$Work" "noDay" "I" ∈ gw := gw_3 141 rfl rfl
theorem fl_RX9_39 : Cond.fieldLink RX9 39 "CampYears$Work" "counted" "I" ∈ gw := gw_3 142 rfl rfl
theorem fl_RX10_65 : Cond.fieldLink RX10 65 "CampYears$Work" "counted" "I" ∈ gw := gw_3 143 rfl rfl
theorem ml_RL_87 : Cond.methodLink RL 87 yX11_hands ∈ gw := gw_3 161 rfl rfl
theorem im_X11_hands : Cond.instanceMethod yX11_hands ∈ gw := gw_3 162 rfl rfl
theorem se_X11_hands : Cond.selects RX11 yX11_hands yX11_hands ∈ gw := gw_3 163 rfl rfl
theorem cd_X11_hands : Cond.code yX11_hands cX11_hands 5 (some .int) ∈ gw := gw_3 164 rfl rfl
theorem ml_RX11_225 : Cond.methodLink RX11 225 yX10_at ∈ gw := gw_3 165 rfl rfl
theorem im_X10_at : Cond.instanceMethod yX10_at ∈ gw := gw_3 166 rfl rfl
theorem se_X10_at : Cond.selects RX10 yX10_at yX10_at ∈ gw := gw_3 167 rfl rfl
theorem cd_X10_at : Cond.code yX10_at cX10_at 2 (some (.object "CampYears$Work")) ∈ gw := gw_3 168 rfl rfl
theorem ml_RX11_229 : Cond.methodLink RX11 229 yX9_changeHands ∈ gw := gw_3 170 rfl rfl
theorem im_X9_changeHands : Cond.instanceMethod yX9_changeHands ∈ gw := gw_3 171 rfl rfl
theorem se_X9_changeHands : Cond.selects RX9 yX9_changeHands yX9_changeHands ∈ gw := gw_3 172 rfl rfl
theorem cd_X9_changeHands : Cond.code yX9_changeHands cX9_changeHands 3 (some .int) ∈ gw := gw_3 173 rfl rfl
theorem ml_RX11_234 : Cond.methodLink RX11 234 yX9_changeTools ∈ gw := gw_3 174 rfl rfl
theorem im_X9_changeTools : Cond.instanceMethod yX9_changeTools ∈ gw := gw_3 175 rfl rfl
theorem se_X9_changeTools : Cond.selects RX9 yX9_changeTools yX9_changeTools ∈ gw := gw_3 176 rfl rfl
theorem cd_X9_changeTools : Cond.code yX9_changeTools cX9_changeTools 3 (some .int) ∈ gw := gw_3 177 rfl rfl
theorem ml_RL_91 : Cond.methodLink RL 91 yX11_row ∈ gw := gw_3 178 rfl rfl
theorem im_X11_row : Cond.instanceMethod yX11_row ∈ gw := gw_3 179 rfl rfl
theorem se_X11_row : Cond.selects RX11 yX11_row yX11_row ∈ gw := gw_3 180 rfl rfl
theorem cd_X11_row : Cond.code yX11_row cX11_row 9 (some .int) ∈ gw := gw_3 181 rfl rfl
theorem ml_RX11_237 : Cond.methodLink RX11 237 yX10_takeWeather ∈ gw := gw_3 182 rfl rfl
theorem im_X10_takeWeather : Cond.instanceMethod yX10_takeWeather ∈ gw := gw_3 183 rfl rfl
theorem se_X10_takeWeather : Cond.selects RX10 yX10_takeWeather yX10_takeWeather ∈ gw := gw_3 184 rfl rfl
theorem cd_X10_takeWeather : Cond.code yX10_takeWeather cX10_takeWeather 4 (some .boolean) ∈ gw := gw_3 185 rfl rfl
theorem ml_RX10_41 : Cond.methodLink RX10 41 yX7_areWithin ∈ gw := gw_3 186 rfl rfl
theorem im_X7_areWithin : Cond.instanceMethod yX7_areWithin ∈ gw := gw_3 187 rfl rfl
theorem se_X7_areWithin : Cond.selects RX7 yX7_areWithin yX7_areWithin ∈ gw := gw_3 188 rfl rfl
theorem cd_X7_areWithin : Cond.code yX7_areWithin cX7_areWithin 5 (some .boolean) ∈ gw := gw_3 189 rfl rfl
theorem ml_RX7_36 : Cond.methodLink RX7 36 yX7_read ∈ gw := gw_3 190 rfl rfl
theorem ml_RX10_46 : Cond.methodLink RX10 46 yX7_copyTo ∈ gw := gw_3 191 rfl rfl
theorem im_X7_copyTo : Cond.instanceMethod yX7_copyTo ∈ gw := gw_3 192 rfl rfl
theorem se_X7_copyTo : Cond.selects RX7 yX7_copyTo yX7_copyTo ∈ gw := gw_3 193 rfl rfl
theorem cd_X7_copyTo : Cond.code yX7_copyTo cX7_copyTo 5 none ∈ gw := gw_3 194 rfl rfl
theorem ml_RX11_241 : Cond.methodLink RX11 241 yX8_takeTable ∈ gw := gw_3 195 rfl rfl
theorem im_X8_takeTable : Cond.instanceMethod yX8_takeTable ∈ gw := gw_3 196 rfl rfl
theorem se_X8_takeTable : Cond.selects RX8 yX8_takeTable yX8_takeTable ∈ gw := gw_3 197 rfl rfl
theorem cd_X8_takeTable : Cond.code yX8_takeTable cX8_takeTable 4 (some .boolean) ∈ gw := gw_3 198 rfl rfl
theorem ml_RX8_41 : Cond.methodLink RX8 41 yX7_areWithin ∈ gw := gw_3 199 rfl rfl
theorem ml_RX8_46 : Cond.methodLink RX8 46 yX7_copyTo ∈ gw := gw_3 200 rfl rfl
theorem ml_RL_95 : Cond.methodLink RL 95 yX11_week ∈ gw := gw_3 201 rfl rfl
theorem im_X11_week : Cond.instanceMethod yX11_week ∈ gw := gw_3 202 rfl rfl
theorem se_X11_week : Cond.selects RX11 yX11_week yX11_week ∈ gw := gw_3 203 rfl rfl
theorem cd_X11_week : Cond.code yX11_week cX11_week 1 (some .int) ∈ gw := gw_3 204 rfl rfl
theorem ml_RX11_244 : Cond.methodLink RX11 244 yX10_passWeek ∈ gw := gw_3 205 rfl rfl
theorem im_X10_passWeek : Cond.instanceMethod yX10_passWeek ∈ gw := gw_3 206 rfl rfl
theorem se_X10_passWeek : Cond.selects RX10 yX10_passWeek yX10_passWeek ∈ gw := gw_3 207 rfl rfl
theorem cd_X10_passWeek : Cond.code yX10_passWeek cX10_passWeek 7 (some .int) ∈ gw := gw_3 208 rfl rfl
theorem sm_X11_remainder : Cond.static yX11_remainder ∈ gw := gw_3 210 rfl rfl
theorem cd_X11_remainder : Cond.code yX11_remainder cX11_remainder 2 (some .int) ∈ gw := gw_3 211 rfl rfl
theorem ml_RX11_382 : Cond.methodLink RX11 382 yJ9_floorMod_7cf53 ∈ gw := gw_3 212 rfl rfl
theorem sm_J9_floorMod_7cf53 : Cond.static yJ9_floorMod_7cf53 ∈ gw := gw_3 213 rfl rfl
theorem cd_J9_floorMod_7cf53 : Cond.code yJ9_floorMod_7cf53 cJ9_floorMod_7cf53 3 (some .int) ∈ gw := gw_3 214 rfl rfl
theorem ml_RX10_57 : Cond.methodLink RX10 57 yX9_passWeek ∈ gw := gw_3 215 rfl rfl
theorem im_X9_passWeek : Cond.instanceMethod yX9_passWeek ∈ gw := gw_3 216 rfl rfl
theorem se_X9_passWeek : Cond.selects RX9 yX9_passWeek yX9_passWeek ∈ gw := gw_3 217 rfl rfl
theorem cd_X9_passWeek : Cond.code yX9_passWeek cX9_passWeek 5 (some .int) ∈ gw := gw_3 218 rfl rfl
theorem ml_RX9_27 : Cond.methodLink RX9 27 yJ9_min_7cf53 ∈ gw := gw_3 219 rfl rfl
theorem ml_RL_99 : Cond.methodLink RL 99 yX11_ofWork ∈ gw := gw_3 220 rfl rfl
theorem im_X11_ofWork : Cond.instanceMethod yX11_ofWork ∈ gw := gw_3 221 rfl rfl
theorem se_X11_ofWork : Cond.selects RX11 yX11_ofWork yX11_ofWork ∈ gw := gw_3 222 rfl rfl
theorem cd_X11_ofWork : Cond.code yX11_ofWork cX11_ofWork 4 (some .int) ∈ gw := gw_3 223 rfl rfl
theorem ml_RX11_248 : Cond.methodLink RX11 248 yX9_fact ∈ gw := gw_3 224 rfl rfl
theorem im_X9_fact : Cond.instanceMethod yX9_fact ∈ gw := gw_3 225 rfl rfl
theorem se_X9_fact : Cond.selects RX9 yX9_fact yX9_fact ∈ gw := gw_3 226 rfl rfl
theorem cd_X9_fact : Cond.code yX9_fact cX9_fact 2 (some .int) ∈ gw := gw_3 227 rfl rfl
theorem ml_RL_103 : Cond.methodLink RL 103 yX11_level ∈ gw := gw_3 228 rfl rfl
theorem im_X11_level : Cond.instanceMethod yX11_level ∈ gw := gw_3 229 rfl rfl
theorem se_X11_level : Cond.selects RX11 yX11_level yX11_level ∈ gw := gw_3 230 rfl rfl
theorem cd_X11_level : Cond.code yX11_level cX11_level 4 (some .int) ∈ gw := gw_3 231 rfl rfl
theorem ml_RX11_249 : Cond.methodLink RX11 249 yX10_changeLevel ∈ gw := gw_3 232 rfl rfl
theorem im_X10_changeLevel : Cond.instanceMethod yX10_changeLevel ∈ gw := gw_3 233 rfl rfl
theorem se_X10_changeLevel : Cond.selects RX10 yX10_changeLevel yX10_changeLevel ∈ gw := gw_3 234 rfl rfl
theorem cd_X10_changeLevel : Cond.code yX10_changeLevel cX10_changeLevel 5 (some .boolean) ∈ gw := gw_3 235 rfl rfl
theorem ml_RL_107 : Cond.methodLink RL 107 yX11_told ∈ gw := gw_3 236 rfl rfl
theorem im_X11_told : Cond.instanceMethod yX11_told ∈ gw := gw_3 237 rfl rfl
theorem se_X11_told : Cond.selects RX11 yX11_told yX11_told ∈ gw := gw_3 238 rfl rfl
theorem cd_X11_told : Cond.code yX11_told cX11_told 4 (some .long) ∈ gw := gw_3 239 rfl rfl
theorem cn_RX11_252 : Cond.constantLong RX11 252 (-9223372036854775808) ∈ gw := gw_4 0 rfl rfl
theorem ml_RX11_254 : Cond.methodLink RX11 254 yX10_toldBehind ∈ gw := gw_4 1 rfl rfl
theorem im_X10_toldBehind : Cond.instanceMethod yX10_toldBehind ∈ gw := gw_4 2 rfl rfl
theorem se_X10_toldBehind : Cond.selects RX10 yX10_toldBehind yX10_toldBehind ∈ gw := gw_4 3 rfl rfl
theorem cd_X10_toldBehind : Cond.code yX10_toldBehind cX10_toldBehind 6 (some .long) ∈ gw := gw_4 4 rfl rfl
theorem ml_RX10_68 : Cond.methodLink RX10 68 yX10_toldOnBy ∈ gw := gw_4 5 rfl rfl
theorem im_X10_toldOnBy : Cond.instanceMethod yX10_toldOnBy ∈ gw := gw_4 7 rfl rfl
theorem cd_X10_toldOnBy : Cond.code yX10_toldOnBy cX10_toldOnBy 4 (some .long) ∈ gw := gw_4 8 rfl rfl
theorem ml_RL_112 : Cond.methodLink RL 112 yX11_grew ∈ gw := gw_4 10 rfl rfl
theorem im_X11_grew : Cond.instanceMethod yX11_grew ∈ gw := gw_4 11 rfl rfl
theorem se_X11_grew : Cond.selects RX11 yX11_grew yX11_grew ∈ gw := gw_4 12 rfl rfl
theorem cd_X11_grew : Cond.code yX11_grew cX11_grew 3 (some .int) ∈ gw := gw_4 13 rfl rfl
theorem ml_RX11_258 : Cond.methodLink RX11 258 yX10_greatestGrowth ∈ gw := gw_4 14 rfl rfl
theorem im_X10_greatestGrowth : Cond.instanceMethod yX10_greatestGrowth ∈ gw := gw_4 15 rfl rfl
theorem se_X10_greatestGrowth : Cond.selects RX10 yX10_greatestGrowth yX10_greatestGrowth ∈ gw := gw_4 16 rfl rfl
theorem cd_X10_greatestGrowth : Cond.code yX10_greatestGrowth cX10_greatestGrowth 10 (some .int) ∈ gw := gw_4 17 rfl rfl
theorem ml_RL_116 : Cond.methodLink RL 116 yX11_stand ∈ gw := gw_4 18 rfl rfl
theorem im_X11_stand : Cond.instanceMethod yX11_stand ∈ gw := gw_4 19 rfl rfl
theorem se_X11_stand : Cond.selects RX11 yX11_stand yX11_stand ∈ gw := gw_4 20 rfl rfl
theorem cd_X11_stand : Cond.code yX11_stand cX11_stand 5 (some .int) ∈ gw := gw_4 21 rfl rfl
theorem cn_RX11_262 : Cond.constant RX11 262 (99999) ∈ gw := gw_4 22 rfl rfl
theorem ml_RX11_263 : Cond.methodLink RX11 263 yX8_add ∈ gw := gw_4 23 rfl rfl
theorem im_X8_add : Cond.instanceMethod yX8_add ∈ gw := gw_4 24 rfl rfl
theorem se_X8_add : Cond.selects RX8 yX8_add yX8_add ∈ gw := gw_4 25 rfl rfl
theorem cd_X8_add : Cond.code yX8_add cX8_add 5 (some .int) ∈ gw := gw_4 26 rfl rfl
theorem ml_RL_120 : Cond.methodLink RL 120 yX11_live ∈ gw := gw_4 27 rfl rfl
theorem im_X11_live : Cond.instanceMethod yX11_live ∈ gw := gw_4 28 rfl rfl
theorem se_X11_live : Cond.selects RX11 yX11_live yX11_live ∈ gw := gw_4 29 rfl rfl
theorem cd_X11_live : Cond.code yX11_live cX11_live 3 (some .int) ∈ gw := gw_4 30 rfl rfl
theorem ml_RX11_265 : Cond.methodLink RX11 265 yX8_has ∈ gw := gw_4 31 rfl rfl
theorem im_X8_has : Cond.instanceMethod yX8_has ∈ gw := gw_4 32 rfl rfl
theorem se_X8_has : Cond.selects RX8 yX8_has yX8_has ∈ gw := gw_4 33 rfl rfl
theorem cd_X8_has : Cond.code yX8_has cX8_has 2 (some .boolean) ∈ gw := gw_4 34 rfl rfl
theorem ml_RX11_266 : Cond.methodLink RX11 266 yX11_isYear ∈ gw := gw_4 36 rfl rfl
theorem sm_X11_isYear : Cond.static yX11_isYear ∈ gw := gw_4 37 rfl rfl
theorem cd_X11_isYear : Cond.code yX11_isYear cX11_isYear 1 (some .boolean) ∈ gw := gw_4 38 rfl rfl
theorem ml_RX11_269 : Cond.methodLink RX11 269 yX8_liveIn ∈ gw := gw_4 39 rfl rfl
theorem im_X8_liveIn : Cond.instanceMethod yX8_liveIn ∈ gw := gw_4 40 rfl rfl
theorem se_X8_liveIn : Cond.selects RX8 yX8_liveIn yX8_liveIn ∈ gw := gw_4 41 rfl rfl
theorem cd_X8_liveIn : Cond.code yX8_liveIn cX8_liveIn 6 (some .int) ∈ gw := gw_4 42 rfl rfl
theorem ml_RL_124 : Cond.methodLink RL 124 yX11_forest ∈ gw := gw_4 43 rfl rfl
theorem im_X11_forest : Cond.instanceMethod yX11_forest ∈ gw := gw_4 44 rfl rfl
theorem se_X11_forest : Cond.selects RX11 yX11_forest yX11_forest ∈ gw := gw_4 45 rfl rfl
theorem cd_X11_forest : Cond.code yX11_forest cX11_forest 3 (some .long) ∈ gw := gw_4 46 rfl rfl
theorem ml_RX11_272 : Cond.methodLink RX11 272 yX8_liveOfKind ∈ gw := gw_4 47 rfl rfl
theorem im_X8_liveOfKind : Cond.instanceMethod yX8_liveOfKind ∈ gw := gw_4 48 rfl rfl
theorem se_X8_liveOfKind : Cond.selects RX8 yX8_liveOfKind yX8_liveOfKind ∈ gw := gw_4 49 rfl rfl
theorem cd_X8_liveOfKind : Cond.code yX8_liveOfKind cX8_liveOfKind 6 (some .long) ∈ gw := gw_4 50 rfl rfl
theorem ml_RX8_50 : Cond.methodLink RX8 50 yX8_liveIn ∈ gw := gw_4 51 rfl rfl
theorem ml_RL_128 : Cond.methodLink RL 128 yX11_fire ∈ gw := gw_4 52 rfl rfl
theorem im_X11_fire : Cond.instanceMethod yX11_fire ∈ gw := gw_4 53 rfl rfl
theorem se_X11_fire : Cond.selects RX11 yX11_fire yX11_fire ∈ gw := gw_4 54 rfl rfl
theorem cd_X11_fire : Cond.code yX11_fire cX11_fire 5 (some .int) ∈ gw := gw_4 55 rfl rfl
theorem ml_RX11_276 : Cond.methodLink RX11 276 yX1_add ∈ gw := gw_4 56 rfl rfl
theorem im_X1_add : Cond.instanceMethod yX1_add ∈ gw := gw_4 57 rfl rfl
theorem se_X1_add : Cond.selects RX1 yX1_add yX1_add ∈ gw := gw_4 58 rfl rfl
theorem cd_X1_add : Cond.code yX1_add cX1_add 5 (some .int) ∈ gw := gw_4 59 rfl rfl
theorem ml_RL_132 : Cond.methodLink RL 132 yX11_crew ∈ gw := gw_4 60 rfl rfl
theorem im_X11_crew : Cond.instanceMethod yX11_crew ∈ gw := gw_4 61 rfl rfl
theorem se_X11_crew : Cond.selects RX11 yX11_crew yX11_crew ∈ gw := gw_4 62 rfl rfl
theorem cd_X11_crew : Cond.code yX11_crew cX11_crew 4 (some .int) ∈ gw := gw_4 63 rfl rfl
theorem ml_RL_136 : Cond.methodLink RL 136 yX11_lost ∈ gw := gw_4 64 rfl rfl
theorem im_X11_lost : Cond.instanceMethod yX11_lost ∈ gw := gw_4 65 rfl rfl
theorem se_X11_lost : Cond.selects RX11 yX11_lost yX11_lost ∈ gw := gw_4 66 rfl rfl
theorem cd_X11_lost : Cond.code yX11_lost cX11_lost 2 (some .int) ∈ gw := gw_4 67 rfl rfl
theorem ml_RX11_280 : Cond.methodLink RX11 280 yX1_isCall ∈ gw := gw_4 68 rfl rfl
theorem im_X1_isCall : Cond.instanceMethod yX1_isCall ∈ gw := gw_4 69 rfl rfl
theorem se_X1_isCall : Cond.selects RX1 yX1_isCall yX1_isCall ∈ gw := gw_4 70 rfl rfl
theorem cd_X1_isCall : Cond.code yX1_isCall cX1_isCall 5 (some .boolean) ∈ gw := gw_4 71 rfl rfl
theorem ml_RX11_284 : Cond.methodLink RX11 284 yX1_lostByCall ∈ gw := gw_4 73 rfl rfl
theorem im_X1_lostByCall : Cond.instanceMethod yX1_lostByCall ∈ gw := gw_4 74 rfl rfl
theorem se_X1_lostByCall : Cond.selects RX1 yX1_lostByCall yX1_lostByCall ∈ gw := gw_4 75 rfl rfl
theorem cd_X1_lostByCall : Cond.code yX1_lostByCall cX1_lostByCall 5 (some .int) ∈ gw := gw_4 76 rfl rfl
theorem ml_RX1_48 : Cond.methodLink RX1 48 yX1_lineUp ∈ gw := gw_4 77 rfl rfl
theorem im_X1_lineUp : Cond.instanceMethod yX1_lineUp ∈ gw := gw_4 79 rfl rfl
theorem cd_X1_lineUp : Cond.code yX1_lineUp cX1_lineUp 5 none ∈ gw := gw_4 80 rfl rfl
theorem ml_RX1_85 : Cond.methodLink RX1 85 yX0_far ∈ gw := gw_4 81 rfl rfl
theorem im_X0_far : Cond.instanceMethod yX0_far ∈ gw := gw_4 82 rfl rfl
theorem se_X0_far : Cond.selects RX0 yX0_far yX0_far ∈ gw := gw_4 83 rfl rfl
theorem cd_X0_far : Cond.code yX0_far cX0_far 4 (some .int) ∈ gw := gw_4 84 rfl rfl
theorem ml_RX0_32 : Cond.methodLink RX0 32 yJ9_abs_0f7a4 ∈ gw := gw_4 85 rfl rfl
theorem sm_J9_abs_0f7a4 : Cond.static yJ9_abs_0f7a4 ∈ gw := gw_4 86 rfl rfl
theorem cd_J9_abs_0f7a4 : Cond.code yJ9_abs_0f7a4 cJ9_abs_0f7a4 1 (some .int) ∈ gw := gw_4 87 rfl rfl
theorem ml_RX1_52 : Cond.methodLink RX1 52 yX1_goersTo ∈ gw := gw_4 88 rfl rfl
theorem im_X1_goersTo : Cond.instanceMethod yX1_goersTo ∈ gw := gw_4 90 rfl rfl
theorem cd_X1_goersTo : Cond.code yX1_goersTo cX1_goersTo 7 (some .int) ∈ gw := gw_4 91 rfl rfl
theorem ml_RX1_56 : Cond.methodLink RX1 56 yX1_lostAt ∈ gw := gw_4 94 rfl rfl
theorem im_X1_lostAt : Cond.instanceMethod yX1_lostAt ∈ gw := gw_4 96 rfl rfl
theorem cd_X1_lostAt : Cond.code yX1_lostAt cX1_lostAt 7 (some .int) ∈ gw := gw_4 97 rfl rfl
theorem ml_RX1_92 : Cond.methodLink RX1 92 yJ9_min_7cf53 ∈ gw := gw_4 98 rfl rfl
theorem ml_RL_140 : Cond.methodLink RL 140 yX11_call ∈ gw := gw_4 99 rfl rfl
theorem im_X11_call : Cond.instanceMethod yX11_call ∈ gw := gw_4 100 rfl rfl
theorem se_X11_call : Cond.selects RX11 yX11_call yX11_call ∈ gw := gw_4 101 rfl rfl
theorem cd_X11_call : Cond.code yX11_call cX11_call 2 (some .int) ∈ gw := gw_4 102 rfl rfl
theorem ml_RX11_288 : Cond.methodLink RX11 288 yX1_bestCall ∈ gw := gw_4 103 rfl rfl
theorem im_X1_bestCall : Cond.instanceMethod yX1_bestCall ∈ gw := gw_4 104 rfl rfl
theorem se_X1_bestCall : Cond.selects RX1 yX1_bestCall yX1_bestCall ∈ gw := gw_4 105 rfl rfl
theorem cd_X1_bestCall : Cond.code yX1_bestCall cX1_bestCall 6 (some .long) ∈ gw := gw_4 106 rfl rfl
theorem cn_RX1_59 : Cond.constantLong RX1 59 (1152921504606846976) ∈ gw := gw_4 107 rfl rfl
theorem ml_RX1_61 : Cond.methodLink RX1 61 yJ7_fill_d0a16 ∈ gw := gw_4 108 rfl rfl
theorem sm_J7_fill_d0a16 : Cond.static yJ7_fill_d0a16 ∈ gw := gw_4 109 rfl rfl
theorem cd_J7_fill_d0a16 : Cond.code yJ7_fill_d0a16 cJ7_fill_d0a16 5 none ∈ gw := gw_4 110 rfl rfl
theorem ml_RX1_67 : Cond.methodLink RX1 67 yX1_worthOf ∈ gw := gw_4 111 rfl rfl
theorem im_X1_worthOf : Cond.instanceMethod yX1_worthOf ∈ gw := gw_4 113 rfl rfl
theorem cd_X1_worthOf : Cond.code yX1_worthOf cX1_worthOf 7 (some .long) ∈ gw := gw_4 114 rfl rfl
theorem ml_RX1_81 : Cond.methodLink RX1 81 yX1_rowBit ∈ gw := gw_4 115 rfl rfl
theorem sm_X1_rowBit : Cond.static yX1_rowBit ∈ gw := gw_4 116 rfl rfl
theorem cd_X1_rowBit : Cond.code yX1_rowBit cX1_rowBit 1 (some .int) ∈ gw := gw_4 117 rfl rfl
theorem ml_RX1_71 : Cond.methodLink RX1 71 yX1_bestSplit ∈ gw := gw_4 118 rfl rfl
theorem im_X1_bestSplit : Cond.instanceMethod yX1_bestSplit ∈ gw := gw_4 120 rfl rfl
theorem cd_X1_bestSplit : Cond.code yX1_bestSplit cX1_bestSplit 5 (some .long) ∈ gw := gw_4 121 rfl rfl
theorem ml_RX1_75 : Cond.methodLink RX1 75 yJ9_min_f86c9 ∈ gw := gw_4 122 rfl rfl
theorem sm_J9_min_f86c9 : Cond.static yJ9_min_f86c9 ∈ gw := gw_4 123 rfl rfl
theorem cd_J9_min_f86c9 : Cond.code yJ9_min_f86c9 cJ9_min_f86c9 4 (some .long) ∈ gw := gw_4 124 rfl rfl
theorem ml_RX11_292 : Cond.methodLink RX11 292 yX1_lostIn ∈ gw := gw_4 125 rfl rfl
theorem sm_X1_lostIn : Cond.static yX1_lostIn ∈ gw := gw_4 126 rfl rfl
theorem cd_X1_lostIn : Cond.code yX1_lostIn cX1_lostIn 2 (some .int) ∈ gw := gw_4 127 rfl rfl
theorem ml_RX11_296 : Cond.methodLink RX11 296 yX1_handsIn ∈ gw := gw_4 128 rfl rfl
theorem sm_X1_handsIn : Cond.static yX1_handsIn ∈ gw := gw_4 129 rfl rfl
theorem cd_X1_handsIn : Cond.code yX1_handsIn cX1_handsIn 2 (some .int) ∈ gw := gw_4 130 rfl rfl
theorem ml_RX11_299 : Cond.methodLink RX11 299 yX1_goalIn ∈ gw := gw_4 131 rfl rfl
theorem sm_X1_goalIn : Cond.static yX1_goalIn ∈ gw := gw_4 132 rfl rfl
theorem cd_X1_goalIn : Cond.code yX1_goalIn cX1_goalIn 3 (some .int) ∈ gw := gw_4 133 rfl rfl
theorem ml_RL_144 : Cond.methodLink RL 144 yX11_place ∈ gw := gw_4 134 rfl rfl
theorem im_X11_place : Cond.instanceMethod yX11_place ∈ gw := gw_4 135 rfl rfl
theorem se_X11_place : Cond.selects RX11 yX11_place yX11_place ∈ gw := gw_4 136 rfl rfl
theorem cd_X11_place : Cond.code yX11_place cX11_place 5 (some .int) ∈ gw := gw_4 137 rfl rfl
theorem ml_RX11_303 : Cond.methodLink RX11 303 yX5_add ∈ gw := gw_4 138 rfl rfl
theorem im_X5_add : Cond.instanceMethod yX5_add ∈ gw := gw_4 139 rfl rfl
theorem se_X5_add : Cond.selects RX5 yX5_add yX5_add ∈ gw := gw_4 140 rfl rfl
theorem cd_X5_add : Cond.code yX5_add cX5_add 5 (some .int) ∈ gw := gw_4 141 rfl rfl
theorem ml_RL_149 : Cond.methodLink RL 149 yX11_move ∈ gw := gw_4 142 rfl rfl
theorem im_X11_move : Cond.instanceMethod yX11_move ∈ gw := gw_4 143 rfl rfl
theorem se_X11_move : Cond.selects RX11 yX11_move yX11_move ∈ gw := gw_4 144 rfl rfl
theorem cd_X11_move : Cond.code yX11_move cX11_move 3 (some .long) ∈ gw := gw_4 145 rfl rfl
theorem ml_RX11_306 : Cond.methodLink RX11 306 yX5_findBestMove ∈ gw := gw_4 146 rfl rfl
theorem im_X5_findBestMove : Cond.instanceMethod yX5_findBestMove ∈ gw := gw_4 147 rfl rfl
theorem se_X5_findBestMove : Cond.selects RX5 yX5_findBestMove yX5_findBestMove ∈ gw := gw_4 148 rfl rfl
theorem cd_X5_findBestMove : Cond.code yX5_findBestMove cX5_findBestMove 4 (some .boolean) ∈ gw := gw_4 149 rfl rfl
theorem ml_RX5_37 : Cond.methodLink RX5 37 yX5_mostBehind ∈ gw := gw_4 150 rfl rfl
theorem im_X5_mostBehind : Cond.instanceMethod yX5_mostBehind ∈ gw := gw_4 152 rfl rfl
theorem cd_X5_mostBehind : Cond.code yX5_mostBehind cX5_mostBehind 6 (some .int) ∈ gw := gw_4 153 rfl rfl
theorem ml_RX5_74 : Cond.methodLink RX5 74 yJ6_bitCount_0f7a4 ∈ gw := gw_4 154 rfl rfl
theorem sm_J6_bitCount_0f7a4 : Cond.static yJ6_bitCount_0f7a4 ∈ gw := gw_4 155 rfl rfl
theorem cd_J6_bitCount_0f7a4 : Cond.code yJ6_bitCount_0f7a4 cJ6_bitCount_0f7a4 1 (some .int) ∈ gw := gw_4 156 rfl rfl
theorem cn_RJ6_265 : Cond.constant RJ6 265 (1431655765) ∈ gw := gw_4 157 rfl rfl
theorem cn_RJ6_266 : Cond.constant RJ6 266 (858993459) ∈ gw := gw_4 158 rfl rfl
theorem cn_RJ6_267 : Cond.constant RJ6 267 (252645135) ∈ gw := gw_4 159 rfl rfl
theorem cn_RX5_41 : Cond.constant RX5 41 (-2147483648) ∈ gw := gw_4 160 rfl rfl
theorem ml_RX5_77 : Cond.methodLink RX5 77 yX5_gainFrom ∈ gw := gw_4 161 rfl rfl
theorem im_X5_gainFrom : Cond.instanceMethod yX5_gainFrom ∈ gw := gw_4 163 rfl rfl
theorem cd_X5_gainFrom : Cond.code yX5_gainFrom cX5_gainFrom 5 (some .int) ∈ gw := gw_4 164 rfl rfl
theorem ml_RX5_61 : Cond.methodLink RX5 61 yX5_isFree ∈ gw := gw_4 165 rfl rfl
theorem im_X5_isFree : Cond.instanceMethod yX5_isFree ∈ gw := gw_4 167 rfl rfl
theorem cd_X5_isFree : Cond.code yX5_isFree cX5_isFree 3 (some .boolean) ∈ gw := gw_4 168 rfl rfl
theorem ml_RX5_67 : Cond.methodLink RX5 67 yX5_gainOf ∈ gw := gw_4 169 rfl rfl
theorem im_X5_gainOf : Cond.instanceMethod yX5_gainOf ∈ gw := gw_4 171 rfl rfl
theorem cd_X5_gainOf : Cond.code yX5_gainOf cX5_gainOf 4 (some .int) ∈ gw := gw_4 172 rfl rfl
theorem ml_RX5_70 : Cond.methodLink RX5 70 yX0_far ∈ gw := gw_4 173 rfl rfl
theorem ml_RX5_81 : Cond.methodLink RX5 81 yJ9_max_7cf53 ∈ gw := gw_4 174 rfl rfl
theorem ml_RX5_45 : Cond.methodLink RX5 45 yX5_firstOfMost ∈ gw := gw_4 175 rfl rfl
theorem im_X5_firstOfMost : Cond.instanceMethod yX5_firstOfMost ∈ gw := gw_4 177 rfl rfl
theorem cd_X5_firstOfMost : Cond.code yX5_firstOfMost cX5_firstOfMost 5 (some .int) ∈ gw := gw_4 178 rfl rfl
theorem ml_RX11_310 : Cond.methodLink RX11 310 yX5_bestGain ∈ gw := gw_4 179 rfl rfl
theorem im_X5_bestGain : Cond.instanceMethod yX5_bestGain ∈ gw := gw_4 180 rfl rfl
theorem se_X5_bestGain : Cond.selects RX5 yX5_bestGain yX5_bestGain ∈ gw := gw_4 181 rfl rfl
theorem cd_X5_bestGain : Cond.code yX5_bestGain cX5_bestGain 1 (some .int) ∈ gw := gw_4 182 rfl rfl
theorem cn_RX11_316 : Cond.constantLong RX11 316 (-9) ∈ gw := gw_4 183 rfl rfl
theorem ml_RL_154 : Cond.methodLink RL 154 yX11_gain ∈ gw := gw_4 184 rfl rfl
theorem im_X11_gain : Cond.instanceMethod yX11_gain ∈ gw := gw_4 185 rfl rfl
theorem se_X11_gain : Cond.selects RX11 yX11_gain yX11_gain ∈ gw := gw_4 186 rfl rfl
theorem cd_X11_gain : Cond.code yX11_gain cX11_gain 7 (some .long) ∈ gw := gw_4 187 rfl rfl
theorem ml_RX11_318 : Cond.methodLink RX11 318 yX5_gainBy ∈ gw := gw_4 188 rfl rfl
theorem im_X5_gainBy : Cond.instanceMethod yX5_gainBy ∈ gw := gw_4 189 rfl rfl
theorem se_X5_gainBy : Cond.selects RX5 yX5_gainBy yX5_gainBy ∈ gw := gw_4 190 rfl rfl
theorem cd_X5_gainBy : Cond.code yX5_gainBy cX5_gainBy 9 (some .long) ∈ gw := gw_4 191 rfl rfl
theorem ml_RX5_51 : Cond.methodLink RX5 51 yX7_read ∈ gw := gw_4 192 rfl rfl
theorem cn_RX5_65 : Cond.constantLong RX5 65 (-9223372036854775808) ∈ gw := gw_4 194 rfl rfl
theorem ml_RL_159 : Cond.methodLink RL 159 yX11_go ∈ gw := gw_4 195 rfl rfl
theorem im_X11_go : Cond.instanceMethod yX11_go ∈ gw := gw_4 196 rfl rfl
theorem se_X11_go : Cond.selects RX11 yX11_go yX11_go ∈ gw := gw_4 197 rfl rfl
theorem cd_X11_go : Cond.code yX11_go cX11_go 1 (some .int) ∈ gw := gw_4 198 rfl rfl
theorem ml_RX11_322 : Cond.methodLink RX11 322 yX5_moveCamps ∈ gw := gw_4 199 rfl rfl
theorem im_X5_moveCamps : Cond.instanceMethod yX5_moveCamps ∈ gw := gw_4 200 rfl rfl
theorem se_X5_moveCamps : Cond.selects RX5 yX5_moveCamps yX5_moveCamps ∈ gw := gw_4 201 rfl rfl
theorem cd_X5_moveCamps : Cond.code yX5_moveCamps cX5_moveCamps 3 none ∈ gw := gw_4 202 rfl rfl
theorem ml_RL_163 : Cond.methodLink RL 163 yX11_spot ∈ gw := gw_4 203 rfl rfl
theorem im_X11_spot : Cond.instanceMethod yX11_spot ∈ gw := gw_4 204 rfl rfl
theorem se_X11_spot : Cond.selects RX11 yX11_spot yX11_spot ∈ gw := gw_4 205 rfl rfl
theorem cd_X11_spot : Cond.code yX11_spot cX11_spot 3 (some .int) ∈ gw := gw_4 206 rfl rfl
theorem ml_RL_167 : Cond.methodLink RL 167 yX11_sheet ∈ gw := gw_4 207 rfl rfl
theorem im_X11_sheet : Cond.instanceMethod yX11_sheet ∈ gw := gw_4 208 rfl rfl
theorem se_X11_sheet : Cond.selects RX11 yX11_sheet yX11_sheet ∈ gw := gw_4 209 rfl rfl
theorem cd_X11_sheet : Cond.code yX11_sheet cX11_sheet 5 (some .int) ∈ gw := gw_4 210 rfl rfl
theorem ml_RX11_332 : Cond.methodLink RX11 332 yX7_renew ∈ gw := gw_4 211 rfl rfl
theorem im_X7_renew : Cond.instanceMethod yX7_renew ∈ gw := gw_4 212 rfl rfl
theorem se_X7_renew : Cond.selects RX7 yX7_renew yX7_renew ∈ gw := gw_4 213 rfl rfl
theorem cd_X7_renew : Cond.code yX7_renew cX7_renew 3 none ∈ gw := gw_4 214 rfl rfl
theorem ml_RX7_19 : Cond.methodLink RX7 19 yJ7_fill_53178 ∈ gw := gw_4 215 rfl rfl
theorem ml_RL_171 : Cond.methodLink RL 171 yX11_lose ∈ gw := gw_4 216 rfl rfl
theorem im_X11_lose : Cond.instanceMethod yX11_lose ∈ gw := gw_4 217 rfl rfl
theorem se_X11_lose : Cond.selects RX11 yX11_lose yX11_lose ∈ gw := gw_4 218 rfl rfl
theorem cd_X11_lose : Cond.code yX11_lose cX11_lose 3 (some .int) ∈ gw := gw_4 219 rfl rfl
theorem ml_RX11_336 : Cond.methodLink RX11 336 yX7_drop ∈ gw := gw_4 220 rfl rfl
theorem im_X7_drop : Cond.instanceMethod yX7_drop ∈ gw := gw_4 221 rfl rfl
theorem se_X7_drop : Cond.selects RX7 yX7_drop yX7_drop ∈ gw := gw_4 222 rfl rfl
theorem cd_X7_drop : Cond.code yX7_drop cX7_drop 2 (some .boolean) ∈ gw := gw_4 223 rfl rfl
theorem ml_RL_175 : Cond.methodLink RL 175 yX11_put ∈ gw := gw_4 224 rfl rfl
theorem im_X11_put : Cond.instanceMethod yX11_put ∈ gw := gw_4 225 rfl rfl
theorem se_X11_put : Cond.selects RX11 yX11_put yX11_put ∈ gw := gw_4 226 rfl rfl
theorem cd_X11_put : Cond.code yX11_put cX11_put 6 (some .int) ∈ gw := gw_4 227 rfl rfl
theorem ml_RX11_342 : Cond.methodLink RX11 342 yX7_write ∈ gw := gw_4 228 rfl rfl
theorem im_X7_write : Cond.instanceMethod yX7_write ∈ gw := gw_4 229 rfl rfl
theorem se_X7_write : Cond.selects RX7 yX7_write yX7_write ∈ gw := gw_4 230 rfl rfl
theorem cd_X7_write : Cond.code yX7_write cX7_write 3 none ∈ gw := gw_4 231 rfl rfl
theorem ml_RX7_32 : Cond.methodLink RX7 32 yX7_cutToLane ∈ gw := gw_4 232 rfl rfl
theorem im_X7_cutToLane : Cond.instanceMethod yX7_cutToLane ∈ gw := gw_4 234 rfl rfl
theorem cd_X7_cutToLane : Cond.code yX7_cutToLane cX7_cutToLane 2 (some .int) ∈ gw := gw_4 235 rfl rfl
theorem ml_RL_179 : Cond.methodLink RL 179 yX11_cell ∈ gw := gw_4 236 rfl rfl
theorem im_X11_cell : Cond.instanceMethod yX11_cell ∈ gw := gw_4 237 rfl rfl
theorem se_X11_cell : Cond.selects RX11 yX11_cell yX11_cell ∈ gw := gw_4 238 rfl rfl
theorem cd_X11_cell : Cond.code yX11_cell cX11_cell 6 (some .long) ∈ gw := gw_4 239 rfl rfl
theorem ml_RX11_345 : Cond.methodLink RX11 345 yX7_read ∈ gw := gw_5 0 rfl rfl
theorem ml_RL_184 : Cond.methodLink RL 184 yX11_tell ∈ gw := gw_5 1 rfl rfl
theorem im_X11_tell : Cond.instanceMethod yX11_tell ∈ gw := gw_5 2 rfl rfl
theorem se_X11_tell : Cond.selects RX11 yX11_tell yX11_tell ∈ gw := gw_5 3 rfl rfl
theorem cd_X11_tell : Cond.code yX11_tell cX11_tell 3 (some .int) ∈ gw := gw_5 4 rfl rfl
theorem ml_RX11_348 : Cond.methodLink RX11 348 yX11_postAt ∈ gw := gw_5 5 rfl rfl
theorem im_X11_postAt : Cond.instanceMethod yX11_postAt ∈ gw := gw_5 7 rfl rfl
theorem cd_X11_postAt : Cond.code yX11_postAt cX11_postAt 2 (some (.object "CampYears$Post")) ∈ gw := gw_5 8 rfl rfl
theorem ml_RX11_355 : Cond.methodLink RX11 355 yX11_tellingOfChief ∈ gw := gw_5 9 rfl rfl
theorem im_X11_tellingOfChief : Cond.instanceMethod yX11_tellingOfChief ∈ gw := gw_5 11 rfl rfl
theorem cd_X11_tellingOfChief : Cond.code yX11_tellingOfChief cX11_tellingOfChief 3 (some .int) ∈ gw := gw_5 12 rfl rfl
theorem ml_RX11_365 : Cond.methodLink RX11 365 yX11_leaveInTrace ∈ gw := gw_5 13 rfl rfl
theorem im_X11_leaveInTrace : Cond.instanceMethod yX11_leaveInTrace ∈ gw := gw_5 15 rfl rfl
theorem cd_X11_leaveInTrace : Cond.code yX11_leaveInTrace cX11_leaveInTrace 2 none ∈ gw := gw_5 16 rfl rfl
theorem ml_RX11_359 : Cond.methodLink RX11 359 yX11_tellingOfLeader ∈ gw := gw_5 17 rfl rfl
theorem im_X11_tellingOfLeader : Cond.instanceMethod yX11_tellingOfLeader ∈ gw := gw_5 19 rfl rfl
theorem cd_X11_tellingOfLeader : Cond.code yX11_tellingOfLeader cX11_tellingOfLeader 2 (some .int) ∈ gw := gw_5 20 rfl rfl
theorem ml_RX11_362 : Cond.methodLink RX11 362 yX11_tellingOfPost ∈ gw := gw_5 21 rfl rfl
theorem im_X11_tellingOfPost : Cond.instanceMethod yX11_tellingOfPost ∈ gw := gw_5 23 rfl rfl
theorem cd_X11_tellingOfPost : Cond.code yX11_tellingOfPost cX11_tellingOfPost 2 (some .int) ∈ gw := gw_5 24 rfl rfl
theorem ml_RL_188 : Cond.methodLink RL 188 yX11_roll ∈ gw := gw_5 25 rfl rfl
theorem im_X11_roll : Cond.instanceMethod yX11_roll ∈ gw := gw_5 26 rfl rfl
theorem se_X11_roll : Cond.selects RX11 yX11_roll yX11_roll ∈ gw := gw_5 27 rfl rfl
theorem cd_X11_roll : Cond.code yX11_roll cX11_roll 3 (some .int) ∈ gw := gw_5 28 rfl rfl
theorem ml_RL_192 : Cond.methodLink RL 192 yX11_as ∈ gw := gw_5 29 rfl rfl
theorem im_X11_as : Cond.instanceMethod yX11_as ∈ gw := gw_5 30 rfl rfl
theorem se_X11_as : Cond.selects RX11 yX11_as yX11_as ∈ gw := gw_5 31 rfl rfl
theorem cd_X11_as : Cond.code yX11_as cX11_as 4 (some .int) ∈ gw := gw_5 32 rfl rfl
theorem ml_RL_196 : Cond.methodLink RL 196 yX11_trace ∈ gw := gw_5 33 rfl rfl
theorem im_X11_trace : Cond.instanceMethod yX11_trace ∈ gw := gw_5 34 rfl rfl
theorem se_X11_trace : Cond.selects RX11 yX11_trace yX11_trace ∈ gw := gw_5 35 rfl rfl
theorem cd_X11_trace : Cond.code yX11_trace cX11_trace 1 (some .int) ∈ gw := gw_5 36 rfl rfl
theorem ml_RL_200 : Cond.methodLink RL 200 yX11_fault ∈ gw := gw_5 37 rfl rfl
theorem im_X11_fault : Cond.instanceMethod yX11_fault ∈ gw := gw_5 38 rfl rfl
theorem se_X11_fault : Cond.selects RX11 yX11_fault yX11_fault ∈ gw := gw_5 39 rfl rfl
theorem cd_X11_fault : Cond.code yX11_fault cX11_fault 1 (some .int) ∈ gw := gw_5 40 rfl rfl
theorem ml_RL_204 : Cond.methodLink RL 204 yX11_many ∈ gw := gw_5 41 rfl rfl
theorem im_X11_many : Cond.instanceMethod yX11_many ∈ gw := gw_5 42 rfl rfl
theorem se_X11_many : Cond.selects RX11 yX11_many yX11_many ∈ gw := gw_5 43 rfl rfl
theorem cd_X11_many : Cond.code yX11_many cX11_many 2 (some .int) ∈ gw := gw_5 44 rfl rfl
theorem cl_RL_10 : Cond.classLink RL 10 RX12 ∈ gw := gw_5 45 rfl rfl
theorem it_RX12 : Cond.instantiable RX12 71 ∈ gw := gw_5 46 rfl rfl
theorem ml_RL_12 : Cond.methodLink RL 12 yX12_init ∈ gw := gw_5 47 rfl rfl
theorem im_X12_init : Cond.instanceMethod yX12_init ∈ gw := gw_5 48 rfl rfl
theorem cd_X12_init : Cond.code yX12_init cX12_init 1 none ∈ gw := gw_5 49 rfl rfl
theorem ml_RX12_1 : Cond.methodLink RX12 1 Lib.objectInit ∈ gw := gw_5 50 rfl rfl
theorem fl_RX12_181 : Cond.fieldLink RX12 181 "CampYearsModel" "fault" "I" ∈ gw := gw_5 51 rfl rfl
theorem fl_RX12_338 : Cond.fieldLink RX12 338 "CampYearsModel" "trace" "I" ∈ gw := gw_5 52 rfl rfl
theorem fl_RX12_9 : Cond.fieldLink RX12 9 "CampYearsModel" "lanes" "[I" ∈ gw := gw_5 53 rfl rfl
theorem fl_RX12_13 : Cond.fieldLink RX12 13 "CampYearsModel" "sheetLong" "[I" ∈ gw := gw_5 54 rfl rfl
theorem fl_RX12_16 : Cond.fieldLink RX12 16 "CampYearsModel" "cells" "[I" ∈ gw := gw_5 55 rfl rfl
theorem fl_RX12_190 : Cond.fieldLink RX12 190 "CampYearsModel" "camps" "I" ∈ gw := gw_5 56 rfl rfl
theorem fl_RX12_19 : Cond.fieldLink RX12 19 "CampYearsModel" "campX" "[I" ∈ gw := gw_5 57 rfl rfl
theorem fl_RX12_22 : Cond.fieldLink RX12 22 "CampYearsModel" "campY" "[I" ∈ gw := gw_5 58 rfl rfl
theorem fl_RX12_25 : Cond.fieldLink RX12 25 "CampYearsModel" "bedsOf" "[I" ∈ gw := gw_5 59 rfl rfl
theorem fl_RX12_193 : Cond.fieldLink RX12 193 "CampYearsModel" "men" "I" ∈ gw := gw_5 60 rfl rfl
theorem fl_RX12_196 : Cond.fieldLink RX12 196 "CampYearsModel" "posts" "I" ∈ gw := gw_5 61 rfl rfl
theorem fl_RX12_28 : Cond.fieldLink RX12 28 "CampYearsModel" "postKind" "[I" ∈ gw := gw_5 62 rfl rfl
theorem fl_RX12_31 : Cond.fieldLink RX12 31 "CampYearsModel" "postMan" "[I" ∈ gw := gw_5 63 rfl rfl
theorem fl_RX12_34 : Cond.fieldLink RX12 34 "CampYearsModel" "postCamp" "[I" ∈ gw := gw_5 64 rfl rfl
theorem fl_RX12_37 : Cond.fieldLink RX12 37 "CampYearsModel" "postFrom" "[I" ∈ gw := gw_5 65 rfl rfl
theorem fl_RX12_40 : Cond.fieldLink RX12 40 "CampYearsModel" "postTill" "[I" ∈ gw := gw_5 66 rfl rfl
theorem fl_RX12_256 : Cond.fieldLink RX12 256 "CampYearsModel" "orders" "I" ∈ gw := gw_5 67 rfl rfl
theorem fl_RX12_43 : Cond.fieldLink RX12 43 "CampYearsModel" "orderOffice" "[I" ∈ gw := gw_5 68 rfl rfl
theorem fl_RX12_46 : Cond.fieldLink RX12 46 "CampYearsModel" "hourFrom" "[I" ∈ gw := gw_5 69 rfl rfl
theorem fl_RX12_49 : Cond.fieldLink RX12 49 "CampYearsModel" "hourTo" "[I" ∈ gw := gw_5 70 rfl rfl
theorem fl_RX12_52 : Cond.fieldLink RX12 52 "CampYearsModel" "dayFrom" "[I" ∈ gw := gw_5 71 rfl rfl
theorem fl_RX12_55 : Cond.fieldLink RX12 55 "CampYearsModel" "dayTo" "[I" ∈ gw := gw_5 72 rfl rfl
theorem fl_RX12_58 : Cond.fieldLink RX12 58 "CampYearsModel" "leftOut" "[I" ∈ gw := gw_5 73 rfl rfl
theorem fl_RX12_61 : Cond.fieldLink RX12 61 "CampYearsModel" "given" "[I" ∈ gw := gw_5 74 rfl rfl
theorem fl_RX12_64 : Cond.fieldLink RX12 64 "CampYearsModel" "delays" "[I" ∈ gw := gw_5 75 rfl rfl
theorem fl_RX12_223 : Cond.fieldLink RX12 223 "CampYearsModel" "at" "I" ∈ gw := gw_5 76 rfl rfl
theorem fl_RX12_226 : Cond.fieldLink RX12 226 "CampYearsModel" "end" "I" ∈ gw := gw_5 77 rfl rfl
theorem fl_RX12_229 : Cond.fieldLink RX12 229 "CampYearsModel" "wrongAt" "I" ∈ gw := gw_5 78 rfl rfl
theorem fl_RX12_67 : Cond.fieldLink RX12 67 "CampYearsModel" "rates" "[I" ∈ gw := gw_5 79 rfl rfl
theorem fl_RX12_70 : Cond.fieldLink RX12 70 "CampYearsModel" "homeA" "I" ∈ gw := gw_5 80 rfl rfl
theorem fl_RX12_74 : Cond.fieldLink RX12 74 "CampYearsModel" "homeB" "I" ∈ gw := gw_5 81 rfl rfl
theorem fl_RX12_268 : Cond.fieldLink RX12 268 "CampYearsModel" "fines" "I" ∈ gw := gw_5 82 rfl rfl
theorem fl_RX12_77 : Cond.fieldLink RX12 77 "CampYearsModel" "fineMan" "[I" ∈ gw := gw_5 83 rfl rfl
theorem fl_RX12_80 : Cond.fieldLink RX12 80 "CampYearsModel" "fineDay" "[I" ∈ gw := gw_5 84 rfl rfl
theorem fl_RX12_83 : Cond.fieldLink RX12 83 "CampYearsModel" "fineCents" "[I" ∈ gw := gw_5 85 rfl rfl
theorem fl_RX12_271 : Cond.fieldLink RX12 271 "CampYearsModel" "works" "I" ∈ gw := gw_5 86 rfl rfl
theorem fl_RX12_86 : Cond.fieldLink RX12 86 "CampYearsModel" "workCamp" "[I" ∈ gw := gw_5 87 rfl rfl
theorem fl_RX12_89 : Cond.fieldLink RX12 89 "CampYearsModel" "needs" "[I" ∈ gw := gw_5 88 rfl rfl
theorem fl_RX12_92 : Cond.fieldLink RX12 92 "CampYearsModel" "done" "[I" ∈ gw := gw_5 89 rfl rfl
theorem fl_RX12_95 : Cond.fieldLink RX12 95 "CampYearsModel" "toolsOf" "[I" ∈ gw := gw_5 90 rfl rfl
theorem fl_RX12_98 : Cond.fieldLink RX12 98 "CampYearsModel" "handsOf" "[I" ∈ gw := gw_5 91 rfl rfl
theorem fl_RX12_101 : Cond.fieldLink RX12 101 "CampYearsModel" "noTool" "[I" ∈ gw := gw_5 92 rfl rfl
theorem fl_RX12_104 : Cond.fieldLink RX12 104 "CampYearsModel" "noDay" "[I" ∈ gw := gw_5 93 rfl rfl
theorem fl_RX12_107 : Cond.fieldLink RX12 107 "CampYearsModel" "counted" "[I" ∈ gw := gw_5 94 rfl rfl
theorem fl_RX12_110 : Cond.fieldLink RX12 110 "CampYearsModel" "weather" "[I" ∈ gw := gw_5 95 rfl rfl
theorem fl_RX12_113 : Cond.fieldLink RX12 113 "CampYearsModel" "weatherLong" "I" ∈ gw := gw_5 96 rfl rfl
theorem fl_RX12_277 : Cond.fieldLink RX12 277 "CampYearsModel" "weeks" "I" ∈ gw := gw_5 97 rfl rfl
theorem fl_RX12_116 : Cond.fieldLink RX12 116 "CampYearsModel" "levelA" "[I" ∈ gw := gw_5 98 rfl rfl
theorem fl_RX12_119 : Cond.fieldLink RX12 119 "CampYearsModel" "levelB" "[I" ∈ gw := gw_5 99 rfl rfl
theorem fl_RX12_122 : Cond.fieldLink RX12 122 "CampYearsModel" "shares" "[I" ∈ gw := gw_5 100 rfl rfl
theorem fl_RX12_285 : Cond.fieldLink RX12 285 "CampYearsModel" "stands" "I" ∈ gw := gw_5 101 rfl rfl
theorem fl_RX12_125 : Cond.fieldLink RX12 125 "CampYearsModel" "standKind" "[I" ∈ gw := gw_5 102 rfl rfl
theorem fl_RX12_128 : Cond.fieldLink RX12 128 "CampYearsModel" "slopes" "[I" ∈ gw := gw_5 103 rfl rfl
theorem fl_RX12_131 : Cond.fieldLink RX12 131 "CampYearsModel" "planted" "[I" ∈ gw := gw_5 104 rfl rfl
theorem fl_RX12_134 : Cond.fieldLink RX12 134 "CampYearsModel" "plantedIn" "[I" ∈ gw := gw_5 105 rfl rfl
theorem fl_RX12_291 : Cond.fieldLink RX12 291 "CampYearsModel" "fires" "I" ∈ gw := gw_5 106 rfl rfl
theorem fl_RX12_137 : Cond.fieldLink RX12 137 "CampYearsModel" "fireX" "[I" ∈ gw := gw_5 107 rfl rfl
theorem fl_RX12_140 : Cond.fieldLink RX12 140 "CampYearsModel" "fireY" "[I" ∈ gw := gw_5 108 rfl rfl
theorem fl_RX12_143 : Cond.fieldLink RX12 143 "CampYearsModel" "fireNeed" "[I" ∈ gw := gw_5 109 rfl rfl
theorem fl_RX12_146 : Cond.fieldLink RX12 146 "CampYearsModel" "spreads" "[I" ∈ gw := gw_5 110 rfl rfl
theorem fl_RX12_149 : Cond.fieldLink RX12 149 "CampYearsModel" "crews" "[I" ∈ gw := gw_5 111 rfl rfl
theorem fl_RX12_152 : Cond.fieldLink RX12 152 "CampYearsModel" "goes" "[I" ∈ gw := gw_5 112 rfl rfl
theorem fl_RX12_155 : Cond.fieldLink RX12 155 "CampYearsModel" "hours" "[I" ∈ gw := gw_5 113 rfl rfl
theorem fl_RX12_317 : Cond.fieldLink RX12 317 "CampYearsModel" "places" "I" ∈ gw := gw_5 114 rfl rfl
theorem fl_RX12_158 : Cond.fieldLink RX12 158 "CampYearsModel" "placeX" "[I" ∈ gw := gw_5 115 rfl rfl
theorem fl_RX12_161 : Cond.fieldLink RX12 161 "CampYearsModel" "placeY" "[I" ∈ gw := gw_5 116 rfl rfl
theorem fl_RX12_164 : Cond.fieldLink RX12 164 "CampYearsModel" "reaches" "[I" ∈ gw := gw_5 117 rfl rfl
theorem fl_RX12_167 : Cond.fieldLink RX12 167 "CampYearsModel" "hasWater" "[Z" ∈ gw := gw_5 118 rfl rfl
theorem fl_RX12_171 : Cond.fieldLink RX12 171 "CampYearsModel" "most" "[J" ∈ gw := gw_5 119 rfl rfl
theorem fl_RX12_175 : Cond.fieldLink RX12 175 "CampYearsModel" "toX" "[I" ∈ gw := gw_5 120 rfl rfl
theorem fl_RX12_178 : Cond.fieldLink RX12 178 "CampYearsModel" "toY" "[I" ∈ gw := gw_5 121 rfl rfl
theorem ml_RL_17 : Cond.methodLink RL 17 yX12_camp ∈ gw := gw_6 25 rfl rfl
theorem im_X12_camp : Cond.instanceMethod yX12_camp ∈ gw := gw_6 26 rfl rfl
theorem se_X12_camp : Cond.selects RX12 yX12_camp yX12_camp ∈ gw := gw_6 27 rfl rfl
theorem cd_X12_camp : Cond.code yX12_camp cX12_camp 4 (some .int) ∈ gw := gw_6 28 rfl rfl
theorem ml_RX12_199 : Cond.methodLink RX12 199 yX12_isSpot ∈ gw := gw_6 29 rfl rfl
theorem sm_X12_isSpot : Cond.static yX12_isSpot ∈ gw := gw_6 30 rfl rfl
theorem cd_X12_isSpot : Cond.code yX12_isSpot cX12_isSpot 2 (some .boolean) ∈ gw := gw_6 31 rfl rfl
theorem ml_RX12_186 : Cond.methodLink RX12 186 yX12_within ∈ gw := gw_6 32 rfl rfl
theorem sm_X12_within : Cond.static yX12_within ∈ gw := gw_6 33 rfl rfl
theorem cd_X12_within : Cond.code yX12_within cX12_within 3 (some .boolean) ∈ gw := gw_6 34 rfl rfl
theorem ml_RL_22 : Cond.methodLink RL 22 yX12_man ∈ gw := gw_6 35 rfl rfl
theorem im_X12_man : Cond.instanceMethod yX12_man ∈ gw := gw_6 36 rfl rfl
theorem se_X12_man : Cond.selects RX12 yX12_man yX12_man ∈ gw := gw_6 37 rfl rfl
theorem cd_X12_man : Cond.code yX12_man cX12_man 1 (some .int) ∈ gw := gw_6 38 rfl rfl
theorem ml_RL_27 : Cond.methodLink RL 27 yX12_post ∈ gw := gw_6 39 rfl rfl
theorem im_X12_post : Cond.instanceMethod yX12_post ∈ gw := gw_6 40 rfl rfl
theorem se_X12_post : Cond.selects RX12 yX12_post yX12_post ∈ gw := gw_6 41 rfl rfl
theorem cd_X12_post : Cond.code yX12_post cX12_post 7 (some .int) ∈ gw := gw_6 42 rfl rfl
theorem ml_RX12_207 : Cond.methodLink RX12 207 yX12_isMan ∈ gw := gw_6 43 rfl rfl
theorem im_X12_isMan : Cond.instanceMethod yX12_isMan ∈ gw := gw_6 45 rfl rfl
theorem cd_X12_isMan : Cond.code yX12_isMan cX12_isMan 2 (some .boolean) ∈ gw := gw_6 46 rfl rfl
theorem ml_RX12_210 : Cond.methodLink RX12 210 yX12_isCamp ∈ gw := gw_6 47 rfl rfl
theorem im_X12_isCamp : Cond.instanceMethod yX12_isCamp ∈ gw := gw_6 49 rfl rfl
theorem cd_X12_isCamp : Cond.code yX12_isCamp cX12_isCamp 2 (some .boolean) ∈ gw := gw_6 50 rfl rfl
theorem ml_RX12_213 : Cond.methodLink RX12 213 yX12_areDays ∈ gw := gw_6 51 rfl rfl
theorem sm_X12_areDays : Cond.static yX12_areDays ∈ gw := gw_6 52 rfl rfl
theorem cd_X12_areDays : Cond.code yX12_areDays cX12_areDays 2 (some .boolean) ∈ gw := gw_6 53 rfl rfl
theorem ml_RX12_203 : Cond.methodLink RX12 203 yX12_isDay ∈ gw := gw_6 54 rfl rfl
theorem sm_X12_isDay : Cond.static yX12_isDay ∈ gw := gw_6 55 rfl rfl
theorem cd_X12_isDay : Cond.code yX12_isDay cX12_isDay 1 (some .boolean) ∈ gw := gw_6 56 rfl rfl
theorem ml_RL_32 : Cond.methodLink RL 32 yX12_day ∈ gw := gw_6 57 rfl rfl
theorem im_X12_day : Cond.instanceMethod yX12_day ∈ gw := gw_6 58 rfl rfl
theorem se_X12_day : Cond.selects RX12 yX12_day yX12_day ∈ gw := gw_6 59 rfl rfl
theorem cd_X12_day : Cond.code yX12_day cX12_day 3 (some .int) ∈ gw := gw_6 60 rfl rfl
theorem ml_RX12_216 : Cond.methodLink RX12 216 yX12_postOn ∈ gw := gw_6 61 rfl rfl
theorem im_X12_postOn : Cond.instanceMethod yX12_postOn ∈ gw := gw_6 63 rfl rfl
theorem cd_X12_postOn : Cond.code yX12_postOn cX12_postOn 4 (some .int) ∈ gw := gw_6 64 rfl rfl
theorem ml_RL_36 : Cond.methodLink RL 36 yX12_beds ∈ gw := gw_6 65 rfl rfl
theorem im_X12_beds : Cond.instanceMethod yX12_beds ∈ gw := gw_6 66 rfl rfl
theorem se_X12_beds : Cond.selects RX12 yX12_beds yX12_beds ∈ gw := gw_6 67 rfl rfl
theorem cd_X12_beds : Cond.code yX12_beds cX12_beds 3 (some .int) ∈ gw := gw_6 68 rfl rfl
theorem ml_RX12_220 : Cond.methodLink RX12 220 yX12_menAt ∈ gw := gw_6 69 rfl rfl
theorem im_X12_menAt : Cond.instanceMethod yX12_menAt ∈ gw := gw_6 71 rfl rfl
theorem cd_X12_menAt : Cond.code yX12_menAt cX12_menAt 5 (some .int) ∈ gw := gw_6 72 rfl rfl
theorem ml_RL_41 : Cond.methodLink RL 41 yX12_over ∈ gw := gw_6 73 rfl rfl
theorem im_X12_over : Cond.instanceMethod yX12_over ∈ gw := gw_6 74 rfl rfl
theorem se_X12_over : Cond.selects RX12 yX12_over yX12_over ∈ gw := gw_6 75 rfl rfl
theorem cd_X12_over : Cond.code yX12_over cX12_over 3 (some .int) ∈ gw := gw_6 76 rfl rfl
theorem ml_RL_45 : Cond.methodLink RL 45 yX12_order ∈ gw := gw_6 77 rfl rfl
theorem im_X12_order : Cond.instanceMethod yX12_order ∈ gw := gw_6 78 rfl rfl
theorem se_X12_order : Cond.selects RX12 yX12_order yX12_order ∈ gw := gw_6 79 rfl rfl
theorem cd_X12_order : Cond.code yX12_order cX12_order 8 (some .int) ∈ gw := gw_6 80 rfl rfl
theorem ml_RX12_239 : Cond.methodLink RX12 239 yX12_isSheet ∈ gw := gw_6 81 rfl rfl
theorem sm_X12_isSheet : Cond.static yX12_isSheet ∈ gw := gw_6 82 rfl rfl
theorem cd_X12_isSheet : Cond.code yX12_isSheet cX12_isSheet 1 (some .boolean) ∈ gw := gw_6 83 rfl rfl
theorem ml_RX12_242 : Cond.methodLink RX12 242 yX12_isLane ∈ gw := gw_6 84 rfl rfl
theorem sm_X12_isLane : Cond.static yX12_isLane ∈ gw := gw_6 85 rfl rfl
theorem cd_X12_isLane : Cond.code yX12_isLane cX12_isLane 1 (some .boolean) ∈ gw := gw_6 86 rfl rfl
theorem ml_RX12_245 : Cond.methodLink RX12 245 yX12_against ∈ gw := gw_6 87 rfl rfl
theorem im_X12_against : Cond.instanceMethod yX12_against ∈ gw := gw_6 89 rfl rfl
theorem cd_X12_against : Cond.code yX12_against cX12_against 5 (some .int) ∈ gw := gw_6 90 rfl rfl
theorem ml_RX12_249 : Cond.methodLink RX12 249 yX12_fails ∈ gw := gw_6 91 rfl rfl
theorem im_X12_fails : Cond.instanceMethod yX12_fails ∈ gw := gw_6 93 rfl rfl
theorem cd_X12_fails : Cond.code yX12_fails cX12_fails 2 (some .int) ∈ gw := gw_6 94 rfl rfl
theorem ml_RX12_253 : Cond.methodLink RX12 253 yX12_reads ∈ gw := gw_6 95 rfl rfl
theorem im_X12_reads : Cond.instanceMethod yX12_reads ∈ gw := gw_6 97 rfl rfl
theorem cd_X12_reads : Cond.code yX12_reads cX12_reads 5 (some .boolean) ∈ gw := gw_6 98 rfl rfl
theorem ml_RX12_232 : Cond.methodLink RX12 232 yX12_isSign ∈ gw := gw_6 99 rfl rfl
theorem im_X12_isSign : Cond.instanceMethod yX12_isSign ∈ gw := gw_6 101 rfl rfl
theorem cd_X12_isSign : Cond.code yX12_isSign cX12_isSign 2 (some .boolean) ∈ gw := gw_6 102 rfl rfl
theorem ml_RX12_235 : Cond.methodLink RX12 235 yX12_number ∈ gw := gw_6 103 rfl rfl
theorem im_X12_number : Cond.instanceMethod yX12_number ∈ gw := gw_6 105 rfl rfl
theorem cd_X12_number : Cond.code yX12_number cX12_number 6 (some .int) ∈ gw := gw_6 106 rfl rfl
theorem ml_RL_49 : Cond.methodLink RL 49 yX12_ofOrder ∈ gw := gw_6 107 rfl rfl
theorem im_X12_ofOrder : Cond.instanceMethod yX12_ofOrder ∈ gw := gw_6 108 rfl rfl
theorem se_X12_ofOrder : Cond.selects RX12 yX12_ofOrder yX12_ofOrder ∈ gw := gw_6 109 rfl rfl
theorem cd_X12_ofOrder : Cond.code yX12_ofOrder cX12_ofOrder 3 (some .int) ∈ gw := gw_6 110 rfl rfl
theorem ml_RL_53 : Cond.methodLink RL 53 yX12_delay ∈ gw := gw_6 111 rfl rfl
theorem im_X12_delay : Cond.instanceMethod yX12_delay ∈ gw := gw_6 112 rfl rfl
theorem se_X12_delay : Cond.selects RX12 yX12_delay yX12_delay ∈ gw := gw_6 113 rfl rfl
theorem cd_X12_delay : Cond.code yX12_delay cX12_delay 4 (some .int) ∈ gw := gw_6 114 rfl rfl
theorem ml_RX12_259 : Cond.methodLink RX12 259 yX12_isOffice ∈ gw := gw_6 115 rfl rfl
theorem sm_X12_isOffice : Cond.static yX12_isOffice ∈ gw := gw_6 116 rfl rfl
theorem cd_X12_isOffice : Cond.code yX12_isOffice cX12_isOffice 1 (some .boolean) ∈ gw := gw_6 117 rfl rfl
theorem ml_RL_58 : Cond.methodLink RL 58 yX12_word ∈ gw := gw_6 118 rfl rfl
theorem im_X12_word : Cond.instanceMethod yX12_word ∈ gw := gw_6 119 rfl rfl
theorem se_X12_word : Cond.selects RX12 yX12_word yX12_word ∈ gw := gw_6 120 rfl rfl
theorem cd_X12_word : Cond.code yX12_word cX12_word 5 (some .int) ∈ gw := gw_6 121 rfl rfl
theorem ml_RX12_265 : Cond.methodLink RX12 265 yX12_wordOf ∈ gw := gw_6 122 rfl rfl
theorem im_X12_wordOf : Cond.instanceMethod yX12_wordOf ∈ gw := gw_6 124 rfl rfl
theorem cd_X12_wordOf : Cond.code yX12_wordOf cX12_wordOf 6 (some .int) ∈ gw := gw_6 125 rfl rfl
theorem ml_RX12_262 : Cond.methodLink RX12 262 yX12_whyOf ∈ gw := gw_6 126 rfl rfl
theorem im_X12_whyOf : Cond.instanceMethod yX12_whyOf ∈ gw := gw_6 128 rfl rfl
theorem cd_X12_whyOf : Cond.code yX12_whyOf cX12_whyOf 9 (some .int) ∈ gw := gw_6 129 rfl rfl
theorem ml_RL_62 : Cond.methodLink RL 62 yX12_why ∈ gw := gw_6 130 rfl rfl
theorem im_X12_why : Cond.instanceMethod yX12_why ∈ gw := gw_6 131 rfl rfl
theorem se_X12_why : Cond.selects RX12 yX12_why yX12_why ∈ gw := gw_6 132 rfl rfl
theorem cd_X12_why : Cond.code yX12_why cX12_why 5 (some .int) ∈ gw := gw_6 133 rfl rfl
theorem ml_RL_66 : Cond.methodLink RL 66 yX12_quarrel ∈ gw := gw_6 134 rfl rfl
theorem im_X12_quarrel : Cond.instanceMethod yX12_quarrel ∈ gw := gw_6 135 rfl rfl
theorem se_X12_quarrel : Cond.selects RX12 yX12_quarrel yX12_quarrel ∈ gw := gw_6 136 rfl rfl
theorem cd_X12_quarrel : Cond.code yX12_quarrel cX12_quarrel 7 (some .int) ∈ gw := gw_6 137 rfl rfl
theorem ml_RL_70 : Cond.methodLink RL 70 yX12_rate ∈ gw := gw_6 138 rfl rfl
theorem im_X12_rate : Cond.instanceMethod yX12_rate ∈ gw := gw_6 139 rfl rfl
theorem se_X12_rate : Cond.selects RX12 yX12_rate yX12_rate ∈ gw := gw_6 140 rfl rfl
theorem cd_X12_rate : Cond.code yX12_rate cX12_rate 4 (some .int) ∈ gw := gw_6 141 rfl rfl
theorem ml_RL_74 : Cond.methodLink RL 74 yX12_home ∈ gw := gw_6 142 rfl rfl
theorem im_X12_home : Cond.instanceMethod yX12_home ∈ gw := gw_6 143 rfl rfl
theorem se_X12_home : Cond.selects RX12 yX12_home yX12_home ∈ gw := gw_6 144 rfl rfl
theorem cd_X12_home : Cond.code yX12_home cX12_home 4 (some .int) ∈ gw := gw_6 145 rfl rfl
theorem ml_RL_78 : Cond.methodLink RL 78 yX12_fine ∈ gw := gw_6 146 rfl rfl
theorem im_X12_fine : Cond.instanceMethod yX12_fine ∈ gw := gw_6 147 rfl rfl
theorem se_X12_fine : Cond.selects RX12 yX12_fine yX12_fine ∈ gw := gw_6 148 rfl rfl
theorem cd_X12_fine : Cond.code yX12_fine cX12_fine 4 (some .int) ∈ gw := gw_6 149 rfl rfl
theorem ml_RL_82 : Cond.methodLink RL 82 yX12_pay ∈ gw := gw_6 150 rfl rfl
theorem im_X12_pay : Cond.instanceMethod yX12_pay ∈ gw := gw_6 151 rfl rfl
theorem se_X12_pay : Cond.selects RX12 yX12_pay yX12_pay ∈ gw := gw_6 152 rfl rfl
theorem cd_X12_pay : Cond.code yX12_pay cX12_pay 9 (some .int) ∈ gw := gw_6 153 rfl rfl
theorem ml_RL_86 : Cond.methodLink RL 86 yX12_work ∈ gw := gw_6 154 rfl rfl
theorem im_X12_work : Cond.instanceMethod yX12_work ∈ gw := gw_6 155 rfl rfl
theorem se_X12_work : Cond.selects RX12 yX12_work yX12_work ∈ gw := gw_6 156 rfl rfl
theorem cd_X12_work : Cond.code yX12_work cX12_work 4 (some .int) ∈ gw := gw_6 157 rfl rfl
theorem ml_RL_90 : Cond.methodLink RL 90 yX12_hands ∈ gw := gw_6 158 rfl rfl
theorem im_X12_hands : Cond.instanceMethod yX12_hands ∈ gw := gw_6 159 rfl rfl
theorem se_X12_hands : Cond.selects RX12 yX12_hands yX12_hands ∈ gw := gw_6 160 rfl rfl
theorem cd_X12_hands : Cond.code yX12_hands cX12_hands 5 (some .int) ∈ gw := gw_6 161 rfl rfl
theorem ml_RX12_274 : Cond.methodLink RX12 274 yX12_isWork ∈ gw := gw_6 162 rfl rfl
theorem im_X12_isWork : Cond.instanceMethod yX12_isWork ∈ gw := gw_6 164 rfl rfl
theorem cd_X12_isWork : Cond.code yX12_isWork cX12_isWork 2 (some .boolean) ∈ gw := gw_6 165 rfl rfl
theorem ml_RL_94 : Cond.methodLink RL 94 yX12_row ∈ gw := gw_6 166 rfl rfl
theorem im_X12_row : Cond.instanceMethod yX12_row ∈ gw := gw_6 167 rfl rfl
theorem se_X12_row : Cond.selects RX12 yX12_row yX12_row ∈ gw := gw_6 168 rfl rfl
theorem cd_X12_row : Cond.code yX12_row cX12_row 9 (some .int) ∈ gw := gw_6 169 rfl rfl
theorem ml_RL_98 : Cond.methodLink RL 98 yX12_week ∈ gw := gw_6 170 rfl rfl
theorem im_X12_week : Cond.instanceMethod yX12_week ∈ gw := gw_6 171 rfl rfl
theorem se_X12_week : Cond.selects RX12 yX12_week yX12_week ∈ gw := gw_6 172 rfl rfl
theorem cd_X12_week : Cond.code yX12_week cX12_week 6 (some .int) ∈ gw := gw_6 173 rfl rfl
theorem ml_RL_102 : Cond.methodLink RL 102 yX12_ofWork ∈ gw := gw_6 174 rfl rfl
theorem im_X12_ofWork : Cond.instanceMethod yX12_ofWork ∈ gw := gw_6 175 rfl rfl
theorem se_X12_ofWork : Cond.selects RX12 yX12_ofWork yX12_ofWork ∈ gw := gw_6 176 rfl rfl
theorem cd_X12_ofWork : Cond.code yX12_ofWork cX12_ofWork 3 (some .int) ∈ gw := gw_6 177 rfl rfl
theorem ml_RL_106 : Cond.methodLink RL 106 yX12_level ∈ gw := gw_6 178 rfl rfl
theorem im_X12_level : Cond.instanceMethod yX12_level ∈ gw := gw_6 179 rfl rfl
theorem se_X12_level : Cond.selects RX12 yX12_level yX12_level ∈ gw := gw_6 180 rfl rfl
theorem cd_X12_level : Cond.code yX12_level cX12_level 5 (some .int) ∈ gw := gw_6 181 rfl rfl
theorem ml_RL_111 : Cond.methodLink RL 111 yX12_told ∈ gw := gw_6 182 rfl rfl
theorem im_X12_told : Cond.instanceMethod yX12_told ∈ gw := gw_6 183 rfl rfl
theorem se_X12_told : Cond.selects RX12 yX12_told yX12_told ∈ gw := gw_6 184 rfl rfl
theorem cd_X12_told : Cond.code yX12_told cX12_told 3 (some .long) ∈ gw := gw_6 185 rfl rfl
theorem ml_RX12_280 : Cond.methodLink RX12 280 yX12_toldBy ∈ gw := gw_6 186 rfl rfl
theorem im_X12_toldBy : Cond.instanceMethod yX12_toldBy ∈ gw := gw_6 188 rfl rfl
theorem cd_X12_toldBy : Cond.code yX12_toldBy cX12_toldBy 8 (some .long) ∈ gw := gw_6 189 rfl rfl
theorem cn_RX12_184 : Cond.constantLong RX12 184 (-9223372036854775808) ∈ gw := gw_6 190 rfl rfl
theorem ml_RL_115 : Cond.methodLink RL 115 yX12_grew ∈ gw := gw_6 191 rfl rfl
theorem im_X12_grew : Cond.instanceMethod yX12_grew ∈ gw := gw_6 192 rfl rfl
theorem se_X12_grew : Cond.selects RX12 yX12_grew yX12_grew ∈ gw := gw_6 193 rfl rfl
theorem cd_X12_grew : Cond.code yX12_grew cX12_grew 8 (some .int) ∈ gw := gw_6 194 rfl rfl
theorem ml_RL_119 : Cond.methodLink RL 119 yX12_stand ∈ gw := gw_6 195 rfl rfl
theorem im_X12_stand : Cond.instanceMethod yX12_stand ∈ gw := gw_6 196 rfl rfl
theorem se_X12_stand : Cond.selects RX12 yX12_stand yX12_stand ∈ gw := gw_6 197 rfl rfl
theorem cd_X12_stand : Cond.code yX12_stand cX12_stand 5 (some .int) ∈ gw := gw_6 198 rfl rfl
theorem cn_RX12_284 : Cond.constant RX12 284 (99999) ∈ gw := gw_6 199 rfl rfl
theorem ml_RL_123 : Cond.methodLink RL 123 yX12_live ∈ gw := gw_6 200 rfl rfl
theorem im_X12_live : Cond.instanceMethod yX12_live ∈ gw := gw_6 201 rfl rfl
theorem se_X12_live : Cond.selects RX12 yX12_live yX12_live ∈ gw := gw_6 202 rfl rfl
theorem cd_X12_live : Cond.code yX12_live cX12_live 3 (some .int) ∈ gw := gw_6 203 rfl rfl
theorem ml_RX12_288 : Cond.methodLink RX12 288 yX12_liveOf ∈ gw := gw_6 204 rfl rfl
theorem im_X12_liveOf : Cond.instanceMethod yX12_liveOf ∈ gw := gw_6 206 rfl rfl
theorem cd_X12_liveOf : Cond.code yX12_liveOf cX12_liveOf 6 (some .int) ∈ gw := gw_6 207 rfl rfl
theorem ml_RL_127 : Cond.methodLink RL 127 yX12_forest ∈ gw := gw_6 208 rfl rfl
theorem im_X12_forest : Cond.instanceMethod yX12_forest ∈ gw := gw_6 209 rfl rfl
theorem se_X12_forest : Cond.selects RX12 yX12_forest yX12_forest ∈ gw := gw_6 210 rfl rfl
theorem cd_X12_forest : Cond.code yX12_forest cX12_forest 6 (some .long) ∈ gw := gw_6 211 rfl rfl
theorem ml_RL_131 : Cond.methodLink RL 131 yX12_fire ∈ gw := gw_6 212 rfl rfl
theorem im_X12_fire : Cond.instanceMethod yX12_fire ∈ gw := gw_6 213 rfl rfl
theorem se_X12_fire : Cond.selects RX12 yX12_fire yX12_fire ∈ gw := gw_6 214 rfl rfl
theorem cd_X12_fire : Cond.code yX12_fire cX12_fire 5 (some .int) ∈ gw := gw_6 215 rfl rfl
theorem ml_RL_135 : Cond.methodLink RL 135 yX12_crew ∈ gw := gw_6 216 rfl rfl
theorem im_X12_crew : Cond.instanceMethod yX12_crew ∈ gw := gw_6 217 rfl rfl
theorem se_X12_crew : Cond.selects RX12 yX12_crew yX12_crew ∈ gw := gw_6 218 rfl rfl
theorem cd_X12_crew : Cond.code yX12_crew cX12_crew 4 (some .int) ∈ gw := gw_6 219 rfl rfl
theorem ml_RL_139 : Cond.methodLink RL 139 yX12_lost ∈ gw := gw_6 220 rfl rfl
theorem im_X12_lost : Cond.instanceMethod yX12_lost ∈ gw := gw_6 221 rfl rfl
theorem se_X12_lost : Cond.selects RX12 yX12_lost yX12_lost ∈ gw := gw_6 222 rfl rfl
theorem cd_X12_lost : Cond.code yX12_lost cX12_lost 2 (some .int) ∈ gw := gw_6 223 rfl rfl
theorem ml_RX12_304 : Cond.methodLink RX12 304 yX12_layHours ∈ gw := gw_6 224 rfl rfl
theorem im_X12_layHours : Cond.instanceMethod yX12_layHours ∈ gw := gw_6 226 rfl rfl
theorem cd_X12_layHours : Cond.code yX12_layHours cX12_layHours 3 none ∈ gw := gw_6 227 rfl rfl
theorem ml_RX12_294 : Cond.methodLink RX12 294 yX12_size ∈ gw := gw_6 228 rfl rfl
theorem sm_X12_size : Cond.static yX12_size ∈ gw := gw_6 229 rfl rfl
theorem cd_X12_size : Cond.code yX12_size cX12_size 1 (some .int) ∈ gw := gw_6 230 rfl rfl
theorem ml_RX12_307 : Cond.methodLink RX12 307 yX12_calls ∈ gw := gw_6 231 rfl rfl
theorem im_X12_calls : Cond.instanceMethod yX12_calls ∈ gw := gw_6 233 rfl rfl
theorem cd_X12_calls : Cond.code yX12_calls cX12_calls 3 (some .int) ∈ gw := gw_6 234 rfl rfl
theorem ml_RX12_311 : Cond.methodLink RX12 311 yX12_lostBy ∈ gw := gw_6 235 rfl rfl
theorem im_X12_lostBy : Cond.instanceMethod yX12_lostBy ∈ gw := gw_6 237 rfl rfl
theorem cd_X12_lostBy : Cond.code yX12_lostBy cX12_lostBy 4 (some .int) ∈ gw := gw_6 238 rfl rfl
theorem ml_RX12_297 : Cond.methodLink RX12 297 yX12_layCall ∈ gw := gw_6 239 rfl rfl
theorem im_X12_layCall : Cond.instanceMethod yX12_layCall ∈ gw := gw_7 1 rfl rfl
theorem cd_X12_layCall : Cond.code yX12_layCall cX12_layCall 4 none ∈ gw := gw_7 2 rfl rfl
theorem ml_RX12_301 : Cond.methodLink RX12 301 yX12_heldIn ∈ gw := gw_7 3 rfl rfl
theorem im_X12_heldIn : Cond.instanceMethod yX12_heldIn ∈ gw := gw_7 5 rfl rfl
theorem cd_X12_heldIn : Cond.code yX12_heldIn cX12_heldIn 6 (some .int) ∈ gw := gw_7 6 rfl rfl
theorem ml_RL_143 : Cond.methodLink RL 143 yX12_call ∈ gw := gw_7 7 rfl rfl
theorem im_X12_call : Cond.instanceMethod yX12_call ∈ gw := gw_7 8 rfl rfl
theorem se_X12_call : Cond.selects RX12 yX12_call yX12_call ∈ gw := gw_7 9 rfl rfl
theorem cd_X12_call : Cond.code yX12_call cX12_call 9 (some .int) ∈ gw := gw_7 10 rfl rfl
theorem ml_RX12_314 : Cond.methodLink RX12 314 yX12_handsThatGo ∈ gw := gw_7 11 rfl rfl
theorem im_X12_handsThatGo : Cond.instanceMethod yX12_handsThatGo ∈ gw := gw_7 13 rfl rfl
theorem cd_X12_handsThatGo : Cond.code yX12_handsThatGo cX12_handsThatGo 3 (some .int) ∈ gw := gw_7 14 rfl rfl
theorem ml_RL_148 : Cond.methodLink RL 148 yX12_place ∈ gw := gw_7 15 rfl rfl
theorem im_X12_place : Cond.instanceMethod yX12_place ∈ gw := gw_7 16 rfl rfl
theorem se_X12_place : Cond.selects RX12 yX12_place yX12_place ∈ gw := gw_7 17 rfl rfl
theorem cd_X12_place : Cond.code yX12_place cX12_place 5 (some .int) ∈ gw := gw_7 18 rfl rfl
theorem ml_RL_153 : Cond.methodLink RL 153 yX12_move ∈ gw := gw_7 19 rfl rfl
theorem im_X12_move : Cond.instanceMethod yX12_move ∈ gw := gw_7 20 rfl rfl
theorem se_X12_move : Cond.selects RX12 yX12_move yX12_move ∈ gw := gw_7 21 rfl rfl
theorem cd_X12_move : Cond.code yX12_move cX12_move 2 (some .long) ∈ gw := gw_7 22 rfl rfl
theorem ml_RX12_326 : Cond.methodLink RX12 326 yX12_layMoves ∈ gw := gw_7 23 rfl rfl
theorem im_X12_layMoves : Cond.instanceMethod yX12_layMoves ∈ gw := gw_7 25 rfl rfl
theorem cd_X12_layMoves : Cond.code yX12_layMoves cX12_layMoves 6 none ∈ gw := gw_7 26 rfl rfl
theorem ml_RX12_320 : Cond.methodLink RX12 320 yX12_bitsOf ∈ gw := gw_7 27 rfl rfl
theorem sm_X12_bitsOf : Cond.static yX12_bitsOf ∈ gw := gw_7 28 rfl rfl
theorem cd_X12_bitsOf : Cond.code yX12_bitsOf cX12_bitsOf 3 (some .int) ∈ gw := gw_7 29 rfl rfl
theorem ml_RX12_323 : Cond.methodLink RX12 323 yX12_gainOf ∈ gw := gw_7 30 rfl rfl
theorem im_X12_gainOf : Cond.instanceMethod yX12_gainOf ∈ gw := gw_7 32 rfl rfl
theorem cd_X12_gainOf : Cond.code yX12_gainOf cX12_gainOf 3 (some .long) ∈ gw := gw_7 33 rfl rfl
theorem cn_RX12_329 : Cond.constantLong RX12 329 (-9) ∈ gw := gw_7 34 rfl rfl
theorem ml_RX12_331 : Cond.methodLink RX12 331 yX12_placeOf ∈ gw := gw_7 35 rfl rfl
theorem im_X12_placeOf : Cond.instanceMethod yX12_placeOf ∈ gw := gw_7 37 rfl rfl
theorem cd_X12_placeOf : Cond.code yX12_placeOf cX12_placeOf 6 (some .int) ∈ gw := gw_7 38 rfl rfl
theorem ml_RL_158 : Cond.methodLink RL 158 yX12_gain ∈ gw := gw_7 39 rfl rfl
theorem im_X12_gain : Cond.instanceMethod yX12_gain ∈ gw := gw_7 40 rfl rfl
theorem se_X12_gain : Cond.selects RX12 yX12_gain yX12_gain ∈ gw := gw_7 41 rfl rfl
theorem cd_X12_gain : Cond.code yX12_gain cX12_gain 12 (some .long) ∈ gw := gw_7 42 rfl rfl
theorem ml_RX12_334 : Cond.methodLink RX12 334 yX12_lostBeing ∈ gw := gw_7 43 rfl rfl
theorem im_X12_lostBeing : Cond.instanceMethod yX12_lostBeing ∈ gw := gw_7 45 rfl rfl
theorem cd_X12_lostBeing : Cond.code yX12_lostBeing cX12_lostBeing 2 (some .long) ∈ gw := gw_7 46 rfl rfl
theorem ml_RL_162 : Cond.methodLink RL 162 yX12_go ∈ gw := gw_7 47 rfl rfl
theorem im_X12_go : Cond.instanceMethod yX12_go ∈ gw := gw_7 48 rfl rfl
theorem se_X12_go : Cond.selects RX12 yX12_go yX12_go ∈ gw := gw_7 49 rfl rfl
theorem cd_X12_go : Cond.code yX12_go cX12_go 3 (some .int) ∈ gw := gw_7 50 rfl rfl
theorem ml_RL_166 : Cond.methodLink RL 166 yX12_spot ∈ gw := gw_7 51 rfl rfl
theorem im_X12_spot : Cond.instanceMethod yX12_spot ∈ gw := gw_7 52 rfl rfl
theorem se_X12_spot : Cond.selects RX12 yX12_spot yX12_spot ∈ gw := gw_7 53 rfl rfl
theorem cd_X12_spot : Cond.code yX12_spot cX12_spot 3 (some .int) ∈ gw := gw_7 54 rfl rfl
theorem ml_RL_170 : Cond.methodLink RL 170 yX12_sheet ∈ gw := gw_7 55 rfl rfl
theorem im_X12_sheet : Cond.instanceMethod yX12_sheet ∈ gw := gw_7 56 rfl rfl
theorem se_X12_sheet : Cond.selects RX12 yX12_sheet yX12_sheet ∈ gw := gw_7 57 rfl rfl
theorem cd_X12_sheet : Cond.code yX12_sheet cX12_sheet 5 (some .int) ∈ gw := gw_7 58 rfl rfl
theorem ml_RL_174 : Cond.methodLink RL 174 yX12_lose ∈ gw := gw_7 59 rfl rfl
theorem im_X12_lose : Cond.instanceMethod yX12_lose ∈ gw := gw_7 60 rfl rfl
theorem se_X12_lose : Cond.selects RX12 yX12_lose yX12_lose ∈ gw := gw_7 61 rfl rfl
theorem cd_X12_lose : Cond.code yX12_lose cX12_lose 3 (some .int) ∈ gw := gw_7 62 rfl rfl
theorem ml_RL_178 : Cond.methodLink RL 178 yX12_put ∈ gw := gw_7 63 rfl rfl
theorem im_X12_put : Cond.instanceMethod yX12_put ∈ gw := gw_7 64 rfl rfl
theorem se_X12_put : Cond.selects RX12 yX12_put yX12_put ∈ gw := gw_7 65 rfl rfl
theorem cd_X12_put : Cond.code yX12_put cX12_put 4 (some .int) ∈ gw := gw_7 66 rfl rfl
theorem ml_RL_183 : Cond.methodLink RL 183 yX12_cell ∈ gw := gw_7 67 rfl rfl
theorem im_X12_cell : Cond.instanceMethod yX12_cell ∈ gw := gw_7 68 rfl rfl
theorem se_X12_cell : Cond.selects RX12 yX12_cell yX12_cell ∈ gw := gw_7 69 rfl rfl
theorem cd_X12_cell : Cond.code yX12_cell cX12_cell 4 (some .long) ∈ gw := gw_7 70 rfl rfl
theorem ml_RL_187 : Cond.methodLink RL 187 yX12_tell ∈ gw := gw_7 71 rfl rfl
theorem im_X12_tell : Cond.instanceMethod yX12_tell ∈ gw := gw_7 72 rfl rfl
theorem se_X12_tell : Cond.selects RX12 yX12_tell yX12_tell ∈ gw := gw_7 73 rfl rfl
theorem cd_X12_tell : Cond.code yX12_tell cX12_tell 3 (some .int) ∈ gw := gw_7 74 rfl rfl
theorem ml_RX12_341 : Cond.methodLink RX12 341 yX12_isPost ∈ gw := gw_7 75 rfl rfl
theorem im_X12_isPost : Cond.instanceMethod yX12_isPost ∈ gw := gw_7 77 rfl rfl
theorem cd_X12_isPost : Cond.code yX12_isPost cX12_isPost 2 (some .boolean) ∈ gw := gw_7 78 rfl rfl
theorem ml_RX12_344 : Cond.methodLink RX12 344 yX12_begins ∈ gw := gw_7 79 rfl rfl
theorem im_X12_begins : Cond.instanceMethod yX12_begins ∈ gw := gw_7 81 rfl rfl
theorem cd_X12_begins : Cond.code yX12_begins cX12_begins 2 none ∈ gw := gw_7 82 rfl rfl
theorem ml_RL_191 : Cond.methodLink RL 191 yX12_roll ∈ gw := gw_7 83 rfl rfl
theorem im_X12_roll : Cond.instanceMethod yX12_roll ∈ gw := gw_7 84 rfl rfl
theorem se_X12_roll : Cond.selects RX12 yX12_roll yX12_roll ∈ gw := gw_7 85 rfl rfl
theorem cd_X12_roll : Cond.code yX12_roll cX12_roll 2 (some .int) ∈ gw := gw_7 86 rfl rfl
theorem ml_RL_195 : Cond.methodLink RL 195 yX12_as ∈ gw := gw_7 87 rfl rfl
theorem im_X12_as : Cond.instanceMethod yX12_as ∈ gw := gw_7 88 rfl rfl
theorem se_X12_as : Cond.selects RX12 yX12_as yX12_as ∈ gw := gw_7 89 rfl rfl
theorem cd_X12_as : Cond.code yX12_as cX12_as 3 (some .int) ∈ gw := gw_7 90 rfl rfl
theorem ml_RL_199 : Cond.methodLink RL 199 yX12_trace ∈ gw := gw_7 91 rfl rfl
theorem im_X12_trace : Cond.instanceMethod yX12_trace ∈ gw := gw_7 92 rfl rfl
theorem se_X12_trace : Cond.selects RX12 yX12_trace yX12_trace ∈ gw := gw_7 93 rfl rfl
theorem cd_X12_trace : Cond.code yX12_trace cX12_trace 1 (some .int) ∈ gw := gw_7 94 rfl rfl
theorem ml_RL_203 : Cond.methodLink RL 203 yX12_fault ∈ gw := gw_7 95 rfl rfl
theorem im_X12_fault : Cond.instanceMethod yX12_fault ∈ gw := gw_7 96 rfl rfl
theorem se_X12_fault : Cond.selects RX12 yX12_fault yX12_fault ∈ gw := gw_7 97 rfl rfl
theorem cd_X12_fault : Cond.code yX12_fault cX12_fault 1 (some .int) ∈ gw := gw_7 98 rfl rfl
theorem ml_RL_207 : Cond.methodLink RL 207 yX12_many ∈ gw := gw_7 99 rfl rfl
theorem im_X12_many : Cond.instanceMethod yX12_many ∈ gw := gw_7 100 rfl rfl
theorem se_X12_many : Cond.selects RX12 yX12_many yX12_many ∈ gw := gw_7 101 rfl rfl
theorem cd_X12_many : Cond.code yX12_many cX12_many 2 (some .int) ∈ gw := gw_7 102 rfl rfl
theorem se_X11_isMan : Cond.selects RX11 yX11_isMan yX11_isMan ∈ gw := gw_s (q := (yX11_isMan, 15)) (List.mem_of_getElem? (i := 0) (by decide +kernel))
theorem se_X11_daysOnPosts : Cond.selects RX11 yX11_daysOnPosts yX11_daysOnPosts ∈ gw := gw_s (q := (yX11_daysOnPosts, 15)) (List.mem_of_getElem? (i := 1) (by decide +kernel))
theorem se_X11_menAt : Cond.selects RX11 yX11_menAt yX11_menAt ∈ gw := gw_s (q := (yX11_menAt, 15)) (List.mem_of_getElem? (i := 2) (by decide +kernel))
theorem se_X11_sheetAt : Cond.selects RX11 yX11_sheetAt yX11_sheetAt ∈ gw := gw_s (q := (yX11_sheetAt, 15)) (List.mem_of_getElem? (i := 3) (by decide +kernel))
theorem se_X11_noteFault : Cond.selects RX11 yX11_noteFault yX11_noteFault ∈ gw := gw_s (q := (yX11_noteFault, 15)) (List.mem_of_getElem? (i := 4) (by decide +kernel))
theorem se_X3_readSign : Cond.selects RX3 yX3_readSign yX3_readSign ∈ gw := gw_s (q := (yX3_readSign, 12)) (List.mem_of_getElem? (i := 5) (by decide +kernel))
theorem se_X3_code : Cond.selects RX3 yX3_code yX3_code ∈ gw := gw_s (q := (yX3_code, 12)) (List.mem_of_getElem? (i := 6) (by decide +kernel))
theorem se_X3_readNumber : Cond.selects RX3 yX3_readNumber yX3_readNumber ∈ gw := gw_s (q := (yX3_readNumber, 12)) (List.mem_of_getElem? (i := 7) (by decide +kernel))
theorem se_X3_readLeftOut : Cond.selects RX3 yX3_readLeftOut yX3_readLeftOut ∈ gw := gw_s (q := (yX3_readLeftOut, 12)) (List.mem_of_getElem? (i := 8) (by decide +kernel))
theorem se_X11_orderAt : Cond.selects RX11 yX11_orderAt yX11_orderAt ∈ gw := gw_s (q := (yX11_orderAt, 15)) (List.mem_of_getElem? (i := 9) (by decide +kernel))
theorem se_X11_latestHeard : Cond.selects RX11 yX11_latestHeard yX11_latestHeard ∈ gw := gw_s (q := (yX11_latestHeard, 15)) (List.mem_of_getElem? (i := 10) (by decide +kernel))
theorem se_X11_officesThatClaim : Cond.selects RX11 yX11_officesThatClaim yX11_officesThatClaim ∈ gw := gw_s (q := (yX11_officesThatClaim, 15)) (List.mem_of_getElem? (i := 11) (by decide +kernel))
theorem se_X10_toldOnBy : Cond.selects RX10 yX10_toldOnBy yX10_toldOnBy ∈ gw := gw_s (q := (yX10_toldOnBy, 7)) (List.mem_of_getElem? (i := 12) (by decide +kernel))
theorem se_X1_lineUp : Cond.selects RX1 yX1_lineUp yX1_lineUp ∈ gw := gw_s (q := (yX1_lineUp, 9)) (List.mem_of_getElem? (i := 13) (by decide +kernel))
theorem se_X1_goersTo : Cond.selects RX1 yX1_goersTo yX1_goersTo ∈ gw := gw_s (q := (yX1_goersTo, 9)) (List.mem_of_getElem? (i := 14) (by decide +kernel))
theorem se_X1_lostAt : Cond.selects RX1 yX1_lostAt yX1_lostAt ∈ gw := gw_s (q := (yX1_lostAt, 9)) (List.mem_of_getElem? (i := 15) (by decide +kernel))
theorem se_X1_worthOf : Cond.selects RX1 yX1_worthOf yX1_worthOf ∈ gw := gw_s (q := (yX1_worthOf, 9)) (List.mem_of_getElem? (i := 16) (by decide +kernel))
theorem se_X1_bestSplit : Cond.selects RX1 yX1_bestSplit yX1_bestSplit ∈ gw := gw_s (q := (yX1_bestSplit, 9)) (List.mem_of_getElem? (i := 17) (by decide +kernel))
theorem se_X5_mostBehind : Cond.selects RX5 yX5_mostBehind yX5_mostBehind ∈ gw := gw_s (q := (yX5_mostBehind, 7)) (List.mem_of_getElem? (i := 18) (by decide +kernel))
theorem se_X5_gainFrom : Cond.selects RX5 yX5_gainFrom yX5_gainFrom ∈ gw := gw_s (q := (yX5_gainFrom, 7)) (List.mem_of_getElem? (i := 19) (by decide +kernel))
theorem se_X5_isFree : Cond.selects RX5 yX5_isFree yX5_isFree ∈ gw := gw_s (q := (yX5_isFree, 7)) (List.mem_of_getElem? (i := 20) (by decide +kernel))
theorem se_X5_gainOf : Cond.selects RX5 yX5_gainOf yX5_gainOf ∈ gw := gw_s (q := (yX5_gainOf, 7)) (List.mem_of_getElem? (i := 21) (by decide +kernel))
theorem se_X5_firstOfMost : Cond.selects RX5 yX5_firstOfMost yX5_firstOfMost ∈ gw := gw_s (q := (yX5_firstOfMost, 7)) (List.mem_of_getElem? (i := 22) (by decide +kernel))
theorem se_X7_cutToLane : Cond.selects RX7 yX7_cutToLane yX7_cutToLane ∈ gw := gw_s (q := (yX7_cutToLane, 3)) (List.mem_of_getElem? (i := 23) (by decide +kernel))
theorem se_X11_postAt : Cond.selects RX11 yX11_postAt yX11_postAt ∈ gw := gw_s (q := (yX11_postAt, 15)) (List.mem_of_getElem? (i := 24) (by decide +kernel))
theorem se_X11_tellingOfChief : Cond.selects RX11 yX11_tellingOfChief yX11_tellingOfChief ∈ gw := gw_s (q := (yX11_tellingOfChief, 15)) (List.mem_of_getElem? (i := 25) (by decide +kernel))
theorem se_X11_leaveInTrace : Cond.selects RX11 yX11_leaveInTrace yX11_leaveInTrace ∈ gw := gw_s (q := (yX11_leaveInTrace, 15)) (List.mem_of_getElem? (i := 26) (by decide +kernel))
theorem se_X11_tellingOfLeader : Cond.selects RX11 yX11_tellingOfLeader yX11_tellingOfLeader ∈ gw := gw_s (q := (yX11_tellingOfLeader, 15)) (List.mem_of_getElem? (i := 27) (by decide +kernel))
theorem se_X11_tellingOfPost : Cond.selects RX11 yX11_tellingOfPost yX11_tellingOfPost ∈ gw := gw_s (q := (yX11_tellingOfPost, 15)) (List.mem_of_getElem? (i := 28) (by decide +kernel))
theorem se_X12_isMan : Cond.selects RX12 yX12_isMan yX12_isMan ∈ gw := gw_s (q := (yX12_isMan, 71)) (List.mem_of_getElem? (i := 29) (by decide +kernel))
theorem se_X12_isCamp : Cond.selects RX12 yX12_isCamp yX12_isCamp ∈ gw := gw_s (q := (yX12_isCamp, 71)) (List.mem_of_getElem? (i := 30) (by decide +kernel))
theorem se_X12_postOn : Cond.selects RX12 yX12_postOn yX12_postOn ∈ gw := gw_s (q := (yX12_postOn, 71)) (List.mem_of_getElem? (i := 31) (by decide +kernel))
theorem se_X12_menAt : Cond.selects RX12 yX12_menAt yX12_menAt ∈ gw := gw_s (q := (yX12_menAt, 71)) (List.mem_of_getElem? (i := 32) (by decide +kernel))
theorem se_X12_against : Cond.selects RX12 yX12_against yX12_against ∈ gw := gw_s (q := (yX12_against, 71)) (List.mem_of_getElem? (i := 33) (by decide +kernel))
theorem se_X12_fails : Cond.selects RX12 yX12_fails yX12_fails ∈ gw := gw_s (q := (yX12_fails, 71)) (List.mem_of_getElem? (i := 34) (by decide +kernel))
theorem se_X12_reads : Cond.selects RX12 yX12_reads yX12_reads ∈ gw := gw_s (q := (yX12_reads, 71)) (List.mem_of_getElem? (i := 35) (by decide +kernel))
theorem se_X12_isSign : Cond.selects RX12 yX12_isSign yX12_isSign ∈ gw := gw_s (q := (yX12_isSign, 71)) (List.mem_of_getElem? (i := 36) (by decide +kernel))
theorem se_X12_number : Cond.selects RX12 yX12_number yX12_number ∈ gw := gw_s (q := (yX12_number, 71)) (List.mem_of_getElem? (i := 37) (by decide +kernel))
theorem se_X12_wordOf : Cond.selects RX12 yX12_wordOf yX12_wordOf ∈ gw := gw_s (q := (yX12_wordOf, 71)) (List.mem_of_getElem? (i := 38) (by decide +kernel))
theorem se_X12_whyOf : Cond.selects RX12 yX12_whyOf yX12_whyOf ∈ gw := gw_s (q := (yX12_whyOf, 71)) (List.mem_of_getElem? (i := 39) (by decide +kernel))
theorem se_X12_isWork : Cond.selects RX12 yX12_isWork yX12_isWork ∈ gw := gw_s (q := (yX12_isWork, 71)) (List.mem_of_getElem? (i := 40) (by decide +kernel))
theorem se_X12_toldBy : Cond.selects RX12 yX12_toldBy yX12_toldBy ∈ gw := gw_s (q := (yX12_toldBy, 71)) (List.mem_of_getElem? (i := 41) (by decide +kernel))
theorem se_X12_liveOf : Cond.selects RX12 yX12_liveOf yX12_liveOf ∈ gw := gw_s (q := (yX12_liveOf, 71)) (List.mem_of_getElem? (i := 42) (by decide +kernel))
theorem se_X12_layHours : Cond.selects RX12 yX12_layHours yX12_layHours ∈ gw := gw_s (q := (yX12_layHours, 71)) (List.mem_of_getElem? (i := 43) (by decide +kernel))
theorem se_X12_calls : Cond.selects RX12 yX12_calls yX12_calls ∈ gw := gw_s (q := (yX12_calls, 71)) (List.mem_of_getElem? (i := 44) (by decide +kernel))
theorem se_X12_lostBy : Cond.selects RX12 yX12_lostBy yX12_lostBy ∈ gw := gw_s (q := (yX12_lostBy, 71)) (List.mem_of_getElem? (i := 45) (by decide +kernel))
theorem se_X12_layCall : Cond.selects RX12 yX12_layCall yX12_layCall ∈ gw := gw_s (q := (yX12_layCall, 71)) (List.mem_of_getElem? (i := 46) (by decide +kernel))
theorem se_X12_heldIn : Cond.selects RX12 yX12_heldIn yX12_heldIn ∈ gw := gw_s (q := (yX12_heldIn, 71)) (List.mem_of_getElem? (i := 47) (by decide +kernel))
theorem se_X12_handsThatGo : Cond.selects RX12 yX12_handsThatGo yX12_handsThatGo ∈ gw := gw_s (q := (yX12_handsThatGo, 71)) (List.mem_of_getElem? (i := 48) (by decide +kernel))
theorem se_X12_layMoves : Cond.selects RX12 yX12_layMoves yX12_layMoves ∈ gw := gw_s (q := (yX12_layMoves, 71)) (List.mem_of_getElem? (i := 49) (by decide +kernel))
theorem se_X12_gainOf : Cond.selects RX12 yX12_gainOf yX12_gainOf ∈ gw := gw_s (q := (yX12_gainOf, 71)) (List.mem_of_getElem? (i := 50) (by decide +kernel))
theorem se_X12_placeOf : Cond.selects RX12 yX12_placeOf yX12_placeOf ∈ gw := gw_s (q := (yX12_placeOf, 71)) (List.mem_of_getElem? (i := 51) (by decide +kernel))
theorem se_X12_lostBeing : Cond.selects RX12 yX12_lostBeing yX12_lostBeing ∈ gw := gw_s (q := (yX12_lostBeing, 71)) (List.mem_of_getElem? (i := 52) (by decide +kernel))
theorem se_X12_isPost : Cond.selects RX12 yX12_isPost yX12_isPost ∈ gw := gw_s (q := (yX12_isPost, 71)) (List.mem_of_getElem? (i := 53) (by decide +kernel))
theorem se_X12_begins : Cond.selects RX12 yX12_begins yX12_begins ∈ gw := gw_s (q := (yX12_begins, 71)) (List.mem_of_getElem? (i := 54) (by decide +kernel))
set_option maxRecDepth 20000 in
theorem inX0 : ∀ w ∈ u_ws RX0 TX0 5, w ∈ gw := fun w h => gw_t ((goodIn_r (big := tables_1) (u_ws RX0 TX0 5) [46, 48, 50, 52, 54] (by decide +kernel) (by decide +kernel)) w h).1 (List.all_eq_true.mp (by decide +kernel : (u_ws RX0 TX0 5).all goodWord = true) w h)
set_option maxRecDepth 20000 in
theorem inX1 : ∀ w ∈ u_ws RX1 TX1 9, w ∈ gw := fun w h => gw_t ((goodIn_r (big := tables_1) (u_ws RX1 TX1 9) [169, 171, 173, 175, 177, 179, 181, 183, 185] (by decide +kernel) (by decide +kernel)) w h).1 (List.all_eq_true.mp (by decide +kernel : (u_ws RX1 TX1 9).all goodWord = true) w h)
set_option maxRecDepth 20000 in
theorem inX2 : ∀ w ∈ u_ws RX2 TX2 7, w ∈ gw := fun w h => gw_t ((goodIn_r (big := tables_1) (u_ws RX2 TX2 7) [500, 502, 504, 506, 508, 510, 512] (by decide +kernel) (by decide +kernel)) w h).1 (List.all_eq_true.mp (by decide +kernel : (u_ws RX2 TX2 7).all goodWord = true) w h)
set_option maxRecDepth 20000 in
theorem inX3 : ∀ w ∈ u_ws RX3 TX3 12, w ∈ gw := fun w h => gw_t ((goodIn_r (big := tables_1) (u_ws RX3 TX3 12) [431, 433, 435, 437, 439, 441, 443, 445, 447, 449, 451, 453] (by decide +kernel) (by decide +kernel)) w h).1 (List.all_eq_true.mp (by decide +kernel : (u_ws RX3 TX3 12).all goodWord = true) w h)
set_option maxRecDepth 20000 in
theorem inX4 : ∀ w ∈ u_ws RX4 TX4 7, w ∈ gw := fun w h => gw_t ((goodIn_r (big := tables_1) (u_ws RX4 TX4 7) [77, 79, 81, 83, 85, 87, 89] (by decide +kernel) (by decide +kernel)) w h).1 (List.all_eq_true.mp (by decide +kernel : (u_ws RX4 TX4 7).all goodWord = true) w h)
set_option maxRecDepth 20000 in
theorem inX5 : ∀ w ∈ u_ws RX5 TX5 7, w ∈ gw := fun w h => gw_t ((goodIn_r (big := tables_1) (u_ws RX5 TX5 7) [204, 206, 208, 210, 212, 214, 216] (by decide +kernel) (by decide +kernel)) w h).1 (List.all_eq_true.mp (by decide +kernel : (u_ws RX5 TX5 7).all goodWord = true) w h)
set_option maxRecDepth 20000 in
theorem inX6 : ∀ w ∈ u_ws RX6 TX6 5, w ∈ gw := fun w h => gw_t ((goodIn_r (big := tables_1) (u_ws RX6 TX6 5) [354, 356, 358, 360, 362] (by decide +kernel) (by decide +kernel)) w h).1 (List.all_eq_true.mp (by decide +kernel : (u_ws RX6 TX6 5).all goodWord = true) w h)
set_option maxRecDepth 20000 in
theorem inX7 : ∀ w ∈ u_ws RX7 TX7 3, w ∈ gw := fun w h => gw_t ((goodIn_r (big := tables_1) (u_ws RX7 TX7 3) [231, 233, 235] (by decide +kernel) (by decide +kernel)) w h).1 (List.all_eq_true.mp (by decide +kernel : (u_ws RX7 TX7 3).all goodWord = true) w h)
set_option maxRecDepth 20000 in
theorem inX8 : ∀ w ∈ u_ws RX8 TX8 6, w ∈ gw := fun w h => gw_t ((goodIn_r (big := tables_1) (u_ws RX8 TX8 6) [140, 142, 144, 146, 148, 150] (by decide +kernel) (by decide +kernel)) w h).1 (List.all_eq_true.mp (by decide +kernel : (u_ws RX8 TX8 6).all goodWord = true) w h)
set_option maxRecDepth 20000 in
theorem inX9 : ∀ w ∈ u_ws RX9 TX9 8, w ∈ gw := fun w h => gw_t ((goodIn_r (big := tables_1) (u_ws RX9 TX9 8) [624, 626, 628, 630, 632, 634, 636, 638] (by decide +kernel) (by decide +kernel)) w h).1 (List.all_eq_true.mp (by decide +kernel : (u_ws RX9 TX9 8).all goodWord = true) w h)
set_option maxRecDepth 20000 in
theorem inX10 : ∀ w ∈ u_ws RX10 TX10 7, w ∈ gw := fun w h => gw_t ((goodIn_r (big := tables_1) (u_ws RX10 TX10 7) [109, 111, 113, 115, 117, 119, 121] (by decide +kernel) (by decide +kernel)) w h).1 (List.all_eq_true.mp (by decide +kernel : (u_ws RX10 TX10 7).all goodWord = true) w h)
set_option maxRecDepth 20000 in
theorem inX11 : ∀ w ∈ u_ws RX11 TX11 15, w ∈ gw := fun w h => gw_t ((goodIn_r (big := tables_1) (u_ws RX11 TX11 15) [253, 255, 257, 259, 261, 263, 265, 267, 269, 271, 273, 275, 277, 279, 281] (by decide +kernel) (by decide +kernel)) w h).1 (List.all_eq_true.mp (by decide +kernel : (u_ws RX11 TX11 15).all goodWord = true) w h)
set_option maxRecDepth 20000 in
theorem inX12 : ∀ w ∈ u_ws RX12 TX12 71, w ∈ gw := fun w h => gw_t ((goodIn_r (big := tables_1) (u_ws RX12 TX12 71) [1082, 1084, 1086, 1088, 1090, 1092, 1094, 1096, 1098, 1100, 1102, 1104, 1106, 1108, 1110, 1112, 1114, 1116, 1118, 1120, 1122, 1124, 1126, 1128, 1130, 1132, 1134, 1136, 1138, 1140, 1142, 1144, 1146, 1148, 1150, 1152, 1154, 1156, 1158, 1160, 1162, 1164, 1166, 1168, 1170, 1172, 1174, 1176, 1178, 1180, 1182, 1184, 1186, 1188, 1190, 1192, 1194, 1196, 1198, 1200, 1202, 1204, 1206, 1208, 1210, 1212, 1214, 1216, 1218, 1220, 1222] (by decide +kernel) (by decide +kernel)) w h).1 (List.all_eq_true.mp (by decide +kernel : (u_ws RX12 TX12 71).all goodWord = true) w h)
/-- the private members that are called from other nested classes -/
def nwl : List Cond := [Cond.methodLinkNest RX11 11 yX0_init "CampYears", Cond.methodLinkNest RX11 36 yX4_init "CampYears", Cond.methodLinkNest RX11 43 yX10_init "CampYears", Cond.methodLinkNest RX11 57 yX1_init "CampYears", Cond.methodLinkNest RX11 64 yX5_init "CampYears", Cond.methodLinkNest RX11 75 yX7_init "CampYears", Cond.methodLinkNest RX0 28 yX11_isWithin "CampYears", Cond.methodLinkNest RX6 25 yX11_isWithin "CampYears", Cond.methodLinkNest RX7 28 yX11_isWithin "CampYears", Cond.methodLinkNest RX3 68 yX11_isWithin "CampYears", Cond.methodLinkNest RX2 41 yX11_isWithin "CampYears", Cond.methodLinkNest RX4 50 yX11_quotient "CampYears", Cond.methodLinkNest RX4 34 yX11_isWithin "CampYears", Cond.methodLinkNest RX10 31 yX11_isWithin "CampYears", Cond.methodLinkNest RX10 53 yX11_remainder "CampYears", Cond.methodLinkNest RX10 61 yX11_quotient "CampYears", Cond.methodLinkNest RX8 37 yX11_isWithin "CampYears", Cond.methodLinkNest RX1 44 yX11_isWithin "CampYears", Cond.methodLinkNest RX1 95 yX11_remainder "CampYears", Cond.methodLinkNest RX1 98 yX11_quotient "CampYears", Cond.methodLinkNest RX5 57 yX11_isWithin "CampYears"]
theorem nl_RX11_11 : Cond.methodLinkNest RX11 11 yX0_init "CampYears" ∈ nwl := List.mem_of_getElem? (i := 0) rfl
theorem nl_RX11_36 : Cond.methodLinkNest RX11 36 yX4_init "CampYears" ∈ nwl := List.mem_of_getElem? (i := 1) rfl
theorem nl_RX11_43 : Cond.methodLinkNest RX11 43 yX10_init "CampYears" ∈ nwl := List.mem_of_getElem? (i := 2) rfl
theorem nl_RX11_57 : Cond.methodLinkNest RX11 57 yX1_init "CampYears" ∈ nwl := List.mem_of_getElem? (i := 3) rfl
theorem nl_RX11_64 : Cond.methodLinkNest RX11 64 yX5_init "CampYears" ∈ nwl := List.mem_of_getElem? (i := 4) rfl
theorem nl_RX11_75 : Cond.methodLinkNest RX11 75 yX7_init "CampYears" ∈ nwl := List.mem_of_getElem? (i := 5) rfl
theorem nl_RX0_28 : Cond.methodLinkNest RX0 28 yX11_isWithin "CampYears" ∈ nwl := List.mem_of_getElem? (i := 6) rfl
theorem nl_RX6_25 : Cond.methodLinkNest RX6 25 yX11_isWithin "CampYears" ∈ nwl := List.mem_of_getElem? (i := 7) rfl
theorem nl_RX7_28 : Cond.methodLinkNest RX7 28 yX11_isWithin "CampYears" ∈ nwl := List.mem_of_getElem? (i := 8) rfl
theorem nl_RX3_68 : Cond.methodLinkNest RX3 68 yX11_isWithin "CampYears" ∈ nwl := List.mem_of_getElem? (i := 9) rfl
theorem nl_RX2_41 : Cond.methodLinkNest RX2 41 yX11_isWithin "CampYears" ∈ nwl := List.mem_of_getElem? (i := 10) rfl
theorem nl_RX4_50 : Cond.methodLinkNest RX4 50 yX11_quotient "CampYears" ∈ nwl := List.mem_of_getElem? (i := 11) rfl
theorem nl_RX4_34 : Cond.methodLinkNest RX4 34 yX11_isWithin "CampYears" ∈ nwl := List.mem_of_getElem? (i := 12) rfl
theorem nl_RX10_31 : Cond.methodLinkNest RX10 31 yX11_isWithin "CampYears" ∈ nwl := List.mem_of_getElem? (i := 13) rfl
theorem nl_RX10_53 : Cond.methodLinkNest RX10 53 yX11_remainder "CampYears" ∈ nwl := List.mem_of_getElem? (i := 14) rfl
theorem nl_RX10_61 : Cond.methodLinkNest RX10 61 yX11_quotient "CampYears" ∈ nwl := List.mem_of_getElem? (i := 15) rfl
theorem nl_RX8_37 : Cond.methodLinkNest RX8 37 yX11_isWithin "CampYears" ∈ nwl := List.mem_of_getElem? (i := 16) rfl
theorem nl_RX1_44 : Cond.methodLinkNest RX1 44 yX11_isWithin "CampYears" ∈ nwl := List.mem_of_getElem? (i := 17) rfl
theorem nl_RX1_95 : Cond.methodLinkNest RX1 95 yX11_remainder "CampYears" ∈ nwl := List.mem_of_getElem? (i := 18) rfl
theorem nl_RX1_98 : Cond.methodLinkNest RX1 98 yX11_quotient "CampYears" ∈ nwl := List.mem_of_getElem? (i := 19) rfl
theorem nl_RX5_57 : Cond.methodLinkNest RX5 57 yX11_isWithin "CampYears" ∈ nwl := List.mem_of_getElem? (i := 20) rfl
theorem nwl_in : ∀ w ∈ nwl, w ∈ lw_tbl := by
  intro w h
  simp only [nwl, List.mem_cons, List.not_mem_nil, or_false] at h
  rcases h with rfl | rfl | rfl | rfl | rfl | rfl | rfl | rfl | rfl | rfl | rfl | rfl | rfl | rfl | rfl | rfl | rfl | rfl | rfl | rfl | rfl
  · exact tb_1 27 (by decide +kernel)
  · exact tb_1 64 (by decide +kernel)
  · exact tb_1 94 (by decide +kernel)
  · exact tb_1 155 (by decide +kernel)
  · exact tb_1 191 (by decide +kernel)
  · exact tb_1 223 (by decide +kernel)
  · exact tb_2 74 (by decide +kernel)
  · exact tb_2 133 (by decide +kernel)
  · exact tb_2 161 (by decide +kernel)
  · exact tb_3 0 (by decide +kernel)
  · exact tb_3 70 (by decide +kernel)
  · exact tb_3 113 (by decide +kernel)
  · exact tb_3 120 (by decide +kernel)
  · exact tb_3 169 (by decide +kernel)
  · exact tb_3 209 (by decide +kernel)
  · exact tb_4 9 (by decide +kernel)
  · exact tb_4 35 (by decide +kernel)
  · exact tb_4 72 (by decide +kernel)
  · exact tb_4 92 (by decide +kernel)
  · exact tb_4 93 (by decide +kernel)
  · exact tb_4 193 (by decide +kernel)
theorem nwl_is : ∀ w ∈ nwl, ∃ a i y h, w = Cond.methodLinkNest a i y h := by
  intro w h
  simp only [nwl, List.mem_cons, List.not_mem_nil, or_false] at h
  rcases h with rfl | rfl | rfl | rfl | rfl | rfl | rfl | rfl | rfl | rfl | rfl | rfl | rfl | rfl | rfl | rfl | rfl | rfl | rfl | rfl | rfl <;> exact ⟨_, _, _, _, rfl⟩
def nw_ (U : State) : Prop := ∀ w ∈ nwl, va_Nw w U
theorem nw_.warm {s U : State} (hW : s.WarmedH U.vm) (h : nw_ s) : nw_ U := fun w hw => by
  obtain ⟨a, i, y, g, rfl⟩ := nwl_is w hw
  exact va_Nw.warmM hW (h _ hw)
theorem nw_.same {s U : State} (e : s.vm = U.vm) (h : nw_ s) : nw_ U := fun w hw => by
  obtain ⟨a, i, y, g, rfl⟩ := nwl_is w hw
  exact va_Nw.same rfl e (h _ hw)
