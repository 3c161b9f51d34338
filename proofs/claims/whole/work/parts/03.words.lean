set_option maxRecDepth 20000 in
theorem qc_FF_init : Cond.code y_FF_init b_FF_init 1 none ∈ WS := ws_t (List.mem_of_getElem? (i := 13) (by decide +kernel)) rfl
set_option maxRecDepth 20000 in
theorem qi_FF_init : Cond.instanceMethod y_FF_init ∈ WS := ws_t (List.mem_of_getElem? (i := 12) (by decide +kernel)) rfl
set_option maxRecDepth 20000 in
theorem qc_CO_init : Cond.code y_CO_init b_CO_init 3 none ∈ WS := ws_t (List.mem_of_getElem? (i := 21) (by decide +kernel)) rfl
set_option maxRecDepth 20000 in
theorem qi_CO_init : Cond.instanceMethod y_CO_init ∈ WS := ws_t (List.mem_of_getElem? (i := 20) (by decide +kernel)) rfl
set_option maxRecDepth 20000 in
theorem qc_CH_init : Cond.code y_CH_init b_CH_init 1 none ∈ WS := ws_t (List.mem_of_getElem? (i := 76) (by decide +kernel)) rfl
set_option maxRecDepth 20000 in
theorem qi_CH_init : Cond.instanceMethod y_CH_init ∈ WS := ws_t (List.mem_of_getElem? (i := 75) (by decide +kernel)) rfl
set_option maxRecDepth 20000 in
theorem qc_WE_init : Cond.code y_WE_init b_WE_init 1 none ∈ WS := ws_t (List.mem_of_getElem? (i := 92) (by decide +kernel)) rfl
set_option maxRecDepth 20000 in
theorem qi_WE_init : Cond.instanceMethod y_WE_init ∈ WS := ws_t (List.mem_of_getElem? (i := 91) (by decide +kernel)) rfl
set_option maxRecDepth 20000 in
theorem qc_BL_init : Cond.code y_BL_init b_BL_init 1 none ∈ WS := ws_t (List.mem_of_getElem? (i := 100) (by decide +kernel)) rfl
set_option maxRecDepth 20000 in
theorem qi_BL_init : Cond.instanceMethod y_BL_init ∈ WS := ws_t (List.mem_of_getElem? (i := 99) (by decide +kernel)) rfl
set_option maxRecDepth 20000 in
theorem qc_DR_init : Cond.code y_DR_init b_DR_init 1 none ∈ WS := ws_t (List.mem_of_getElem? (i := 146) (by decide +kernel)) rfl
set_option maxRecDepth 20000 in
theorem qi_DR_init : Cond.instanceMethod y_DR_init ∈ WS := ws_t (List.mem_of_getElem? (i := 145) (by decide +kernel)) rfl
set_option maxRecDepth 20000 in
theorem qc_MA_init : Cond.code y_MA_init b_MA_init 1 none ∈ WS := ws_t (List.mem_of_getElem? (i := 168) (by decide +kernel)) rfl
set_option maxRecDepth 20000 in
theorem qi_MA_init : Cond.instanceMethod y_MA_init ∈ WS := ws_t (List.mem_of_getElem? (i := 167) (by decide +kernel)) rfl
set_option maxRecDepth 20000 in
theorem qc_FF_clear : Cond.code y_FF_clear b_FF_clear 1 none ∈ WS := ws_t (List.mem_of_getElem? (i := 227) (by decide +kernel)) rfl
set_option maxRecDepth 20000 in
theorem qi_FF_clear : Cond.instanceMethod y_FF_clear ∈ WS := ws_t (List.mem_of_getElem? (i := 225) (by decide +kernel)) rfl
set_option maxRecDepth 20000 in
theorem qs_FF_clear : Cond.selects R_FF y_FF_clear y_FF_clear ∈ WS := ws_t (List.mem_of_getElem? (i := 226) (by decide +kernel)) rfl
set_option maxRecDepth 20000 in
theorem qc_CO_empty : Cond.code y_CO_empty b_CO_empty 1 none ∈ WS := ws_t (List.mem_of_getElem? (i := 231) (by decide +kernel)) rfl
set_option maxRecDepth 20000 in
theorem qi_CO_empty : Cond.instanceMethod y_CO_empty ∈ WS := ws_t (List.mem_of_getElem? (i := 229) (by decide +kernel)) rfl
set_option maxRecDepth 20000 in
theorem qs_CO_empty : Cond.selects R_CO y_CO_empty y_CO_empty ∈ WS := ws_t (List.mem_of_getElem? (i := 230) (by decide +kernel)) rfl
set_option maxRecDepth 20000 in
theorem qc_FF_add : Cond.code y_FF_add b_FF_add 3 (some .int) ∈ WS := ws_t (List.mem_of_getElem? (i := 235) (by decide +kernel)) rfl
set_option maxRecDepth 20000 in
theorem qi_FF_add : Cond.instanceMethod y_FF_add ∈ WS := ws_t (List.mem_of_getElem? (i := 233) (by decide +kernel)) rfl
set_option maxRecDepth 20000 in
theorem qs_FF_add : Cond.selects R_FF y_FF_add y_FF_add ∈ WS := ws_t (List.mem_of_getElem? (i := 234) (by decide +kernel)) rfl
set_option maxRecDepth 20000 in
theorem qc_FF_takesOperand : Cond.code y_FF_takesOperand b_FF_takesOperand 2 (some .boolean) ∈ WS := ws_t (List.mem_of_getElem? (i := 238) (by decide +kernel)) rfl
set_option maxRecDepth 20000 in
theorem qt_FF_takesOperand : Cond.static y_FF_takesOperand ∈ WS := ws_t (List.mem_of_getElem? (i := 237) (by decide +kernel)) rfl
set_option maxRecDepth 20000 in
theorem qc_FF_jumps : Cond.code y_FF_jumps b_FF_jumps 1 (some .boolean) ∈ WS := ws_t (List.mem_of_getElem? (i := 241) (by decide +kernel)) rfl
set_option maxRecDepth 20000 in
theorem qt_FF_jumps : Cond.static y_FF_jumps ∈ WS := ws_t (List.mem_of_getElem? (i := 240) (by decide +kernel)) rfl
set_option maxRecDepth 20000 in
theorem qc_FF_branches : Cond.code y_FF_branches b_FF_branches 1 (some .boolean) ∈ WS := ws_t (List.mem_of_getElem? (i := 244) (by decide +kernel)) rfl
set_option maxRecDepth 20000 in
theorem qt_FF_branches : Cond.static y_FF_branches ∈ WS := ws_t (List.mem_of_getElem? (i := 243) (by decide +kernel)) rfl
set_option maxRecDepth 20000 in
theorem qc_FF_hasOperand : Cond.code y_FF_hasOperand b_FF_hasOperand 1 (some .boolean) ∈ WS := ws_t (List.mem_of_getElem? (i := 247) (by decide +kernel)) rfl
set_option maxRecDepth 20000 in
theorem qt_FF_hasOperand : Cond.static y_FF_hasOperand ∈ WS := ws_t (List.mem_of_getElem? (i := 246) (by decide +kernel)) rfl
set_option maxRecDepth 20000 in
theorem qc_CO_append : Cond.code y_CO_append b_CO_append 3 none ∈ WS := ws_t (List.mem_of_getElem? (i := 251) (by decide +kernel)) rfl
set_option maxRecDepth 20000 in
theorem qi_CO_append : Cond.instanceMethod y_CO_append ∈ WS := ws_t (List.mem_of_getElem? (i := 249) (by decide +kernel)) rfl
set_option maxRecDepth 20000 in
theorem qs_CO_append : Cond.selects R_CO y_CO_append y_CO_append ∈ WS := ws_t (List.mem_of_getElem? (i := 250) (by decide +kernel)) rfl
set_option maxRecDepth 20000 in
theorem qc_FF_handler : Cond.code y_FF_handler b_FF_handler 4 (some .boolean) ∈ WS := ws_t (List.mem_of_getElem? (i := 255) (by decide +kernel)) rfl
set_option maxRecDepth 20000 in
theorem qi_FF_handler : Cond.instanceMethod y_FF_handler ∈ WS := ws_t (List.mem_of_getElem? (i := 253) (by decide +kernel)) rfl
set_option maxRecDepth 20000 in
theorem qs_FF_handler : Cond.selects R_FF y_FF_handler y_FF_handler ∈ WS := ws_t (List.mem_of_getElem? (i := 254) (by decide +kernel)) rfl
set_option maxRecDepth 20000 in
theorem qc_FF_isPlace : Cond.code y_FF_isPlace b_FF_isPlace 1 (some .boolean) ∈ WS := ws_t (List.mem_of_getElem? (i := 258) (by decide +kernel)) rfl
set_option maxRecDepth 20000 in
theorem qt_FF_isPlace : Cond.static y_FF_isPlace ∈ WS := ws_t (List.mem_of_getElem? (i := 257) (by decide +kernel)) rfl
set_option maxRecDepth 20000 in
theorem qc_CO_appendHandler : Cond.code y_CO_appendHandler b_CO_appendHandler 4 none ∈ WS := ws_t (List.mem_of_getElem? (i := 262) (by decide +kernel)) rfl
set_option maxRecDepth 20000 in
theorem qi_CO_appendHandler : Cond.instanceMethod y_CO_appendHandler ∈ WS := ws_t (List.mem_of_getElem? (i := 260) (by decide +kernel)) rfl
set_option maxRecDepth 20000 in
theorem qs_CO_appendHandler : Cond.selects R_CO y_CO_appendHandler y_CO_appendHandler ∈ WS := ws_t (List.mem_of_getElem? (i := 261) (by decide +kernel)) rfl
set_option maxRecDepth 20000 in
theorem qc_FF_check : Cond.code y_FF_check b_FF_check 1 (some .int) ∈ WS := ws_t (List.mem_of_getElem? (i := 266) (by decide +kernel)) rfl
set_option maxRecDepth 20000 in
theorem qi_FF_check : Cond.instanceMethod y_FF_check ∈ WS := ws_t (List.mem_of_getElem? (i := 264) (by decide +kernel)) rfl
set_option maxRecDepth 20000 in
theorem qs_FF_check : Cond.selects R_FF y_FF_check y_FF_check ∈ WS := ws_t (List.mem_of_getElem? (i := 265) (by decide +kernel)) rfl
set_option maxRecDepth 20000 in
theorem qc_CH_firstWrong : Cond.code y_CH_firstWrong b_CH_firstWrong 4 (some .int) ∈ WS := ws_t (List.mem_of_getElem? (i := 270) (by decide +kernel)) rfl
set_option maxRecDepth 20000 in
theorem qi_CH_firstWrong : Cond.instanceMethod y_CH_firstWrong ∈ WS := ws_t (List.mem_of_getElem? (i := 268) (by decide +kernel)) rfl
set_option maxRecDepth 20000 in
theorem qs_CH_firstWrong : Cond.selects R_CH y_CH_firstWrong y_CH_firstWrong ∈ WS := ws_t (List.mem_of_getElem? (i := 269) (by decide +kernel)) rfl
set_option maxRecDepth 20000 in
theorem qc_CH_forget : Cond.code y_CH_forget b_CH_forget 2 none ∈ WS := ws_t (List.mem_of_getElem? (i := 274) (by decide +kernel)) rfl
set_option maxRecDepth 20000 in
theorem qi_CH_forget : Cond.instanceMethod y_CH_forget ∈ WS := ws_t (List.mem_of_getElem? (i := 273) (by decide +kernel)) rfl
set_option maxRecDepth 20000 in
theorem qs_CH_forget : Cond.selects R_CH y_CH_forget y_CH_forget ∈ WS := ws_s (List.mem_of_getElem? (i := 0) (by decide +kernel)) rfl
set_option maxRecDepth 20000 in
theorem qc_CH_leastLeft : Cond.code y_CH_leastLeft b_CH_leastLeft 3 (some .int) ∈ WS := ws_t (List.mem_of_getElem? (i := 278) (by decide +kernel)) rfl
set_option maxRecDepth 20000 in
theorem qi_CH_leastLeft : Cond.instanceMethod y_CH_leastLeft ∈ WS := ws_t (List.mem_of_getElem? (i := 277) (by decide +kernel)) rfl
set_option maxRecDepth 20000 in
theorem qs_CH_leastLeft : Cond.selects R_CH y_CH_leastLeft y_CH_leastLeft ∈ WS := ws_s (List.mem_of_getElem? (i := 1) (by decide +kernel)) rfl
set_option maxRecDepth 20000 in
theorem qc_CH_reached : Cond.code y_CH_reached b_CH_reached 2 (some .boolean) ∈ WS := ws_t (List.mem_of_getElem? (i := 282) (by decide +kernel)) rfl
set_option maxRecDepth 20000 in
theorem qi_CH_reached : Cond.instanceMethod y_CH_reached ∈ WS := ws_t (List.mem_of_getElem? (i := 280) (by decide +kernel)) rfl
set_option maxRecDepth 20000 in
theorem qs_CH_reached : Cond.selects R_CH y_CH_reached y_CH_reached ∈ WS := ws_t (List.mem_of_getElem? (i := 281) (by decide +kernel)) rfl
set_option maxRecDepth 20000 in
theorem qc_CH_goesOver : Cond.code y_CH_goesOver b_CH_goesOver 6 (some .boolean) ∈ WS := ws_t (List.mem_of_getElem? (i := 286) (by decide +kernel)) rfl
set_option maxRecDepth 20000 in
theorem qi_CH_goesOver : Cond.instanceMethod y_CH_goesOver ∈ WS := ws_t (List.mem_of_getElem? (i := 285) (by decide +kernel)) rfl
set_option maxRecDepth 20000 in
theorem qs_CH_goesOver : Cond.selects R_CH y_CH_goesOver y_CH_goesOver ∈ WS := ws_s (List.mem_of_getElem? (i := 2) (by decide +kernel)) rfl
set_option maxRecDepth 20000 in
theorem qc_CH_staysInside : Cond.code y_CH_staysInside b_CH_staysInside 3 (some .boolean) ∈ WS := ws_t (List.mem_of_getElem? (i := 293) (by decide +kernel)) rfl
set_option maxRecDepth 20000 in
theorem qt_CH_staysInside : Cond.static y_CH_staysInside ∈ WS := ws_t (List.mem_of_getElem? (i := 292) (by decide +kernel)) rfl
set_option maxRecDepth 20000 in
theorem qc_FF_goesToNext : Cond.code y_FF_goesToNext b_FF_goesToNext 1 (some .boolean) ∈ WS := ws_t (List.mem_of_getElem? (i := 296) (by decide +kernel)) rfl
set_option maxRecDepth 20000 in
theorem qt_FF_goesToNext : Cond.static y_FF_goesToNext ∈ WS := ws_t (List.mem_of_getElem? (i := 295) (by decide +kernel)) rfl
set_option maxRecDepth 20000 in
theorem qc_FF_ends : Cond.code y_FF_ends b_FF_ends 1 (some .boolean) ∈ WS := ws_t (List.mem_of_getElem? (i := 299) (by decide +kernel)) rfl
set_option maxRecDepth 20000 in
theorem qt_FF_ends : Cond.static y_FF_ends ∈ WS := ws_t (List.mem_of_getElem? (i := 298) (by decide +kernel)) rfl
set_option maxRecDepth 20000 in
theorem qc_CO_has : Cond.code y_CO_has b_CO_has 2 (some .boolean) ∈ WS := ws_t (List.mem_of_getElem? (i := 303) (by decide +kernel)) rfl
set_option maxRecDepth 20000 in
theorem qi_CO_has : Cond.instanceMethod y_CO_has ∈ WS := ws_t (List.mem_of_getElem? (i := 301) (by decide +kernel)) rfl
set_option maxRecDepth 20000 in
theorem qs_CO_has : Cond.selects R_CO y_CO_has y_CO_has ∈ WS := ws_t (List.mem_of_getElem? (i := 302) (by decide +kernel)) rfl
set_option maxRecDepth 20000 in
theorem qc_CH_gives : Cond.code y_CH_gives b_CH_gives 4 (some .boolean) ∈ WS := ws_t (List.mem_of_getElem? (i := 308) (by decide +kernel)) rfl
set_option maxRecDepth 20000 in
theorem qi_CH_gives : Cond.instanceMethod y_CH_gives ∈ WS := ws_t (List.mem_of_getElem? (i := 307) (by decide +kernel)) rfl
set_option maxRecDepth 20000 in
theorem qs_CH_gives : Cond.selects R_CH y_CH_gives y_CH_gives ∈ WS := ws_s (List.mem_of_getElem? (i := 3) (by decide +kernel)) rfl
set_option maxRecDepth 20000 in
theorem qc_CH_givesTargets : Cond.code y_CH_givesTargets b_CH_givesTargets 5 (some .boolean) ∈ WS := ws_t (List.mem_of_getElem? (i := 312) (by decide +kernel)) rfl
set_option maxRecDepth 20000 in
theorem qi_CH_givesTargets : Cond.instanceMethod y_CH_givesTargets ∈ WS := ws_t (List.mem_of_getElem? (i := 311) (by decide +kernel)) rfl
set_option maxRecDepth 20000 in
theorem qs_CH_givesTargets : Cond.selects R_CH y_CH_givesTargets y_CH_givesTargets ∈ WS := ws_s (List.mem_of_getElem? (i := 4) (by decide +kernel)) rfl
set_option maxRecDepth 20000 in
theorem qc_CO_covers : Cond.code y_CO_covers b_CO_covers 3 (some .boolean) ∈ WS := ws_t (List.mem_of_getElem? (i := 316) (by decide +kernel)) rfl
set_option maxRecDepth 20000 in
theorem qi_CO_covers : Cond.instanceMethod y_CO_covers ∈ WS := ws_t (List.mem_of_getElem? (i := 314) (by decide +kernel)) rfl
set_option maxRecDepth 20000 in
theorem qs_CO_covers : Cond.selects R_CO y_CO_covers y_CO_covers ∈ WS := ws_t (List.mem_of_getElem? (i := 315) (by decide +kernel)) rfl
set_option maxRecDepth 20000 in
theorem qc_FF_depth : Cond.code y_FF_depth b_FF_depth 2 (some .int) ∈ WS := ws_t (List.mem_of_getElem? (i := 320) (by decide +kernel)) rfl
set_option maxRecDepth 20000 in
theorem qi_FF_depth : Cond.instanceMethod y_FF_depth ∈ WS := ws_t (List.mem_of_getElem? (i := 318) (by decide +kernel)) rfl
set_option maxRecDepth 20000 in
theorem qs_FF_depth : Cond.selects R_FF y_FF_depth y_FF_depth ∈ WS := ws_t (List.mem_of_getElem? (i := 319) (by decide +kernel)) rfl
set_option maxRecDepth 20000 in
theorem qc_FF_flatten : Cond.code y_FF_flatten b_FF_flatten 2 (some .int) ∈ WS := ws_t (List.mem_of_getElem? (i := 326) (by decide +kernel)) rfl
set_option maxRecDepth 20000 in
theorem qi_FF_flatten : Cond.instanceMethod y_FF_flatten ∈ WS := ws_t (List.mem_of_getElem? (i := 324) (by decide +kernel)) rfl
set_option maxRecDepth 20000 in
theorem qs_FF_flatten : Cond.selects R_FF y_FF_flatten y_FF_flatten ∈ WS := ws_t (List.mem_of_getElem? (i := 325) (by decide +kernel)) rfl
set_option maxRecDepth 20000 in
theorem qc_FF_originalIsFine : Cond.code y_FF_originalIsFine b_FF_originalIsFine 1 (some .boolean) ∈ WS := ws_t (List.mem_of_getElem? (i := 330) (by decide +kernel)) rfl
set_option maxRecDepth 20000 in
theorem qi_FF_originalIsFine : Cond.instanceMethod y_FF_originalIsFine ∈ WS := ws_t (List.mem_of_getElem? (i := 329) (by decide +kernel)) rfl
set_option maxRecDepth 20000 in
theorem qs_FF_originalIsFine : Cond.selects R_FF y_FF_originalIsFine y_FF_originalIsFine ∈ WS := ws_s (List.mem_of_getElem? (i := 5) (by decide +kernel)) rfl
set_option maxRecDepth 20000 in
theorem qc_WE_weave : Cond.code y_WE_weave b_WE_weave 6 none ∈ WS := ws_t (List.mem_of_getElem? (i := 334) (by decide +kernel)) rfl
set_option maxRecDepth 20000 in
theorem qi_WE_weave : Cond.instanceMethod y_WE_weave ∈ WS := ws_t (List.mem_of_getElem? (i := 332) (by decide +kernel)) rfl
set_option maxRecDepth 20000 in
theorem qs_WE_weave : Cond.selects R_WE y_WE_weave y_WE_weave ∈ WS := ws_t (List.mem_of_getElem? (i := 333) (by decide +kernel)) rfl
set_option maxRecDepth 20000 in
theorem qc_DR_begin : Cond.code y_DR_begin b_DR_begin 2 none ∈ WS := ws_t (List.mem_of_getElem? (i := 338) (by decide +kernel)) rfl
set_option maxRecDepth 20000 in
theorem qi_DR_begin : Cond.instanceMethod y_DR_begin ∈ WS := ws_t (List.mem_of_getElem? (i := 336) (by decide +kernel)) rfl
set_option maxRecDepth 20000 in
theorem qs_DR_begin : Cond.selects R_DR y_DR_begin y_DR_begin ∈ WS := ws_t (List.mem_of_getElem? (i := 337) (by decide +kernel)) rfl
set_option maxRecDepth 20000 in
theorem qc_BL_find : Cond.code y_BL_find b_BL_find 4 none ∈ WS := ws_t (List.mem_of_getElem? (i := 342) (by decide +kernel)) rfl
set_option maxRecDepth 20000 in
theorem qi_BL_find : Cond.instanceMethod y_BL_find ∈ WS := ws_t (List.mem_of_getElem? (i := 340) (by decide +kernel)) rfl
set_option maxRecDepth 20000 in
theorem qs_BL_find : Cond.selects R_BL y_BL_find y_BL_find ∈ WS := ws_t (List.mem_of_getElem? (i := 341) (by decide +kernel)) rfl
set_option maxRecDepth 20000 in
theorem qc_BL_mark : Cond.code y_BL_mark b_BL_mark 4 none ∈ WS := ws_t (List.mem_of_getElem? (i := 346) (by decide +kernel)) rfl
set_option maxRecDepth 20000 in
theorem qi_BL_mark : Cond.instanceMethod y_BL_mark ∈ WS := ws_t (List.mem_of_getElem? (i := 345) (by decide +kernel)) rfl
set_option maxRecDepth 20000 in
theorem qs_BL_mark : Cond.selects R_BL y_BL_mark y_BL_mark ∈ WS := ws_s (List.mem_of_getElem? (i := 6) (by decide +kernel)) rfl
set_option maxRecDepth 20000 in
theorem qc_BL_drawStates : Cond.code y_BL_drawStates b_BL_drawStates 4 none ∈ WS := ws_t (List.mem_of_getElem? (i := 353) (by decide +kernel)) rfl
set_option maxRecDepth 20000 in
theorem qi_BL_drawStates : Cond.instanceMethod y_BL_drawStates ∈ WS := ws_t (List.mem_of_getElem? (i := 351) (by decide +kernel)) rfl
set_option maxRecDepth 20000 in
theorem qs_BL_drawStates : Cond.selects R_BL y_BL_drawStates y_BL_drawStates ∈ WS := ws_t (List.mem_of_getElem? (i := 352) (by decide +kernel)) rfl
set_option maxRecDepth 20000 in
theorem qc_DR_next : Cond.code y_DR_next b_DR_next 1 (some .int) ∈ WS := ws_t (List.mem_of_getElem? (i := 357) (by decide +kernel)) rfl
set_option maxRecDepth 20000 in
theorem qi_DR_next : Cond.instanceMethod y_DR_next ∈ WS := ws_t (List.mem_of_getElem? (i := 355) (by decide +kernel)) rfl
set_option maxRecDepth 20000 in
theorem qs_DR_next : Cond.selects R_DR y_DR_next y_DR_next ∈ WS := ws_t (List.mem_of_getElem? (i := 356) (by decide +kernel)) rfl
set_option maxRecDepth 20000 in
theorem qc_BL_among : Cond.code y_BL_among b_BL_among 4 (some .int) ∈ WS := ws_t (List.mem_of_getElem? (i := 364) (by decide +kernel)) rfl
set_option maxRecDepth 20000 in
theorem qi_BL_among : Cond.instanceMethod y_BL_among ∈ WS := ws_t (List.mem_of_getElem? (i := 363) (by decide +kernel)) rfl
set_option maxRecDepth 20000 in
theorem qs_BL_among : Cond.selects R_BL y_BL_among y_BL_among ∈ WS := ws_s (List.mem_of_getElem? (i := 7) (by decide +kernel)) rfl
set_option maxRecDepth 20000 in
theorem qc_BL_sortByState : Cond.code y_BL_sortByState b_BL_sortByState 3 none ∈ WS := ws_t (List.mem_of_getElem? (i := 368) (by decide +kernel)) rfl
set_option maxRecDepth 20000 in
theorem qi_BL_sortByState : Cond.instanceMethod y_BL_sortByState ∈ WS := ws_t (List.mem_of_getElem? (i := 366) (by decide +kernel)) rfl
set_option maxRecDepth 20000 in
theorem qs_BL_sortByState : Cond.selects R_BL y_BL_sortByState y_BL_sortByState ∈ WS := ws_t (List.mem_of_getElem? (i := 367) (by decide +kernel)) rfl
set_option maxRecDepth 20000 in
theorem qc_WE_writeLoop : Cond.code y_WE_writeLoop b_WE_writeLoop 1 none ∈ WS := ws_t (List.mem_of_getElem? (i := 373) (by decide +kernel)) rfl
set_option maxRecDepth 20000 in
theorem qi_WE_writeLoop : Cond.instanceMethod y_WE_writeLoop ∈ WS := ws_t (List.mem_of_getElem? (i := 372) (by decide +kernel)) rfl
set_option maxRecDepth 20000 in
theorem qs_WE_writeLoop : Cond.selects R_WE y_WE_writeLoop y_WE_writeLoop ∈ WS := ws_s (List.mem_of_getElem? (i := 8) (by decide +kernel)) rfl
set_option maxRecDepth 20000 in
theorem qc_WE_write2 : Cond.code y_WE_write2 b_WE_write2 3 none ∈ WS := ws_t (List.mem_of_getElem? (i := 377) (by decide +kernel)) rfl
set_option maxRecDepth 20000 in
theorem qi_WE_write2 : Cond.instanceMethod y_WE_write2 ∈ WS := ws_t (List.mem_of_getElem? (i := 376) (by decide +kernel)) rfl
set_option maxRecDepth 20000 in
theorem qs_WE_write2 : Cond.selects R_WE y_WE_write2 y_WE_write2 ∈ WS := ws_s (List.mem_of_getElem? (i := 9) (by decide +kernel)) rfl
set_option maxRecDepth 20000 in
theorem qc_WE_write1 : Cond.code y_WE_write1 b_WE_write1 2 none ∈ WS := ws_t (List.mem_of_getElem? (i := 382) (by decide +kernel)) rfl
set_option maxRecDepth 20000 in
theorem qi_WE_write1 : Cond.instanceMethod y_WE_write1 ∈ WS := ws_t (List.mem_of_getElem? (i := 381) (by decide +kernel)) rfl
set_option maxRecDepth 20000 in
theorem qs_WE_write1 : Cond.selects R_WE y_WE_write1 y_WE_write1 ∈ WS := ws_s (List.mem_of_getElem? (i := 10) (by decide +kernel)) rfl
set_option maxRecDepth 20000 in
theorem qc_WE_writeTakingBack : Cond.code y_WE_writeTakingBack b_WE_writeTakingBack 3 none ∈ WS := ws_t (List.mem_of_getElem? (i := 386) (by decide +kernel)) rfl
set_option maxRecDepth 20000 in
theorem qi_WE_writeTakingBack : Cond.instanceMethod y_WE_writeTakingBack ∈ WS := ws_t (List.mem_of_getElem? (i := 385) (by decide +kernel)) rfl
set_option maxRecDepth 20000 in
theorem qs_WE_writeTakingBack : Cond.selects R_WE y_WE_writeTakingBack y_WE_writeTakingBack ∈ WS := ws_s (List.mem_of_getElem? (i := 11) (by decide +kernel)) rfl
set_option maxRecDepth 20000 in
theorem qc_WE_writeCondition : Cond.code y_WE_writeCondition b_WE_writeCondition 7 none ∈ WS := ws_t (List.mem_of_getElem? (i := 390) (by decide +kernel)) rfl
set_option maxRecDepth 20000 in
theorem qi_WE_writeCondition : Cond.instanceMethod y_WE_writeCondition ∈ WS := ws_t (List.mem_of_getElem? (i := 389) (by decide +kernel)) rfl
set_option maxRecDepth 20000 in
theorem qs_WE_writeCondition : Cond.selects R_WE y_WE_writeCondition y_WE_writeCondition ∈ WS := ws_s (List.mem_of_getElem? (i := 12) (by decide +kernel)) rfl
set_option maxRecDepth 20000 in
theorem qc_WE_writeEvenProduct : Cond.code y_WE_writeEvenProduct b_WE_writeEvenProduct 2 none ∈ WS := ws_t (List.mem_of_getElem? (i := 395) (by decide +kernel)) rfl
set_option maxRecDepth 20000 in
theorem qi_WE_writeEvenProduct : Cond.instanceMethod y_WE_writeEvenProduct ∈ WS := ws_t (List.mem_of_getElem? (i := 394) (by decide +kernel)) rfl
set_option maxRecDepth 20000 in
theorem qs_WE_writeEvenProduct : Cond.selects R_WE y_WE_writeEvenProduct y_WE_writeEvenProduct ∈ WS := ws_s (List.mem_of_getElem? (i := 13) (by decide +kernel)) rfl
set_option maxRecDepth 20000 in
theorem qc_WE_writeSquareNeverTwo : Cond.code y_WE_writeSquareNeverTwo b_WE_writeSquareNeverTwo 2 none ∈ WS := ws_t (List.mem_of_getElem? (i := 399) (by decide +kernel)) rfl
set_option maxRecDepth 20000 in
theorem qi_WE_writeSquareNeverTwo : Cond.instanceMethod y_WE_writeSquareNeverTwo ∈ WS := ws_t (List.mem_of_getElem? (i := 398) (by decide +kernel)) rfl
set_option maxRecDepth 20000 in
theorem qs_WE_writeSquareNeverTwo : Cond.selects R_WE y_WE_writeSquareNeverTwo y_WE_writeSquareNeverTwo ∈ WS := ws_s (List.mem_of_getElem? (i := 14) (by decide +kernel)) rfl
set_option maxRecDepth 20000 in
theorem qc_WE_writeSquare : Cond.code y_WE_writeSquare b_WE_writeSquare 2 none ∈ WS := ws_t (List.mem_of_getElem? (i := 403) (by decide +kernel)) rfl
set_option maxRecDepth 20000 in
theorem qi_WE_writeSquare : Cond.instanceMethod y_WE_writeSquare ∈ WS := ws_t (List.mem_of_getElem? (i := 402) (by decide +kernel)) rfl
set_option maxRecDepth 20000 in
theorem qs_WE_writeSquare : Cond.selects R_WE y_WE_writeSquare y_WE_writeSquare ∈ WS := ws_s (List.mem_of_getElem? (i := 15) (by decide +kernel)) rfl
set_option maxRecDepth 20000 in
theorem qc_WE_writeSquaresNeverMeet : Cond.code y_WE_writeSquaresNeverMeet b_WE_writeSquaresNeverMeet 3 none ∈ WS := ws_t (List.mem_of_getElem? (i := 407) (by decide +kernel)) rfl
set_option maxRecDepth 20000 in
theorem qi_WE_writeSquaresNeverMeet : Cond.instanceMethod y_WE_writeSquaresNeverMeet ∈ WS := ws_t (List.mem_of_getElem? (i := 406) (by decide +kernel)) rfl
set_option maxRecDepth 20000 in
theorem qs_WE_writeSquaresNeverMeet : Cond.selects R_WE y_WE_writeSquaresNeverMeet y_WE_writeSquaresNeverMeet ∈ WS := ws_s (List.mem_of_getElem? (i := 16) (by decide +kernel)) rfl
set_option maxRecDepth 20000 in
theorem qc_WE_writeJunk : Cond.code y_WE_writeJunk b_WE_writeJunk 4 none ∈ WS := ws_t (List.mem_of_getElem? (i := 411) (by decide +kernel)) rfl
set_option maxRecDepth 20000 in
theorem qi_WE_writeJunk : Cond.instanceMethod y_WE_writeJunk ∈ WS := ws_t (List.mem_of_getElem? (i := 410) (by decide +kernel)) rfl
set_option maxRecDepth 20000 in
theorem qs_WE_writeJunk : Cond.selects R_WE y_WE_writeJunk y_WE_writeJunk ∈ WS := ws_s (List.mem_of_getElem? (i := 17) (by decide +kernel)) rfl
set_option maxRecDepth 20000 in
theorem qc_WE_writeGoingTo : Cond.code y_WE_writeGoingTo b_WE_writeGoingTo 2 none ∈ WS := ws_t (List.mem_of_getElem? (i := 415) (by decide +kernel)) rfl
set_option maxRecDepth 20000 in
theorem qi_WE_writeGoingTo : Cond.instanceMethod y_WE_writeGoingTo ∈ WS := ws_t (List.mem_of_getElem? (i := 414) (by decide +kernel)) rfl
set_option maxRecDepth 20000 in
theorem qs_WE_writeGoingTo : Cond.selects R_WE y_WE_writeGoingTo y_WE_writeGoingTo ∈ WS := ws_s (List.mem_of_getElem? (i := 18) (by decide +kernel)) rfl
set_option maxRecDepth 20000 in
theorem qc_WE_writeInstructions : Cond.code y_WE_writeInstructions b_WE_writeInstructions 6 none ∈ WS := ws_t (List.mem_of_getElem? (i := 419) (by decide +kernel)) rfl
set_option maxRecDepth 20000 in
theorem qi_WE_writeInstructions : Cond.instanceMethod y_WE_writeInstructions ∈ WS := ws_t (List.mem_of_getElem? (i := 418) (by decide +kernel)) rfl
set_option maxRecDepth 20000 in
theorem qs_WE_writeInstructions : Cond.selects R_WE y_WE_writeInstructions y_WE_writeInstructions ∈ WS := ws_s (List.mem_of_getElem? (i := 19) (by decide +kernel)) rfl
set_option maxRecDepth 20000 in
theorem qc_WE_writeLead : Cond.code y_WE_writeLead b_WE_writeLead 4 none ∈ WS := ws_t (List.mem_of_getElem? (i := 423) (by decide +kernel)) rfl
set_option maxRecDepth 20000 in
theorem qi_WE_writeLead : Cond.instanceMethod y_WE_writeLead ∈ WS := ws_t (List.mem_of_getElem? (i := 422) (by decide +kernel)) rfl
set_option maxRecDepth 20000 in
theorem qs_WE_writeLead : Cond.selects R_WE y_WE_writeLead y_WE_writeLead ∈ WS := ws_s (List.mem_of_getElem? (i := 20) (by decide +kernel)) rfl
set_option maxRecDepth 20000 in
theorem qc_WE_writeJump : Cond.code y_WE_writeJump b_WE_writeJump 5 none ∈ WS := ws_t (List.mem_of_getElem? (i := 428) (by decide +kernel)) rfl
set_option maxRecDepth 20000 in
theorem qi_WE_writeJump : Cond.instanceMethod y_WE_writeJump ∈ WS := ws_t (List.mem_of_getElem? (i := 427) (by decide +kernel)) rfl
set_option maxRecDepth 20000 in
theorem qs_WE_writeJump : Cond.selects R_WE y_WE_writeJump y_WE_writeJump ∈ WS := ws_s (List.mem_of_getElem? (i := 21) (by decide +kernel)) rfl
set_option maxRecDepth 20000 in
theorem qc_WE_leadSize : Cond.code y_WE_leadSize b_WE_leadSize 2 (some .int) ∈ WS := ws_t (List.mem_of_getElem? (i := 433) (by decide +kernel)) rfl
set_option maxRecDepth 20000 in
theorem qi_WE_leadSize : Cond.instanceMethod y_WE_leadSize ∈ WS := ws_t (List.mem_of_getElem? (i := 432) (by decide +kernel)) rfl
set_option maxRecDepth 20000 in
theorem qs_WE_leadSize : Cond.selects R_WE y_WE_leadSize y_WE_leadSize ∈ WS := ws_s (List.mem_of_getElem? (i := 22) (by decide +kernel)) rfl
set_option maxRecDepth 20000 in
theorem qc_WE_writeCatching : Cond.code y_WE_writeCatching b_WE_writeCatching 7 none ∈ WS := ws_t (List.mem_of_getElem? (i := 438) (by decide +kernel)) rfl
set_option maxRecDepth 20000 in
theorem qi_WE_writeCatching : Cond.instanceMethod y_WE_writeCatching ∈ WS := ws_t (List.mem_of_getElem? (i := 437) (by decide +kernel)) rfl
set_option maxRecDepth 20000 in
theorem qs_WE_writeCatching : Cond.selects R_WE y_WE_writeCatching y_WE_writeCatching ∈ WS := ws_s (List.mem_of_getElem? (i := 23) (by decide +kernel)) rfl
set_option maxRecDepth 20000 in
theorem qc_FF_length : Cond.code y_FF_length b_FF_length 2 (some .int) ∈ WS := ws_t (List.mem_of_getElem? (i := 444) (by decide +kernel)) rfl
set_option maxRecDepth 20000 in
theorem qi_FF_length : Cond.instanceMethod y_FF_length ∈ WS := ws_t (List.mem_of_getElem? (i := 442) (by decide +kernel)) rfl
set_option maxRecDepth 20000 in
theorem qs_FF_length : Cond.selects R_FF y_FF_length y_FF_length ∈ WS := ws_t (List.mem_of_getElem? (i := 443) (by decide +kernel)) rfl
set_option maxRecDepth 20000 in
theorem qc_FF_chosen : Cond.code y_FF_chosen b_FF_chosen 2 (some (.object "FlowFlattener$Code")) ∈ WS := ws_t (List.mem_of_getElem? (i := 448) (by decide +kernel)) rfl
set_option maxRecDepth 20000 in
theorem qi_FF_chosen : Cond.instanceMethod y_FF_chosen ∈ WS := ws_t (List.mem_of_getElem? (i := 447) (by decide +kernel)) rfl
set_option maxRecDepth 20000 in
theorem qs_FF_chosen : Cond.selects R_FF y_FF_chosen y_FF_chosen ∈ WS := ws_s (List.mem_of_getElem? (i := 24) (by decide +kernel)) rfl
set_option maxRecDepth 20000 in
theorem qc_FF_operation : Cond.code y_FF_operation b_FF_operation 4 (some .int) ∈ WS := ws_t (List.mem_of_getElem? (i := 452) (by decide +kernel)) rfl
set_option maxRecDepth 20000 in
theorem qi_FF_operation : Cond.instanceMethod y_FF_operation ∈ WS := ws_t (List.mem_of_getElem? (i := 450) (by decide +kernel)) rfl
set_option maxRecDepth 20000 in
theorem qs_FF_operation : Cond.selects R_FF y_FF_operation y_FF_operation ∈ WS := ws_t (List.mem_of_getElem? (i := 451) (by decide +kernel)) rfl
set_option maxRecDepth 20000 in
theorem qc_FF_operand : Cond.code y_FF_operand b_FF_operand 4 (some .int) ∈ WS := ws_t (List.mem_of_getElem? (i := 456) (by decide +kernel)) rfl
set_option maxRecDepth 20000 in
theorem qi_FF_operand : Cond.instanceMethod y_FF_operand ∈ WS := ws_t (List.mem_of_getElem? (i := 454) (by decide +kernel)) rfl
set_option maxRecDepth 20000 in
theorem qs_FF_operand : Cond.selects R_FF y_FF_operand y_FF_operand ∈ WS := ws_t (List.mem_of_getElem? (i := 455) (by decide +kernel)) rfl
set_option maxRecDepth 20000 in
theorem qc_FF_handlerAt : Cond.code y_FF_handlerAt b_FF_handlerAt 5 (some .int) ∈ WS := ws_t (List.mem_of_getElem? (i := 461) (by decide +kernel)) rfl
set_option maxRecDepth 20000 in
theorem qi_FF_handlerAt : Cond.instanceMethod y_FF_handlerAt ∈ WS := ws_t (List.mem_of_getElem? (i := 459) (by decide +kernel)) rfl
set_option maxRecDepth 20000 in
theorem qs_FF_handlerAt : Cond.selects R_FF y_FF_handlerAt y_FF_handlerAt ∈ WS := ws_t (List.mem_of_getElem? (i := 460) (by decide +kernel)) rfl
set_option maxRecDepth 20000 in
theorem qc_FF_blocks : Cond.code y_FF_blocks b_FF_blocks 1 (some .int) ∈ WS := ws_t (List.mem_of_getElem? (i := 465) (by decide +kernel)) rfl
set_option maxRecDepth 20000 in
theorem qi_FF_blocks : Cond.instanceMethod y_FF_blocks ∈ WS := ws_t (List.mem_of_getElem? (i := 463) (by decide +kernel)) rfl
set_option maxRecDepth 20000 in
theorem qs_FF_blocks : Cond.selects R_FF y_FF_blocks y_FF_blocks ∈ WS := ws_t (List.mem_of_getElem? (i := 464) (by decide +kernel)) rfl
set_option maxRecDepth 20000 in
theorem qc_FF_block : Cond.code y_FF_block b_FF_block 4 (some .int) ∈ WS := ws_t (List.mem_of_getElem? (i := 469) (by decide +kernel)) rfl
set_option maxRecDepth 20000 in
theorem qi_FF_block : Cond.instanceMethod y_FF_block ∈ WS := ws_t (List.mem_of_getElem? (i := 467) (by decide +kernel)) rfl
set_option maxRecDepth 20000 in
theorem qs_FF_block : Cond.selects R_FF y_FF_block y_FF_block ∈ WS := ws_t (List.mem_of_getElem? (i := 468) (by decide +kernel)) rfl
set_option maxRecDepth 20000 in
theorem qc_FF_starter : Cond.code y_FF_starter b_FF_starter 3 (some .boolean) ∈ WS := ws_t (List.mem_of_getElem? (i := 473) (by decide +kernel)) rfl
set_option maxRecDepth 20000 in
theorem qi_FF_starter : Cond.instanceMethod y_FF_starter ∈ WS := ws_t (List.mem_of_getElem? (i := 471) (by decide +kernel)) rfl
set_option maxRecDepth 20000 in
theorem qs_FF_starter : Cond.selects R_FF y_FF_starter y_FF_starter ∈ WS := ws_t (List.mem_of_getElem? (i := 472) (by decide +kernel)) rfl
set_option maxRecDepth 20000 in
theorem qc_FF_run : Cond.code y_FF_run b_FF_run 3 (some .int) ∈ WS := ws_t (List.mem_of_getElem? (i := 477) (by decide +kernel)) rfl
set_option maxRecDepth 20000 in
theorem qi_FF_run : Cond.instanceMethod y_FF_run ∈ WS := ws_t (List.mem_of_getElem? (i := 475) (by decide +kernel)) rfl
set_option maxRecDepth 20000 in
theorem qs_FF_run : Cond.selects R_FF y_FF_run y_FF_run ∈ WS := ws_t (List.mem_of_getElem? (i := 476) (by decide +kernel)) rfl
set_option maxRecDepth 20000 in
theorem qc_MA_goFromStart : Cond.code y_MA_goFromStart b_MA_goFromStart 6 none ∈ WS := ws_t (List.mem_of_getElem? (i := 481) (by decide +kernel)) rfl
set_option maxRecDepth 20000 in
theorem qi_MA_goFromStart : Cond.instanceMethod y_MA_goFromStart ∈ WS := ws_t (List.mem_of_getElem? (i := 479) (by decide +kernel)) rfl
set_option maxRecDepth 20000 in
theorem qs_MA_goFromStart : Cond.selects R_MA y_MA_goFromStart y_MA_goFromStart ∈ WS := ws_t (List.mem_of_getElem? (i := 480) (by decide +kernel)) rfl
set_option maxRecDepth 20000 in
theorem qc_MA_begin : Cond.code y_MA_begin b_MA_begin 3 none ∈ WS := ws_t (List.mem_of_getElem? (i := 485) (by decide +kernel)) rfl
set_option maxRecDepth 20000 in
theorem qi_MA_begin : Cond.instanceMethod y_MA_begin ∈ WS := ws_t (List.mem_of_getElem? (i := 484) (by decide +kernel)) rfl
set_option maxRecDepth 20000 in
theorem qs_MA_begin : Cond.selects R_MA y_MA_begin y_MA_begin ∈ WS := ws_s (List.mem_of_getElem? (i := 25) (by decide +kernel)) rfl
set_option maxRecDepth 20000 in
theorem qc_MA_goThrough : Cond.code y_MA_goThrough b_MA_goThrough 4 none ∈ WS := ws_t (List.mem_of_getElem? (i := 490) (by decide +kernel)) rfl
set_option maxRecDepth 20000 in
theorem qi_MA_goThrough : Cond.instanceMethod y_MA_goThrough ∈ WS := ws_t (List.mem_of_getElem? (i := 489) (by decide +kernel)) rfl
set_option maxRecDepth 20000 in
theorem qs_MA_goThrough : Cond.selects R_MA y_MA_goThrough y_MA_goThrough ∈ WS := ws_s (List.mem_of_getElem? (i := 26) (by decide +kernel)) rfl
set_option maxRecDepth 20000 in
theorem qc_MA_pop : Cond.code y_MA_pop b_MA_pop 1 (some .int) ∈ WS := ws_t (List.mem_of_getElem? (i := 494) (by decide +kernel)) rfl
set_option maxRecDepth 20000 in
theorem qi_MA_pop : Cond.instanceMethod y_MA_pop ∈ WS := ws_t (List.mem_of_getElem? (i := 493) (by decide +kernel)) rfl
set_option maxRecDepth 20000 in
theorem qs_MA_pop : Cond.selects R_MA y_MA_pop y_MA_pop ∈ WS := ws_s (List.mem_of_getElem? (i := 27) (by decide +kernel)) rfl
set_option maxRecDepth 20000 in
theorem qc_BL_entry : Cond.code y_BL_entry b_BL_entry 3 (some .int) ∈ WS := ws_t (List.mem_of_getElem? (i := 498) (by decide +kernel)) rfl
set_option maxRecDepth 20000 in
theorem qi_BL_entry : Cond.instanceMethod y_BL_entry ∈ WS := ws_t (List.mem_of_getElem? (i := 496) (by decide +kernel)) rfl
set_option maxRecDepth 20000 in
theorem qs_BL_entry : Cond.selects R_BL y_BL_entry y_BL_entry ∈ WS := ws_t (List.mem_of_getElem? (i := 497) (by decide +kernel)) rfl
set_option maxRecDepth 20000 in
theorem qc_MA_end : Cond.code y_MA_end b_MA_end 3 none ∈ WS := ws_t (List.mem_of_getElem? (i := 502) (by decide +kernel)) rfl
set_option maxRecDepth 20000 in
theorem qi_MA_end : Cond.instanceMethod y_MA_end ∈ WS := ws_t (List.mem_of_getElem? (i := 501) (by decide +kernel)) rfl
set_option maxRecDepth 20000 in
theorem qs_MA_end : Cond.selects R_MA y_MA_end y_MA_end ∈ WS := ws_s (List.mem_of_getElem? (i := 28) (by decide +kernel)) rfl
set_option maxRecDepth 20000 in
theorem qc_MA_raise : Cond.code y_MA_raise b_MA_raise 4 none ∈ WS := ws_t (List.mem_of_getElem? (i := 506) (by decide +kernel)) rfl
set_option maxRecDepth 20000 in
theorem qi_MA_raise : Cond.instanceMethod y_MA_raise ∈ WS := ws_t (List.mem_of_getElem? (i := 505) (by decide +kernel)) rfl
set_option maxRecDepth 20000 in
theorem qs_MA_raise : Cond.selects R_MA y_MA_raise y_MA_raise ∈ WS := ws_s (List.mem_of_getElem? (i := 29) (by decide +kernel)) rfl
set_option maxRecDepth 20000 in
theorem qc_CO_catcher : Cond.code y_CO_catcher b_CO_catcher 3 (some .int) ∈ WS := ws_t (List.mem_of_getElem? (i := 510) (by decide +kernel)) rfl
set_option maxRecDepth 20000 in
theorem qi_CO_catcher : Cond.instanceMethod y_CO_catcher ∈ WS := ws_t (List.mem_of_getElem? (i := 508) (by decide +kernel)) rfl
set_option maxRecDepth 20000 in
theorem qs_CO_catcher : Cond.selects R_CO y_CO_catcher y_CO_catcher ∈ WS := ws_t (List.mem_of_getElem? (i := 509) (by decide +kernel)) rfl
set_option maxRecDepth 20000 in
theorem qc_MA_push : Cond.code y_MA_push b_MA_push 2 none ∈ WS := ws_t (List.mem_of_getElem? (i := 515) (by decide +kernel)) rfl
set_option maxRecDepth 20000 in
theorem qi_MA_push : Cond.instanceMethod y_MA_push ∈ WS := ws_t (List.mem_of_getElem? (i := 514) (by decide +kernel)) rfl
set_option maxRecDepth 20000 in
theorem qs_MA_push : Cond.selects R_MA y_MA_push y_MA_push ∈ WS := ws_s (List.mem_of_getElem? (i := 30) (by decide +kernel)) rfl
set_option maxRecDepth 20000 in
theorem qc_MA_divide : Cond.code y_MA_divide b_MA_divide 4 none ∈ WS := ws_t (List.mem_of_getElem? (i := 519) (by decide +kernel)) rfl
set_option maxRecDepth 20000 in
theorem qi_MA_divide : Cond.instanceMethod y_MA_divide ∈ WS := ws_t (List.mem_of_getElem? (i := 518) (by decide +kernel)) rfl
set_option maxRecDepth 20000 in
theorem qs_MA_divide : Cond.selects R_MA y_MA_divide y_MA_divide ∈ WS := ws_s (List.mem_of_getElem? (i := 31) (by decide +kernel)) rfl
set_option maxRecDepth 20000 in
theorem qc_MA_work : Cond.code y_MA_work b_MA_work 3 none ∈ WS := ws_t (List.mem_of_getElem? (i := 523) (by decide +kernel)) rfl
set_option maxRecDepth 20000 in
theorem qi_MA_work : Cond.instanceMethod y_MA_work ∈ WS := ws_t (List.mem_of_getElem? (i := 522) (by decide +kernel)) rfl
set_option maxRecDepth 20000 in
theorem qs_MA_work : Cond.selects R_MA y_MA_work y_MA_work ∈ WS := ws_s (List.mem_of_getElem? (i := 32) (by decide +kernel)) rfl
set_option maxRecDepth 20000 in
theorem qc_MA_pushBoth : Cond.code y_MA_pushBoth b_MA_pushBoth 2 none ∈ WS := ws_t (List.mem_of_getElem? (i := 527) (by decide +kernel)) rfl
set_option maxRecDepth 20000 in
theorem qi_MA_pushBoth : Cond.instanceMethod y_MA_pushBoth ∈ WS := ws_t (List.mem_of_getElem? (i := 526) (by decide +kernel)) rfl
set_option maxRecDepth 20000 in
theorem qs_MA_pushBoth : Cond.selects R_MA y_MA_pushBoth y_MA_pushBoth ∈ WS := ws_s (List.mem_of_getElem? (i := 33) (by decide +kernel)) rfl
set_option maxRecDepth 20000 in
theorem qc_MA_emit : Cond.code y_MA_emit b_MA_emit 2 none ∈ WS := ws_t (List.mem_of_getElem? (i := 531) (by decide +kernel)) rfl
set_option maxRecDepth 20000 in
theorem qi_MA_emit : Cond.instanceMethod y_MA_emit ∈ WS := ws_t (List.mem_of_getElem? (i := 530) (by decide +kernel)) rfl
set_option maxRecDepth 20000 in
theorem qs_MA_emit : Cond.selects R_MA y_MA_emit y_MA_emit ∈ WS := ws_s (List.mem_of_getElem? (i := 34) (by decide +kernel)) rfl
set_option maxRecDepth 20000 in
theorem qc_MA_workOnTwo : Cond.code y_MA_workOnTwo b_MA_workOnTwo 4 none ∈ WS := ws_t (List.mem_of_getElem? (i := 535) (by decide +kernel)) rfl
set_option maxRecDepth 20000 in
theorem qi_MA_workOnTwo : Cond.instanceMethod y_MA_workOnTwo ∈ WS := ws_t (List.mem_of_getElem? (i := 534) (by decide +kernel)) rfl
set_option maxRecDepth 20000 in
theorem qs_MA_workOnTwo : Cond.selects R_MA y_MA_workOnTwo y_MA_workOnTwo ∈ WS := ws_s (List.mem_of_getElem? (i := 35) (by decide +kernel)) rfl
set_option maxRecDepth 20000 in
theorem qc_MA_calculated : Cond.code y_MA_calculated b_MA_calculated 3 (some .int) ∈ WS := ws_t (List.mem_of_getElem? (i := 538) (by decide +kernel)) rfl
set_option maxRecDepth 20000 in
theorem qt_MA_calculated : Cond.static y_MA_calculated ∈ WS := ws_t (List.mem_of_getElem? (i := 537) (by decide +kernel)) rfl
set_option maxRecDepth 20000 in
theorem qc_FF_result : Cond.code y_FF_result b_FF_result 1 (some .int) ∈ WS := ws_t (List.mem_of_getElem? (i := 542) (by decide +kernel)) rfl
set_option maxRecDepth 20000 in
theorem qi_FF_result : Cond.instanceMethod y_FF_result ∈ WS := ws_t (List.mem_of_getElem? (i := 540) (by decide +kernel)) rfl
set_option maxRecDepth 20000 in
theorem qs_FF_result : Cond.selects R_FF y_FF_result y_FF_result ∈ WS := ws_t (List.mem_of_getElem? (i := 541) (by decide +kernel)) rfl
set_option maxRecDepth 20000 in
theorem qc_FF_steps : Cond.code y_FF_steps b_FF_steps 1 (some .int) ∈ WS := ws_t (List.mem_of_getElem? (i := 546) (by decide +kernel)) rfl
set_option maxRecDepth 20000 in
theorem qi_FF_steps : Cond.instanceMethod y_FF_steps ∈ WS := ws_t (List.mem_of_getElem? (i := 544) (by decide +kernel)) rfl
set_option maxRecDepth 20000 in
theorem qs_FF_steps : Cond.selects R_FF y_FF_steps y_FF_steps ∈ WS := ws_t (List.mem_of_getElem? (i := 545) (by decide +kernel)) rfl
set_option maxRecDepth 20000 in
theorem qc_FF_emits : Cond.code y_FF_emits b_FF_emits 1 (some .int) ∈ WS := ws_t (List.mem_of_getElem? (i := 550) (by decide +kernel)) rfl
set_option maxRecDepth 20000 in
theorem qi_FF_emits : Cond.instanceMethod y_FF_emits ∈ WS := ws_t (List.mem_of_getElem? (i := 548) (by decide +kernel)) rfl
set_option maxRecDepth 20000 in
theorem qs_FF_emits : Cond.selects R_FF y_FF_emits y_FF_emits ∈ WS := ws_t (List.mem_of_getElem? (i := 549) (by decide +kernel)) rfl
set_option maxRecDepth 20000 in
theorem qc_FF_emitted : Cond.code y_FF_emitted b_FF_emitted 2 (some .int) ∈ WS := ws_t (List.mem_of_getElem? (i := 554) (by decide +kernel)) rfl
set_option maxRecDepth 20000 in
theorem qi_FF_emitted : Cond.instanceMethod y_FF_emitted ∈ WS := ws_t (List.mem_of_getElem? (i := 552) (by decide +kernel)) rfl
set_option maxRecDepth 20000 in
theorem qs_FF_emitted : Cond.selects R_FF y_FF_emitted y_FF_emitted ∈ WS := ws_t (List.mem_of_getElem? (i := 553) (by decide +kernel)) rfl
set_option maxRecDepth 20000 in
theorem qc_FF_local : Cond.code y_FF_local b_FF_local 2 (some .int) ∈ WS := ws_t (List.mem_of_getElem? (i := 558) (by decide +kernel)) rfl
set_option maxRecDepth 20000 in
theorem qi_FF_local : Cond.instanceMethod y_FF_local ∈ WS := ws_t (List.mem_of_getElem? (i := 556) (by decide +kernel)) rfl
set_option maxRecDepth 20000 in
theorem qs_FF_local : Cond.selects R_FF y_FF_local y_FF_local ∈ WS := ws_t (List.mem_of_getElem? (i := 557) (by decide +kernel)) rfl
set_option maxRecDepth 20000 in
theorem qc_MO_init : Cond.code y_MO_init b_MO_init 1 none ∈ WS := ws_t (List.mem_of_getElem? (i := 563) (by decide +kernel)) rfl
set_option maxRecDepth 20000 in
theorem qi_MO_init : Cond.instanceMethod y_MO_init ∈ WS := ws_t (List.mem_of_getElem? (i := 562) (by decide +kernel)) rfl
set_option maxRecDepth 20000 in
theorem qc_MO_clear : Cond.code y_MO_clear b_MO_clear 1 none ∈ WS := ws_t (List.mem_of_getElem? (i := 666) (by decide +kernel)) rfl
set_option maxRecDepth 20000 in
theorem qi_MO_clear : Cond.instanceMethod y_MO_clear ∈ WS := ws_t (List.mem_of_getElem? (i := 664) (by decide +kernel)) rfl
set_option maxRecDepth 20000 in
theorem qs_MO_clear : Cond.selects R_MO y_MO_clear y_MO_clear ∈ WS := ws_t (List.mem_of_getElem? (i := 665) (by decide +kernel)) rfl
set_option maxRecDepth 20000 in
theorem qc_MO_add : Cond.code y_MO_add b_MO_add 4 (some .int) ∈ WS := ws_t (List.mem_of_getElem? (i := 670) (by decide +kernel)) rfl
set_option maxRecDepth 20000 in
theorem qi_MO_add : Cond.instanceMethod y_MO_add ∈ WS := ws_t (List.mem_of_getElem? (i := 668) (by decide +kernel)) rfl
set_option maxRecDepth 20000 in
theorem qs_MO_add : Cond.selects R_MO y_MO_add y_MO_add ∈ WS := ws_t (List.mem_of_getElem? (i := 669) (by decide +kernel)) rfl
set_option maxRecDepth 20000 in
theorem qc_MO_outside : Cond.code y_MO_outside b_MO_outside 2 (some .boolean) ∈ WS := ws_t (List.mem_of_getElem? (i := 673) (by decide +kernel)) rfl
set_option maxRecDepth 20000 in
theorem qt_MO_outside : Cond.static y_MO_outside ∈ WS := ws_t (List.mem_of_getElem? (i := 672) (by decide +kernel)) rfl
set_option maxRecDepth 20000 in
theorem qc_MO_jumps : Cond.code y_MO_jumps b_MO_jumps 1 (some .boolean) ∈ WS := ws_t (List.mem_of_getElem? (i := 676) (by decide +kernel)) rfl
set_option maxRecDepth 20000 in
theorem qt_MO_jumps : Cond.static y_MO_jumps ∈ WS := ws_t (List.mem_of_getElem? (i := 675) (by decide +kernel)) rfl
set_option maxRecDepth 20000 in
theorem qc_MO_bears : Cond.code y_MO_bears b_MO_bears 1 (some .boolean) ∈ WS := ws_t (List.mem_of_getElem? (i := 679) (by decide +kernel)) rfl
set_option maxRecDepth 20000 in
theorem qt_MO_bears : Cond.static y_MO_bears ∈ WS := ws_t (List.mem_of_getElem? (i := 678) (by decide +kernel)) rfl
set_option maxRecDepth 20000 in
theorem qc_MO_handler : Cond.code y_MO_handler b_MO_handler 4 (some .boolean) ∈ WS := ws_t (List.mem_of_getElem? (i := 683) (by decide +kernel)) rfl
set_option maxRecDepth 20000 in
theorem qi_MO_handler : Cond.instanceMethod y_MO_handler ∈ WS := ws_t (List.mem_of_getElem? (i := 681) (by decide +kernel)) rfl
set_option maxRecDepth 20000 in
theorem qs_MO_handler : Cond.selects R_MO y_MO_handler y_MO_handler ∈ WS := ws_t (List.mem_of_getElem? (i := 682) (by decide +kernel)) rfl
set_option maxRecDepth 20000 in
theorem qc_MO_check : Cond.code y_MO_check b_MO_check 2 (some .int) ∈ WS := ws_t (List.mem_of_getElem? (i := 687) (by decide +kernel)) rfl
set_option maxRecDepth 20000 in
theorem qi_MO_check : Cond.instanceMethod y_MO_check ∈ WS := ws_t (List.mem_of_getElem? (i := 685) (by decide +kernel)) rfl
set_option maxRecDepth 20000 in
theorem qs_MO_check : Cond.selects R_MO y_MO_check y_MO_check ∈ WS := ws_t (List.mem_of_getElem? (i := 686) (by decide +kernel)) rfl
set_option maxRecDepth 20000 in
theorem qc_MO_nextOver : Cond.code y_MO_nextOver b_MO_nextOver 2 (some .int) ∈ WS := ws_t (List.mem_of_getElem? (i := 691) (by decide +kernel)) rfl
set_option maxRecDepth 20000 in
theorem qi_MO_nextOver : Cond.instanceMethod y_MO_nextOver ∈ WS := ws_t (List.mem_of_getElem? (i := 690) (by decide +kernel)) rfl
set_option maxRecDepth 20000 in
theorem qs_MO_nextOver : Cond.selects R_MO y_MO_nextOver y_MO_nextOver ∈ WS := ws_s (List.mem_of_getElem? (i := 36) (by decide +kernel)) rfl
set_option maxRecDepth 20000 in
theorem qc_MO_goOver : Cond.code y_MO_goOver b_MO_goOver 7 (some .boolean) ∈ WS := ws_t (List.mem_of_getElem? (i := 695) (by decide +kernel)) rfl
set_option maxRecDepth 20000 in
theorem qi_MO_goOver : Cond.instanceMethod y_MO_goOver ∈ WS := ws_t (List.mem_of_getElem? (i := 694) (by decide +kernel)) rfl
set_option maxRecDepth 20000 in
theorem qs_MO_goOver : Cond.selects R_MO y_MO_goOver y_MO_goOver ∈ WS := ws_s (List.mem_of_getElem? (i := 37) (by decide +kernel)) rfl
set_option maxRecDepth 20000 in
theorem qc_MO_takes : Cond.code y_MO_takes b_MO_takes 1 (some .int) ∈ WS := ws_t (List.mem_of_getElem? (i := 698) (by decide +kernel)) rfl
set_option maxRecDepth 20000 in
theorem qt_MO_takes : Cond.static y_MO_takes ∈ WS := ws_t (List.mem_of_getElem? (i := 697) (by decide +kernel)) rfl
set_option maxRecDepth 20000 in
theorem qc_MO_gives : Cond.code y_MO_gives b_MO_gives 1 (some .int) ∈ WS := ws_t (List.mem_of_getElem? (i := 701) (by decide +kernel)) rfl
set_option maxRecDepth 20000 in
theorem qt_MO_gives : Cond.static y_MO_gives ∈ WS := ws_t (List.mem_of_getElem? (i := 700) (by decide +kernel)) rfl
set_option maxRecDepth 20000 in
theorem qc_MO_ends : Cond.code y_MO_ends b_MO_ends 1 (some .boolean) ∈ WS := ws_t (List.mem_of_getElem? (i := 704) (by decide +kernel)) rfl
set_option maxRecDepth 20000 in
theorem qt_MO_ends : Cond.static y_MO_ends ∈ WS := ws_t (List.mem_of_getElem? (i := 703) (by decide +kernel)) rfl
set_option maxRecDepth 20000 in
theorem qc_MO_reach : Cond.code y_MO_reach b_MO_reach 3 (some .boolean) ∈ WS := ws_t (List.mem_of_getElem? (i := 708) (by decide +kernel)) rfl
set_option maxRecDepth 20000 in
theorem qi_MO_reach : Cond.instanceMethod y_MO_reach ∈ WS := ws_t (List.mem_of_getElem? (i := 707) (by decide +kernel)) rfl
set_option maxRecDepth 20000 in
theorem qs_MO_reach : Cond.selects R_MO y_MO_reach y_MO_reach ∈ WS := ws_s (List.mem_of_getElem? (i := 38) (by decide +kernel)) rfl
set_option maxRecDepth 20000 in
theorem qc_MO_inRange : Cond.code y_MO_inRange b_MO_inRange 3 (some .boolean) ∈ WS := ws_t (List.mem_of_getElem? (i := 712) (by decide +kernel)) rfl
set_option maxRecDepth 20000 in
theorem qi_MO_inRange : Cond.instanceMethod y_MO_inRange ∈ WS := ws_t (List.mem_of_getElem? (i := 711) (by decide +kernel)) rfl
set_option maxRecDepth 20000 in
theorem qs_MO_inRange : Cond.selects R_MO y_MO_inRange y_MO_inRange ∈ WS := ws_s (List.mem_of_getElem? (i := 39) (by decide +kernel)) rfl
set_option maxRecDepth 20000 in
theorem qc_MO_depth : Cond.code y_MO_depth b_MO_depth 2 (some .int) ∈ WS := ws_t (List.mem_of_getElem? (i := 716) (by decide +kernel)) rfl
set_option maxRecDepth 20000 in
theorem qi_MO_depth : Cond.instanceMethod y_MO_depth ∈ WS := ws_t (List.mem_of_getElem? (i := 714) (by decide +kernel)) rfl
set_option maxRecDepth 20000 in
theorem qs_MO_depth : Cond.selects R_MO y_MO_depth y_MO_depth ∈ WS := ws_t (List.mem_of_getElem? (i := 715) (by decide +kernel)) rfl
set_option maxRecDepth 20000 in
theorem qc_MO_flatten : Cond.code y_MO_flatten b_MO_flatten 4 (some .int) ∈ WS := ws_t (List.mem_of_getElem? (i := 721) (by decide +kernel)) rfl
set_option maxRecDepth 20000 in
theorem qi_MO_flatten : Cond.instanceMethod y_MO_flatten ∈ WS := ws_t (List.mem_of_getElem? (i := 719) (by decide +kernel)) rfl
set_option maxRecDepth 20000 in
theorem qs_MO_flatten : Cond.selects R_MO y_MO_flatten y_MO_flatten ∈ WS := ws_t (List.mem_of_getElem? (i := 720) (by decide +kernel)) rfl
set_option maxRecDepth 20000 in
theorem qc_MO_cut : Cond.code y_MO_cut b_MO_cut 3 none ∈ WS := ws_t (List.mem_of_getElem? (i := 725) (by decide +kernel)) rfl
set_option maxRecDepth 20000 in
theorem qi_MO_cut : Cond.instanceMethod y_MO_cut ∈ WS := ws_t (List.mem_of_getElem? (i := 724) (by decide +kernel)) rfl
set_option maxRecDepth 20000 in
theorem qs_MO_cut : Cond.selects R_MO y_MO_cut y_MO_cut ∈ WS := ws_s (List.mem_of_getElem? (i := 40) (by decide +kernel)) rfl
set_option maxRecDepth 20000 in
theorem qc_MO_isLeader : Cond.code y_MO_isLeader b_MO_isLeader 4 (some .boolean) ∈ WS := ws_t (List.mem_of_getElem? (i := 729) (by decide +kernel)) rfl
set_option maxRecDepth 20000 in
theorem qi_MO_isLeader : Cond.instanceMethod y_MO_isLeader ∈ WS := ws_t (List.mem_of_getElem? (i := 728) (by decide +kernel)) rfl
set_option maxRecDepth 20000 in
theorem qs_MO_isLeader : Cond.selects R_MO y_MO_isLeader y_MO_isLeader ∈ WS := ws_s (List.mem_of_getElem? (i := 41) (by decide +kernel)) rfl
set_option maxRecDepth 20000 in
theorem qc_MO_drawAll : Cond.code y_MO_drawAll b_MO_drawAll 3 none ∈ WS := ws_t (List.mem_of_getElem? (i := 733) (by decide +kernel)) rfl
set_option maxRecDepth 20000 in
theorem qi_MO_drawAll : Cond.instanceMethod y_MO_drawAll ∈ WS := ws_t (List.mem_of_getElem? (i := 732) (by decide +kernel)) rfl
set_option maxRecDepth 20000 in
theorem qs_MO_drawAll : Cond.selects R_MO y_MO_drawAll y_MO_drawAll ∈ WS := ws_s (List.mem_of_getElem? (i := 42) (by decide +kernel)) rfl
set_option maxRecDepth 20000 in
theorem qc_MO_draw : Cond.code y_MO_draw b_MO_draw 1 (some .int) ∈ WS := ws_t (List.mem_of_getElem? (i := 737) (by decide +kernel)) rfl
set_option maxRecDepth 20000 in
theorem qi_MO_draw : Cond.instanceMethod y_MO_draw ∈ WS := ws_t (List.mem_of_getElem? (i := 736) (by decide +kernel)) rfl
set_option maxRecDepth 20000 in
theorem qs_MO_draw : Cond.selects R_MO y_MO_draw y_MO_draw ∈ WS := ws_s (List.mem_of_getElem? (i := 43) (by decide +kernel)) rfl
set_option maxRecDepth 20000 in
theorem qc_MO_taken : Cond.code y_MO_taken b_MO_taken 4 (some .boolean) ∈ WS := ws_t (List.mem_of_getElem? (i := 743) (by decide +kernel)) rfl
set_option maxRecDepth 20000 in
theorem qi_MO_taken : Cond.instanceMethod y_MO_taken ∈ WS := ws_t (List.mem_of_getElem? (i := 742) (by decide +kernel)) rfl
set_option maxRecDepth 20000 in
theorem qs_MO_taken : Cond.selects R_MO y_MO_taken y_MO_taken ∈ WS := ws_s (List.mem_of_getElem? (i := 44) (by decide +kernel)) rfl
set_option maxRecDepth 20000 in
theorem qc_MO_rank : Cond.code y_MO_rank b_MO_rank 4 (some .int) ∈ WS := ws_t (List.mem_of_getElem? (i := 747) (by decide +kernel)) rfl
set_option maxRecDepth 20000 in
theorem qi_MO_rank : Cond.instanceMethod y_MO_rank ∈ WS := ws_t (List.mem_of_getElem? (i := 746) (by decide +kernel)) rfl
set_option maxRecDepth 20000 in
theorem qs_MO_rank : Cond.selects R_MO y_MO_rank y_MO_rank ∈ WS := ws_s (List.mem_of_getElem? (i := 45) (by decide +kernel)) rfl
set_option maxRecDepth 20000 in
theorem qc_MO_endOf : Cond.code y_MO_endOf b_MO_endOf 2 (some .int) ∈ WS := ws_t (List.mem_of_getElem? (i := 751) (by decide +kernel)) rfl
set_option maxRecDepth 20000 in
theorem qi_MO_endOf : Cond.instanceMethod y_MO_endOf ∈ WS := ws_t (List.mem_of_getElem? (i := 750) (by decide +kernel)) rfl
set_option maxRecDepth 20000 in
theorem qs_MO_endOf : Cond.selects R_MO y_MO_endOf y_MO_endOf ∈ WS := ws_s (List.mem_of_getElem? (i := 46) (by decide +kernel)) rfl
set_option maxRecDepth 20000 in
theorem qc_MO_bodyAt : Cond.code y_MO_bodyAt b_MO_bodyAt 2 (some .int) ∈ WS := ws_t (List.mem_of_getElem? (i := 755) (by decide +kernel)) rfl
set_option maxRecDepth 20000 in
theorem qi_MO_bodyAt : Cond.instanceMethod y_MO_bodyAt ∈ WS := ws_t (List.mem_of_getElem? (i := 754) (by decide +kernel)) rfl
set_option maxRecDepth 20000 in
theorem qs_MO_bodyAt : Cond.selects R_MO y_MO_bodyAt y_MO_bodyAt ∈ WS := ws_s (List.mem_of_getElem? (i := 47) (by decide +kernel)) rfl
set_option maxRecDepth 20000 in
theorem qc_MO_conditionLength : Cond.code y_MO_conditionLength b_MO_conditionLength 3 (some .int) ∈ WS := ws_t (List.mem_of_getElem? (i := 759) (by decide +kernel)) rfl
set_option maxRecDepth 20000 in
theorem qi_MO_conditionLength : Cond.instanceMethod y_MO_conditionLength ∈ WS := ws_t (List.mem_of_getElem? (i := 758) (by decide +kernel)) rfl
set_option maxRecDepth 20000 in
theorem qs_MO_conditionLength : Cond.selects R_MO y_MO_conditionLength y_MO_conditionLength ∈ WS := ws_s (List.mem_of_getElem? (i := 48) (by decide +kernel)) rfl
set_option maxRecDepth 20000 in
theorem qc_MO_junkLength : Cond.code y_MO_junkLength b_MO_junkLength 2 (some .int) ∈ WS := ws_t (List.mem_of_getElem? (i := 763) (by decide +kernel)) rfl
set_option maxRecDepth 20000 in
theorem qi_MO_junkLength : Cond.instanceMethod y_MO_junkLength ∈ WS := ws_t (List.mem_of_getElem? (i := 762) (by decide +kernel)) rfl
set_option maxRecDepth 20000 in
theorem qs_MO_junkLength : Cond.selects R_MO y_MO_junkLength y_MO_junkLength ∈ WS := ws_s (List.mem_of_getElem? (i := 49) (by decide +kernel)) rfl
set_option maxRecDepth 20000 in
theorem qc_MO_bodyLength : Cond.code y_MO_bodyLength b_MO_bodyLength 2 (some .int) ∈ WS := ws_t (List.mem_of_getElem? (i := 767) (by decide +kernel)) rfl
set_option maxRecDepth 20000 in
theorem qi_MO_bodyLength : Cond.instanceMethod y_MO_bodyLength ∈ WS := ws_t (List.mem_of_getElem? (i := 766) (by decide +kernel)) rfl
set_option maxRecDepth 20000 in
theorem qs_MO_bodyLength : Cond.selects R_MO y_MO_bodyLength y_MO_bodyLength ∈ WS := ws_s (List.mem_of_getElem? (i := 50) (by decide +kernel)) rfl
set_option maxRecDepth 20000 in
theorem qc_MO_tailLength : Cond.code y_MO_tailLength b_MO_tailLength 4 (some .int) ∈ WS := ws_t (List.mem_of_getElem? (i := 771) (by decide +kernel)) rfl
set_option maxRecDepth 20000 in
theorem qi_MO_tailLength : Cond.instanceMethod y_MO_tailLength ∈ WS := ws_t (List.mem_of_getElem? (i := 770) (by decide +kernel)) rfl
set_option maxRecDepth 20000 in
theorem qs_MO_tailLength : Cond.selects R_MO y_MO_tailLength y_MO_tailLength ∈ WS := ws_s (List.mem_of_getElem? (i := 51) (by decide +kernel)) rfl
set_option maxRecDepth 20000 in
theorem qc_MO_blockAt : Cond.code y_MO_blockAt b_MO_blockAt 3 (some .int) ∈ WS := ws_t (List.mem_of_getElem? (i := 775) (by decide +kernel)) rfl
set_option maxRecDepth 20000 in
theorem qi_MO_blockAt : Cond.instanceMethod y_MO_blockAt ∈ WS := ws_t (List.mem_of_getElem? (i := 774) (by decide +kernel)) rfl
set_option maxRecDepth 20000 in
theorem qs_MO_blockAt : Cond.selects R_MO y_MO_blockAt y_MO_blockAt ∈ WS := ws_s (List.mem_of_getElem? (i := 52) (by decide +kernel)) rfl
set_option maxRecDepth 20000 in
theorem qc_MO_leadLength : Cond.code y_MO_leadLength b_MO_leadLength 2 (some .int) ∈ WS := ws_t (List.mem_of_getElem? (i := 779) (by decide +kernel)) rfl
set_option maxRecDepth 20000 in
theorem qi_MO_leadLength : Cond.instanceMethod y_MO_leadLength ∈ WS := ws_t (List.mem_of_getElem? (i := 778) (by decide +kernel)) rfl
set_option maxRecDepth 20000 in
theorem qs_MO_leadLength : Cond.selects R_MO y_MO_leadLength y_MO_leadLength ∈ WS := ws_s (List.mem_of_getElem? (i := 53) (by decide +kernel)) rfl
set_option maxRecDepth 20000 in
theorem qc_MO_write : Cond.code y_MO_write b_MO_write 3 none ∈ WS := ws_t (List.mem_of_getElem? (i := 783) (by decide +kernel)) rfl
set_option maxRecDepth 20000 in
theorem qi_MO_write : Cond.instanceMethod y_MO_write ∈ WS := ws_t (List.mem_of_getElem? (i := 782) (by decide +kernel)) rfl
set_option maxRecDepth 20000 in
theorem qs_MO_write : Cond.selects R_MO y_MO_write y_MO_write ∈ WS := ws_s (List.mem_of_getElem? (i := 54) (by decide +kernel)) rfl
set_option maxRecDepth 20000 in
theorem qc_MO_writeBlock : Cond.code y_MO_writeBlock b_MO_writeBlock 5 none ∈ WS := ws_t (List.mem_of_getElem? (i := 787) (by decide +kernel)) rfl
set_option maxRecDepth 20000 in
theorem qi_MO_writeBlock : Cond.instanceMethod y_MO_writeBlock ∈ WS := ws_t (List.mem_of_getElem? (i := 786) (by decide +kernel)) rfl
set_option maxRecDepth 20000 in
theorem qs_MO_writeBlock : Cond.selects R_MO y_MO_writeBlock y_MO_writeBlock ∈ WS := ws_s (List.mem_of_getElem? (i := 55) (by decide +kernel)) rfl
set_option maxRecDepth 20000 in
theorem qc_MO_condition : Cond.code y_MO_condition b_MO_condition 7 none ∈ WS := ws_t (List.mem_of_getElem? (i := 791) (by decide +kernel)) rfl
set_option maxRecDepth 20000 in
theorem qi_MO_condition : Cond.instanceMethod y_MO_condition ∈ WS := ws_t (List.mem_of_getElem? (i := 790) (by decide +kernel)) rfl
set_option maxRecDepth 20000 in
theorem qs_MO_condition : Cond.selects R_MO y_MO_condition y_MO_condition ∈ WS := ws_s (List.mem_of_getElem? (i := 56) (by decide +kernel)) rfl
set_option maxRecDepth 20000 in
theorem qc_MO_square : Cond.code y_MO_square b_MO_square 2 none ∈ WS := ws_t (List.mem_of_getElem? (i := 795) (by decide +kernel)) rfl
set_option maxRecDepth 20000 in
theorem qi_MO_square : Cond.instanceMethod y_MO_square ∈ WS := ws_t (List.mem_of_getElem? (i := 794) (by decide +kernel)) rfl
set_option maxRecDepth 20000 in
theorem qs_MO_square : Cond.selects R_MO y_MO_square y_MO_square ∈ WS := ws_s (List.mem_of_getElem? (i := 57) (by decide +kernel)) rfl
set_option maxRecDepth 20000 in
theorem qc_MO_junk : Cond.code y_MO_junk b_MO_junk 3 none ∈ WS := ws_t (List.mem_of_getElem? (i := 799) (by decide +kernel)) rfl
set_option maxRecDepth 20000 in
theorem qi_MO_junk : Cond.instanceMethod y_MO_junk ∈ WS := ws_t (List.mem_of_getElem? (i := 798) (by decide +kernel)) rfl
set_option maxRecDepth 20000 in
theorem qs_MO_junk : Cond.selects R_MO y_MO_junk y_MO_junk ∈ WS := ws_s (List.mem_of_getElem? (i := 58) (by decide +kernel)) rfl
set_option maxRecDepth 20000 in
theorem qc_MO_lead : Cond.code y_MO_lead b_MO_lead 4 none ∈ WS := ws_t (List.mem_of_getElem? (i := 803) (by decide +kernel)) rfl
set_option maxRecDepth 20000 in
theorem qi_MO_lead : Cond.instanceMethod y_MO_lead ∈ WS := ws_t (List.mem_of_getElem? (i := 802) (by decide +kernel)) rfl
set_option maxRecDepth 20000 in
theorem qs_MO_lead : Cond.selects R_MO y_MO_lead y_MO_lead ∈ WS := ws_s (List.mem_of_getElem? (i := 59) (by decide +kernel)) rfl
set_option maxRecDepth 20000 in
theorem qc_MO_covers : Cond.code y_MO_covers b_MO_covers 4 (some .boolean) ∈ WS := ws_t (List.mem_of_getElem? (i := 807) (by decide +kernel)) rfl
set_option maxRecDepth 20000 in
theorem qi_MO_covers : Cond.instanceMethod y_MO_covers ∈ WS := ws_t (List.mem_of_getElem? (i := 806) (by decide +kernel)) rfl
set_option maxRecDepth 20000 in
theorem qs_MO_covers : Cond.selects R_MO y_MO_covers y_MO_covers ∈ WS := ws_s (List.mem_of_getElem? (i := 60) (by decide +kernel)) rfl
set_option maxRecDepth 20000 in
theorem qc_MO_spread : Cond.code y_MO_spread b_MO_spread 5 none ∈ WS := ws_t (List.mem_of_getElem? (i := 811) (by decide +kernel)) rfl
set_option maxRecDepth 20000 in
theorem qi_MO_spread : Cond.instanceMethod y_MO_spread ∈ WS := ws_t (List.mem_of_getElem? (i := 810) (by decide +kernel)) rfl
set_option maxRecDepth 20000 in
theorem qs_MO_spread : Cond.selects R_MO y_MO_spread y_MO_spread ∈ WS := ws_s (List.mem_of_getElem? (i := 61) (by decide +kernel)) rfl
set_option maxRecDepth 20000 in
theorem qc_MO_length : Cond.code y_MO_length b_MO_length 2 (some .int) ∈ WS := ws_t (List.mem_of_getElem? (i := 815) (by decide +kernel)) rfl
set_option maxRecDepth 20000 in
theorem qi_MO_length : Cond.instanceMethod y_MO_length ∈ WS := ws_t (List.mem_of_getElem? (i := 813) (by decide +kernel)) rfl
set_option maxRecDepth 20000 in
theorem qs_MO_length : Cond.selects R_MO y_MO_length y_MO_length ∈ WS := ws_t (List.mem_of_getElem? (i := 814) (by decide +kernel)) rfl
set_option maxRecDepth 20000 in
theorem qc_MO_operation : Cond.code y_MO_operation b_MO_operation 3 (some .int) ∈ WS := ws_t (List.mem_of_getElem? (i := 819) (by decide +kernel)) rfl
set_option maxRecDepth 20000 in
theorem qi_MO_operation : Cond.instanceMethod y_MO_operation ∈ WS := ws_t (List.mem_of_getElem? (i := 817) (by decide +kernel)) rfl
set_option maxRecDepth 20000 in
theorem qs_MO_operation : Cond.selects R_MO y_MO_operation y_MO_operation ∈ WS := ws_t (List.mem_of_getElem? (i := 818) (by decide +kernel)) rfl
set_option maxRecDepth 20000 in
theorem qc_MO_isPlace : Cond.code y_MO_isPlace b_MO_isPlace 3 (some .boolean) ∈ WS := ws_t (List.mem_of_getElem? (i := 823) (by decide +kernel)) rfl
set_option maxRecDepth 20000 in
theorem qi_MO_isPlace : Cond.instanceMethod y_MO_isPlace ∈ WS := ws_t (List.mem_of_getElem? (i := 822) (by decide +kernel)) rfl
set_option maxRecDepth 20000 in
theorem qs_MO_isPlace : Cond.selects R_MO y_MO_isPlace y_MO_isPlace ∈ WS := ws_s (List.mem_of_getElem? (i := 62) (by decide +kernel)) rfl
set_option maxRecDepth 20000 in
theorem qc_MO_operand : Cond.code y_MO_operand b_MO_operand 3 (some .int) ∈ WS := ws_t (List.mem_of_getElem? (i := 828) (by decide +kernel)) rfl
set_option maxRecDepth 20000 in
theorem qi_MO_operand : Cond.instanceMethod y_MO_operand ∈ WS := ws_t (List.mem_of_getElem? (i := 826) (by decide +kernel)) rfl
set_option maxRecDepth 20000 in
theorem qs_MO_operand : Cond.selects R_MO y_MO_operand y_MO_operand ∈ WS := ws_t (List.mem_of_getElem? (i := 827) (by decide +kernel)) rfl
set_option maxRecDepth 20000 in
theorem qc_MO_handlerAt : Cond.code y_MO_handlerAt b_MO_handlerAt 4 (some .int) ∈ WS := ws_t (List.mem_of_getElem? (i := 832) (by decide +kernel)) rfl
set_option maxRecDepth 20000 in
theorem qi_MO_handlerAt : Cond.instanceMethod y_MO_handlerAt ∈ WS := ws_t (List.mem_of_getElem? (i := 830) (by decide +kernel)) rfl
set_option maxRecDepth 20000 in
theorem qs_MO_handlerAt : Cond.selects R_MO y_MO_handlerAt y_MO_handlerAt ∈ WS := ws_t (List.mem_of_getElem? (i := 831) (by decide +kernel)) rfl
set_option maxRecDepth 20000 in
theorem qc_MO_blocks : Cond.code y_MO_blocks b_MO_blocks 1 (some .int) ∈ WS := ws_t (List.mem_of_getElem? (i := 836) (by decide +kernel)) rfl
set_option maxRecDepth 20000 in
theorem qi_MO_blocks : Cond.instanceMethod y_MO_blocks ∈ WS := ws_t (List.mem_of_getElem? (i := 834) (by decide +kernel)) rfl
set_option maxRecDepth 20000 in
theorem qs_MO_blocks : Cond.selects R_MO y_MO_blocks y_MO_blocks ∈ WS := ws_t (List.mem_of_getElem? (i := 835) (by decide +kernel)) rfl
set_option maxRecDepth 20000 in
theorem qc_MO_block : Cond.code y_MO_block b_MO_block 3 (some .int) ∈ WS := ws_t (List.mem_of_getElem? (i := 840) (by decide +kernel)) rfl
set_option maxRecDepth 20000 in
theorem qi_MO_block : Cond.instanceMethod y_MO_block ∈ WS := ws_t (List.mem_of_getElem? (i := 838) (by decide +kernel)) rfl
set_option maxRecDepth 20000 in
theorem qs_MO_block : Cond.selects R_MO y_MO_block y_MO_block ∈ WS := ws_t (List.mem_of_getElem? (i := 839) (by decide +kernel)) rfl
set_option maxRecDepth 20000 in
theorem qc_MO_starter : Cond.code y_MO_starter b_MO_starter 3 (some .boolean) ∈ WS := ws_t (List.mem_of_getElem? (i := 844) (by decide +kernel)) rfl
set_option maxRecDepth 20000 in
theorem qi_MO_starter : Cond.instanceMethod y_MO_starter ∈ WS := ws_t (List.mem_of_getElem? (i := 842) (by decide +kernel)) rfl
set_option maxRecDepth 20000 in
theorem qs_MO_starter : Cond.selects R_MO y_MO_starter y_MO_starter ∈ WS := ws_t (List.mem_of_getElem? (i := 843) (by decide +kernel)) rfl
set_option maxRecDepth 20000 in
theorem qc_MO_run : Cond.code y_MO_run b_MO_run 4 (some .int) ∈ WS := ws_t (List.mem_of_getElem? (i := 848) (by decide +kernel)) rfl
set_option maxRecDepth 20000 in
theorem qi_MO_run : Cond.instanceMethod y_MO_run ∈ WS := ws_t (List.mem_of_getElem? (i := 846) (by decide +kernel)) rfl
set_option maxRecDepth 20000 in
theorem qs_MO_run : Cond.selects R_MO y_MO_run y_MO_run ∈ WS := ws_t (List.mem_of_getElem? (i := 847) (by decide +kernel)) rfl
set_option maxRecDepth 20000 in
theorem qc_MO_step : Cond.code y_MO_step b_MO_step 4 none ∈ WS := ws_t (List.mem_of_getElem? (i := 852) (by decide +kernel)) rfl
set_option maxRecDepth 20000 in
theorem qi_MO_step : Cond.instanceMethod y_MO_step ∈ WS := ws_t (List.mem_of_getElem? (i := 851) (by decide +kernel)) rfl
set_option maxRecDepth 20000 in
theorem qs_MO_step : Cond.selects R_MO y_MO_step y_MO_step ∈ WS := ws_s (List.mem_of_getElem? (i := 63) (by decide +kernel)) rfl
set_option maxRecDepth 20000 in
theorem qc_MO_reckon : Cond.code y_MO_reckon b_MO_reckon 5 none ∈ WS := ws_t (List.mem_of_getElem? (i := 858) (by decide +kernel)) rfl
set_option maxRecDepth 20000 in
theorem qi_MO_reckon : Cond.instanceMethod y_MO_reckon ∈ WS := ws_t (List.mem_of_getElem? (i := 857) (by decide +kernel)) rfl
set_option maxRecDepth 20000 in
theorem qs_MO_reckon : Cond.selects R_MO y_MO_reckon y_MO_reckon ∈ WS := ws_s (List.mem_of_getElem? (i := 64) (by decide +kernel)) rfl
set_option maxRecDepth 20000 in
theorem qc_MO_pop : Cond.code y_MO_pop b_MO_pop 1 (some .int) ∈ WS := ws_t (List.mem_of_getElem? (i := 862) (by decide +kernel)) rfl
set_option maxRecDepth 20000 in
theorem qi_MO_pop : Cond.instanceMethod y_MO_pop ∈ WS := ws_t (List.mem_of_getElem? (i := 861) (by decide +kernel)) rfl
set_option maxRecDepth 20000 in
theorem qs_MO_pop : Cond.selects R_MO y_MO_pop y_MO_pop ∈ WS := ws_s (List.mem_of_getElem? (i := 65) (by decide +kernel)) rfl
set_option maxRecDepth 20000 in
theorem qc_MO_raise : Cond.code y_MO_raise b_MO_raise 5 none ∈ WS := ws_t (List.mem_of_getElem? (i := 866) (by decide +kernel)) rfl
set_option maxRecDepth 20000 in
theorem qi_MO_raise : Cond.instanceMethod y_MO_raise ∈ WS := ws_t (List.mem_of_getElem? (i := 865) (by decide +kernel)) rfl
set_option maxRecDepth 20000 in
theorem qs_MO_raise : Cond.selects R_MO y_MO_raise y_MO_raise ∈ WS := ws_s (List.mem_of_getElem? (i := 66) (by decide +kernel)) rfl
set_option maxRecDepth 20000 in
theorem qc_MO_sum : Cond.code y_MO_sum b_MO_sum 4 (some .int) ∈ WS := ws_t (List.mem_of_getElem? (i := 871) (by decide +kernel)) rfl
set_option maxRecDepth 20000 in
theorem qi_MO_sum : Cond.instanceMethod y_MO_sum ∈ WS := ws_t (List.mem_of_getElem? (i := 870) (by decide +kernel)) rfl
set_option maxRecDepth 20000 in
theorem qs_MO_sum : Cond.selects R_MO y_MO_sum y_MO_sum ∈ WS := ws_s (List.mem_of_getElem? (i := 67) (by decide +kernel)) rfl
set_option maxRecDepth 20000 in
theorem qc_MO_push : Cond.code y_MO_push b_MO_push 2 none ∈ WS := ws_t (List.mem_of_getElem? (i := 875) (by decide +kernel)) rfl
set_option maxRecDepth 20000 in
theorem qi_MO_push : Cond.instanceMethod y_MO_push ∈ WS := ws_t (List.mem_of_getElem? (i := 874) (by decide +kernel)) rfl
set_option maxRecDepth 20000 in
theorem qs_MO_push : Cond.selects R_MO y_MO_push y_MO_push ∈ WS := ws_s (List.mem_of_getElem? (i := 68) (by decide +kernel)) rfl
set_option maxRecDepth 20000 in
theorem qc_MO_branch : Cond.code y_MO_branch b_MO_branch 4 none ∈ WS := ws_t (List.mem_of_getElem? (i := 879) (by decide +kernel)) rfl
set_option maxRecDepth 20000 in
theorem qi_MO_branch : Cond.instanceMethod y_MO_branch ∈ WS := ws_t (List.mem_of_getElem? (i := 878) (by decide +kernel)) rfl
set_option maxRecDepth 20000 in
theorem qs_MO_branch : Cond.selects R_MO y_MO_branch y_MO_branch ∈ WS := ws_s (List.mem_of_getElem? (i := 69) (by decide +kernel)) rfl
set_option maxRecDepth 20000 in
theorem qc_MO_emit : Cond.code y_MO_emit b_MO_emit 2 none ∈ WS := ws_t (List.mem_of_getElem? (i := 883) (by decide +kernel)) rfl
set_option maxRecDepth 20000 in
theorem qi_MO_emit : Cond.instanceMethod y_MO_emit ∈ WS := ws_t (List.mem_of_getElem? (i := 882) (by decide +kernel)) rfl
set_option maxRecDepth 20000 in
theorem qs_MO_emit : Cond.selects R_MO y_MO_emit y_MO_emit ∈ WS := ws_s (List.mem_of_getElem? (i := 70) (by decide +kernel)) rfl
set_option maxRecDepth 20000 in
theorem qc_MO_dispatch : Cond.code y_MO_dispatch b_MO_dispatch 3 none ∈ WS := ws_t (List.mem_of_getElem? (i := 887) (by decide +kernel)) rfl
set_option maxRecDepth 20000 in
theorem qi_MO_dispatch : Cond.instanceMethod y_MO_dispatch ∈ WS := ws_t (List.mem_of_getElem? (i := 886) (by decide +kernel)) rfl
set_option maxRecDepth 20000 in
theorem qs_MO_dispatch : Cond.selects R_MO y_MO_dispatch y_MO_dispatch ∈ WS := ws_s (List.mem_of_getElem? (i := 71) (by decide +kernel)) rfl
set_option maxRecDepth 20000 in
theorem qc_MO_move : Cond.code y_MO_move b_MO_move 5 none ∈ WS := ws_t (List.mem_of_getElem? (i := 891) (by decide +kernel)) rfl
set_option maxRecDepth 20000 in
theorem qi_MO_move : Cond.instanceMethod y_MO_move ∈ WS := ws_t (List.mem_of_getElem? (i := 890) (by decide +kernel)) rfl
set_option maxRecDepth 20000 in
theorem qs_MO_move : Cond.selects R_MO y_MO_move y_MO_move ∈ WS := ws_s (List.mem_of_getElem? (i := 72) (by decide +kernel)) rfl
set_option maxRecDepth 20000 in
theorem qc_MO_result : Cond.code y_MO_result b_MO_result 1 (some .int) ∈ WS := ws_t (List.mem_of_getElem? (i := 895) (by decide +kernel)) rfl
set_option maxRecDepth 20000 in
theorem qi_MO_result : Cond.instanceMethod y_MO_result ∈ WS := ws_t (List.mem_of_getElem? (i := 893) (by decide +kernel)) rfl
set_option maxRecDepth 20000 in
theorem qs_MO_result : Cond.selects R_MO y_MO_result y_MO_result ∈ WS := ws_t (List.mem_of_getElem? (i := 894) (by decide +kernel)) rfl
set_option maxRecDepth 20000 in
theorem qc_MO_steps : Cond.code y_MO_steps b_MO_steps 1 (some .int) ∈ WS := ws_t (List.mem_of_getElem? (i := 899) (by decide +kernel)) rfl
set_option maxRecDepth 20000 in
theorem qi_MO_steps : Cond.instanceMethod y_MO_steps ∈ WS := ws_t (List.mem_of_getElem? (i := 897) (by decide +kernel)) rfl
set_option maxRecDepth 20000 in
theorem qs_MO_steps : Cond.selects R_MO y_MO_steps y_MO_steps ∈ WS := ws_t (List.mem_of_getElem? (i := 898) (by decide +kernel)) rfl
set_option maxRecDepth 20000 in
theorem qc_MO_emits : Cond.code y_MO_emits b_MO_emits 1 (some .int) ∈ WS := ws_t (List.mem_of_getElem? (i := 903) (by decide +kernel)) rfl
set_option maxRecDepth 20000 in
theorem qi_MO_emits : Cond.instanceMethod y_MO_emits ∈ WS := ws_t (List.mem_of_getElem? (i := 901) (by decide +kernel)) rfl
set_option maxRecDepth 20000 in
theorem qs_MO_emits : Cond.selects R_MO y_MO_emits y_MO_emits ∈ WS := ws_t (List.mem_of_getElem? (i := 902) (by decide +kernel)) rfl
set_option maxRecDepth 20000 in
theorem qc_MO_emitted : Cond.code y_MO_emitted b_MO_emitted 2 (some .int) ∈ WS := ws_t (List.mem_of_getElem? (i := 907) (by decide +kernel)) rfl
set_option maxRecDepth 20000 in
theorem qi_MO_emitted : Cond.instanceMethod y_MO_emitted ∈ WS := ws_t (List.mem_of_getElem? (i := 905) (by decide +kernel)) rfl
set_option maxRecDepth 20000 in
theorem qs_MO_emitted : Cond.selects R_MO y_MO_emitted y_MO_emitted ∈ WS := ws_t (List.mem_of_getElem? (i := 906) (by decide +kernel)) rfl
set_option maxRecDepth 20000 in
theorem qc_MO_local : Cond.code y_MO_local b_MO_local 2 (some .int) ∈ WS := ws_t (List.mem_of_getElem? (i := 911) (by decide +kernel)) rfl
set_option maxRecDepth 20000 in
theorem qi_MO_local : Cond.instanceMethod y_MO_local ∈ WS := ws_t (List.mem_of_getElem? (i := 909) (by decide +kernel)) rfl
set_option maxRecDepth 20000 in
theorem qs_MO_local : Cond.selects R_MO y_MO_local y_MO_local ∈ WS := ws_t (List.mem_of_getElem? (i := 910) (by decide +kernel)) rfl
set_option maxRecDepth 20000 in
theorem qn_FF : Cond.initialized "FlowFlattener" ∈ WS := ws_t (List.mem_of_getElem? (i := 1) (by decide +kernel)) rfl
set_option maxRecDepth 20000 in
theorem qb_FF : Cond.instantiable "FlowFlattener" 5 ∈ WS := ws_t (List.mem_of_getElem? (i := 10) (by decide +kernel)) rfl
set_option maxRecDepth 20000 in
theorem qn_CO : Cond.initialized "FlowFlattener$Code" ∈ WS := ws_t (List.mem_of_getElem? (i := 2) (by decide +kernel)) rfl
set_option maxRecDepth 20000 in
theorem qb_CO : Cond.instantiable "FlowFlattener$Code" 7 ∈ WS := ws_t (List.mem_of_getElem? (i := 18) (by decide +kernel)) rfl
set_option maxRecDepth 20000 in
theorem qn_CH : Cond.initialized "FlowFlattener$Checker" ∈ WS := ws_t (List.mem_of_getElem? (i := 3) (by decide +kernel)) rfl
set_option maxRecDepth 20000 in
theorem qb_CH : Cond.instantiable "FlowFlattener$Checker" 2 ∈ WS := ws_t (List.mem_of_getElem? (i := 73) (by decide +kernel)) rfl
set_option maxRecDepth 20000 in
theorem qn_DR : Cond.initialized "FlowFlattener$Draws" ∈ WS := ws_t (List.mem_of_getElem? (i := 6) (by decide +kernel)) rfl
set_option maxRecDepth 20000 in
theorem qb_DR : Cond.instantiable "FlowFlattener$Draws" 1 ∈ WS := ws_t (List.mem_of_getElem? (i := 143) (by decide +kernel)) rfl
set_option maxRecDepth 20000 in
theorem qn_BL : Cond.initialized "FlowFlattener$Blocks" ∈ WS := ws_t (List.mem_of_getElem? (i := 5) (by decide +kernel)) rfl
set_option maxRecDepth 20000 in
theorem qb_BL : Cond.instantiable "FlowFlattener$Blocks" 9 ∈ WS := ws_t (List.mem_of_getElem? (i := 97) (by decide +kernel)) rfl
set_option maxRecDepth 20000 in
theorem qn_WE : Cond.initialized "FlowFlattener$Weaver" ∈ WS := ws_t (List.mem_of_getElem? (i := 4) (by decide +kernel)) rfl
set_option maxRecDepth 20000 in
theorem qb_WE : Cond.instantiable "FlowFlattener$Weaver" 3 ∈ WS := ws_t (List.mem_of_getElem? (i := 89) (by decide +kernel)) rfl
set_option maxRecDepth 20000 in
theorem qn_MA : Cond.initialized "FlowFlattener$Machine" ∈ WS := ws_t (List.mem_of_getElem? (i := 7) (by decide +kernel)) rfl
set_option maxRecDepth 20000 in
theorem qb_MA : Cond.instantiable "FlowFlattener$Machine" 10 ∈ WS := ws_t (List.mem_of_getElem? (i := 165) (by decide +kernel)) rfl
set_option maxRecDepth 20000 in
theorem qn_MO : Cond.initialized "FlowFlattenerModel" ∈ WS := ws_t (List.mem_of_getElem? (i := 8) (by decide +kernel)) rfl
set_option maxRecDepth 20000 in
theorem qb_MO : Cond.instantiable "FlowFlattenerModel" 32 ∈ WS := ws_t (List.mem_of_getElem? (i := 560) (by decide +kernel)) rfl
set_option maxRecDepth 20000 in
theorem qn_LA : Cond.initialized "FlowFlattenerLaw" ∈ WS := ws_t (List.mem_of_getElem? (i := 0) (by decide +kernel)) rfl
set_option maxRecDepth 20000 in
theorem ql_LA_7 : Cond.classLink "FlowFlattenerLaw" 7 "FlowFlattener" ∈ WS := ws_t (List.mem_of_getElem? (i := 9) (by decide +kernel)) rfl
set_option maxRecDepth 20000 in
theorem ql_LA_9 : Cond.methodLink "FlowFlattenerLaw" 9 y_FF_init ∈ WS := ws_t (List.mem_of_getElem? (i := 11) (by decide +kernel)) rfl
set_option maxRecDepth 20000 in
theorem ql_FF_3 : Cond.methodLink "FlowFlattener" 3 objectInit ∈ WS := ws_t (List.mem_of_getElem? (i := 14) (by decide +kernel)) rfl
set_option maxRecDepth 20000 in
theorem ql_FF_9 : Cond.classLink "FlowFlattener" 9 "FlowFlattener$Code" ∈ WS := ws_t (List.mem_of_getElem? (i := 17) (by decide +kernel)) rfl
set_option maxRecDepth 20000 in
theorem ql_FF_11 : Cond.methodLink "FlowFlattener" 11 y_CO_init ∈ WS := ws_t (List.mem_of_getElem? (i := 19) (by decide +kernel)) rfl
set_option maxRecDepth 20000 in
theorem ql_CO_3 : Cond.methodLink "FlowFlattener$Code" 3 objectInit ∈ WS := ws_t (List.mem_of_getElem? (i := 22) (by decide +kernel)) rfl
set_option maxRecDepth 20000 in
theorem ql_CO_9 : Cond.fieldLink "FlowFlattener$Code" 9 "FlowFlattener$Code" "operations" "[I" ∈ WS := ws_t (List.mem_of_getElem? (i := 23) (by decide +kernel)) rfl
set_option maxRecDepth 20000 in
theorem ql_BL_57 : Cond.fieldLink "FlowFlattener$Blocks" 57 "FlowFlattener$Code" "operations" "[I" ∈ WS := ws_t (List.mem_of_getElem? (i := 24) (by decide +kernel)) rfl
set_option maxRecDepth 20000 in
theorem ql_MA_61 : Cond.fieldLink "FlowFlattener$Machine" 61 "FlowFlattener$Code" "operations" "[I" ∈ WS := ws_t (List.mem_of_getElem? (i := 25) (by decide +kernel)) rfl
set_option maxRecDepth 20000 in
theorem ql_CH_40 : Cond.fieldLink "FlowFlattener$Checker" 40 "FlowFlattener$Code" "operations" "[I" ∈ WS := ws_t (List.mem_of_getElem? (i := 26) (by decide +kernel)) rfl
set_option maxRecDepth 20000 in
theorem ql_FF_99 : Cond.fieldLink "FlowFlattener" 99 "FlowFlattener$Code" "operations" "[I" ∈ WS := ws_t (List.mem_of_getElem? (i := 27) (by decide +kernel)) rfl
set_option maxRecDepth 20000 in
theorem ql_WE_128 : Cond.fieldLink "FlowFlattener$Weaver" 128 "FlowFlattener$Code" "operations" "[I" ∈ WS := ws_t (List.mem_of_getElem? (i := 28) (by decide +kernel)) rfl
set_option maxRecDepth 20000 in
theorem ql_CO_15 : Cond.fieldLink "FlowFlattener$Code" 15 "FlowFlattener$Code" "operands" "[I" ∈ WS := ws_t (List.mem_of_getElem? (i := 29) (by decide +kernel)) rfl
set_option maxRecDepth 20000 in
theorem ql_BL_63 : Cond.fieldLink "FlowFlattener$Blocks" 63 "FlowFlattener$Code" "operands" "[I" ∈ WS := ws_t (List.mem_of_getElem? (i := 30) (by decide +kernel)) rfl
set_option maxRecDepth 20000 in
theorem ql_MA_58 : Cond.fieldLink "FlowFlattener$Machine" 58 "FlowFlattener$Code" "operands" "[I" ∈ WS := ws_t (List.mem_of_getElem? (i := 31) (by decide +kernel)) rfl
set_option maxRecDepth 20000 in
theorem ql_CH_62 : Cond.fieldLink "FlowFlattener$Checker" 62 "FlowFlattener$Code" "operands" "[I" ∈ WS := ws_t (List.mem_of_getElem? (i := 32) (by decide +kernel)) rfl
set_option maxRecDepth 20000 in
theorem ql_FF_102 : Cond.fieldLink "FlowFlattener" 102 "FlowFlattener$Code" "operands" "[I" ∈ WS := ws_t (List.mem_of_getElem? (i := 33) (by decide +kernel)) rfl
set_option maxRecDepth 20000 in
theorem ql_WE_139 : Cond.fieldLink "FlowFlattener$Weaver" 139 "FlowFlattener$Code" "operands" "[I" ∈ WS := ws_t (List.mem_of_getElem? (i := 34) (by decide +kernel)) rfl
set_option maxRecDepth 20000 in
theorem ql_CO_18 : Cond.fieldLink "FlowFlattener$Code" 18 "FlowFlattener$Code" "froms" "[I" ∈ WS := ws_t (List.mem_of_getElem? (i := 35) (by decide +kernel)) rfl
set_option maxRecDepth 20000 in
theorem ql_BL_72 : Cond.fieldLink "FlowFlattener$Blocks" 72 "FlowFlattener$Code" "froms" "[I" ∈ WS := ws_t (List.mem_of_getElem? (i := 36) (by decide +kernel)) rfl
set_option maxRecDepth 20000 in
theorem ql_FF_106 : Cond.fieldLink "FlowFlattener" 106 "FlowFlattener$Code" "froms" "[I" ∈ WS := ws_t (List.mem_of_getElem? (i := 37) (by decide +kernel)) rfl
set_option maxRecDepth 20000 in
theorem ql_CO_21 : Cond.fieldLink "FlowFlattener$Code" 21 "FlowFlattener$Code" "tos" "[I" ∈ WS := ws_t (List.mem_of_getElem? (i := 38) (by decide +kernel)) rfl
set_option maxRecDepth 20000 in
theorem ql_BL_75 : Cond.fieldLink "FlowFlattener$Blocks" 75 "FlowFlattener$Code" "tos" "[I" ∈ WS := ws_t (List.mem_of_getElem? (i := 39) (by decide +kernel)) rfl
set_option maxRecDepth 20000 in
theorem ql_FF_109 : Cond.fieldLink "FlowFlattener" 109 "FlowFlattener$Code" "tos" "[I" ∈ WS := ws_t (List.mem_of_getElem? (i := 40) (by decide +kernel)) rfl
set_option maxRecDepth 20000 in
theorem ql_CO_24 : Cond.fieldLink "FlowFlattener$Code" 24 "FlowFlattener$Code" "targets" "[I" ∈ WS := ws_t (List.mem_of_getElem? (i := 41) (by decide +kernel)) rfl
set_option maxRecDepth 20000 in
theorem ql_BL_78 : Cond.fieldLink "FlowFlattener$Blocks" 78 "FlowFlattener$Code" "targets" "[I" ∈ WS := ws_t (List.mem_of_getElem? (i := 42) (by decide +kernel)) rfl
set_option maxRecDepth 20000 in
theorem ql_CH_78 : Cond.fieldLink "FlowFlattener$Checker" 78 "FlowFlattener$Code" "targets" "[I" ∈ WS := ws_t (List.mem_of_getElem? (i := 43) (by decide +kernel)) rfl
set_option maxRecDepth 20000 in
theorem ql_FF_112 : Cond.fieldLink "FlowFlattener" 112 "FlowFlattener$Code" "targets" "[I" ∈ WS := ws_t (List.mem_of_getElem? (i := 44) (by decide +kernel)) rfl
set_option maxRecDepth 20000 in
theorem ql_WE_160 : Cond.fieldLink "FlowFlattener$Weaver" 160 "FlowFlattener$Code" "targets" "[I" ∈ WS := ws_t (List.mem_of_getElem? (i := 45) (by decide +kernel)) rfl
set_option maxRecDepth 20000 in
theorem ql_CO_27 : Cond.fieldLink "FlowFlattener$Code" 27 "FlowFlattener$Code" "count" "I" ∈ WS := ws_t (List.mem_of_getElem? (i := 46) (by decide +kernel)) rfl
set_option maxRecDepth 20000 in
theorem ql_WE_66 : Cond.fieldLink "FlowFlattener$Weaver" 66 "FlowFlattener$Code" "count" "I" ∈ WS := ws_t (List.mem_of_getElem? (i := 47) (by decide +kernel)) rfl
set_option maxRecDepth 20000 in
theorem ql_FF_46 : Cond.fieldLink "FlowFlattener" 46 "FlowFlattener$Code" "count" "I" ∈ WS := ws_t (List.mem_of_getElem? (i := 48) (by decide +kernel)) rfl
set_option maxRecDepth 20000 in
theorem ql_BL_54 : Cond.fieldLink "FlowFlattener$Blocks" 54 "FlowFlattener$Code" "count" "I" ∈ WS := ws_t (List.mem_of_getElem? (i := 49) (by decide +kernel)) rfl
set_option maxRecDepth 20000 in
theorem ql_CH_30 : Cond.fieldLink "FlowFlattener$Checker" 30 "FlowFlattener$Code" "count" "I" ∈ WS := ws_t (List.mem_of_getElem? (i := 50) (by decide +kernel)) rfl
set_option maxRecDepth 20000 in
theorem ql_CO_31 : Cond.fieldLink "FlowFlattener$Code" 31 "FlowFlattener$Code" "handlers" "I" ∈ WS := ws_t (List.mem_of_getElem? (i := 51) (by decide +kernel)) rfl
set_option maxRecDepth 20000 in
theorem ql_WE_80 : Cond.fieldLink "FlowFlattener$Weaver" 80 "FlowFlattener$Code" "handlers" "I" ∈ WS := ws_t (List.mem_of_getElem? (i := 52) (by decide +kernel)) rfl
set_option maxRecDepth 20000 in
theorem ql_BL_69 : Cond.fieldLink "FlowFlattener$Blocks" 69 "FlowFlattener$Code" "handlers" "I" ∈ WS := ws_t (List.mem_of_getElem? (i := 53) (by decide +kernel)) rfl
set_option maxRecDepth 20000 in
theorem ql_FF_64 : Cond.fieldLink "FlowFlattener" 64 "FlowFlattener$Code" "handlers" "I" ∈ WS := ws_t (List.mem_of_getElem? (i := 54) (by decide +kernel)) rfl
set_option maxRecDepth 20000 in
theorem ql_CH_71 : Cond.fieldLink "FlowFlattener$Checker" 71 "FlowFlattener$Code" "handlers" "I" ∈ WS := ws_t (List.mem_of_getElem? (i := 55) (by decide +kernel)) rfl
set_option maxRecDepth 20000 in
theorem qa_int : Cond.arrayClass .int ∈ WS := ws_t (List.mem_of_getElem? (i := 71) (by decide +kernel)) rfl
set_option maxRecDepth 20000 in
theorem ql_FF_18 : Cond.classLink "FlowFlattener" 18 "FlowFlattener$Checker" ∈ WS := ws_t (List.mem_of_getElem? (i := 72) (by decide +kernel)) rfl
set_option maxRecDepth 20000 in
theorem ql_FF_20 : Cond.methodLinkNest "FlowFlattener" 20 y_CH_init "FlowFlattener" ∈ lw_tbl := List.mem_append_right _ (List.mem_of_getElem? (i := 74) (by decide +kernel))
set_option maxRecDepth 20000 in
theorem ql_CH_3 : Cond.methodLink "FlowFlattener$Checker" 3 objectInit ∈ WS := ws_t (List.mem_of_getElem? (i := 77) (by decide +kernel)) rfl
set_option maxRecDepth 20000 in
theorem ql_CH_9 : Cond.fieldLink "FlowFlattener$Checker" 9 "FlowFlattener$Checker" "depths" "[I" ∈ WS := ws_t (List.mem_of_getElem? (i := 78) (by decide +kernel)) rfl
set_option maxRecDepth 20000 in
theorem ql_BL_51 : Cond.fieldLink "FlowFlattener$Blocks" 51 "FlowFlattener$Checker" "depths" "[I" ∈ WS := ws_t (List.mem_of_getElem? (i := 79) (by decide +kernel)) rfl
set_option maxRecDepth 20000 in
theorem ql_FF_81 : Cond.fieldLink "FlowFlattener" 81 "FlowFlattener$Checker" "depths" "[I" ∈ WS := ws_t (List.mem_of_getElem? (i := 80) (by decide +kernel)) rfl
set_option maxRecDepth 20000 in
theorem ql_CH_15 : Cond.fieldLink "FlowFlattener$Checker" 15 "FlowFlattener$Checker" "goneOver" "[Z" ∈ WS := ws_t (List.mem_of_getElem? (i := 81) (by decide +kernel)) rfl
set_option maxRecDepth 20000 in
theorem qa_boolean : Cond.arrayClass .boolean ∈ WS := ws_t (List.mem_of_getElem? (i := 87) (by decide +kernel)) rfl
set_option maxRecDepth 20000 in
theorem ql_FF_25 : Cond.classLink "FlowFlattener" 25 "FlowFlattener$Weaver" ∈ WS := ws_t (List.mem_of_getElem? (i := 88) (by decide +kernel)) rfl
set_option maxRecDepth 20000 in
theorem ql_FF_27 : Cond.methodLinkNest "FlowFlattener" 27 y_WE_init "FlowFlattener" ∈ lw_tbl := List.mem_append_right _ (List.mem_of_getElem? (i := 90) (by decide +kernel))
set_option maxRecDepth 20000 in
theorem ql_WE_3 : Cond.methodLink "FlowFlattener$Weaver" 3 objectInit ∈ WS := ws_t (List.mem_of_getElem? (i := 93) (by decide +kernel)) rfl
set_option maxRecDepth 20000 in
theorem ql_WE_9 : Cond.classLink "FlowFlattener$Weaver" 9 "FlowFlattener$Code" ∈ WS := ws_t (List.mem_of_getElem? (i := 94) (by decide +kernel)) rfl
set_option maxRecDepth 20000 in
theorem ql_WE_11 : Cond.methodLink "FlowFlattener$Weaver" 11 y_CO_init ∈ WS := ws_t (List.mem_of_getElem? (i := 95) (by decide +kernel)) rfl
set_option maxRecDepth 20000 in
theorem ql_WE_20 : Cond.classLink "FlowFlattener$Weaver" 20 "FlowFlattener$Blocks" ∈ WS := ws_t (List.mem_of_getElem? (i := 96) (by decide +kernel)) rfl
set_option maxRecDepth 20000 in
theorem ql_WE_22 : Cond.methodLinkNest "FlowFlattener$Weaver" 22 y_BL_init "FlowFlattener" ∈ lw_tbl := List.mem_append_right _ (List.mem_of_getElem? (i := 98) (by decide +kernel))
set_option maxRecDepth 20000 in
theorem ql_BL_3 : Cond.methodLink "FlowFlattener$Blocks" 3 objectInit ∈ WS := ws_t (List.mem_of_getElem? (i := 101) (by decide +kernel)) rfl
set_option maxRecDepth 20000 in
theorem ql_BL_9 : Cond.fieldLink "FlowFlattener$Blocks" 9 "FlowFlattener$Blocks" "leaders" "[I" ∈ WS := ws_t (List.mem_of_getElem? (i := 102) (by decide +kernel)) rfl
set_option maxRecDepth 20000 in
theorem ql_WE_119 : Cond.fieldLink "FlowFlattener$Weaver" 119 "FlowFlattener$Blocks" "leaders" "[I" ∈ WS := ws_t (List.mem_of_getElem? (i := 103) (by decide +kernel)) rfl
set_option maxRecDepth 20000 in
theorem ql_FF_128 : Cond.fieldLink "FlowFlattener" 128 "FlowFlattener$Blocks" "leaders" "[I" ∈ WS := ws_t (List.mem_of_getElem? (i := 104) (by decide +kernel)) rfl
set_option maxRecDepth 20000 in
theorem ql_BL_15 : Cond.fieldLink "FlowFlattener$Blocks" 15 "FlowFlattener$Blocks" "heights" "[I" ∈ WS := ws_t (List.mem_of_getElem? (i := 105) (by decide +kernel)) rfl
set_option maxRecDepth 20000 in
theorem ql_WE_94 : Cond.fieldLink "FlowFlattener$Weaver" 94 "FlowFlattener$Blocks" "heights" "[I" ∈ WS := ws_t (List.mem_of_getElem? (i := 106) (by decide +kernel)) rfl
set_option maxRecDepth 20000 in
theorem ql_BL_18 : Cond.fieldLink "FlowFlattener$Blocks" 18 "FlowFlattener$Blocks" "states" "[I" ∈ WS := ws_t (List.mem_of_getElem? (i := 107) (by decide +kernel)) rfl
set_option maxRecDepth 20000 in
theorem ql_WE_86 : Cond.fieldLink "FlowFlattener$Weaver" 86 "FlowFlattener$Blocks" "states" "[I" ∈ WS := ws_t (List.mem_of_getElem? (i := 108) (by decide +kernel)) rfl
set_option maxRecDepth 20000 in
theorem ql_FF_122 : Cond.fieldLink "FlowFlattener" 122 "FlowFlattener$Blocks" "states" "[I" ∈ WS := ws_t (List.mem_of_getElem? (i := 109) (by decide +kernel)) rfl
set_option maxRecDepth 20000 in
theorem ql_BL_21 : Cond.fieldLink "FlowFlattener$Blocks" 21 "FlowFlattener$Blocks" "firsts" "[I" ∈ WS := ws_t (List.mem_of_getElem? (i := 110) (by decide +kernel)) rfl
set_option maxRecDepth 20000 in
theorem ql_WE_63 : Cond.fieldLink "FlowFlattener$Weaver" 63 "FlowFlattener$Blocks" "firsts" "[I" ∈ WS := ws_t (List.mem_of_getElem? (i := 111) (by decide +kernel)) rfl
set_option maxRecDepth 20000 in
theorem ql_FF_125 : Cond.fieldLink "FlowFlattener" 125 "FlowFlattener$Blocks" "firsts" "[I" ∈ WS := ws_t (List.mem_of_getElem? (i := 112) (by decide +kernel)) rfl
set_option maxRecDepth 20000 in
theorem ql_BL_24 : Cond.fieldLink "FlowFlattener$Blocks" 24 "FlowFlattener$Blocks" "behinds" "[I" ∈ WS := ws_t (List.mem_of_getElem? (i := 113) (by decide +kernel)) rfl
set_option maxRecDepth 20000 in
theorem ql_WE_77 : Cond.fieldLink "FlowFlattener$Weaver" 77 "FlowFlattener$Blocks" "behinds" "[I" ∈ WS := ws_t (List.mem_of_getElem? (i := 114) (by decide +kernel)) rfl
set_option maxRecDepth 20000 in
theorem ql_BL_27 : Cond.fieldLink "FlowFlattener$Blocks" 27 "FlowFlattener$Blocks" "byState" "[I" ∈ WS := ws_t (List.mem_of_getElem? (i := 115) (by decide +kernel)) rfl
set_option maxRecDepth 20000 in
theorem ql_WE_59 : Cond.fieldLink "FlowFlattener$Weaver" 59 "FlowFlattener$Blocks" "byState" "[I" ∈ WS := ws_t (List.mem_of_getElem? (i := 116) (by decide +kernel)) rfl
set_option maxRecDepth 20000 in
theorem ql_BL_30 : Cond.fieldLink "FlowFlattener$Blocks" 30 "FlowFlattener$Blocks" "startingAt" "[I" ∈ WS := ws_t (List.mem_of_getElem? (i := 117) (by decide +kernel)) rfl
set_option maxRecDepth 20000 in
theorem ql_WE_122 : Cond.fieldLink "FlowFlattener$Weaver" 122 "FlowFlattener$Blocks" "startingAt" "[I" ∈ WS := ws_t (List.mem_of_getElem? (i := 118) (by decide +kernel)) rfl
set_option maxRecDepth 20000 in
theorem ql_BL_33 : Cond.fieldLink "FlowFlattener$Blocks" 33 "FlowFlattener$Blocks" "marked" "[Z" ∈ WS := ws_t (List.mem_of_getElem? (i := 119) (by decide +kernel)) rfl
set_option maxRecDepth 20000 in
theorem ql_BL_41 : Cond.fieldLink "FlowFlattener$Blocks" 41 "FlowFlattener$Blocks" "count" "I" ∈ WS := ws_t (List.mem_of_getElem? (i := 120) (by decide +kernel)) rfl
set_option maxRecDepth 20000 in
theorem ql_WE_55 : Cond.fieldLink "FlowFlattener$Weaver" 55 "FlowFlattener$Blocks" "count" "I" ∈ WS := ws_t (List.mem_of_getElem? (i := 121) (by decide +kernel)) rfl
set_option maxRecDepth 20000 in
theorem ql_FF_119 : Cond.fieldLink "FlowFlattener" 119 "FlowFlattener$Blocks" "count" "I" ∈ WS := ws_t (List.mem_of_getElem? (i := 122) (by decide +kernel)) rfl
set_option maxRecDepth 20000 in
theorem ql_WE_27 : Cond.classLink "FlowFlattener$Weaver" 27 "FlowFlattener$Draws" ∈ WS := ws_t (List.mem_of_getElem? (i := 142) (by decide +kernel)) rfl
set_option maxRecDepth 20000 in
theorem ql_WE_29 : Cond.methodLinkNest "FlowFlattener$Weaver" 29 y_DR_init "FlowFlattener" ∈ lw_tbl := List.mem_append_right _ (List.mem_of_getElem? (i := 144) (by decide +kernel))
set_option maxRecDepth 20000 in
theorem ql_DR_1 : Cond.methodLink "FlowFlattener$Draws" 1 objectInit ∈ WS := ws_t (List.mem_of_getElem? (i := 147) (by decide +kernel)) rfl
set_option maxRecDepth 20000 in
theorem ql_DR_7 : Cond.fieldLink "FlowFlattener$Draws" 7 "FlowFlattener$Draws" "g" "I" ∈ WS := ws_t (List.mem_of_getElem? (i := 148) (by decide +kernel)) rfl
set_option maxRecDepth 20000 in
theorem ql_WE_14 : Cond.fieldLink "FlowFlattener$Weaver" 14 "FlowFlattener$Weaver" "flat" "LFlowFlattener$Code;" ∈ WS := ws_t (List.mem_of_getElem? (i := 152) (by decide +kernel)) rfl
set_option maxRecDepth 20000 in
theorem ql_FF_92 : Cond.fieldLink "FlowFlattener" 92 "FlowFlattener$Weaver" "flat" "LFlowFlattener$Code;" ∈ WS := ws_t (List.mem_of_getElem? (i := 153) (by decide +kernel)) rfl
set_option maxRecDepth 20000 in
theorem ql_WE_23 : Cond.fieldLink "FlowFlattener$Weaver" 23 "FlowFlattener$Weaver" "blocks" "LFlowFlattener$Blocks;" ∈ WS := ws_t (List.mem_of_getElem? (i := 154) (by decide +kernel)) rfl
set_option maxRecDepth 20000 in
theorem ql_FF_115 : Cond.fieldLink "FlowFlattener" 115 "FlowFlattener$Weaver" "blocks" "LFlowFlattener$Blocks;" ∈ WS := ws_t (List.mem_of_getElem? (i := 155) (by decide +kernel)) rfl
set_option maxRecDepth 20000 in
theorem ql_WE_30 : Cond.fieldLink "FlowFlattener$Weaver" 30 "FlowFlattener$Weaver" "draws" "LFlowFlattener$Draws;" ∈ WS := ws_t (List.mem_of_getElem? (i := 156) (by decide +kernel)) rfl
set_option maxRecDepth 20000 in
theorem ql_FF_32 : Cond.classLink "FlowFlattener" 32 "FlowFlattener$Machine" ∈ WS := ws_t (List.mem_of_getElem? (i := 164) (by decide +kernel)) rfl
set_option maxRecDepth 20000 in
theorem ql_FF_34 : Cond.methodLinkNest "FlowFlattener" 34 y_MA_init "FlowFlattener" ∈ lw_tbl := List.mem_append_right _ (List.mem_of_getElem? (i := 166) (by decide +kernel))
set_option maxRecDepth 20000 in
theorem ql_MA_3 : Cond.methodLink "FlowFlattener$Machine" 3 objectInit ∈ WS := ws_t (List.mem_of_getElem? (i := 169) (by decide +kernel)) rfl
set_option maxRecDepth 20000 in
theorem ql_MA_9 : Cond.fieldLink "FlowFlattener$Machine" 9 "FlowFlattener$Machine" "locals" "[I" ∈ WS := ws_t (List.mem_of_getElem? (i := 170) (by decide +kernel)) rfl
set_option maxRecDepth 20000 in
theorem ql_FF_154 : Cond.fieldLink "FlowFlattener" 154 "FlowFlattener$Machine" "locals" "[I" ∈ WS := ws_t (List.mem_of_getElem? (i := 171) (by decide +kernel)) rfl
set_option maxRecDepth 20000 in
theorem ql_MA_15 : Cond.fieldLink "FlowFlattener$Machine" 15 "FlowFlattener$Machine" "kept" "[I" ∈ WS := ws_t (List.mem_of_getElem? (i := 172) (by decide +kernel)) rfl
set_option maxRecDepth 20000 in
theorem ql_FF_147 : Cond.fieldLink "FlowFlattener" 147 "FlowFlattener$Machine" "kept" "[I" ∈ WS := ws_t (List.mem_of_getElem? (i := 173) (by decide +kernel)) rfl
set_option maxRecDepth 20000 in
theorem ql_MA_18 : Cond.fieldLink "FlowFlattener$Machine" 18 "FlowFlattener$Machine" "stack" "[I" ∈ WS := ws_t (List.mem_of_getElem? (i := 174) (by decide +kernel)) rfl
set_option maxRecDepth 20000 in
theorem ql_MA_45 : Cond.fieldLink "FlowFlattener$Machine" 45 "FlowFlattener$Machine" "top" "I" ∈ WS := ws_t (List.mem_of_getElem? (i := 175) (by decide +kernel)) rfl
set_option maxRecDepth 20000 in
theorem ql_MA_29 : Cond.fieldLink "FlowFlattener$Machine" 29 "FlowFlattener$Machine" "at" "I" ∈ WS := ws_t (List.mem_of_getElem? (i := 176) (by decide +kernel)) rfl
set_option maxRecDepth 20000 in
theorem ql_MA_48 : Cond.fieldLink "FlowFlattener$Machine" 48 "FlowFlattener$Machine" "wasUsed" "Z" ∈ WS := ws_t (List.mem_of_getElem? (i := 177) (by decide +kernel)) rfl
set_option maxRecDepth 20000 in
theorem ql_FF_150 : Cond.fieldLink "FlowFlattener" 150 "FlowFlattener$Machine" "wasUsed" "Z" ∈ WS := ws_t (List.mem_of_getElem? (i := 178) (by decide +kernel)) rfl
set_option maxRecDepth 20000 in
theorem ql_MA_38 : Cond.fieldLink "FlowFlattener$Machine" 38 "FlowFlattener$Machine" "taken" "I" ∈ WS := ws_t (List.mem_of_getElem? (i := 179) (by decide +kernel)) rfl
set_option maxRecDepth 20000 in
theorem ql_FF_141 : Cond.fieldLink "FlowFlattener" 141 "FlowFlattener$Machine" "taken" "I" ∈ WS := ws_t (List.mem_of_getElem? (i := 180) (by decide +kernel)) rfl
set_option maxRecDepth 20000 in
theorem ql_MA_52 : Cond.fieldLink "FlowFlattener$Machine" 52 "FlowFlattener$Machine" "emitCount" "I" ∈ WS := ws_t (List.mem_of_getElem? (i := 181) (by decide +kernel)) rfl
set_option maxRecDepth 20000 in
theorem ql_FF_144 : Cond.fieldLink "FlowFlattener" 144 "FlowFlattener$Machine" "emitCount" "I" ∈ WS := ws_t (List.mem_of_getElem? (i := 182) (by decide +kernel)) rfl
set_option maxRecDepth 20000 in
theorem ql_MA_25 : Cond.fieldLink "FlowFlattener$Machine" 25 "FlowFlattener$Machine" "ending" "I" ∈ WS := ws_t (List.mem_of_getElem? (i := 183) (by decide +kernel)) rfl
set_option maxRecDepth 20000 in
theorem ql_FF_135 : Cond.fieldLink "FlowFlattener" 135 "FlowFlattener$Machine" "ending" "I" ∈ WS := ws_t (List.mem_of_getElem? (i := 184) (by decide +kernel)) rfl
set_option maxRecDepth 20000 in
theorem ql_MA_55 : Cond.fieldLink "FlowFlattener$Machine" 55 "FlowFlattener$Machine" "outcome" "I" ∈ WS := ws_t (List.mem_of_getElem? (i := 185) (by decide +kernel)) rfl
set_option maxRecDepth 20000 in
theorem ql_FF_138 : Cond.fieldLink "FlowFlattener" 138 "FlowFlattener$Machine" "outcome" "I" ∈ WS := ws_t (List.mem_of_getElem? (i := 186) (by decide +kernel)) rfl
set_option maxRecDepth 20000 in
theorem ql_FF_14 : Cond.fieldLink "FlowFlattener" 14 "FlowFlattener" "original" "LFlowFlattener$Code;" ∈ WS := ws_t (List.mem_of_getElem? (i := 208) (by decide +kernel)) rfl
set_option maxRecDepth 20000 in
theorem ql_FF_21 : Cond.fieldLink "FlowFlattener" 21 "FlowFlattener" "checker" "LFlowFlattener$Checker;" ∈ WS := ws_t (List.mem_of_getElem? (i := 209) (by decide +kernel)) rfl
set_option maxRecDepth 20000 in
theorem ql_FF_28 : Cond.fieldLink "FlowFlattener" 28 "FlowFlattener" "weaver" "LFlowFlattener$Weaver;" ∈ WS := ws_t (List.mem_of_getElem? (i := 210) (by decide +kernel)) rfl
set_option maxRecDepth 20000 in
theorem ql_FF_35 : Cond.fieldLink "FlowFlattener" 35 "FlowFlattener" "machine" "LFlowFlattener$Machine;" ∈ WS := ws_t (List.mem_of_getElem? (i := 211) (by decide +kernel)) rfl
set_option maxRecDepth 20000 in
theorem ql_FF_39 : Cond.fieldLink "FlowFlattener" 39 "FlowFlattener" "starters" "[I" ∈ WS := ws_t (List.mem_of_getElem? (i := 212) (by decide +kernel)) rfl
set_option maxRecDepth 20000 in
theorem ql_LA_13 : Cond.methodLink "FlowFlattenerLaw" 13 y_FF_clear ∈ WS := ws_t (List.mem_of_getElem? (i := 224) (by decide +kernel)) rfl
set_option maxRecDepth 20000 in
theorem ql_FF_43 : Cond.methodLink "FlowFlattener" 43 y_CO_empty ∈ WS := ws_t (List.mem_of_getElem? (i := 228) (by decide +kernel)) rfl
set_option maxRecDepth 20000 in
theorem ql_LA_17 : Cond.methodLink "FlowFlattenerLaw" 17 y_FF_add ∈ WS := ws_t (List.mem_of_getElem? (i := 232) (by decide +kernel)) rfl
set_option maxRecDepth 20000 in
theorem ql_FF_50 : Cond.methodLink "FlowFlattener" 50 y_FF_takesOperand ∈ WS := ws_t (List.mem_of_getElem? (i := 236) (by decide +kernel)) rfl
set_option maxRecDepth 20000 in
theorem ql_FF_157 : Cond.methodLink "FlowFlattener" 157 y_FF_jumps ∈ WS := ws_t (List.mem_of_getElem? (i := 239) (by decide +kernel)) rfl
set_option maxRecDepth 20000 in
theorem ql_FF_160 : Cond.methodLink "FlowFlattener" 160 y_FF_branches ∈ WS := ws_t (List.mem_of_getElem? (i := 242) (by decide +kernel)) rfl
set_option maxRecDepth 20000 in
theorem ql_FF_54 : Cond.methodLink "FlowFlattener" 54 y_FF_hasOperand ∈ WS := ws_t (List.mem_of_getElem? (i := 245) (by decide +kernel)) rfl
set_option maxRecDepth 20000 in
theorem ql_FF_58 : Cond.methodLink "FlowFlattener" 58 y_CO_append ∈ WS := ws_t (List.mem_of_getElem? (i := 248) (by decide +kernel)) rfl
set_option maxRecDepth 20000 in
theorem ql_LA_22 : Cond.methodLink "FlowFlattenerLaw" 22 y_FF_handler ∈ WS := ws_t (List.mem_of_getElem? (i := 252) (by decide +kernel)) rfl
set_option maxRecDepth 20000 in
theorem ql_FF_61 : Cond.methodLink "FlowFlattener" 61 y_FF_isPlace ∈ WS := ws_t (List.mem_of_getElem? (i := 256) (by decide +kernel)) rfl
set_option maxRecDepth 20000 in
theorem ql_FF_67 : Cond.methodLink "FlowFlattener" 67 y_CO_appendHandler ∈ WS := ws_t (List.mem_of_getElem? (i := 259) (by decide +kernel)) rfl
set_option maxRecDepth 20000 in
theorem ql_LA_27 : Cond.methodLink "FlowFlattenerLaw" 27 y_FF_check ∈ WS := ws_t (List.mem_of_getElem? (i := 263) (by decide +kernel)) rfl
set_option maxRecDepth 20000 in
theorem ql_FF_71 : Cond.methodLink "FlowFlattener" 71 y_CH_firstWrong ∈ WS := ws_t (List.mem_of_getElem? (i := 267) (by decide +kernel)) rfl
set_option maxRecDepth 20000 in
theorem ql_CH_19 : Cond.methodLink "FlowFlattener$Checker" 19 y_CH_forget ∈ WS := ws_t (List.mem_of_getElem? (i := 271) (by decide +kernel)) rfl
set_option maxRecDepth 20000 in
theorem ql_CH_22 : Cond.methodLink "FlowFlattener$Checker" 22 y_CH_leastLeft ∈ WS := ws_t (List.mem_of_getElem? (i := 275) (by decide +kernel)) rfl
set_option maxRecDepth 20000 in
theorem ql_CH_36 : Cond.methodLink "FlowFlattener$Checker" 36 y_CH_reached ∈ WS := ws_t (List.mem_of_getElem? (i := 279) (by decide +kernel)) rfl
set_option maxRecDepth 20000 in
theorem ql_CH_26 : Cond.methodLink "FlowFlattener$Checker" 26 y_CH_goesOver ∈ WS := ws_t (List.mem_of_getElem? (i := 283) (by decide +kernel)) rfl
set_option maxRecDepth 20000 in
theorem ql_CH_43 : Cond.fieldLinkNest "FlowFlattener$Checker" 43 "FlowFlattener" "TAKES" "[I" "FlowFlattener" ∈ lw_tbl := List.mem_append_right _ (List.mem_of_getElem? (i := 287) (by decide +kernel))
set_option maxRecDepth 20000 in
theorem ql_CH_46 : Cond.fieldLinkNest "FlowFlattener$Checker" 46 "FlowFlattener" "PUTS" "[I" "FlowFlattener" ∈ lw_tbl := List.mem_append_right _ (List.mem_of_getElem? (i := 289) (by decide +kernel))
set_option maxRecDepth 20000 in
theorem ql_CH_49 : Cond.methodLink "FlowFlattener$Checker" 49 y_CH_staysInside ∈ WS := ws_t (List.mem_of_getElem? (i := 291) (by decide +kernel)) rfl
set_option maxRecDepth 20000 in
theorem ql_CH_52 : Cond.methodLinkNest "FlowFlattener$Checker" 52 y_FF_goesToNext "FlowFlattener" ∈ lw_tbl := List.mem_append_right _ (List.mem_of_getElem? (i := 294) (by decide +kernel))
set_option maxRecDepth 20000 in
theorem ql_FF_163 : Cond.methodLink "FlowFlattener" 163 y_FF_ends ∈ WS := ws_t (List.mem_of_getElem? (i := 297) (by decide +kernel)) rfl
set_option maxRecDepth 20000 in
theorem ql_CH_68 : Cond.methodLink "FlowFlattener$Checker" 68 y_CO_has ∈ WS := ws_t (List.mem_of_getElem? (i := 300) (by decide +kernel)) rfl
set_option maxRecDepth 20000 in
theorem ql_CH_59 : Cond.methodLinkNest "FlowFlattener$Checker" 59 y_FF_jumps "FlowFlattener" ∈ lw_tbl := List.mem_append_right _ (List.mem_of_getElem? (i := 304) (by decide +kernel))
set_option maxRecDepth 20000 in
theorem ql_CH_55 : Cond.methodLink "FlowFlattener$Checker" 55 y_CH_gives ∈ WS := ws_t (List.mem_of_getElem? (i := 305) (by decide +kernel)) rfl
set_option maxRecDepth 20000 in
theorem ql_CH_65 : Cond.methodLink "FlowFlattener$Checker" 65 y_CH_givesTargets ∈ WS := ws_t (List.mem_of_getElem? (i := 309) (by decide +kernel)) rfl
set_option maxRecDepth 20000 in
theorem ql_CH_74 : Cond.methodLink "FlowFlattener$Checker" 74 y_CO_covers ∈ WS := ws_t (List.mem_of_getElem? (i := 313) (by decide +kernel)) rfl
set_option maxRecDepth 20000 in
theorem ql_LA_32 : Cond.methodLink "FlowFlattenerLaw" 32 y_FF_depth ∈ WS := ws_t (List.mem_of_getElem? (i := 317) (by decide +kernel)) rfl
set_option maxRecDepth 20000 in
theorem ql_FF_75 : Cond.methodLink "FlowFlattener" 75 y_CO_has ∈ WS := ws_t (List.mem_of_getElem? (i := 321) (by decide +kernel)) rfl
set_option maxRecDepth 20000 in
theorem ql_FF_78 : Cond.methodLink "FlowFlattener" 78 y_CH_reached ∈ WS := ws_t (List.mem_of_getElem? (i := 322) (by decide +kernel)) rfl
set_option maxRecDepth 20000 in
theorem ql_LA_37 : Cond.methodLink "FlowFlattenerLaw" 37 y_FF_flatten ∈ WS := ws_t (List.mem_of_getElem? (i := 323) (by decide +kernel)) rfl
set_option maxRecDepth 20000 in
theorem ql_FF_84 : Cond.methodLink "FlowFlattener" 84 y_FF_originalIsFine ∈ WS := ws_t (List.mem_of_getElem? (i := 327) (by decide +kernel)) rfl
set_option maxRecDepth 20000 in
theorem ql_FF_88 : Cond.methodLink "FlowFlattener" 88 y_WE_weave ∈ WS := ws_t (List.mem_of_getElem? (i := 331) (by decide +kernel)) rfl
set_option maxRecDepth 20000 in
theorem ql_WE_34 : Cond.methodLink "FlowFlattener$Weaver" 34 y_DR_begin ∈ WS := ws_t (List.mem_of_getElem? (i := 335) (by decide +kernel)) rfl
set_option maxRecDepth 20000 in
theorem ql_WE_38 : Cond.methodLink "FlowFlattener$Weaver" 38 y_BL_find ∈ WS := ws_t (List.mem_of_getElem? (i := 339) (by decide +kernel)) rfl
set_option maxRecDepth 20000 in
theorem ql_BL_37 : Cond.methodLink "FlowFlattener$Blocks" 37 y_BL_mark ∈ WS := ws_t (List.mem_of_getElem? (i := 343) (by decide +kernel)) rfl
set_option maxRecDepth 20000 in
theorem ql_BL_45 : Cond.methodLink "FlowFlattener$Blocks" 45 y_CH_reached ∈ WS := ws_t (List.mem_of_getElem? (i := 347) (by decide +kernel)) rfl
set_option maxRecDepth 20000 in
theorem ql_BL_60 : Cond.methodLinkNest "FlowFlattener$Blocks" 60 y_FF_jumps "FlowFlattener" ∈ lw_tbl := List.mem_append_right _ (List.mem_of_getElem? (i := 348) (by decide +kernel))
set_option maxRecDepth 20000 in
theorem ql_BL_66 : Cond.methodLinkNest "FlowFlattener$Blocks" 66 y_FF_branches "FlowFlattener" ∈ lw_tbl := List.mem_append_right _ (List.mem_of_getElem? (i := 349) (by decide +kernel))
set_option maxRecDepth 20000 in
theorem ql_WE_42 : Cond.methodLink "FlowFlattener$Weaver" 42 y_BL_drawStates ∈ WS := ws_t (List.mem_of_getElem? (i := 350) (by decide +kernel)) rfl
set_option maxRecDepth 20000 in
theorem ql_BL_81 : Cond.methodLink "FlowFlattener$Blocks" 81 y_DR_next ∈ WS := ws_t (List.mem_of_getElem? (i := 354) (by decide +kernel)) rfl
set_option maxRecDepth 20000 in
theorem ql_DR_13 : Cond.constant "FlowFlattener$Draws" 13 (1664525) ∈ WS := ws_t (List.mem_of_getElem? (i := 358) (by decide +kernel)) rfl
set_option maxRecDepth 20000 in
theorem ql_DR_14 : Cond.constant "FlowFlattener$Draws" 14 (1013904223) ∈ WS := ws_t (List.mem_of_getElem? (i := 359) (by decide +kernel)) rfl
set_option maxRecDepth 20000 in
theorem ql_BL_87 : Cond.constant "FlowFlattener$Blocks" 87 (1000000) ∈ WS := ws_t (List.mem_of_getElem? (i := 360) (by decide +kernel)) rfl
set_option maxRecDepth 20000 in
theorem ql_BL_88 : Cond.methodLink "FlowFlattener$Blocks" 88 y_BL_among ∈ WS := ws_t (List.mem_of_getElem? (i := 361) (by decide +kernel)) rfl
set_option maxRecDepth 20000 in
theorem ql_WE_46 : Cond.methodLink "FlowFlattener$Weaver" 46 y_BL_sortByState ∈ WS := ws_t (List.mem_of_getElem? (i := 365) (by decide +kernel)) rfl
set_option maxRecDepth 20000 in
theorem ql_WE_49 : Cond.methodLink "FlowFlattener$Weaver" 49 y_CO_empty ∈ WS := ws_t (List.mem_of_getElem? (i := 369) (by decide +kernel)) rfl
set_option maxRecDepth 20000 in
theorem ql_WE_52 : Cond.methodLink "FlowFlattener$Weaver" 52 y_WE_writeLoop ∈ WS := ws_t (List.mem_of_getElem? (i := 370) (by decide +kernel)) rfl
set_option maxRecDepth 20000 in
theorem ql_WE_89 : Cond.methodLink "FlowFlattener$Weaver" 89 y_WE_write2 ∈ WS := ws_t (List.mem_of_getElem? (i := 374) (by decide +kernel)) rfl
set_option maxRecDepth 20000 in
theorem ql_WE_163 : Cond.methodLink "FlowFlattener$Weaver" 163 y_CO_append ∈ WS := ws_t (List.mem_of_getElem? (i := 378) (by decide +kernel)) rfl
set_option maxRecDepth 20000 in
theorem ql_WE_92 : Cond.methodLink "FlowFlattener$Weaver" 92 y_WE_write1 ∈ WS := ws_t (List.mem_of_getElem? (i := 379) (by decide +kernel)) rfl
set_option maxRecDepth 20000 in
theorem ql_WE_67 : Cond.methodLink "FlowFlattener$Weaver" 67 y_WE_writeTakingBack ∈ WS := ws_t (List.mem_of_getElem? (i := 383) (by decide +kernel)) rfl
set_option maxRecDepth 20000 in
theorem ql_WE_70 : Cond.methodLink "FlowFlattener$Weaver" 70 y_WE_writeCondition ∈ WS := ws_t (List.mem_of_getElem? (i := 387) (by decide +kernel)) rfl
set_option maxRecDepth 20000 in
theorem ql_WE_97 : Cond.methodLink "FlowFlattener$Weaver" 97 y_DR_next ∈ WS := ws_t (List.mem_of_getElem? (i := 391) (by decide +kernel)) rfl
set_option maxRecDepth 20000 in
theorem ql_WE_101 : Cond.methodLink "FlowFlattener$Weaver" 101 y_WE_writeEvenProduct ∈ WS := ws_t (List.mem_of_getElem? (i := 392) (by decide +kernel)) rfl
set_option maxRecDepth 20000 in
theorem ql_WE_104 : Cond.methodLink "FlowFlattener$Weaver" 104 y_WE_writeSquareNeverTwo ∈ WS := ws_t (List.mem_of_getElem? (i := 396) (by decide +kernel)) rfl
set_option maxRecDepth 20000 in
theorem ql_WE_113 : Cond.methodLink "FlowFlattener$Weaver" 113 y_WE_writeSquare ∈ WS := ws_t (List.mem_of_getElem? (i := 400) (by decide +kernel)) rfl
set_option maxRecDepth 20000 in
theorem ql_WE_107 : Cond.methodLink "FlowFlattener$Weaver" 107 y_WE_writeSquaresNeverMeet ∈ WS := ws_t (List.mem_of_getElem? (i := 404) (by decide +kernel)) rfl
set_option maxRecDepth 20000 in
theorem ql_WE_110 : Cond.methodLink "FlowFlattener$Weaver" 110 y_WE_writeJunk ∈ WS := ws_t (List.mem_of_getElem? (i := 408) (by decide +kernel)) rfl
set_option maxRecDepth 20000 in
theorem ql_WE_116 : Cond.methodLink "FlowFlattener$Weaver" 116 y_WE_writeGoingTo ∈ WS := ws_t (List.mem_of_getElem? (i := 412) (by decide +kernel)) rfl
set_option maxRecDepth 20000 in
theorem ql_WE_73 : Cond.methodLink "FlowFlattener$Weaver" 73 y_WE_writeInstructions ∈ WS := ws_t (List.mem_of_getElem? (i := 416) (by decide +kernel)) rfl
set_option maxRecDepth 20000 in
theorem ql_WE_125 : Cond.methodLink "FlowFlattener$Weaver" 125 y_WE_writeLead ∈ WS := ws_t (List.mem_of_getElem? (i := 420) (by decide +kernel)) rfl
set_option maxRecDepth 20000 in
theorem ql_WE_131 : Cond.methodLinkNest "FlowFlattener$Weaver" 131 y_FF_jumps "FlowFlattener" ∈ lw_tbl := List.mem_append_right _ (List.mem_of_getElem? (i := 424) (by decide +kernel))
set_option maxRecDepth 20000 in
theorem ql_WE_135 : Cond.methodLink "FlowFlattener$Weaver" 135 y_WE_writeJump ∈ WS := ws_t (List.mem_of_getElem? (i := 425) (by decide +kernel)) rfl
set_option maxRecDepth 20000 in
theorem ql_WE_145 : Cond.methodLinkNest "FlowFlattener$Weaver" 145 y_FF_branches "FlowFlattener" ∈ lw_tbl := List.mem_append_right _ (List.mem_of_getElem? (i := 429) (by decide +kernel))
set_option maxRecDepth 20000 in
theorem ql_WE_148 : Cond.methodLink "FlowFlattener$Weaver" 148 y_WE_leadSize ∈ WS := ws_t (List.mem_of_getElem? (i := 430) (by decide +kernel)) rfl
set_option maxRecDepth 20000 in
theorem ql_WE_142 : Cond.methodLinkNest "FlowFlattener$Weaver" 142 y_FF_ends "FlowFlattener" ∈ lw_tbl := List.mem_append_right _ (List.mem_of_getElem? (i := 434) (by decide +kernel))
set_option maxRecDepth 20000 in
theorem ql_WE_83 : Cond.methodLink "FlowFlattener$Weaver" 83 y_WE_writeCatching ∈ WS := ws_t (List.mem_of_getElem? (i := 435) (by decide +kernel)) rfl
set_option maxRecDepth 20000 in
theorem ql_WE_152 : Cond.methodLink "FlowFlattener$Weaver" 152 y_CO_covers ∈ WS := ws_t (List.mem_of_getElem? (i := 439) (by decide +kernel)) rfl
set_option maxRecDepth 20000 in
theorem ql_WE_156 : Cond.methodLink "FlowFlattener$Weaver" 156 y_CO_appendHandler ∈ WS := ws_t (List.mem_of_getElem? (i := 440) (by decide +kernel)) rfl
set_option maxRecDepth 20000 in
theorem ql_LA_41 : Cond.methodLink "FlowFlattenerLaw" 41 y_FF_length ∈ WS := ws_t (List.mem_of_getElem? (i := 441) (by decide +kernel)) rfl
set_option maxRecDepth 20000 in
theorem ql_FF_95 : Cond.methodLink "FlowFlattener" 95 y_FF_chosen ∈ WS := ws_t (List.mem_of_getElem? (i := 445) (by decide +kernel)) rfl
set_option maxRecDepth 20000 in
theorem ql_LA_46 : Cond.methodLink "FlowFlattenerLaw" 46 y_FF_operation ∈ WS := ws_t (List.mem_of_getElem? (i := 449) (by decide +kernel)) rfl
set_option maxRecDepth 20000 in
theorem ql_LA_51 : Cond.methodLink "FlowFlattenerLaw" 51 y_FF_operand ∈ WS := ws_t (List.mem_of_getElem? (i := 453) (by decide +kernel)) rfl
set_option maxRecDepth 20000 in
theorem ql_FF_105 : Cond.constant "FlowFlattener" 105 (-2147483648) ∈ WS := ws_t (List.mem_of_getElem? (i := 457) (by decide +kernel)) rfl
set_option maxRecDepth 20000 in
theorem ql_LA_55 : Cond.methodLink "FlowFlattenerLaw" 55 y_FF_handlerAt ∈ WS := ws_t (List.mem_of_getElem? (i := 458) (by decide +kernel)) rfl
set_option maxRecDepth 20000 in
theorem ql_LA_60 : Cond.methodLink "FlowFlattenerLaw" 60 y_FF_blocks ∈ WS := ws_t (List.mem_of_getElem? (i := 462) (by decide +kernel)) rfl
set_option maxRecDepth 20000 in
theorem ql_LA_64 : Cond.methodLink "FlowFlattenerLaw" 64 y_FF_block ∈ WS := ws_t (List.mem_of_getElem? (i := 466) (by decide +kernel)) rfl
set_option maxRecDepth 20000 in
theorem ql_LA_68 : Cond.methodLink "FlowFlattenerLaw" 68 y_FF_starter ∈ WS := ws_t (List.mem_of_getElem? (i := 470) (by decide +kernel)) rfl
set_option maxRecDepth 20000 in
theorem ql_LA_73 : Cond.methodLink "FlowFlattenerLaw" 73 y_FF_run ∈ WS := ws_t (List.mem_of_getElem? (i := 474) (by decide +kernel)) rfl
set_option maxRecDepth 20000 in
theorem ql_FF_131 : Cond.methodLink "FlowFlattener" 131 y_MA_goFromStart ∈ WS := ws_t (List.mem_of_getElem? (i := 478) (by decide +kernel)) rfl
set_option maxRecDepth 20000 in
theorem ql_MA_21 : Cond.methodLink "FlowFlattener$Machine" 21 y_MA_begin ∈ WS := ws_t (List.mem_of_getElem? (i := 482) (by decide +kernel)) rfl
set_option maxRecDepth 20000 in
theorem ql_MA_32 : Cond.methodLink "FlowFlattener$Machine" 32 y_CO_has ∈ WS := ws_t (List.mem_of_getElem? (i := 486) (by decide +kernel)) rfl
set_option maxRecDepth 20000 in
theorem ql_MA_41 : Cond.methodLink "FlowFlattener$Machine" 41 y_MA_goThrough ∈ WS := ws_t (List.mem_of_getElem? (i := 487) (by decide +kernel)) rfl
set_option maxRecDepth 20000 in
theorem ql_MA_64 : Cond.methodLink "FlowFlattener$Machine" 64 y_MA_pop ∈ WS := ws_t (List.mem_of_getElem? (i := 491) (by decide +kernel)) rfl
set_option maxRecDepth 20000 in
theorem ql_MA_68 : Cond.methodLink "FlowFlattener$Machine" 68 y_BL_entry ∈ WS := ws_t (List.mem_of_getElem? (i := 495) (by decide +kernel)) rfl
set_option maxRecDepth 20000 in
theorem ql_MA_74 : Cond.methodLink "FlowFlattener$Machine" 74 y_MA_end ∈ WS := ws_t (List.mem_of_getElem? (i := 499) (by decide +kernel)) rfl
set_option maxRecDepth 20000 in
theorem ql_MA_78 : Cond.methodLink "FlowFlattener$Machine" 78 y_MA_raise ∈ WS := ws_t (List.mem_of_getElem? (i := 503) (by decide +kernel)) rfl
set_option maxRecDepth 20000 in
theorem ql_MA_106 : Cond.methodLink "FlowFlattener$Machine" 106 y_CO_catcher ∈ WS := ws_t (List.mem_of_getElem? (i := 507) (by decide +kernel)) rfl
set_option maxRecDepth 20000 in
theorem ql_CO_34 : Cond.methodLink "FlowFlattener$Code" 34 y_CO_covers ∈ WS := ws_t (List.mem_of_getElem? (i := 511) (by decide +kernel)) rfl
set_option maxRecDepth 20000 in
theorem ql_MA_89 : Cond.methodLink "FlowFlattener$Machine" 89 y_MA_push ∈ WS := ws_t (List.mem_of_getElem? (i := 512) (by decide +kernel)) rfl
set_option maxRecDepth 20000 in
theorem ql_MA_82 : Cond.methodLink "FlowFlattener$Machine" 82 y_MA_divide ∈ WS := ws_t (List.mem_of_getElem? (i := 516) (by decide +kernel)) rfl
set_option maxRecDepth 20000 in
theorem ql_MA_86 : Cond.methodLink "FlowFlattener$Machine" 86 y_MA_work ∈ WS := ws_t (List.mem_of_getElem? (i := 520) (by decide +kernel)) rfl
set_option maxRecDepth 20000 in
theorem ql_MA_93 : Cond.methodLink "FlowFlattener$Machine" 93 y_MA_pushBoth ∈ WS := ws_t (List.mem_of_getElem? (i := 524) (by decide +kernel)) rfl
set_option maxRecDepth 20000 in
theorem ql_MA_96 : Cond.methodLink "FlowFlattener$Machine" 96 y_MA_emit ∈ WS := ws_t (List.mem_of_getElem? (i := 528) (by decide +kernel)) rfl
set_option maxRecDepth 20000 in
theorem ql_MA_99 : Cond.methodLink "FlowFlattener$Machine" 99 y_MA_workOnTwo ∈ WS := ws_t (List.mem_of_getElem? (i := 532) (by decide +kernel)) rfl
set_option maxRecDepth 20000 in
theorem ql_MA_102 : Cond.methodLink "FlowFlattener$Machine" 102 y_MA_calculated ∈ WS := ws_t (List.mem_of_getElem? (i := 536) (by decide +kernel)) rfl
set_option maxRecDepth 20000 in
theorem ql_LA_77 : Cond.methodLink "FlowFlattenerLaw" 77 y_FF_result ∈ WS := ws_t (List.mem_of_getElem? (i := 539) (by decide +kernel)) rfl
set_option maxRecDepth 20000 in
theorem ql_LA_81 : Cond.methodLink "FlowFlattenerLaw" 81 y_FF_steps ∈ WS := ws_t (List.mem_of_getElem? (i := 543) (by decide +kernel)) rfl
set_option maxRecDepth 20000 in
theorem ql_LA_85 : Cond.methodLink "FlowFlattenerLaw" 85 y_FF_emits ∈ WS := ws_t (List.mem_of_getElem? (i := 547) (by decide +kernel)) rfl
set_option maxRecDepth 20000 in
theorem ql_LA_89 : Cond.methodLink "FlowFlattenerLaw" 89 y_FF_emitted ∈ WS := ws_t (List.mem_of_getElem? (i := 551) (by decide +kernel)) rfl
set_option maxRecDepth 20000 in
theorem ql_LA_93 : Cond.methodLink "FlowFlattenerLaw" 93 y_FF_local ∈ WS := ws_t (List.mem_of_getElem? (i := 555) (by decide +kernel)) rfl
set_option maxRecDepth 20000 in
theorem ql_LA_10 : Cond.classLink "FlowFlattenerLaw" 10 "FlowFlattenerModel" ∈ WS := ws_t (List.mem_of_getElem? (i := 559) (by decide +kernel)) rfl
set_option maxRecDepth 20000 in
theorem ql_LA_12 : Cond.methodLink "FlowFlattenerLaw" 12 y_MO_init ∈ WS := ws_t (List.mem_of_getElem? (i := 561) (by decide +kernel)) rfl
set_option maxRecDepth 20000 in
theorem ql_MO_1 : Cond.methodLink "FlowFlattenerModel" 1 objectInit ∈ WS := ws_t (List.mem_of_getElem? (i := 564) (by decide +kernel)) rfl
set_option maxRecDepth 20000 in
theorem ql_MO_59 : Cond.constant "FlowFlattenerModel" 59 (-2147483648) ∈ WS := ws_t (List.mem_of_getElem? (i := 565) (by decide +kernel)) rfl
set_option maxRecDepth 20000 in
theorem ql_MO_77 : Cond.fieldLink "FlowFlattenerModel" 77 "FlowFlattenerModel" "count" "I" ∈ WS := ws_t (List.mem_of_getElem? (i := 566) (by decide +kernel)) rfl
set_option maxRecDepth 20000 in
theorem ql_MO_7 : Cond.fieldLink "FlowFlattenerModel" 7 "FlowFlattenerModel" "op" "[I" ∈ WS := ws_t (List.mem_of_getElem? (i := 567) (by decide +kernel)) rfl
set_option maxRecDepth 20000 in
theorem ql_MO_13 : Cond.fieldLink "FlowFlattenerModel" 13 "FlowFlattenerModel" "arg" "[I" ∈ WS := ws_t (List.mem_of_getElem? (i := 568) (by decide +kernel)) rfl
set_option maxRecDepth 20000 in
theorem ql_MO_80 : Cond.fieldLink "FlowFlattenerModel" 80 "FlowFlattenerModel" "handlers" "I" ∈ WS := ws_t (List.mem_of_getElem? (i := 569) (by decide +kernel)) rfl
set_option maxRecDepth 20000 in
theorem ql_MO_16 : Cond.fieldLink "FlowFlattenerModel" 16 "FlowFlattenerModel" "handler" "[I" ∈ WS := ws_t (List.mem_of_getElem? (i := 570) (by decide +kernel)) rfl
set_option maxRecDepth 20000 in
theorem ql_MO_19 : Cond.fieldLink "FlowFlattenerModel" 19 "FlowFlattenerModel" "depth" "[I" ∈ WS := ws_t (List.mem_of_getElem? (i := 571) (by decide +kernel)) rfl
set_option maxRecDepth 20000 in
theorem ql_MO_22 : Cond.fieldLink "FlowFlattenerModel" 22 "FlowFlattenerModel" "over" "[Z" ∈ WS := ws_t (List.mem_of_getElem? (i := 572) (by decide +kernel)) rfl
set_option maxRecDepth 20000 in
theorem ql_MO_157 : Cond.fieldLink "FlowFlattenerModel" 157 "FlowFlattenerModel" "flatCount" "I" ∈ WS := ws_t (List.mem_of_getElem? (i := 573) (by decide +kernel)) rfl
set_option maxRecDepth 20000 in
theorem ql_MO_26 : Cond.fieldLink "FlowFlattenerModel" 26 "FlowFlattenerModel" "flatOp" "[I" ∈ WS := ws_t (List.mem_of_getElem? (i := 574) (by decide +kernel)) rfl
set_option maxRecDepth 20000 in
theorem ql_MO_29 : Cond.fieldLink "FlowFlattenerModel" 29 "FlowFlattenerModel" "flatArg" "[I" ∈ WS := ws_t (List.mem_of_getElem? (i := 575) (by decide +kernel)) rfl
set_option maxRecDepth 20000 in
theorem ql_MO_177 : Cond.fieldLink "FlowFlattenerModel" 177 "FlowFlattenerModel" "flatHandlers" "I" ∈ WS := ws_t (List.mem_of_getElem? (i := 576) (by decide +kernel)) rfl
set_option maxRecDepth 20000 in
theorem ql_MO_32 : Cond.fieldLink "FlowFlattenerModel" 32 "FlowFlattenerModel" "flatHandler" "[I" ∈ WS := ws_t (List.mem_of_getElem? (i := 577) (by decide +kernel)) rfl
set_option maxRecDepth 20000 in
theorem ql_MO_116 : Cond.fieldLink "FlowFlattenerModel" 116 "FlowFlattenerModel" "blockCount" "I" ∈ WS := ws_t (List.mem_of_getElem? (i := 578) (by decide +kernel)) rfl
set_option maxRecDepth 20000 in
theorem ql_MO_35 : Cond.fieldLink "FlowFlattenerModel" 35 "FlowFlattenerModel" "leader" "[I" ∈ WS := ws_t (List.mem_of_getElem? (i := 579) (by decide +kernel)) rfl
set_option maxRecDepth 20000 in
theorem ql_MO_38 : Cond.fieldLink "FlowFlattenerModel" 38 "FlowFlattenerModel" "last" "[I" ∈ WS := ws_t (List.mem_of_getElem? (i := 580) (by decide +kernel)) rfl
set_option maxRecDepth 20000 in
theorem ql_MO_41 : Cond.fieldLink "FlowFlattenerModel" 41 "FlowFlattenerModel" "height" "[I" ∈ WS := ws_t (List.mem_of_getElem? (i := 581) (by decide +kernel)) rfl
set_option maxRecDepth 20000 in
theorem ql_MO_44 : Cond.fieldLink "FlowFlattenerModel" 44 "FlowFlattenerModel" "state" "[I" ∈ WS := ws_t (List.mem_of_getElem? (i := 582) (by decide +kernel)) rfl
set_option maxRecDepth 20000 in
theorem ql_MO_47 : Cond.fieldLink "FlowFlattenerModel" 47 "FlowFlattenerModel" "begin" "[I" ∈ WS := ws_t (List.mem_of_getElem? (i := 583) (by decide +kernel)) rfl
set_option maxRecDepth 20000 in
theorem ql_MO_50 : Cond.fieldLink "FlowFlattenerModel" 50 "FlowFlattenerModel" "drawn" "[I" ∈ WS := ws_t (List.mem_of_getElem? (i := 584) (by decide +kernel)) rfl
set_option maxRecDepth 20000 in
theorem ql_MO_53 : Cond.fieldLink "FlowFlattenerModel" 53 "FlowFlattenerModel" "order" "[I" ∈ WS := ws_t (List.mem_of_getElem? (i := 585) (by decide +kernel)) rfl
set_option maxRecDepth 20000 in
theorem ql_MO_122 : Cond.fieldLink "FlowFlattenerModel" 122 "FlowFlattenerModel" "g" "I" ∈ WS := ws_t (List.mem_of_getElem? (i := 586) (by decide +kernel)) rfl
set_option maxRecDepth 20000 in
theorem ql_MO_56 : Cond.fieldLink "FlowFlattenerModel" 56 "FlowFlattenerModel" "starters" "[I" ∈ WS := ws_t (List.mem_of_getElem? (i := 587) (by decide +kernel)) rfl
set_option maxRecDepth 20000 in
theorem ql_MO_258 : Cond.fieldLink "FlowFlattenerModel" 258 "FlowFlattenerModel" "ran" "Z" ∈ WS := ws_t (List.mem_of_getElem? (i := 588) (by decide +kernel)) rfl
set_option maxRecDepth 20000 in
theorem ql_MO_216 : Cond.fieldLink "FlowFlattenerModel" 216 "FlowFlattenerModel" "ended" "I" ∈ WS := ws_t (List.mem_of_getElem? (i := 589) (by decide +kernel)) rfl
set_option maxRecDepth 20000 in
theorem ql_MO_60 : Cond.fieldLink "FlowFlattenerModel" 60 "FlowFlattenerModel" "result" "I" ∈ WS := ws_t (List.mem_of_getElem? (i := 590) (by decide +kernel)) rfl
set_option maxRecDepth 20000 in
theorem ql_MO_262 : Cond.fieldLink "FlowFlattenerModel" 262 "FlowFlattenerModel" "steps" "I" ∈ WS := ws_t (List.mem_of_getElem? (i := 591) (by decide +kernel)) rfl
set_option maxRecDepth 20000 in
theorem ql_MO_233 : Cond.fieldLink "FlowFlattenerModel" 233 "FlowFlattenerModel" "emits" "I" ∈ WS := ws_t (List.mem_of_getElem? (i := 592) (by decide +kernel)) rfl
set_option maxRecDepth 20000 in
theorem ql_MO_64 : Cond.fieldLink "FlowFlattenerModel" 64 "FlowFlattenerModel" "emitted" "[I" ∈ WS := ws_t (List.mem_of_getElem? (i := 593) (by decide +kernel)) rfl
set_option maxRecDepth 20000 in
theorem ql_MO_67 : Cond.fieldLink "FlowFlattenerModel" 67 "FlowFlattenerModel" "locals" "[I" ∈ WS := ws_t (List.mem_of_getElem? (i := 594) (by decide +kernel)) rfl
set_option maxRecDepth 20000 in
theorem ql_MO_70 : Cond.fieldLink "FlowFlattenerModel" 70 "FlowFlattenerModel" "stack" "[I" ∈ WS := ws_t (List.mem_of_getElem? (i := 595) (by decide +kernel)) rfl
set_option maxRecDepth 20000 in
theorem ql_MO_206 : Cond.fieldLink "FlowFlattenerModel" 206 "FlowFlattenerModel" "top" "I" ∈ WS := ws_t (List.mem_of_getElem? (i := 596) (by decide +kernel)) rfl
set_option maxRecDepth 20000 in
theorem ql_MO_213 : Cond.fieldLink "FlowFlattenerModel" 213 "FlowFlattenerModel" "at" "I" ∈ WS := ws_t (List.mem_of_getElem? (i := 597) (by decide +kernel)) rfl
set_option maxRecDepth 20000 in
theorem ql_LA_16 : Cond.methodLink "FlowFlattenerLaw" 16 y_MO_clear ∈ WS := ws_t (List.mem_of_getElem? (i := 663) (by decide +kernel)) rfl
set_option maxRecDepth 20000 in
theorem ql_LA_21 : Cond.methodLink "FlowFlattenerLaw" 21 y_MO_add ∈ WS := ws_t (List.mem_of_getElem? (i := 667) (by decide +kernel)) rfl
set_option maxRecDepth 20000 in
theorem ql_MO_83 : Cond.methodLink "FlowFlattenerModel" 83 y_MO_outside ∈ WS := ws_t (List.mem_of_getElem? (i := 671) (by decide +kernel)) rfl
set_option maxRecDepth 20000 in
theorem ql_MO_73 : Cond.methodLink "FlowFlattenerModel" 73 y_MO_jumps ∈ WS := ws_t (List.mem_of_getElem? (i := 674) (by decide +kernel)) rfl
set_option maxRecDepth 20000 in
theorem ql_MO_87 : Cond.methodLink "FlowFlattenerModel" 87 y_MO_bears ∈ WS := ws_t (List.mem_of_getElem? (i := 677) (by decide +kernel)) rfl
set_option maxRecDepth 20000 in
theorem ql_LA_26 : Cond.methodLink "FlowFlattenerLaw" 26 y_MO_handler ∈ WS := ws_t (List.mem_of_getElem? (i := 680) (by decide +kernel)) rfl
set_option maxRecDepth 20000 in
theorem ql_LA_31 : Cond.methodLink "FlowFlattenerLaw" 31 y_MO_check ∈ WS := ws_t (List.mem_of_getElem? (i := 684) (by decide +kernel)) rfl
set_option maxRecDepth 20000 in
theorem ql_MO_106 : Cond.methodLink "FlowFlattenerModel" 106 y_MO_nextOver ∈ WS := ws_t (List.mem_of_getElem? (i := 688) (by decide +kernel)) rfl
set_option maxRecDepth 20000 in
theorem ql_MO_110 : Cond.methodLink "FlowFlattenerModel" 110 y_MO_goOver ∈ WS := ws_t (List.mem_of_getElem? (i := 692) (by decide +kernel)) rfl
set_option maxRecDepth 20000 in
theorem ql_MO_90 : Cond.methodLink "FlowFlattenerModel" 90 y_MO_takes ∈ WS := ws_t (List.mem_of_getElem? (i := 696) (by decide +kernel)) rfl
set_option maxRecDepth 20000 in
theorem ql_MO_94 : Cond.methodLink "FlowFlattenerModel" 94 y_MO_gives ∈ WS := ws_t (List.mem_of_getElem? (i := 699) (by decide +kernel)) rfl
set_option maxRecDepth 20000 in
theorem ql_MO_97 : Cond.methodLink "FlowFlattenerModel" 97 y_MO_ends ∈ WS := ws_t (List.mem_of_getElem? (i := 702) (by decide +kernel)) rfl
set_option maxRecDepth 20000 in
theorem ql_MO_100 : Cond.methodLink "FlowFlattenerModel" 100 y_MO_reach ∈ WS := ws_t (List.mem_of_getElem? (i := 705) (by decide +kernel)) rfl
set_option maxRecDepth 20000 in
theorem ql_MO_103 : Cond.methodLink "FlowFlattenerModel" 103 y_MO_inRange ∈ WS := ws_t (List.mem_of_getElem? (i := 709) (by decide +kernel)) rfl
set_option maxRecDepth 20000 in
theorem ql_LA_36 : Cond.methodLink "FlowFlattenerLaw" 36 y_MO_depth ∈ WS := ws_t (List.mem_of_getElem? (i := 713) (by decide +kernel)) rfl
set_option maxRecDepth 20000 in
theorem ql_MO_113 : Cond.methodLink "FlowFlattenerModel" 113 y_MO_check ∈ WS := ws_t (List.mem_of_getElem? (i := 717) (by decide +kernel)) rfl
set_option maxRecDepth 20000 in
theorem ql_LA_40 : Cond.methodLink "FlowFlattenerLaw" 40 y_MO_flatten ∈ WS := ws_t (List.mem_of_getElem? (i := 718) (by decide +kernel)) rfl
set_option maxRecDepth 20000 in
theorem ql_MO_183 : Cond.methodLink "FlowFlattenerModel" 183 y_MO_cut ∈ WS := ws_t (List.mem_of_getElem? (i := 722) (by decide +kernel)) rfl
set_option maxRecDepth 20000 in
theorem ql_MO_119 : Cond.methodLink "FlowFlattenerModel" 119 y_MO_isLeader ∈ WS := ws_t (List.mem_of_getElem? (i := 726) (by decide +kernel)) rfl
set_option maxRecDepth 20000 in
theorem ql_MO_186 : Cond.methodLink "FlowFlattenerModel" 186 y_MO_drawAll ∈ WS := ws_t (List.mem_of_getElem? (i := 730) (by decide +kernel)) rfl
set_option maxRecDepth 20000 in
theorem ql_MO_127 : Cond.methodLink "FlowFlattenerModel" 127 y_MO_draw ∈ WS := ws_t (List.mem_of_getElem? (i := 734) (by decide +kernel)) rfl
set_option maxRecDepth 20000 in
theorem ql_MO_125 : Cond.constant "FlowFlattenerModel" 125 (1664525) ∈ WS := ws_t (List.mem_of_getElem? (i := 738) (by decide +kernel)) rfl
set_option maxRecDepth 20000 in
theorem ql_MO_126 : Cond.constant "FlowFlattenerModel" 126 (1013904223) ∈ WS := ws_t (List.mem_of_getElem? (i := 739) (by decide +kernel)) rfl
set_option maxRecDepth 20000 in
theorem ql_MO_130 : Cond.methodLink "FlowFlattenerModel" 130 y_MO_taken ∈ WS := ws_t (List.mem_of_getElem? (i := 740) (by decide +kernel)) rfl
set_option maxRecDepth 20000 in
theorem ql_MO_133 : Cond.methodLink "FlowFlattenerModel" 133 y_MO_rank ∈ WS := ws_t (List.mem_of_getElem? (i := 744) (by decide +kernel)) rfl
set_option maxRecDepth 20000 in
theorem ql_MO_180 : Cond.methodLink "FlowFlattenerModel" 180 y_MO_endOf ∈ WS := ws_t (List.mem_of_getElem? (i := 748) (by decide +kernel)) rfl
set_option maxRecDepth 20000 in
theorem ql_MO_148 : Cond.methodLink "FlowFlattenerModel" 148 y_MO_bodyAt ∈ WS := ws_t (List.mem_of_getElem? (i := 752) (by decide +kernel)) rfl
set_option maxRecDepth 20000 in
theorem ql_MO_139 : Cond.methodLink "FlowFlattenerModel" 139 y_MO_conditionLength ∈ WS := ws_t (List.mem_of_getElem? (i := 756) (by decide +kernel)) rfl
set_option maxRecDepth 20000 in
theorem ql_MO_136 : Cond.methodLink "FlowFlattenerModel" 136 y_MO_junkLength ∈ WS := ws_t (List.mem_of_getElem? (i := 760) (by decide +kernel)) rfl
set_option maxRecDepth 20000 in
theorem ql_MO_151 : Cond.methodLink "FlowFlattenerModel" 151 y_MO_bodyLength ∈ WS := ws_t (List.mem_of_getElem? (i := 764) (by decide +kernel)) rfl
set_option maxRecDepth 20000 in
theorem ql_MO_154 : Cond.methodLink "FlowFlattenerModel" 154 y_MO_tailLength ∈ WS := ws_t (List.mem_of_getElem? (i := 768) (by decide +kernel)) rfl
set_option maxRecDepth 20000 in
theorem ql_MO_142 : Cond.methodLink "FlowFlattenerModel" 142 y_MO_blockAt ∈ WS := ws_t (List.mem_of_getElem? (i := 772) (by decide +kernel)) rfl
set_option maxRecDepth 20000 in
theorem ql_MO_145 : Cond.methodLink "FlowFlattenerModel" 145 y_MO_leadLength ∈ WS := ws_t (List.mem_of_getElem? (i := 776) (by decide +kernel)) rfl
set_option maxRecDepth 20000 in
theorem ql_MO_160 : Cond.methodLink "FlowFlattenerModel" 160 y_MO_write ∈ WS := ws_t (List.mem_of_getElem? (i := 780) (by decide +kernel)) rfl
set_option maxRecDepth 20000 in
theorem ql_MO_189 : Cond.methodLink "FlowFlattenerModel" 189 y_MO_writeBlock ∈ WS := ws_t (List.mem_of_getElem? (i := 784) (by decide +kernel)) rfl
set_option maxRecDepth 20000 in
theorem ql_MO_171 : Cond.methodLink "FlowFlattenerModel" 171 y_MO_condition ∈ WS := ws_t (List.mem_of_getElem? (i := 788) (by decide +kernel)) rfl
set_option maxRecDepth 20000 in
theorem ql_MO_164 : Cond.methodLink "FlowFlattenerModel" 164 y_MO_square ∈ WS := ws_t (List.mem_of_getElem? (i := 792) (by decide +kernel)) rfl
set_option maxRecDepth 20000 in
theorem ql_MO_168 : Cond.methodLink "FlowFlattenerModel" 168 y_MO_junk ∈ WS := ws_t (List.mem_of_getElem? (i := 796) (by decide +kernel)) rfl
set_option maxRecDepth 20000 in
theorem ql_MO_174 : Cond.methodLink "FlowFlattenerModel" 174 y_MO_lead ∈ WS := ws_t (List.mem_of_getElem? (i := 800) (by decide +kernel)) rfl
set_option maxRecDepth 20000 in
theorem ql_MO_192 : Cond.methodLink "FlowFlattenerModel" 192 y_MO_covers ∈ WS := ws_t (List.mem_of_getElem? (i := 804) (by decide +kernel)) rfl
set_option maxRecDepth 20000 in
theorem ql_MO_195 : Cond.methodLink "FlowFlattenerModel" 195 y_MO_spread ∈ WS := ws_t (List.mem_of_getElem? (i := 808) (by decide +kernel)) rfl
set_option maxRecDepth 20000 in
theorem ql_LA_45 : Cond.methodLink "FlowFlattenerLaw" 45 y_MO_length ∈ WS := ws_t (List.mem_of_getElem? (i := 812) (by decide +kernel)) rfl
set_option maxRecDepth 20000 in
theorem ql_LA_50 : Cond.methodLink "FlowFlattenerLaw" 50 y_MO_operation ∈ WS := ws_t (List.mem_of_getElem? (i := 816) (by decide +kernel)) rfl
set_option maxRecDepth 20000 in
theorem ql_MO_202 : Cond.methodLink "FlowFlattenerModel" 202 y_MO_isPlace ∈ WS := ws_t (List.mem_of_getElem? (i := 820) (by decide +kernel)) rfl
set_option maxRecDepth 20000 in
theorem ql_MO_198 : Cond.methodLink "FlowFlattenerModel" 198 y_MO_length ∈ WS := ws_t (List.mem_of_getElem? (i := 824) (by decide +kernel)) rfl
set_option maxRecDepth 20000 in
theorem ql_LA_54 : Cond.methodLink "FlowFlattenerLaw" 54 y_MO_operand ∈ WS := ws_t (List.mem_of_getElem? (i := 825) (by decide +kernel)) rfl
set_option maxRecDepth 20000 in
theorem ql_LA_59 : Cond.methodLink "FlowFlattenerLaw" 59 y_MO_handlerAt ∈ WS := ws_t (List.mem_of_getElem? (i := 829) (by decide +kernel)) rfl
set_option maxRecDepth 20000 in
theorem ql_LA_63 : Cond.methodLink "FlowFlattenerLaw" 63 y_MO_blocks ∈ WS := ws_t (List.mem_of_getElem? (i := 833) (by decide +kernel)) rfl
set_option maxRecDepth 20000 in
theorem ql_LA_67 : Cond.methodLink "FlowFlattenerLaw" 67 y_MO_block ∈ WS := ws_t (List.mem_of_getElem? (i := 837) (by decide +kernel)) rfl
set_option maxRecDepth 20000 in
theorem ql_LA_72 : Cond.methodLink "FlowFlattenerLaw" 72 y_MO_starter ∈ WS := ws_t (List.mem_of_getElem? (i := 841) (by decide +kernel)) rfl
set_option maxRecDepth 20000 in
theorem ql_LA_76 : Cond.methodLink "FlowFlattenerLaw" 76 y_MO_run ∈ WS := ws_t (List.mem_of_getElem? (i := 845) (by decide +kernel)) rfl
set_option maxRecDepth 20000 in
theorem ql_MO_265 : Cond.methodLink "FlowFlattenerModel" 265 y_MO_step ∈ WS := ws_t (List.mem_of_getElem? (i := 849) (by decide +kernel)) rfl
set_option maxRecDepth 20000 in
theorem ql_MO_236 : Cond.methodLink "FlowFlattenerModel" 236 y_MO_operation ∈ WS := ws_t (List.mem_of_getElem? (i := 853) (by decide +kernel)) rfl
set_option maxRecDepth 20000 in
theorem ql_MO_240 : Cond.methodLink "FlowFlattenerModel" 240 y_MO_operand ∈ WS := ws_t (List.mem_of_getElem? (i := 854) (by decide +kernel)) rfl
set_option maxRecDepth 20000 in
theorem ql_MO_243 : Cond.methodLink "FlowFlattenerModel" 243 y_MO_reckon ∈ WS := ws_t (List.mem_of_getElem? (i := 855) (by decide +kernel)) rfl
set_option maxRecDepth 20000 in
theorem ql_MO_219 : Cond.methodLink "FlowFlattenerModel" 219 y_MO_pop ∈ WS := ws_t (List.mem_of_getElem? (i := 859) (by decide +kernel)) rfl
set_option maxRecDepth 20000 in
theorem ql_MO_222 : Cond.methodLink "FlowFlattenerModel" 222 y_MO_raise ∈ WS := ws_t (List.mem_of_getElem? (i := 863) (by decide +kernel)) rfl
set_option maxRecDepth 20000 in
theorem ql_MO_209 : Cond.methodLink "FlowFlattenerModel" 209 y_MO_handlerAt ∈ WS := ws_t (List.mem_of_getElem? (i := 867) (by decide +kernel)) rfl
set_option maxRecDepth 20000 in
theorem ql_MO_226 : Cond.methodLink "FlowFlattenerModel" 226 y_MO_sum ∈ WS := ws_t (List.mem_of_getElem? (i := 868) (by decide +kernel)) rfl
set_option maxRecDepth 20000 in
theorem ql_MO_230 : Cond.methodLink "FlowFlattenerModel" 230 y_MO_push ∈ WS := ws_t (List.mem_of_getElem? (i := 872) (by decide +kernel)) rfl
set_option maxRecDepth 20000 in
theorem ql_MO_246 : Cond.methodLink "FlowFlattenerModel" 246 y_MO_branch ∈ WS := ws_t (List.mem_of_getElem? (i := 876) (by decide +kernel)) rfl
set_option maxRecDepth 20000 in
theorem ql_MO_249 : Cond.methodLink "FlowFlattenerModel" 249 y_MO_emit ∈ WS := ws_t (List.mem_of_getElem? (i := 880) (by decide +kernel)) rfl
set_option maxRecDepth 20000 in
theorem ql_MO_252 : Cond.methodLink "FlowFlattenerModel" 252 y_MO_dispatch ∈ WS := ws_t (List.mem_of_getElem? (i := 884) (by decide +kernel)) rfl
set_option maxRecDepth 20000 in
theorem ql_MO_255 : Cond.methodLink "FlowFlattenerModel" 255 y_MO_move ∈ WS := ws_t (List.mem_of_getElem? (i := 888) (by decide +kernel)) rfl
set_option maxRecDepth 20000 in
theorem ql_LA_80 : Cond.methodLink "FlowFlattenerLaw" 80 y_MO_result ∈ WS := ws_t (List.mem_of_getElem? (i := 892) (by decide +kernel)) rfl
set_option maxRecDepth 20000 in
theorem ql_LA_84 : Cond.methodLink "FlowFlattenerLaw" 84 y_MO_steps ∈ WS := ws_t (List.mem_of_getElem? (i := 896) (by decide +kernel)) rfl
set_option maxRecDepth 20000 in
theorem ql_LA_88 : Cond.methodLink "FlowFlattenerLaw" 88 y_MO_emits ∈ WS := ws_t (List.mem_of_getElem? (i := 900) (by decide +kernel)) rfl
set_option maxRecDepth 20000 in
theorem ql_LA_92 : Cond.methodLink "FlowFlattenerLaw" 92 y_MO_emitted ∈ WS := ws_t (List.mem_of_getElem? (i := 904) (by decide +kernel)) rfl
set_option maxRecDepth 20000 in
theorem ql_LA_96 : Cond.methodLink "FlowFlattenerLaw" 96 y_MO_local ∈ WS := ws_t (List.mem_of_getElem? (i := 908) (by decide +kernel)) rfl
set_option maxRecDepth 20000 in
theorem q_obj1 : Cond.instanceMethod objectInit ∈ WS := ws_t (List.mem_of_getElem? (i := 15) (by decide +kernel)) rfl
set_option maxRecDepth 20000 in
theorem q_obj2 : Cond.code objectInit ⟨#[0xb1]⟩ 1 none ∈ WS := ws_t (List.mem_of_getElem? (i := 16) (by decide +kernel)) rfl
