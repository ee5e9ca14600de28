theorem k_in {big ws : List Cond} (ps : List Nat) (hp : ws = ps.filterMap (fun i => big[i]?)) : ∀ w ∈ ws, w ∈ big := by
  intro w hw
  rw [hp] at hw
  obtain ⟨i, -, hi⟩ := List.mem_filterMap.mp hw
  exact List.mem_of_getElem? hi
set_option maxRecDepth 100000 in
theorem t_nest : ∀ w ∈ kNests.map (fun q => Cond.methodLinkNest q.1 q.2.1 q.2.2.1 q.2.2.2), w ∈ lw_tbl := k_in [898, 903, 852, 853, 691, 711, 736, 753, 216, 756, 735, 285, 643, 772, 530] (by decide +kernel)
set_option maxRecDepth 100000 in
theorem t_C0 : ∀ w ∈ wsX00, w ∈ lw_tbl := k_in [142, 144, 146, 148, 150, 152] (by decide +kernel)
set_option maxRecDepth 100000 in
theorem t_C1 : ∀ w ∈ wsX10, w ∈ lw_tbl := k_in [228, 230, 232, 234] (by decide +kernel)
set_option maxRecDepth 100000 in
theorem t_C2 : ∀ w ∈ wsX20, w ∈ lw_tbl := k_in [170, 172, 174, 176, 178] (by decide +kernel)
set_option maxRecDepth 100000 in
theorem t_C3 : ∀ w ∈ wsX30, w ∈ lw_tbl := k_in [293, 295] (by decide +kernel)
set_option maxRecDepth 100000 in
theorem t_C4 : ∀ w ∈ wsX40, w ∈ lw_tbl := k_in [337, 339, 341, 343] (by decide +kernel)
set_option maxRecDepth 100000 in
theorem t_C5 : ∀ w ∈ wsX50, w ∈ lw_tbl := k_in [196, 198, 200, 202, 204] (by decide +kernel)
set_option maxRecDepth 100000 in
theorem t_C6 : ∀ w ∈ wsX60, w ∈ lw_tbl := k_in [254, 256, 258, 260, 262, 264, 266, 268, 270, 272, 274] (by decide +kernel)
set_option maxRecDepth 100000 in
theorem t_C7 : ∀ w ∈ wsX70, w ∈ lw_tbl := k_in [308, 310, 312, 314, 316, 318, 320, 322, 324] (by decide +kernel)
set_option maxRecDepth 100000 in
theorem t_C8 : ∀ w ∈ wsX80, w ∈ lw_tbl := k_in [96, 98, 100, 102, 104, 106, 108, 110, 112, 114, 116, 118] (by decide +kernel)
set_option maxRecDepth 100000 in
theorem t_C9 : ∀ w ∈ wsX90, w ∈ lw_tbl := k_in [353, 355, 357, 359, 361, 363, 365] (by decide +kernel)
set_option maxRecDepth 100000 in
theorem t_h_fillF : (.code yJ7_fill_53178 cJ7_fill_53178 4 none) ∈ lw_tbl := k_in (ws := [(.code yJ7_fill_53178 cJ7_fill_53178 4 none)]) [63] (by decide +kernel) _ List.mem_cons_self
theorem t_O_fillF : ∀ w ∈ O_fillF, w ∈ lw_tbl := fun w h => nomatch h
theorem t_WfillF : ∀ w ∈ W_fillF, w ∈ lw_tbl := List.forall_mem_cons.mpr ⟨t_h_fillF, t_O_fillF⟩
set_option maxRecDepth 100000 in
theorem t_h_X8_init : (.code yX8_init cX8_init 1 none) ∈ lw_tbl := k_in (ws := [(.code yX8_init cX8_init 1 none)]) [59] (by decide +kernel) _ List.mem_cons_self
set_option maxRecDepth 100000 in
theorem t_O_X8_init : ∀ w ∈ O_X8_init, w ∈ lw_tbl := k_in [60, 53, 54, 121, 71, 74, 75, 122, 77, 81, 85, 87, 91, 94, 95, 61, 62, 29] (by decide +kernel)
theorem t_WX8_init : ∀ w ∈ W_X8_init, w ∈ lw_tbl := List.forall_mem_cons.mpr ⟨t_h_X8_init, List.forall_mem_append.mpr ⟨t_O_X8_init, List.forall_mem_append.mpr ⟨t_C8, t_WfillF⟩⟩⟩
set_option maxRecDepth 100000 in
theorem t_h_X0_init : (.code yX0_init cX0_init 2 none) ∈ lw_tbl := k_in (ws := [(.code yX0_init cX0_init 2 none)]) [127] (by decide +kernel) _ List.mem_cons_self
set_option maxRecDepth 100000 in
theorem t_O_X0_init : ∀ w ∈ O_X0_init, w ∈ lw_tbl := k_in [128, 53, 54, 129, 122, 134, 136, 139, 130, 140, 141] (by decide +kernel)
theorem t_WX0_init : ∀ w ∈ W_X0_init, w ∈ lw_tbl := List.forall_mem_cons.mpr ⟨t_h_X0_init, List.forall_mem_append.mpr ⟨t_O_X0_init, t_C0⟩⟩
set_option maxRecDepth 100000 in
theorem t_h_X2_init : (.code yX2_init cX2_init 1 none) ∈ lw_tbl := k_in (ws := [(.code yX2_init cX2_init 1 none)]) [159] (by decide +kernel) _ List.mem_cons_self
set_option maxRecDepth 100000 in
theorem t_O_X2_init : ∀ w ∈ O_X2_init, w ∈ lw_tbl := k_in [160, 53, 54, 122, 162, 121, 164, 166, 168, 169, 161, 62, 29] (by decide +kernel)
theorem t_WX2_init : ∀ w ∈ W_X2_init, w ∈ lw_tbl := List.forall_mem_cons.mpr ⟨t_h_X2_init, List.forall_mem_append.mpr ⟨t_O_X2_init, List.forall_mem_append.mpr ⟨t_C2, t_WfillF⟩⟩⟩
set_option maxRecDepth 100000 in
theorem t_h_X5_init : (.code yX5_init cX5_init 4 none) ∈ lw_tbl := k_in (ws := [(.code yX5_init cX5_init 4 none)]) [185] (by decide +kernel) _ List.mem_cons_self
set_option maxRecDepth 100000 in
theorem t_O_X5_init : ∀ w ∈ O_X5_init, w ∈ lw_tbl := k_in [186, 53, 54, 122, 188, 207, 191, 193, 194, 195, 187, 62, 29] (by decide +kernel)
theorem t_WX5_init : ∀ w ∈ W_X5_init, w ∈ lw_tbl := List.forall_mem_cons.mpr ⟨t_h_X5_init, List.forall_mem_append.mpr ⟨t_O_X5_init, List.forall_mem_append.mpr ⟨t_C5, t_WfillF⟩⟩⟩
set_option maxRecDepth 100000 in
theorem t_h_X1_init : (.code yX1_init cX1_init 1 none) ∈ lw_tbl := k_in (ws := [(.code yX1_init cX1_init 1 none)]) [218] (by decide +kernel) _ List.mem_cons_self
set_option maxRecDepth 100000 in
theorem t_O_X1_init : ∀ w ∈ O_X1_init, w ∈ lw_tbl := k_in [219, 53, 54] (by decide +kernel)
theorem t_WX1_init : ∀ w ∈ W_X1_init, w ∈ lw_tbl := List.forall_mem_cons.mpr ⟨t_h_X1_init, t_O_X1_init⟩
set_option maxRecDepth 100000 in
theorem t_h_X6_init : (.code yX6_init cX6_init 5 none) ∈ lw_tbl := k_in (ws := [(.code yX6_init cX6_init 5 none)]) [212] (by decide +kernel) _ List.mem_cons_self
set_option maxRecDepth 100000 in
theorem t_O_X6_init : ∀ w ∈ O_X6_init, w ∈ lw_tbl := k_in [213, 53, 54, 122, 238, 240, 207, 242, 121, 244, 246, 248, 214, 215, 34, 217, 249, 250, 251, 252, 253, 237, 62, 29] (by decide +kernel)
theorem t_WX6_init : ∀ w ∈ W_X6_init, w ∈ lw_tbl := List.forall_mem_cons.mpr ⟨t_h_X6_init, List.forall_mem_append.mpr ⟨t_O_X6_init, List.forall_mem_append.mpr ⟨t_C6, List.forall_mem_append.mpr ⟨t_C1, List.forall_mem_append.mpr ⟨t_WX1_init, t_WfillF⟩⟩⟩⟩⟩
set_option maxRecDepth 100000 in
theorem t_h_X3_init : (.code yX3_init cX3_init 1 none) ∈ lw_tbl := k_in (ws := [(.code yX3_init cX3_init 1 none)]) [287] (by decide +kernel) _ List.mem_cons_self
set_option maxRecDepth 100000 in
theorem t_O_X3_init : ∀ w ∈ O_X3_init, w ∈ lw_tbl := k_in [288, 53, 54, 122, 292] (by decide +kernel)
theorem t_WX3_init : ∀ w ∈ W_X3_init, w ∈ lw_tbl := List.forall_mem_cons.mpr ⟨t_h_X3_init, List.forall_mem_append.mpr ⟨t_O_X3_init, t_C3⟩⟩
set_option maxRecDepth 100000 in
theorem t_h_X7_init : (.code yX7_init cX7_init 6 none) ∈ lw_tbl := k_in (ws := [(.code yX7_init cX7_init 6 none)]) [281] (by decide +kernel) _ List.mem_cons_self
set_option maxRecDepth 100000 in
theorem t_O_X7_init : ∀ w ∈ O_X7_init, w ∈ lw_tbl := k_in [282, 53, 54, 283, 284, 36, 286, 299, 301, 122, 302, 303, 304, 305, 306, 307] (by decide +kernel)
theorem t_WX7_init : ∀ w ∈ W_X7_init, w ∈ lw_tbl := List.forall_mem_cons.mpr ⟨t_h_X7_init, List.forall_mem_append.mpr ⟨t_O_X7_init, List.forall_mem_append.mpr ⟨t_C3, List.forall_mem_append.mpr ⟨t_WX3_init, t_C7⟩⟩⟩⟩
set_option maxRecDepth 100000 in
theorem t_h_X4_init : (.code yX4_init cX4_init 3 none) ∈ lw_tbl := k_in (ws := [(.code yX4_init cX4_init 3 none)]) [331] (by decide +kernel) _ List.mem_cons_self
set_option maxRecDepth 100000 in
theorem t_O_X4_init : ∀ w ∈ O_X4_init, w ∈ lw_tbl := k_in [332, 53, 54, 122, 334, 335, 336] (by decide +kernel)
theorem t_WX4_init : ∀ w ∈ W_X4_init, w ∈ lw_tbl := List.forall_mem_cons.mpr ⟨t_h_X4_init, List.forall_mem_append.mpr ⟨t_O_X4_init, t_C4⟩⟩
set_option maxRecDepth 100000 in
theorem t_h_X9_init : (.code yX9_init cX9_init 1 none) ∈ lw_tbl := k_in (ws := [(.code yX9_init cX9_init 1 none)]) [51] (by decide +kernel) _ List.mem_cons_self
set_option maxRecDepth 100000 in
theorem t_O_X9_init : ∀ w ∈ O_X9_init, w ∈ lw_tbl := k_in [52, 53, 54, 55, 56, 28, 57, 58, 346, 123, 124, 30, 125, 126, 347, 155, 156, 31, 157, 158, 348, 181, 182, 32, 183, 184, 349, 208, 209, 33, 210, 211, 350, 277, 278, 35, 279, 280, 351, 327, 328, 37, 329, 330, 352] (by decide +kernel)
theorem t_WX9_init : ∀ w ∈ W_X9_init, w ∈ lw_tbl := List.forall_mem_cons.mpr ⟨t_h_X9_init, List.forall_mem_append.mpr ⟨t_O_X9_init, List.forall_mem_append.mpr ⟨t_C8, List.forall_mem_append.mpr ⟨t_WX8_init, List.forall_mem_append.mpr ⟨t_C9, List.forall_mem_append.mpr ⟨t_C0, List.forall_mem_append.mpr ⟨t_WX0_init, List.forall_mem_append.mpr ⟨t_C2, List.forall_mem_append.mpr ⟨t_WX2_init, List.forall_mem_append.mpr ⟨t_C5, List.forall_mem_append.mpr ⟨t_WX5_init, List.forall_mem_append.mpr ⟨t_C6, List.forall_mem_append.mpr ⟨t_WX6_init, List.forall_mem_append.mpr ⟨t_C7, List.forall_mem_append.mpr ⟨t_WX7_init, List.forall_mem_append.mpr ⟨t_C4, t_WX4_init⟩⟩⟩⟩⟩⟩⟩⟩⟩⟩⟩⟩⟩⟩⟩⟩
set_option maxRecDepth 100000 in
theorem t_h_createRouter : (.code yX8_createRouter cX8_createRouter 2 (some .int)) ∈ lw_tbl := k_in (ws := [(.code yX8_createRouter cX8_createRouter 2 (some .int))]) [444] (by decide +kernel) _ List.mem_cons_self
set_option maxRecDepth 100000 in
theorem t_O_createRouter : ∀ w ∈ O_createRouter, w ∈ lw_tbl := k_in [64, 71] (by decide +kernel)
theorem t_WcreateRouter : ∀ w ∈ W_createRouter, w ∈ lw_tbl := List.forall_mem_cons.mpr ⟨t_h_createRouter, List.forall_mem_append.mpr ⟨t_O_createRouter, t_C8⟩⟩
set_option maxRecDepth 100000 in
theorem t_h_addRouter : (.code yX9_addRouter cX9_addRouter 1 (some .int)) ∈ lw_tbl := k_in (ws := [(.code yX9_addRouter cX9_addRouter 1 (some .int))]) [371] (by decide +kernel) _ List.mem_cons_self
set_option maxRecDepth 100000 in
theorem t_O_addRouter : ∀ w ∈ O_addRouter, w ∈ lw_tbl := k_in [346, 65, 441, 442, 443, 28] (by decide +kernel)
theorem t_WaddRouter : ∀ w ∈ W_addRouter, w ∈ lw_tbl := List.forall_mem_cons.mpr ⟨t_h_addRouter, List.forall_mem_append.mpr ⟨t_O_addRouter, List.forall_mem_append.mpr ⟨t_C9, List.forall_mem_append.mpr ⟨t_C8, t_WcreateRouter⟩⟩⟩⟩
set_option maxRecDepth 100000 in
theorem t_h_reqRouter : (.code yX9_requireRouter cX9_requireRouter 2 none) ∈ lw_tbl := k_in (ws := [(.code yX9_requireRouter cX9_requireRouter 2 none)]) [452] (by decide +kernel) _ List.mem_cons_self
set_option maxRecDepth 100000 in
theorem t_O_reqRouter : ∀ w ∈ O_reqRouter, w ∈ lw_tbl := k_in [346, 65] (by decide +kernel)
theorem t_WreqRouter : ∀ w ∈ W_reqRouter, w ∈ lw_tbl := List.forall_mem_cons.mpr ⟨t_h_reqRouter, List.forall_mem_append.mpr ⟨t_O_reqRouter, List.forall_mem_append.mpr ⟨t_C9, t_C8⟩⟩⟩
set_option maxRecDepth 100000 in
theorem t_h_isArea : (.code yX9_isArea cX9_isArea 1 (some .boolean)) ∈ lw_tbl := k_in (ws := [(.code yX9_isArea cX9_isArea 1 (some .boolean))]) [487] (by decide +kernel) _ List.mem_cons_self
theorem t_O_isArea : ∀ w ∈ O_isArea, w ∈ lw_tbl := fun w h => nomatch h
theorem t_WisArea : ∀ w ∈ W_isArea, w ∈ lw_tbl := List.forall_mem_cons.mpr ⟨t_h_isArea, t_O_isArea⟩
set_option maxRecDepth 100000 in
theorem t_h_reqMetric : (.code yX9_requireMetric cX9_requireMetric 1 none) ∈ lw_tbl := k_in (ws := [(.code yX9_requireMetric cX9_requireMetric 1 none)]) [491] (by decide +kernel) _ List.mem_cons_self
theorem t_O_reqMetric : ∀ w ∈ O_reqMetric, w ∈ lw_tbl := fun w h => nomatch h
theorem t_WreqMetric : ∀ w ∈ W_reqMetric, w ∈ lw_tbl := List.forall_mem_cons.mpr ⟨t_h_reqMetric, t_O_reqMetric⟩
set_option maxRecDepth 100000 in
theorem t_h_wakeAll : (.code yX7_wakeAll cX7_wakeAll 1 none) ∈ lw_tbl := k_in (ws := [(.code yX7_wakeAll cX7_wakeAll 1 none)]) [497] (by decide +kernel) _ List.mem_cons_self
set_option maxRecDepth 100000 in
theorem t_O_wakeAll : ∀ w ∈ O_wakeAll, w ∈ lw_tbl := k_in [302, 498, 62, 29] (by decide +kernel)
theorem t_WwakeAll : ∀ w ∈ W_wakeAll, w ∈ lw_tbl := List.forall_mem_cons.mpr ⟨t_h_wakeAll, List.forall_mem_append.mpr ⟨t_O_wakeAll, List.forall_mem_append.mpr ⟨t_C7, t_WfillF⟩⟩⟩
set_option maxRecDepth 100000 in
theorem t_h_attach : (.code yX8_attach cX8_attach 5 none) ∈ lw_tbl := k_in (ws := [(.code yX8_attach cX8_attach 5 none)]) [506] (by decide +kernel) _ List.mem_cons_self
set_option maxRecDepth 100000 in
theorem t_O_attach : ∀ w ∈ O_attach, w ∈ lw_tbl := k_in [81, 85, 94, 87, 95] (by decide +kernel)
theorem t_Wattach : ∀ w ∈ W_attach, w ∈ lw_tbl := List.forall_mem_cons.mpr ⟨t_h_attach, List.forall_mem_append.mpr ⟨t_O_attach, t_C8⟩⟩
set_option maxRecDepth 100000 in
theorem t_h_createLink : (.code yX8_createLink cX8_createLink 7 (some .int)) ∈ lw_tbl := k_in (ws := [(.code yX8_createLink cX8_createLink 7 (some .int))]) [502] (by decide +kernel) _ List.mem_cons_self
set_option maxRecDepth 100000 in
theorem t_O_createLink : ∀ w ∈ O_createLink, w ∈ lw_tbl := k_in [69, 74, 77, 503, 505, 2, 28] (by decide +kernel)
theorem t_WcreateLink : ∀ w ∈ W_createLink, w ∈ lw_tbl := List.forall_mem_cons.mpr ⟨t_h_createLink, List.forall_mem_append.mpr ⟨t_O_createLink, List.forall_mem_append.mpr ⟨t_C8, t_Wattach⟩⟩⟩
set_option maxRecDepth 100000 in
theorem t_h_addLink : (.code yX9_addLink cX9_addLink 6 (some .int)) ∈ lw_tbl := k_in (ws := [(.code yX9_addLink cX9_addLink 6 (some .int))]) [448] (by decide +kernel) _ List.mem_cons_self
set_option maxRecDepth 100000 in
theorem t_O_addLink : ∀ w ∈ O_addLink, w ∈ lw_tbl := k_in [449, 451, 1, 27, 485, 486, 489, 490, 346, 70, 351, 494, 495, 496, 35, 499, 500, 501, 28] (by decide +kernel)
theorem t_WaddLink : ∀ w ∈ W_addLink, w ∈ lw_tbl := List.forall_mem_cons.mpr ⟨t_h_addLink, List.forall_mem_append.mpr ⟨t_O_addLink, List.forall_mem_append.mpr ⟨t_WreqRouter, List.forall_mem_append.mpr ⟨t_WisArea, List.forall_mem_append.mpr ⟨t_WreqMetric, List.forall_mem_append.mpr ⟨t_C9, List.forall_mem_append.mpr ⟨t_C8, List.forall_mem_append.mpr ⟨t_WwakeAll, t_WcreateLink⟩⟩⟩⟩⟩⟩⟩⟩
set_option maxRecDepth 100000 in
theorem t_h_reqNetwork : (.code yX9_requireNetwork cX9_requireNetwork 1 none) ∈ lw_tbl := k_in (ws := [(.code yX9_requireNetwork cX9_requireNetwork 1 none)]) [523] (by decide +kernel) _ List.mem_cons_self
theorem t_O_reqNetwork : ∀ w ∈ O_reqNetwork, w ∈ lw_tbl := fun w h => nomatch h
theorem t_WreqNetwork : ∀ w ∈ W_reqNetwork, w ∈ lw_tbl := List.forall_mem_cons.mpr ⟨t_h_reqNetwork, t_O_reqNetwork⟩
set_option maxRecDepth 100000 in
theorem t_h_touches : (.code yX8_touches cX8_touches 3 (some .boolean)) ∈ lw_tbl := k_in (ws := [(.code yX8_touches cX8_touches 3 (some .boolean))]) [529] (by decide +kernel) _ List.mem_cons_self
set_option maxRecDepth 100000 in
theorem t_O_touches : ∀ w ∈ O_touches, w ∈ lw_tbl := k_in [27, 486, 95] (by decide +kernel)
theorem t_Wtouches : ∀ w ∈ W_touches, w ∈ lw_tbl := List.forall_mem_cons.mpr ⟨t_h_touches, List.forall_mem_append.mpr ⟨t_O_touches, List.forall_mem_append.mpr ⟨t_WisArea, t_C8⟩⟩⟩
set_option maxRecDepth 100000 in
theorem t_h_announcementAt : (.code yX8_announcementAt cX8_announcementAt 4 (some .int)) ∈ lw_tbl := k_in (ws := [(.code yX8_announcementAt cX8_announcementAt 4 (some .int))]) [535] (by decide +kernel) _ List.mem_cons_self
theorem t_O_announcementAt : ∀ w ∈ O_announcementAt, w ∈ lw_tbl := fun w h => nomatch h
theorem t_WannouncementAt : ∀ w ∈ W_announcementAt, w ∈ lw_tbl := List.forall_mem_cons.mpr ⟨t_h_announcementAt, t_O_announcementAt⟩
set_option maxRecDepth 100000 in
theorem t_h_announce : (.code yX9_announce cX9_announce 7 (some .int)) ∈ lw_tbl := k_in (ws := [(.code yX9_announce cX9_announce 7 (some .int))]) [520] (by decide +kernel) _ List.mem_cons_self
set_option maxRecDepth 100000 in
theorem t_O_announce : ∀ w ∈ O_announce, w ∈ lw_tbl := k_in [449, 451, 1, 27, 521, 522, 346, 526, 527, 528, 28, 532, 533, 534, 92, 351, 494, 495, 496, 35] (by decide +kernel)
theorem t_Wannounce : ∀ w ∈ W_announce, w ∈ lw_tbl := List.forall_mem_cons.mpr ⟨t_h_announce, List.forall_mem_append.mpr ⟨t_O_announce, List.forall_mem_append.mpr ⟨t_WreqRouter, List.forall_mem_append.mpr ⟨t_WreqNetwork, List.forall_mem_append.mpr ⟨t_C9, List.forall_mem_append.mpr ⟨t_Wtouches, List.forall_mem_append.mpr ⟨t_WannouncementAt, List.forall_mem_append.mpr ⟨t_C8, t_WwakeAll⟩⟩⟩⟩⟩⟩⟩⟩
set_option maxRecDepth 100000 in
theorem t_h_linkCount : (.code yX9_linkCount cX9_linkCount 1 (some .int)) ∈ lw_tbl := k_in (ws := [(.code yX9_linkCount cX9_linkCount 1 (some .int))]) [871] (by decide +kernel) _ List.mem_cons_self
set_option maxRecDepth 100000 in
theorem t_O_linkCount : ∀ w ∈ O_linkCount, w ∈ lw_tbl := k_in [346, 70] (by decide +kernel)
theorem t_WlinkCount : ∀ w ∈ W_linkCount, w ∈ lw_tbl := List.forall_mem_cons.mpr ⟨t_h_linkCount, List.forall_mem_append.mpr ⟨t_O_linkCount, List.forall_mem_append.mpr ⟨t_C9, t_C8⟩⟩⟩
set_option maxRecDepth 100000 in
theorem t_h_below : (.code yL_below cL_below 2 (some .int)) ∈ lw_tbl := k_in (ws := [(.code yL_below cL_below 2 (some .int))]) [859] (by decide +kernel) _ List.mem_cons_self
set_option maxRecDepth 100000 in
theorem t_O_below : ∀ w ∈ O_below, w ∈ lw_tbl := k_in [860] (by decide +kernel)
theorem t_Wbelow : ∀ w ∈ W_below, w ∈ lw_tbl := List.forall_mem_cons.mpr ⟨t_h_below, t_O_below⟩
set_option maxRecDepth 100000 in
theorem t_h_routerCount : (.code yX9_routerCount cX9_routerCount 1 (some .int)) ∈ lw_tbl := k_in (ws := [(.code yX9_routerCount cX9_routerCount 1 (some .int))]) [875] (by decide +kernel) _ List.mem_cons_self
set_option maxRecDepth 100000 in
theorem t_O_routerCount : ∀ w ∈ O_routerCount, w ∈ lw_tbl := k_in [346, 65] (by decide +kernel)
theorem t_WrouterCount : ∀ w ∈ W_routerCount, w ∈ lw_tbl := List.forall_mem_cons.mpr ⟨t_h_routerCount, List.forall_mem_append.mpr ⟨t_O_routerCount, List.forall_mem_append.mpr ⟨t_C9, t_C8⟩⟩⟩
set_option maxRecDepth 100000 in
theorem t_h_reqLink : (.code yX9_requireLink cX9_requireLink 2 none) ∈ lw_tbl := k_in (ws := [(.code yX9_requireLink cX9_requireLink 2 none)]) [514] (by decide +kernel) _ List.mem_cons_self
set_option maxRecDepth 100000 in
theorem t_O_reqLink : ∀ w ∈ O_reqLink, w ∈ lw_tbl := k_in [346, 70] (by decide +kernel)
theorem t_WreqLink : ∀ w ∈ W_reqLink, w ∈ lw_tbl := List.forall_mem_cons.mpr ⟨t_h_reqLink, List.forall_mem_append.mpr ⟨t_O_reqLink, List.forall_mem_append.mpr ⟨t_C9, t_C8⟩⟩⟩
set_option maxRecDepth 100000 in
theorem t_h_switchLink : (.code yX8_switchLink cX8_switchLink 4 (some .boolean)) ∈ lw_tbl := k_in (ws := [(.code yX8_switchLink cX8_switchLink 4 (some .boolean))]) [883] (by decide +kernel) _ List.mem_cons_self
set_option maxRecDepth 100000 in
theorem t_O_switchLink : ∀ w ∈ O_switchLink, w ∈ lw_tbl := k_in [74, 75] (by decide +kernel)
theorem t_WswitchLink : ∀ w ∈ W_switchLink, w ∈ lw_tbl := List.forall_mem_cons.mpr ⟨t_h_switchLink, List.forall_mem_append.mpr ⟨t_O_switchLink, t_C8⟩⟩
set_option maxRecDepth 100000 in
theorem t_h_setLink : (.code yX9_setLink cX9_setLink 3 (some .boolean)) ∈ lw_tbl := k_in (ws := [(.code yX9_setLink cX9_setLink 3 (some .boolean))]) [879] (by decide +kernel) _ List.mem_cons_self
set_option maxRecDepth 100000 in
theorem t_O_setLink : ∀ w ∈ O_setLink, w ∈ lw_tbl := k_in [511, 513, 3, 27, 351, 494, 495, 496, 35, 346, 880, 881, 882, 28] (by decide +kernel)
theorem t_WsetLink : ∀ w ∈ W_setLink, w ∈ lw_tbl := List.forall_mem_cons.mpr ⟨t_h_setLink, List.forall_mem_append.mpr ⟨t_O_setLink, List.forall_mem_append.mpr ⟨t_WreqLink, List.forall_mem_append.mpr ⟨t_C9, List.forall_mem_append.mpr ⟨t_WwakeAll, t_WswitchLink⟩⟩⟩⟩⟩
set_option maxRecDepth 100000 in
theorem t_h_portAt : (.code yX8_portAt cX8_portAt 3 (some .int)) ∈ lw_tbl := k_in (ws := [(.code yX8_portAt cX8_portAt 3 (some .int))]) [625] (by decide +kernel) _ List.mem_cons_self
set_option maxRecDepth 100000 in
theorem t_O_portAt : ∀ w ∈ O_portAt, w ∈ lw_tbl := k_in [94] (by decide +kernel)
theorem t_WportAt : ∀ w ∈ W_portAt, w ∈ lw_tbl := List.forall_mem_cons.mpr ⟨t_h_portAt, List.forall_mem_append.mpr ⟨t_O_portAt, t_C8⟩⟩
set_option maxRecDepth 100000 in
theorem t_h_switchRouter : (.code yX8_switchRouter cX8_switchRouter 5 (some .boolean)) ∈ lw_tbl := k_in (ws := [(.code yX8_switchRouter cX8_switchRouter 5 (some .boolean))]) [891] (by decide +kernel) _ List.mem_cons_self
set_option maxRecDepth 100000 in
theorem t_O_switchRouter : ∀ w ∈ O_switchRouter, w ∈ lw_tbl := k_in [71, 87, 75, 892, 623, 624, 28] (by decide +kernel)
theorem t_WswitchRouter : ∀ w ∈ W_switchRouter, w ∈ lw_tbl := List.forall_mem_cons.mpr ⟨t_h_switchRouter, List.forall_mem_append.mpr ⟨t_O_switchRouter, List.forall_mem_append.mpr ⟨t_C8, t_WportAt⟩⟩⟩
set_option maxRecDepth 100000 in
theorem t_h_routerKey : (.code yX9_routerKey cX9_routerKey 2 (some .int)) ∈ lw_tbl := k_in (ws := [(.code yX9_routerKey cX9_routerKey 2 (some .int))]) [645] (by decide +kernel) _ List.mem_cons_self
theorem t_O_routerKey : ∀ w ∈ O_routerKey, w ∈ lw_tbl := fun w h => nomatch h
theorem t_WrouterKey : ∀ w ∈ W_routerKey, w ∈ lw_tbl := List.forall_mem_cons.mpr ⟨t_h_routerKey, t_O_routerKey⟩
set_option maxRecDepth 100000 in
theorem t_h_forgetKey : (.code yX2_forgetKey cX2_forgetKey 2 none) ∈ lw_tbl := k_in (ws := [(.code yX2_forgetKey cX2_forgetKey 2 none)]) [902] (by decide +kernel) _ List.mem_cons_self
set_option maxRecDepth 100000 in
theorem t_O_forgetKey : ∀ w ∈ O_forgetKey, w ∈ lw_tbl := k_in [162, 164] (by decide +kernel)
theorem t_WforgetKey : ∀ w ∈ W_forgetKey, w ∈ lw_tbl := List.forall_mem_cons.mpr ⟨t_h_forgetKey, List.forall_mem_append.mpr ⟨t_O_forgetKey, t_C2⟩⟩
set_option maxRecDepth 100000 in
theorem t_h_summaryKey : (.code yX9_summaryKey cX9_summaryKey 3 (some .int)) ∈ lw_tbl := k_in (ws := [(.code yX9_summaryKey cX9_summaryKey 3 (some .int))]) [755] (by decide +kernel) _ List.mem_cons_self
theorem t_O_summaryKey : ∀ w ∈ O_summaryKey, w ∈ lw_tbl := fun w h => nomatch h
theorem t_WsummaryKey : ∀ w ∈ W_summaryKey, w ∈ lw_tbl := List.forall_mem_cons.mpr ⟨t_h_summaryKey, t_O_summaryKey⟩
set_option maxRecDepth 100000 in
theorem t_h_replN : (.code yX2_replace cX2_replace 7 none) ∈ lw_tbl := k_in (ws := [(.code yX2_replace cX2_replace 7 none)]) [568] (by decide +kernel) _ List.mem_cons_self
set_option maxRecDepth 100000 in
theorem t_O_replN : ∀ w ∈ O_replN, w ∈ lw_tbl := k_in [168, 166, 169] (by decide +kernel)
theorem t_WreplN : ∀ w ∈ W_replN, w ∈ lw_tbl := List.forall_mem_cons.mpr ⟨t_h_replN, List.forall_mem_append.mpr ⟨t_O_replN, t_C2⟩⟩
set_option maxRecDepth 100000 in
theorem t_h_dbForget : (.code yX2_forget cX2_forget 4 none) ∈ lw_tbl := k_in (ws := [(.code yX2_forget cX2_forget 4 none)]) [896] (by decide +kernel) _ List.mem_cons_self
set_option maxRecDepth 100000 in
theorem t_O_dbForget : ∀ w ∈ O_dbForget, w ∈ lw_tbl := k_in [27, 644, 899, 901, 25, 31, 754, 897, 566, 567] (by decide +kernel)
theorem t_WdbForget : ∀ w ∈ W_dbForget, w ∈ lw_tbl := List.forall_mem_cons.mpr ⟨t_h_dbForget, List.forall_mem_append.mpr ⟨t_O_dbForget, List.forall_mem_append.mpr ⟨t_WrouterKey, List.forall_mem_append.mpr ⟨t_WforgetKey, List.forall_mem_append.mpr ⟨t_WsummaryKey, t_WreplN⟩⟩⟩⟩⟩
set_option maxRecDepth 100000 in
theorem t_h_rowOfPaths : (.code yX9_rowOfPaths cX9_rowOfPaths 2 (some .int)) ∈ lw_tbl := k_in (ws := [(.code yX9_rowOfPaths cX9_rowOfPaths 2 (some .int))]) [693] (by decide +kernel) _ List.mem_cons_self
theorem t_O_rowOfPaths : ∀ w ∈ O_rowOfPaths, w ∈ lw_tbl := fun w h => nomatch h
theorem t_WrowOfPaths : ∀ w ∈ W_rowOfPaths, w ∈ lw_tbl := List.forall_mem_cons.mpr ⟨t_h_rowOfPaths, t_O_rowOfPaths⟩
set_option maxRecDepth 100000 in
theorem t_h_clearRow : (.code yX5_clearRow cX5_clearRow 3 none) ∈ lw_tbl := k_in (ws := [(.code yX5_clearRow cX5_clearRow 3 none)]) [697] (by decide +kernel) _ List.mem_cons_self
set_option maxRecDepth 100000 in
theorem t_O_clearRow : ∀ w ∈ O_clearRow, w ∈ lw_tbl := k_in [188, 191] (by decide +kernel)
theorem t_WclearRow : ∀ w ∈ W_clearRow, w ∈ lw_tbl := List.forall_mem_cons.mpr ⟨t_h_clearRow, List.forall_mem_append.mpr ⟨t_O_clearRow, t_C5⟩⟩
set_option maxRecDepth 100000 in
theorem t_h_pathsForget : (.code yX5_forget cX5_forget 3 none) ∈ lw_tbl := k_in (ws := [(.code yX5_forget cX5_forget 3 none)]) [907] (by decide +kernel) _ List.mem_cons_self
set_option maxRecDepth 100000 in
theorem t_O_pathsForget : ∀ w ∈ O_pathsForget, w ∈ lw_tbl := k_in [27, 692, 694, 696, 12, 32] (by decide +kernel)
theorem t_WpathsForget : ∀ w ∈ W_pathsForget, w ∈ lw_tbl := List.forall_mem_cons.mpr ⟨t_h_pathsForget, List.forall_mem_append.mpr ⟨t_O_pathsForget, List.forall_mem_append.mpr ⟨t_WrowOfPaths, t_WclearRow⟩⟩⟩
set_option maxRecDepth 100000 in
theorem t_h_candClear : (.code yX1_clear cX1_clear 1 none) ∈ lw_tbl := k_in (ws := [(.code yX1_clear cX1_clear 1 none)]) [729] (by decide +kernel) _ List.mem_cons_self
set_option maxRecDepth 100000 in
theorem t_O_candClear : ∀ w ∈ O_candClear, w ∈ lw_tbl := k_in [220, 222, 224, 226] (by decide +kernel)
theorem t_WcandClear : ∀ w ∈ W_candClear, w ∈ lw_tbl := List.forall_mem_cons.mpr ⟨t_h_candClear, List.forall_mem_append.mpr ⟨t_O_candClear, t_C1⟩⟩
set_option maxRecDepth 100000 in
theorem t_h_routeAt : (.code yX9_routeAt cX9_routeAt 2 (some .int)) ∈ lw_tbl := k_in (ws := [(.code yX9_routeAt cX9_routeAt 2 (some .int))]) [758] (by decide +kernel) _ List.mem_cons_self
theorem t_O_routeAt : ∀ w ∈ O_routeAt, w ∈ lw_tbl := fun w h => nomatch h
theorem t_WrouteAt : ∀ w ∈ W_routeAt, w ∈ lw_tbl := List.forall_mem_cons.mpr ⟨t_h_routeAt, t_O_routeAt⟩
set_option maxRecDepth 100000 in
theorem t_h_store : (.code yX6_store cX6_store 3 none) ∈ lw_tbl := k_in (ws := [(.code yX6_store cX6_store 3 none)]) [766] (by decide +kernel) _ List.mem_cons_self
set_option maxRecDepth 100000 in
theorem t_O_store : ∀ w ∈ O_store, w ∈ lw_tbl := k_in [238, 240, 249, 221, 242, 223, 244, 227, 248, 225] (by decide +kernel)
theorem t_Wstore : ∀ w ∈ W_store, w ∈ lw_tbl := List.forall_mem_cons.mpr ⟨t_h_store, List.forall_mem_append.mpr ⟨t_O_store, List.forall_mem_append.mpr ⟨t_C6, t_C1⟩⟩⟩
set_option maxRecDepth 100000 in
theorem t_h_routesForget : (.code yX6_forget cX6_forget 3 none) ∈ lw_tbl := k_in (ws := [(.code yX6_forget cX6_forget 3 none)]) [911] (by decide +kernel) _ List.mem_cons_self
set_option maxRecDepth 100000 in
theorem t_O_routesForget : ∀ w ∈ O_routesForget, w ∈ lw_tbl := k_in [249, 726, 727, 728, 34, 246, 27, 757, 763, 765, 21, 33] (by decide +kernel)
theorem t_WroutesForget : ∀ w ∈ W_routesForget, w ∈ lw_tbl := List.forall_mem_cons.mpr ⟨t_h_routesForget, List.forall_mem_append.mpr ⟨t_O_routesForget, List.forall_mem_append.mpr ⟨t_C6, List.forall_mem_append.mpr ⟨t_WcandClear, List.forall_mem_append.mpr ⟨t_WrouteAt, t_Wstore⟩⟩⟩⟩⟩
set_option maxRecDepth 100000 in
theorem t_h_setRouter : (.code yX9_setRouter cX9_setRouter 4 (some .boolean)) ∈ lw_tbl := k_in (ws := [(.code yX9_setRouter cX9_setRouter 4 (some .boolean))]) [887] (by decide +kernel) _ List.mem_cons_self
set_option maxRecDepth 100000 in
theorem t_O_setRouter : ∀ w ∈ O_setRouter, w ∈ lw_tbl := k_in [449, 451, 1, 27, 351, 494, 495, 496, 35, 346, 888, 889, 890, 28, 348, 893, 894, 895, 31, 349, 904, 905, 906, 32, 350, 908, 909, 910, 33] (by decide +kernel)
theorem t_WsetRouter : ∀ w ∈ W_setRouter, w ∈ lw_tbl := List.forall_mem_cons.mpr ⟨t_h_setRouter, List.forall_mem_append.mpr ⟨t_O_setRouter, List.forall_mem_append.mpr ⟨t_WreqRouter, List.forall_mem_append.mpr ⟨t_C9, List.forall_mem_append.mpr ⟨t_WwakeAll, List.forall_mem_append.mpr ⟨t_WswitchRouter, List.forall_mem_append.mpr ⟨t_WdbForget, List.forall_mem_append.mpr ⟨t_WpathsForget, t_WroutesForget⟩⟩⟩⟩⟩⟩⟩⟩
set_option maxRecDepth 100000 in
theorem t_h_setMetric : (.code yX9_setMetric cX9_setMetric 6 (some .int)) ∈ lw_tbl := k_in (ws := [(.code yX9_setMetric cX9_setMetric 6 (some .int))]) [510] (by decide +kernel) _ List.mem_cons_self
set_option maxRecDepth 100000 in
theorem t_O_setMetric : ∀ w ∈ O_setMetric, w ∈ lw_tbl := k_in [511, 513, 3, 27, 489, 490, 346, 86, 351, 494, 495, 496, 35] (by decide +kernel)
theorem t_WsetMetric : ∀ w ∈ W_setMetric, w ∈ lw_tbl := List.forall_mem_cons.mpr ⟨t_h_setMetric, List.forall_mem_append.mpr ⟨t_O_setMetric, List.forall_mem_append.mpr ⟨t_WreqLink, List.forall_mem_append.mpr ⟨t_WreqMetric, List.forall_mem_append.mpr ⟨t_C9, List.forall_mem_append.mpr ⟨t_C8, t_WwakeAll⟩⟩⟩⟩⟩⟩
set_option maxRecDepth 100000 in
theorem t_h_holdsSlot : (.code yX2_holdsSlot cX2_holdsSlot 2 (some .boolean)) ∈ lw_tbl := k_in (ws := [(.code yX2_holdsSlot cX2_holdsSlot 2 (some .boolean))]) [556] (by decide +kernel) _ List.mem_cons_self
set_option maxRecDepth 100000 in
theorem t_O_holdsSlot : ∀ w ∈ O_holdsSlot, w ∈ lw_tbl := k_in [169] (by decide +kernel)
theorem t_WholdsSlot : ∀ w ∈ W_holdsSlot, w ∈ lw_tbl := List.forall_mem_cons.mpr ⟨t_h_holdsSlot, List.forall_mem_append.mpr ⟨t_O_holdsSlot, t_C2⟩⟩
set_option maxRecDepth 100000 in
theorem t_h_versionHeld : (.code yX2_versionHeld cX2_versionHeld 3 (some .int)) ∈ lw_tbl := k_in (ws := [(.code yX2_versionHeld cX2_versionHeld 3 (some .int))]) [560] (by decide +kernel) _ List.mem_cons_self
set_option maxRecDepth 100000 in
theorem t_O_versionHeld : ∀ w ∈ O_versionHeld, w ∈ lw_tbl := k_in [168] (by decide +kernel)
theorem t_WversionHeld : ∀ w ∈ W_versionHeld, w ∈ lw_tbl := List.forall_mem_cons.mpr ⟨t_h_versionHeld, List.forall_mem_append.mpr ⟨t_O_versionHeld, t_C2⟩⟩
set_option maxRecDepth 100000 in
theorem t_h_ageOf : (.code yX0_ageOf cX0_ageOf 2 (some .int)) ∈ lw_tbl := k_in (ws := [(.code yX0_ageOf cX0_ageOf 2 (some .int))]) [564] (by decide +kernel) _ List.mem_cons_self
set_option maxRecDepth 100000 in
theorem t_O_ageOf : ∀ w ∈ O_ageOf, w ∈ lw_tbl := k_in [131] (by decide +kernel)
theorem t_WageOf : ∀ w ∈ W_ageOf, w ∈ lw_tbl := List.forall_mem_cons.mpr ⟨t_h_ageOf, List.forall_mem_append.mpr ⟨t_O_ageOf, t_C0⟩⟩
set_option maxRecDepth 100000 in
theorem t_h_removeExpired : (.code yX7_removeExpired cX7_removeExpired 4 none) ∈ lw_tbl := k_in (ws := [(.code yX7_removeExpired cX7_removeExpired 4 none)]) [552] (by decide +kernel) _ List.mem_cons_self
set_option maxRecDepth 100000 in
theorem t_O_removeExpired : ∀ w ∈ O_removeExpired, w ∈ lw_tbl := k_in [305, 304, 132, 553, 554, 555, 31, 303, 66, 557, 558, 559, 561, 562, 563, 30, 565, 566, 567, 302] (by decide +kernel)
theorem t_WremoveExpired : ∀ w ∈ W_removeExpired, w ∈ lw_tbl := List.forall_mem_cons.mpr ⟨t_h_removeExpired, List.forall_mem_append.mpr ⟨t_O_removeExpired, List.forall_mem_append.mpr ⟨t_C7, List.forall_mem_append.mpr ⟨t_C0, List.forall_mem_append.mpr ⟨t_WholdsSlot, List.forall_mem_append.mpr ⟨t_C8, List.forall_mem_append.mpr ⟨t_WversionHeld, List.forall_mem_append.mpr ⟨t_WageOf, t_WreplN⟩⟩⟩⟩⟩⟩⟩⟩
set_option maxRecDepth 100000 in
theorem t_h_versionAt2 : (.code yX3_versionAt cX3_versionAt 2 (some .int)) ∈ lw_tbl := k_in (ws := [(.code yX3_versionAt cX3_versionAt 2 (some .int))]) [576] (by decide +kernel) _ List.mem_cons_self
set_option maxRecDepth 100000 in
theorem t_O_versionAt2 : ∀ w ∈ O_versionAt2, w ∈ lw_tbl := k_in [292] (by decide +kernel)
theorem t_WversionAt2 : ∀ w ∈ W_versionAt2, w ∈ lw_tbl := List.forall_mem_cons.mpr ⟨t_h_versionAt2, List.forall_mem_append.mpr ⟨t_O_versionAt2, t_C3⟩⟩
set_option maxRecDepth 100000 in
theorem t_h_portAt2 : (.code yX3_portAt cX3_portAt 2 (some .int)) ∈ lw_tbl := k_in (ws := [(.code yX3_portAt cX3_portAt 2 (some .int))]) [580] (by decide +kernel) _ List.mem_cons_self
set_option maxRecDepth 100000 in
theorem t_O_portAt2 : ∀ w ∈ O_portAt2, w ∈ lw_tbl := k_in [292] (by decide +kernel)
theorem t_WportAt2 : ∀ w ∈ W_portAt2, w ∈ lw_tbl := List.forall_mem_cons.mpr ⟨t_h_portAt2, List.forall_mem_append.mpr ⟨t_O_portAt2, t_C3⟩⟩
set_option maxRecDepth 100000 in
theorem t_h_canCarry : (.code yX8_canCarry cX8_canCarry 2 (some .boolean)) ∈ lw_tbl := k_in (ws := [(.code yX8_canCarry cX8_canCarry 2 (some .boolean))]) [543] (by decide +kernel) _ List.mem_cons_self
set_option maxRecDepth 100000 in
theorem t_O_canCarry : ∀ w ∈ O_canCarry, w ∈ lw_tbl := k_in [74, 71, 81] (by decide +kernel)
theorem t_WcanCarry : ∀ w ∈ W_canCarry, w ∈ lw_tbl := List.forall_mem_cons.mpr ⟨t_h_canCarry, List.forall_mem_append.mpr ⟨t_O_canCarry, t_C8⟩⟩
set_option maxRecDepth 100000 in
theorem t_h_originatorOf : (.code yX7_originatorOf cX7_originatorOf 3 (some .int)) ∈ lw_tbl := k_in (ws := [(.code yX7_originatorOf cX7_originatorOf 3 (some .int))]) [614] (by decide +kernel) _ List.mem_cons_self
theorem t_O_originatorOf : ∀ w ∈ O_originatorOf, w ∈ lw_tbl := fun w h => nomatch h
theorem t_WoriginatorOf : ∀ w ∈ W_originatorOf, w ∈ lw_tbl := List.forall_mem_cons.mpr ⟨t_h_originatorOf, t_O_originatorOf⟩
set_option maxRecDepth 100000 in
theorem t_h_replS : (.code yX2_replace cX2_replace 7 none) ∈ lw_tbl := k_in (ws := [(.code yX2_replace cX2_replace 7 none)]) [568] (by decide +kernel) _ List.mem_cons_self
set_option maxRecDepth 100000 in
theorem t_O_replS : ∀ w ∈ O_replS, w ∈ lw_tbl := k_in [168, 169, 166] (by decide +kernel)
theorem t_WreplS : ∀ w ∈ W_replS, w ∈ lw_tbl := List.forall_mem_cons.mpr ⟨t_h_replS, List.forall_mem_append.mpr ⟨t_O_replS, t_C2⟩⟩
set_option maxRecDepth 100000 in
theorem t_h_copyOf : (.code yJ7_copyOf_59c91 cJ7_copyOf_59c91 3 (some (.array .int))) ∈ lw_tbl := k_in (ws := [(.code yJ7_copyOf_59c91 cJ7_copyOf_59c91 3 (some (.array .int)))]) [598] (by decide +kernel) _ List.mem_cons_self
set_option maxRecDepth 100000 in
theorem t_O_copyOf : ∀ w ∈ O_copyOf, w ∈ lw_tbl := k_in [122, 606, 607, 44, 608, 609, 611, 610, 45] (by decide +kernel)
theorem t_WcopyOf : ∀ w ∈ W_copyOf, w ∈ lw_tbl := List.forall_mem_cons.mpr ⟨t_h_copyOf, t_O_copyOf⟩
set_option maxRecDepth 100000 in
theorem t_h_add : (.code yX3_add cX3_add 3 none) ∈ lw_tbl := k_in (ws := [(.code yX3_add cX3_add 3 none)]) [594] (by decide +kernel) _ List.mem_cons_self
set_option maxRecDepth 100000 in
theorem t_O_add : ∀ w ∈ O_add, w ∈ lw_tbl := k_in [289, 292, 595, 596, 597, 29] (by decide +kernel)
theorem t_Wadd : ∀ w ∈ W_add, w ∈ lw_tbl := List.forall_mem_cons.mpr ⟨t_h_add, List.forall_mem_append.mpr ⟨t_O_add, List.forall_mem_append.mpr ⟨t_C3, t_WcopyOf⟩⟩⟩
set_option maxRecDepth 100000 in
theorem t_h_floodS : (.code yX7_flood cX7_flood 7 none) ∈ lw_tbl := k_in (ws := [(.code yX7_flood cX7_flood 7 none)]) [621] (by decide +kernel) _ List.mem_cons_self
set_option maxRecDepth 100000 in
theorem t_O_floodS : ∀ w ∈ O_floodS, w ∈ lw_tbl := k_in [303, 88, 622, 623, 624, 28, 78, 581, 541, 542, 299, 591, 592, 593, 36] (by decide +kernel)
theorem t_WfloodS : ∀ w ∈ W_floodS, w ∈ lw_tbl := List.forall_mem_cons.mpr ⟨t_h_floodS, List.forall_mem_append.mpr ⟨t_O_floodS, List.forall_mem_append.mpr ⟨t_C7, List.forall_mem_append.mpr ⟨t_C8, List.forall_mem_append.mpr ⟨t_WportAt, List.forall_mem_append.mpr ⟨t_WcanCarry, t_Wadd⟩⟩⟩⟩⟩⟩
set_option maxRecDepth 100000 in
theorem t_h_isNewer : (.code yX0_isNewer cX0_isNewer 3 (some .boolean)) ∈ lw_tbl := k_in (ws := [(.code yX0_isNewer cX0_isNewer 3 (some .boolean))]) [589] (by decide +kernel) _ List.mem_cons_self
set_option maxRecDepth 100000 in
theorem t_O_isNewer : ∀ w ∈ O_isNewer, w ∈ lw_tbl := k_in [134, 590, 562, 563, 30] (by decide +kernel)
theorem t_WisNewer : ∀ w ∈ W_isNewer, w ∈ lw_tbl := List.forall_mem_cons.mpr ⟨t_h_isNewer, List.forall_mem_append.mpr ⟨t_O_isNewer, List.forall_mem_append.mpr ⟨t_C0, t_WageOf⟩⟩⟩
set_option maxRecDepth 100000 in
theorem t_h_receive : (.code yX7_receive cX7_receive 7 none) ∈ lw_tbl := k_in (ws := [(.code yX7_receive cX7_receive 7 none)]) [585] (by decide +kernel) _ List.mem_cons_self
set_option maxRecDepth 100000 in
theorem t_O_receive : ∀ w ∈ O_receive, w ∈ lw_tbl := k_in [303, 83, 305, 557, 558, 559, 31, 302, 78, 612, 613, 35, 565, 566, 567, 618, 620, 5, 163, 304, 135, 615, 616, 44, 617, 165, 586, 587, 588, 30, 299, 591, 592, 593, 36] (by decide +kernel)
theorem t_Wreceive : ∀ w ∈ W_receive, w ∈ lw_tbl := List.forall_mem_cons.mpr ⟨t_h_receive, List.forall_mem_append.mpr ⟨t_O_receive, List.forall_mem_append.mpr ⟨t_C7, List.forall_mem_append.mpr ⟨t_C8, List.forall_mem_append.mpr ⟨t_WversionHeld, List.forall_mem_append.mpr ⟨t_WoriginatorOf, List.forall_mem_append.mpr ⟨t_WreplS, List.forall_mem_append.mpr ⟨t_WfloodS, List.forall_mem_append.mpr ⟨t_C2, List.forall_mem_append.mpr ⟨t_C0, List.forall_mem_append.mpr ⟨t_WisNewer, t_Wadd⟩⟩⟩⟩⟩⟩⟩⟩⟩⟩⟩
set_option maxRecDepth 100000 in
theorem t_h_deliverMail : (.code yX7_deliverMail cX7_deliverMail 6 (some .int)) ∈ lw_tbl := k_in (ws := [(.code yX7_deliverMail cX7_deliverMail 6 (some .int))]) [572] (by decide +kernel) _ List.mem_cons_self
set_option maxRecDepth 100000 in
theorem t_O_deliverMail : ∀ w ∈ O_deliverMail, w ∈ lw_tbl := k_in [301, 299, 290, 573, 574, 575, 36, 577, 578, 579, 303, 581, 541, 542, 28, 298, 304, 561, 562, 563, 30, 582, 584, 4, 35] (by decide +kernel)
theorem t_WdeliverMail : ∀ w ∈ W_deliverMail, w ∈ lw_tbl := List.forall_mem_cons.mpr ⟨t_h_deliverMail, List.forall_mem_append.mpr ⟨t_O_deliverMail, List.forall_mem_append.mpr ⟨t_C7, List.forall_mem_append.mpr ⟨t_C3, List.forall_mem_append.mpr ⟨t_WversionAt2, List.forall_mem_append.mpr ⟨t_WportAt2, List.forall_mem_append.mpr ⟨t_WcanCarry, List.forall_mem_append.mpr ⟨t_WageOf, t_Wreceive⟩⟩⟩⟩⟩⟩⟩⟩
set_option maxRecDepth 100000 in
theorem t_h_sendDatabase : (.code yX7_sendDatabase cX7_sendDatabase 6 none) ∈ lw_tbl := k_in (ws := [(.code yX7_sendDatabase cX7_sendDatabase 6 none)]) [637] (by decide +kernel) _ List.mem_cons_self
set_option maxRecDepth 100000 in
theorem t_O_sendDatabase : ∀ w ∈ O_sendDatabase, w ∈ lw_tbl := k_in [303, 78, 305, 557, 558, 559, 31, 299, 591, 592, 593, 36] (by decide +kernel)
theorem t_WsendDatabase : ∀ w ∈ W_sendDatabase, w ∈ lw_tbl := List.forall_mem_cons.mpr ⟨t_h_sendDatabase, List.forall_mem_append.mpr ⟨t_O_sendDatabase, List.forall_mem_append.mpr ⟨t_C7, List.forall_mem_append.mpr ⟨t_C8, List.forall_mem_append.mpr ⟨t_WversionHeld, t_Wadd⟩⟩⟩⟩⟩
set_option maxRecDepth 100000 in
theorem t_h_fillNewLinks : (.code yX7_fillNewLinks cX7_fillNewLinks 4 none) ∈ lw_tbl := k_in (ws := [(.code yX7_fillNewLinks cX7_fillNewLinks 4 none)]) [633] (by decide +kernel) _ List.mem_cons_self
set_option maxRecDepth 100000 in
theorem t_O_fillNewLinks : ∀ w ∈ O_fillNewLinks, w ∈ lw_tbl := k_in [303, 88, 622, 623, 624, 28, 581, 541, 542, 76, 634, 636, 7, 35] (by decide +kernel)
theorem t_WfillNewLinks : ∀ w ∈ W_fillNewLinks, w ∈ lw_tbl := List.forall_mem_cons.mpr ⟨t_h_fillNewLinks, List.forall_mem_append.mpr ⟨t_O_fillNewLinks, List.forall_mem_append.mpr ⟨t_C7, List.forall_mem_append.mpr ⟨t_C8, List.forall_mem_append.mpr ⟨t_WportAt, List.forall_mem_append.mpr ⟨t_WcanCarry, t_WsendDatabase⟩⟩⟩⟩⟩⟩
set_option maxRecDepth 100000 in
theorem t_h_versionMadeNow : (.code yX0_versionMadeNow cX0_versionMadeNow 2 (some .int)) ∈ lw_tbl := k_in (ws := [(.code yX0_versionMadeNow cX0_versionMadeNow 2 (some .int))]) [668] (by decide +kernel) _ List.mem_cons_self
set_option maxRecDepth 100000 in
theorem t_O_versionMadeNow : ∀ w ∈ O_versionMadeNow, w ∈ lw_tbl := k_in [131] (by decide +kernel)
theorem t_WversionMadeNow : ∀ w ∈ W_versionMadeNow, w ∈ lw_tbl := List.forall_mem_cons.mpr ⟨t_h_versionMadeNow, List.forall_mem_append.mpr ⟨t_O_versionMadeNow, t_C0⟩⟩
set_option maxRecDepth 100000 in
theorem t_h_metricToList : (.code yX8_metricToList cX8_metricToList 2 (some .int)) ∈ lw_tbl := k_in (ws := [(.code yX8_metricToList cX8_metricToList 2 (some .int))]) [658] (by decide +kernel) _ List.mem_cons_self
set_option maxRecDepth 100000 in
theorem t_O_metricToList : ∀ w ∈ O_metricToList, w ∈ lw_tbl := k_in [659, 541, 542, 28, 85] (by decide +kernel)
theorem t_WmetricToList : ∀ w ∈ W_metricToList, w ∈ lw_tbl := List.forall_mem_cons.mpr ⟨t_h_metricToList, List.forall_mem_append.mpr ⟨t_O_metricToList, List.forall_mem_append.mpr ⟨t_WcanCarry, t_C8⟩⟩⟩
set_option maxRecDepth 100000 in
theorem t_h_describe : (.code yX0_describe cX0_describe 7 none) ∈ lw_tbl := k_in (ws := [(.code yX0_describe cX0_describe 7 none)]) [672] (by decide +kernel) _ List.mem_cons_self
set_option maxRecDepth 100000 in
theorem t_O_describe : ∀ w ∈ O_describe, w ∈ lw_tbl := k_in [141, 90, 660, 533, 534, 28, 140, 93, 650, 623, 624, 80, 139, 655, 656, 657] (by decide +kernel)
theorem t_Wdescribe : ∀ w ∈ W_describe, w ∈ lw_tbl := List.forall_mem_cons.mpr ⟨t_h_describe, List.forall_mem_append.mpr ⟨t_O_describe, List.forall_mem_append.mpr ⟨t_C0, List.forall_mem_append.mpr ⟨t_C8, List.forall_mem_append.mpr ⟨t_WannouncementAt, List.forall_mem_append.mpr ⟨t_WportAt, t_WmetricToList⟩⟩⟩⟩⟩⟩
set_option maxRecDepth 100000 in
theorem t_h_floodN : (.code yX7_flood cX7_flood 7 none) ∈ lw_tbl := k_in (ws := [(.code yX7_flood cX7_flood 7 none)]) [621] (by decide +kernel) _ List.mem_cons_self
set_option maxRecDepth 100000 in
theorem t_O_floodN : ∀ w ∈ O_floodN, w ∈ lw_tbl := k_in [303, 88, 622, 623, 624, 28, 78, 581, 541, 542, 299, 591, 592, 593, 36] (by decide +kernel)
theorem t_WfloodN : ∀ w ∈ W_floodN, w ∈ lw_tbl := List.forall_mem_cons.mpr ⟨t_h_floodN, List.forall_mem_append.mpr ⟨t_O_floodN, List.forall_mem_append.mpr ⟨t_C7, List.forall_mem_append.mpr ⟨t_C8, List.forall_mem_append.mpr ⟨t_WportAt, List.forall_mem_append.mpr ⟨t_WcanCarry, t_Wadd⟩⟩⟩⟩⟩⟩
set_option maxRecDepth 100000 in
theorem t_h_originate : (.code yX7_originate cX7_originate 5 none) ∈ lw_tbl := k_in (ws := [(.code yX7_originate cX7_originate 5 none)]) [676] (by decide +kernel) _ List.mem_cons_self
set_option maxRecDepth 100000 in
theorem t_O_originate : ∀ w ∈ O_originate, w ∈ lw_tbl := k_in [305, 163, 304, 135, 165, 565, 566, 567, 31, 618, 620, 5, 35] (by decide +kernel)
theorem t_Woriginate : ∀ w ∈ W_originate, w ∈ lw_tbl := List.forall_mem_cons.mpr ⟨t_h_originate, List.forall_mem_append.mpr ⟨t_O_originate, List.forall_mem_append.mpr ⟨t_C7, List.forall_mem_append.mpr ⟨t_C2, List.forall_mem_append.mpr ⟨t_C0, List.forall_mem_append.mpr ⟨t_WreplS, t_WfloodN⟩⟩⟩⟩⟩⟩
set_option maxRecDepth 100000 in
theorem t_h_costListed : (.code yX0_costListed cX0_costListed 3 (some .int)) ∈ lw_tbl := k_in (ws := [(.code yX0_costListed cX0_costListed 3 (some .int))]) [664] (by decide +kernel) _ List.mem_cons_self
set_option maxRecDepth 100000 in
theorem t_O_costListed : ∀ w ∈ O_costListed, w ∈ lw_tbl := k_in [140] (by decide +kernel)
theorem t_WcostListed : ∀ w ∈ W_costListed, w ∈ lw_tbl := List.forall_mem_cons.mpr ⟨t_h_costListed, List.forall_mem_append.mpr ⟨t_O_costListed, t_C0⟩⟩
set_option maxRecDepth 100000 in
theorem t_h_metricListed : (.code yX0_metricListed cX0_metricListed 3 (some .int)) ∈ lw_tbl := k_in (ws := [(.code yX0_metricListed cX0_metricListed 3 (some .int))]) [654] (by decide +kernel) _ List.mem_cons_self
set_option maxRecDepth 100000 in
theorem t_O_metricListed : ∀ w ∈ O_metricListed, w ∈ lw_tbl := k_in [139] (by decide +kernel)
theorem t_WmetricListed : ∀ w ∈ W_metricListed, w ∈ lw_tbl := List.forall_mem_cons.mpr ⟨t_h_metricListed, List.forall_mem_append.mpr ⟨t_O_metricListed, t_C0⟩⟩
set_option maxRecDepth 100000 in
theorem t_h_isUpToDate : (.code yX0_isUpToDate cX0_isUpToDate 6 (some .boolean)) ∈ lw_tbl := k_in (ws := [(.code yX0_isUpToDate cX0_isUpToDate 6 (some .boolean))]) [649] (by decide +kernel) _ List.mem_cons_self
set_option maxRecDepth 100000 in
theorem t_O_isUpToDate : ∀ w ∈ O_isUpToDate, w ∈ lw_tbl := k_in [141, 90, 660, 533, 534, 28, 661, 662, 663, 30, 93, 650, 623, 624, 80, 651, 652, 653, 655, 656, 657] (by decide +kernel)
theorem t_WisUpToDate : ∀ w ∈ W_isUpToDate, w ∈ lw_tbl := List.forall_mem_cons.mpr ⟨t_h_isUpToDate, List.forall_mem_append.mpr ⟨t_O_isUpToDate, List.forall_mem_append.mpr ⟨t_C0, List.forall_mem_append.mpr ⟨t_C8, List.forall_mem_append.mpr ⟨t_WannouncementAt, List.forall_mem_append.mpr ⟨t_WcostListed, List.forall_mem_append.mpr ⟨t_WportAt, List.forall_mem_append.mpr ⟨t_WmetricListed, t_WmetricToList⟩⟩⟩⟩⟩⟩⟩⟩
set_option maxRecDepth 100000 in
theorem t_h_noteRefresh : (.code yX7_noteRefresh cX7_noteRefresh 4 none) ∈ lw_tbl := k_in (ws := [(.code yX7_noteRefresh cX7_noteRefresh 4 none)]) [680] (by decide +kernel) _ List.mem_cons_self
set_option maxRecDepth 100000 in
theorem t_O_noteRefresh : ∀ w ∈ O_noteRefresh, w ∈ lw_tbl := k_in [304, 132, 561, 562, 563, 30, 302, 681, 607, 44, 608] (by decide +kernel)
theorem t_WnoteRefresh : ∀ w ∈ W_noteRefresh, w ∈ lw_tbl := List.forall_mem_cons.mpr ⟨t_h_noteRefresh, List.forall_mem_append.mpr ⟨t_O_noteRefresh, List.forall_mem_append.mpr ⟨t_C7, List.forall_mem_append.mpr ⟨t_C0, t_WageOf⟩⟩⟩⟩
set_option maxRecDepth 100000 in
theorem t_h_describeLinks : (.code yX7_describeLinks cX7_describeLinks 6 none) ∈ lw_tbl := k_in (ws := [(.code yX7_describeLinks cX7_describeLinks 6 none)]) [641] (by decide +kernel) _ List.mem_cons_self
set_option maxRecDepth 100000 in
theorem t_O_describeLinks : ∀ w ∈ O_describeLinks, w ∈ lw_tbl := k_in [303, 642, 527, 528, 28, 27, 644, 305, 557, 558, 559, 31, 304, 665, 666, 667, 30, 669, 670, 671, 673, 675, 9, 35, 165, 561, 562, 563, 646, 647, 648, 677, 679, 10] (by decide +kernel)
theorem t_WdescribeLinks : ∀ w ∈ W_describeLinks, w ∈ lw_tbl := List.forall_mem_cons.mpr ⟨t_h_describeLinks, List.forall_mem_append.mpr ⟨t_O_describeLinks, List.forall_mem_append.mpr ⟨t_C7, List.forall_mem_append.mpr ⟨t_Wtouches, List.forall_mem_append.mpr ⟨t_WrouterKey, List.forall_mem_append.mpr ⟨t_WversionHeld, List.forall_mem_append.mpr ⟨t_WversionMadeNow, List.forall_mem_append.mpr ⟨t_Wdescribe, List.forall_mem_append.mpr ⟨t_Woriginate, List.forall_mem_append.mpr ⟨t_C2, List.forall_mem_append.mpr ⟨t_WageOf, List.forall_mem_append.mpr ⟨t_WisUpToDate, t_WnoteRefresh⟩⟩⟩⟩⟩⟩⟩⟩⟩⟩⟩⟩
set_option maxRecDepth 100000 in
theorem t_h_nearestOpen : (.code yX5_nearestOpen cX5_nearestOpen 6 (some .int)) ∈ lw_tbl := k_in (ws := [(.code yX5_nearestOpen cX5_nearestOpen 6 (some .int))]) [701] (by decide +kernel) _ List.mem_cons_self
set_option maxRecDepth 100000 in
theorem t_O_nearestOpen : ∀ w ∈ O_nearestOpen, w ∈ lw_tbl := k_in [193, 68, 188] (by decide +kernel)
theorem t_WnearestOpen : ∀ w ∈ W_nearestOpen, w ∈ lw_tbl := List.forall_mem_cons.mpr ⟨t_h_nearestOpen, List.forall_mem_append.mpr ⟨t_O_nearestOpen, List.forall_mem_append.mpr ⟨t_C5, t_C8⟩⟩⟩
set_option maxRecDepth 100000 in
theorem t_h_knownMetric : (.code yX5_knownMetric cX5_knownMetric 6 (some .int)) ∈ lw_tbl := k_in (ws := [(.code yX5_knownMetric cX5_knownMetric 6 (some .int))]) [710] (by decide +kernel) _ List.mem_cons_self
set_option maxRecDepth 100000 in
theorem t_O_knownMetric : ∀ w ∈ O_knownMetric, w ∈ lw_tbl := k_in [195, 193, 84, 27, 644, 712, 558, 559, 31, 194, 713, 652, 653, 30] (by decide +kernel)
theorem t_WknownMetric : ∀ w ∈ W_knownMetric, w ∈ lw_tbl := List.forall_mem_cons.mpr ⟨t_h_knownMetric, List.forall_mem_append.mpr ⟨t_O_knownMetric, List.forall_mem_append.mpr ⟨t_C5, List.forall_mem_append.mpr ⟨t_C8, List.forall_mem_append.mpr ⟨t_WrouterKey, List.forall_mem_append.mpr ⟨t_WversionHeld, t_WmetricListed⟩⟩⟩⟩⟩⟩
set_option maxRecDepth 100000 in
theorem t_h_pathsOffer : (.code yX5_offer cX5_offer 5 none) ∈ lw_tbl := k_in (ws := [(.code yX5_offer cX5_offer 5 none)]) [717] (by decide +kernel) _ List.mem_cons_self
set_option maxRecDepth 100000 in
theorem t_O_pathsOffer : ∀ w ∈ O_pathsOffer, w ∈ lw_tbl := k_in [188, 191] (by decide +kernel)
theorem t_WpathsOffer : ∀ w ∈ W_pathsOffer, w ∈ lw_tbl := List.forall_mem_cons.mpr ⟨t_h_pathsOffer, List.forall_mem_append.mpr ⟨t_O_pathsOffer, t_C5⟩⟩
set_option maxRecDepth 100000 in
theorem t_h_goOnFrom : (.code yX5_goOnFrom cX5_goOnFrom 10 none) ∈ lw_tbl := k_in (ws := [(.code yX5_goOnFrom cX5_goOnFrom 10 none)]) [705] (by decide +kernel) _ List.mem_cons_self
set_option maxRecDepth 100000 in
theorem t_O_goOnFrom : ∀ w ∈ O_goOnFrom, w ∈ lw_tbl := k_in [27, 692, 193, 89, 706, 623, 624, 28, 79, 707, 709, 15, 32, 191, 84, 188, 714, 716, 16] (by decide +kernel)
theorem t_WgoOnFrom : ∀ w ∈ W_goOnFrom, w ∈ lw_tbl := List.forall_mem_cons.mpr ⟨t_h_goOnFrom, List.forall_mem_append.mpr ⟨t_O_goOnFrom, List.forall_mem_append.mpr ⟨t_WrowOfPaths, List.forall_mem_append.mpr ⟨t_C5, List.forall_mem_append.mpr ⟨t_C8, List.forall_mem_append.mpr ⟨t_WportAt, List.forall_mem_append.mpr ⟨t_WknownMetric, t_WpathsOffer⟩⟩⟩⟩⟩⟩⟩
set_option maxRecDepth 100000 in
theorem t_h_compute : (.code yX5_compute cX5_compute 7 none) ∈ lw_tbl := k_in (ws := [(.code yX5_compute cX5_compute 7 none)]) [690] (by decide +kernel) _ List.mem_cons_self
set_option maxRecDepth 100000 in
theorem t_O_compute : ∀ w ∈ O_compute, w ∈ lw_tbl := k_in [27, 692, 694, 696, 12, 32, 188, 193, 68, 698, 700, 13, 702, 704, 14] (by decide +kernel)
theorem t_Wcompute : ∀ w ∈ W_compute, w ∈ lw_tbl := List.forall_mem_cons.mpr ⟨t_h_compute, List.forall_mem_append.mpr ⟨t_O_compute, List.forall_mem_append.mpr ⟨t_WrowOfPaths, List.forall_mem_append.mpr ⟨t_WclearRow, List.forall_mem_append.mpr ⟨t_C5, List.forall_mem_append.mpr ⟨t_C8, List.forall_mem_append.mpr ⟨t_WnearestOpen, t_WgoOnFrom⟩⟩⟩⟩⟩⟩⟩
set_option maxRecDepth 100000 in
theorem t_h_computeIfOld : (.code yX5_computeIfOld cX5_computeIfOld 3 none) ∈ lw_tbl := k_in (ws := [(.code yX5_computeIfOld cX5_computeIfOld 3 none)]) [685] (by decide +kernel) _ List.mem_cons_self
set_option maxRecDepth 100000 in
theorem t_O_computeIfOld : ∀ w ∈ O_computeIfOld, w ∈ lw_tbl := k_in [193, 686, 527, 528, 28, 195, 167, 687, 689, 11, 32] (by decide +kernel)
theorem t_WcomputeIfOld : ∀ w ∈ W_computeIfOld, w ∈ lw_tbl := List.forall_mem_cons.mpr ⟨t_h_computeIfOld, List.forall_mem_append.mpr ⟨t_O_computeIfOld, List.forall_mem_append.mpr ⟨t_C5, List.forall_mem_append.mpr ⟨t_Wtouches, List.forall_mem_append.mpr ⟨t_C2, t_Wcompute⟩⟩⟩⟩⟩
set_option maxRecDepth 100000 in
theorem t_h_candOffer : (.code yX1_offer cX1_offer 6 none) ∈ lw_tbl := k_in (ws := [(.code yX1_offer cX1_offer 6 none)]) [743] (by decide +kernel) _ List.mem_cons_self
set_option maxRecDepth 100000 in
theorem t_O_candOffer : ∀ w ∈ O_candOffer, w ∈ lw_tbl := k_in [220, 744, 727, 728, 34, 222, 224, 226] (by decide +kernel)
theorem t_WcandOffer : ∀ w ∈ W_candOffer, w ∈ lw_tbl := List.forall_mem_cons.mpr ⟨t_h_candOffer, List.forall_mem_append.mpr ⟨t_O_candOffer, List.forall_mem_append.mpr ⟨t_C1, t_WcandClear⟩⟩⟩
set_option maxRecDepth 100000 in
theorem t_h_offerAnn : (.code yX6_offerAnnouncements cX6_offerAnnouncements 10 none) ∈ lw_tbl := k_in (ws := [(.code yX6_offerAnnouncements cX6_offerAnnouncements 10 none)]) [734] (by decide +kernel) _ List.mem_cons_self
set_option maxRecDepth 100000 in
theorem t_O_offerAnn : ∀ w ∈ O_offerAnn, w ∈ lw_tbl := k_in [27, 692, 250, 67, 252, 644, 737, 558, 559, 31, 253, 189, 738, 533, 534, 28, 251, 739, 662, 663, 30, 249, 192, 740, 741, 742, 34] (by decide +kernel)
theorem t_WofferAnn : ∀ w ∈ W_offerAnn, w ∈ lw_tbl := List.forall_mem_cons.mpr ⟨t_h_offerAnn, List.forall_mem_append.mpr ⟨t_O_offerAnn, List.forall_mem_append.mpr ⟨t_WrowOfPaths, List.forall_mem_append.mpr ⟨t_C6, List.forall_mem_append.mpr ⟨t_C8, List.forall_mem_append.mpr ⟨t_WrouterKey, List.forall_mem_append.mpr ⟨t_WversionHeld, List.forall_mem_append.mpr ⟨t_C5, List.forall_mem_append.mpr ⟨t_WannouncementAt, List.forall_mem_append.mpr ⟨t_WcostListed, t_WcandOffer⟩⟩⟩⟩⟩⟩⟩⟩⟩⟩
set_option maxRecDepth 100000 in
theorem t_h_joinsAreas : (.code yX8_joinsAreas cX8_joinsAreas 3 (some .boolean)) ∈ lw_tbl := k_in (ws := [(.code yX8_joinsAreas cX8_joinsAreas 3 (some .boolean))]) [748] (by decide +kernel) _ List.mem_cons_self
set_option maxRecDepth 100000 in
theorem t_O_joinsAreas : ∀ w ∈ O_joinsAreas, w ∈ lw_tbl := k_in [95] (by decide +kernel)
theorem t_WjoinsAreas : ∀ w ∈ W_joinsAreas, w ∈ lw_tbl := List.forall_mem_cons.mpr ⟨t_h_joinsAreas, List.forall_mem_append.mpr ⟨t_O_joinsAreas, t_C8⟩⟩
set_option maxRecDepth 100000 in
theorem t_h_offerSum : (.code yX6_offerSummaries cX6_offerSummaries 9 none) ∈ lw_tbl := k_in (ws := [(.code yX6_offerSummaries cX6_offerSummaries 9 none)]) [752] (by decide +kernel) _ List.mem_cons_self
set_option maxRecDepth 100000 in
theorem t_O_offerSum : ∀ w ∈ O_offerSum, w ∈ lw_tbl := k_in [27, 692, 250, 67, 252, 754, 737, 558, 559, 31, 253, 189] (by decide +kernel)
theorem t_WofferSum : ∀ w ∈ W_offerSum, w ∈ lw_tbl := List.forall_mem_cons.mpr ⟨t_h_offerSum, List.forall_mem_append.mpr ⟨t_O_offerSum, List.forall_mem_append.mpr ⟨t_WrowOfPaths, List.forall_mem_append.mpr ⟨t_C6, List.forall_mem_append.mpr ⟨t_C8, List.forall_mem_append.mpr ⟨t_WsummaryKey, List.forall_mem_append.mpr ⟨t_WversionHeld, t_C5⟩⟩⟩⟩⟩⟩⟩
set_option maxRecDepth 100000 in
theorem t_h_findBest : (.code yX6_findBest cX6_findBest 5 (some .int)) ∈ lw_tbl := k_in (ws := [(.code yX6_findBest cX6_findBest 5 (some .int))]) [725] (by decide +kernel) _ List.mem_cons_self
set_option maxRecDepth 100000 in
theorem t_O_findBest : ∀ w ∈ O_findBest, w ∈ lw_tbl := k_in [249, 726, 727, 728, 34, 250, 730, 527, 528, 28, 731, 733, 18, 33, 221, 745, 746, 747, 749, 751, 19] (by decide +kernel)
theorem t_WfindBest : ∀ w ∈ W_findBest, w ∈ lw_tbl := List.forall_mem_cons.mpr ⟨t_h_findBest, List.forall_mem_append.mpr ⟨t_O_findBest, List.forall_mem_append.mpr ⟨t_C6, List.forall_mem_append.mpr ⟨t_WcandClear, List.forall_mem_append.mpr ⟨t_Wtouches, List.forall_mem_append.mpr ⟨t_WofferAnn, List.forall_mem_append.mpr ⟨t_C1, List.forall_mem_append.mpr ⟨t_WjoinsAreas, t_WofferSum⟩⟩⟩⟩⟩⟩⟩⟩
set_option maxRecDepth 100000 in
theorem t_h_differs : (.code yX6_differs cX6_differs 3 (some .boolean)) ∈ lw_tbl := k_in (ws := [(.code yX6_differs cX6_differs 3 (some .boolean))]) [762] (by decide +kernel) _ List.mem_cons_self
set_option maxRecDepth 100000 in
theorem t_O_differs : ∀ w ∈ O_differs, w ∈ lw_tbl := k_in [238, 240, 249, 221, 242, 223, 244, 227] (by decide +kernel)
theorem t_Wdiffers : ∀ w ∈ W_differs, w ∈ lw_tbl := List.forall_mem_cons.mpr ⟨t_h_differs, List.forall_mem_append.mpr ⟨t_O_differs, List.forall_mem_append.mpr ⟨t_C6, t_C1⟩⟩⟩
set_option maxRecDepth 100000 in
theorem t_h_routesCompute : (.code yX6_compute cX6_compute 6 none) ∈ lw_tbl := k_in (ws := [(.code yX6_compute cX6_compute 6 none)]) [721] (by decide +kernel) _ List.mem_cons_self
set_option maxRecDepth 100000 in
theorem t_O_routesCompute : ∀ w ∈ O_routesCompute, w ∈ lw_tbl := k_in [246, 722, 724, 17, 33, 27, 757, 759, 761, 20, 763, 765, 21] (by decide +kernel)
theorem t_WroutesCompute : ∀ w ∈ W_routesCompute, w ∈ lw_tbl := List.forall_mem_cons.mpr ⟨t_h_routesCompute, List.forall_mem_append.mpr ⟨t_O_routesCompute, List.forall_mem_append.mpr ⟨t_C6, List.forall_mem_append.mpr ⟨t_WfindBest, List.forall_mem_append.mpr ⟨t_WrouteAt, List.forall_mem_append.mpr ⟨t_Wdiffers, t_Wstore⟩⟩⟩⟩⟩⟩
set_option maxRecDepth 100000 in
theorem t_h_letRoutersAct : (.code yX7_letRoutersAct cX7_letRoutersAct 2 none) ∈ lw_tbl := k_in (ws := [(.code yX7_letRoutersAct cX7_letRoutersAct 2 none)]) [629] (by decide +kernel) _ List.mem_cons_self
set_option maxRecDepth 100000 in
theorem t_O_letRoutersAct : ∀ w ∈ O_letRoutersAct, w ∈ lw_tbl := k_in [303, 66, 72, 304, 132, 302, 630, 632, 6, 35, 638, 640, 8, 306, 682, 683, 684, 32, 307, 718, 719, 720, 33, 767, 746, 747, 28, 247] (by decide +kernel)
theorem t_WletRoutersAct : ∀ w ∈ W_letRoutersAct, w ∈ lw_tbl := List.forall_mem_cons.mpr ⟨t_h_letRoutersAct, List.forall_mem_append.mpr ⟨t_O_letRoutersAct, List.forall_mem_append.mpr ⟨t_C7, List.forall_mem_append.mpr ⟨t_C8, List.forall_mem_append.mpr ⟨t_C0, List.forall_mem_append.mpr ⟨t_WfillNewLinks, List.forall_mem_append.mpr ⟨t_WdescribeLinks, List.forall_mem_append.mpr ⟨t_WcomputeIfOld, List.forall_mem_append.mpr ⟨t_WroutesCompute, List.forall_mem_append.mpr ⟨t_WjoinsAreas, t_C6⟩⟩⟩⟩⟩⟩⟩⟩⟩⟩
set_option maxRecDepth 100000 in
theorem t_h_remember : (.code yX8_rememberUsableLinks cX8_rememberUsableLinks 2 none) ∈ lw_tbl := k_in (ws := [(.code yX8_rememberUsableLinks cX8_rememberUsableLinks 2 none)]) [784] (by decide +kernel) _ List.mem_cons_self
set_option maxRecDepth 100000 in
theorem t_O_remember : ∀ w ∈ O_remember, w ∈ lw_tbl := k_in [69, 75, 659, 541, 542, 28] (by decide +kernel)
theorem t_Wremember : ∀ w ∈ W_remember, w ∈ lw_tbl := List.forall_mem_cons.mpr ⟨t_h_remember, List.forall_mem_append.mpr ⟨t_O_remember, List.forall_mem_append.mpr ⟨t_C8, t_WcanCarry⟩⟩⟩
set_option maxRecDepth 100000 in
theorem t_h_tick : (.code yX9_tick cX9_tick 4 (some .int)) ∈ lw_tbl := k_in (ws := [(.code yX9_tick cX9_tick 4 (some .int))]) [547] (by decide +kernel) _ List.mem_cons_self
set_option maxRecDepth 100000 in
theorem t_O_tick : ∀ w ∈ O_tick, w ∈ lw_tbl := k_in [347, 133, 351, 549, 550, 551, 35, 569, 570, 571, 626, 627, 628, 346, 781, 782, 783, 28] (by decide +kernel)
theorem t_Wtick : ∀ w ∈ W_tick, w ∈ lw_tbl := List.forall_mem_cons.mpr ⟨t_h_tick, List.forall_mem_append.mpr ⟨t_O_tick, List.forall_mem_append.mpr ⟨t_C9, List.forall_mem_append.mpr ⟨t_C0, List.forall_mem_append.mpr ⟨t_WremoveExpired, List.forall_mem_append.mpr ⟨t_WdeliverMail, List.forall_mem_append.mpr ⟨t_WletRoutersAct, t_Wremember⟩⟩⟩⟩⟩⟩⟩
set_option maxRecDepth 100000 in
theorem t_h_act : (.code yL_act cL_act 4 none) ∈ lw_tbl := k_in (ws := [(.code yL_act cL_act 4 none)]) [867] (by decide +kernel) _ List.mem_cons_self
set_option maxRecDepth 100000 in
theorem t_O_act : ∀ w ∈ O_act, w ∈ lw_tbl := k_in [868, 869, 870, 27, 857, 858, 26, 872, 873, 874, 876, 877, 878, 884, 885, 886, 507, 508, 509, 544, 545, 546] (by decide +kernel)
theorem t_Wact : ∀ w ∈ W_act, w ∈ lw_tbl := List.forall_mem_cons.mpr ⟨t_h_act, List.forall_mem_append.mpr ⟨t_O_act, List.forall_mem_append.mpr ⟨t_WlinkCount, List.forall_mem_append.mpr ⟨t_Wbelow, List.forall_mem_append.mpr ⟨t_WrouterCount, List.forall_mem_append.mpr ⟨t_WsetLink, List.forall_mem_append.mpr ⟨t_WsetRouter, List.forall_mem_append.mpr ⟨t_WsetMetric, t_Wtick⟩⟩⟩⟩⟩⟩⟩⟩
set_option maxRecDepth 100000 in
theorem t_h_inFlight : (.code yX9_inFlight cX9_inFlight 1 (some .int)) ∈ lw_tbl := k_in (ws := [(.code yX9_inFlight cX9_inFlight 1 (some .int))]) [792] (by decide +kernel) _ List.mem_cons_self
set_option maxRecDepth 100000 in
theorem t_O_inFlight : ∀ w ∈ O_inFlight, w ∈ lw_tbl := k_in [351, 300, 291] (by decide +kernel)
theorem t_WinFlight : ∀ w ∈ W_inFlight, w ∈ lw_tbl := List.forall_mem_cons.mpr ⟨t_h_inFlight, List.forall_mem_append.mpr ⟨t_O_inFlight, List.forall_mem_append.mpr ⟨t_C9, List.forall_mem_append.mpr ⟨t_C7, t_C3⟩⟩⟩⟩
set_option maxRecDepth 100000 in
theorem t_h_isUsable : (.code yX9_isUsable cX9_isUsable 2 (some .boolean)) ∈ lw_tbl := k_in (ws := [(.code yX9_isUsable cX9_isUsable 2 (some .boolean))]) [539] (by decide +kernel) _ List.mem_cons_self
set_option maxRecDepth 100000 in
theorem t_O_isUsable : ∀ w ∈ O_isUsable, w ∈ lw_tbl := k_in [511, 513, 3, 27, 346, 540, 541, 542, 28] (by decide +kernel)
theorem t_WisUsable : ∀ w ∈ W_isUsable, w ∈ lw_tbl := List.forall_mem_cons.mpr ⟨t_h_isUsable, List.forall_mem_append.mpr ⟨t_O_isUsable, List.forall_mem_append.mpr ⟨t_WreqLink, List.forall_mem_append.mpr ⟨t_C9, t_WcanCarry⟩⟩⟩⟩
set_option maxRecDepth 100000 in
theorem t_h_reqAttached : (.code yX9_requireAttached cX9_requireAttached 3 none) ∈ lw_tbl := k_in (ws := [(.code yX9_requireAttached cX9_requireAttached 3 none)]) [800] (by decide +kernel) _ List.mem_cons_self
set_option maxRecDepth 100000 in
theorem t_O_reqAttached : ∀ w ∈ O_reqAttached, w ∈ lw_tbl := k_in [449, 451, 1, 27, 346, 526, 527, 528, 28] (by decide +kernel)
theorem t_WreqAttached : ∀ w ∈ W_reqAttached, w ∈ lw_tbl := List.forall_mem_cons.mpr ⟨t_h_reqAttached, List.forall_mem_append.mpr ⟨t_O_reqAttached, List.forall_mem_append.mpr ⟨t_WreqRouter, List.forall_mem_append.mpr ⟨t_C9, t_Wtouches⟩⟩⟩⟩
set_option maxRecDepth 100000 in
theorem t_h_sizeOf : (.code yX2_sizeOf cX2_sizeOf 6 (some .int)) ∈ lw_tbl := k_in (ws := [(.code yX2_sizeOf cX2_sizeOf 6 (some .int))]) [804] (by decide +kernel) _ List.mem_cons_self
set_option maxRecDepth 100000 in
theorem t_O_sizeOf : ∀ w ∈ O_sizeOf, w ∈ lw_tbl := k_in [805, 558, 559, 31] (by decide +kernel)
theorem t_WsizeOf : ∀ w ∈ W_sizeOf, w ∈ lw_tbl := List.forall_mem_cons.mpr ⟨t_h_sizeOf, List.forall_mem_append.mpr ⟨t_O_sizeOf, t_WversionHeld⟩⟩
set_option maxRecDepth 100000 in
theorem t_h_databaseSize : (.code yX9_databaseSize cX9_databaseSize 3 (some .int)) ∈ lw_tbl := k_in (ws := [(.code yX9_databaseSize cX9_databaseSize 3 (some .int))]) [796] (by decide +kernel) _ List.mem_cons_self
set_option maxRecDepth 100000 in
theorem t_O_databaseSize : ∀ w ∈ O_databaseSize, w ∈ lw_tbl := k_in [797, 799, 24, 27, 348, 801, 802, 803, 31] (by decide +kernel)
theorem t_WdatabaseSize : ∀ w ∈ W_databaseSize, w ∈ lw_tbl := List.forall_mem_cons.mpr ⟨t_h_databaseSize, List.forall_mem_append.mpr ⟨t_O_databaseSize, List.forall_mem_append.mpr ⟨t_WreqAttached, List.forall_mem_append.mpr ⟨t_C9, t_WsizeOf⟩⟩⟩⟩
set_option maxRecDepth 100000 in
theorem t_h_distance : (.code yX9_distance cX9_distance 4 (some .int)) ∈ lw_tbl := k_in (ws := [(.code yX9_distance cX9_distance 4 (some .int))]) [817] (by decide +kernel) _ List.mem_cons_self
set_option maxRecDepth 100000 in
theorem t_O_distance : ∀ w ∈ O_distance, w ∈ lw_tbl := k_in [797, 799, 24, 27, 449, 451, 1, 349, 190, 818, 692] (by decide +kernel)
theorem t_Wdistance : ∀ w ∈ W_distance, w ∈ lw_tbl := List.forall_mem_cons.mpr ⟨t_h_distance, List.forall_mem_append.mpr ⟨t_O_distance, List.forall_mem_append.mpr ⟨t_WreqAttached, List.forall_mem_append.mpr ⟨t_WreqRouter, List.forall_mem_append.mpr ⟨t_C9, List.forall_mem_append.mpr ⟨t_C5, t_WrowOfPaths⟩⟩⟩⟩⟩⟩
set_option maxRecDepth 100000 in
theorem t_h_areEqual : (.code yX2_areEqual cX2_areEqual 6 (some .boolean)) ∈ lw_tbl := k_in (ws := [(.code yX2_areEqual cX2_areEqual 6 (some .boolean))]) [813] (by decide +kernel) _ List.mem_cons_self
set_option maxRecDepth 100000 in
theorem t_O_areEqual : ∀ w ∈ O_areEqual, w ∈ lw_tbl := k_in [805, 558, 559, 31] (by decide +kernel)
theorem t_WareEqual : ∀ w ∈ W_areEqual, w ∈ lw_tbl := List.forall_mem_cons.mpr ⟨t_h_areEqual, List.forall_mem_append.mpr ⟨t_O_areEqual, t_WversionHeld⟩⟩
set_option maxRecDepth 100000 in
theorem t_h_agree : (.code yX9_agree cX9_agree 4 (some .boolean)) ∈ lw_tbl := k_in (ws := [(.code yX9_agree cX9_agree 4 (some .boolean))]) [809] (by decide +kernel) _ List.mem_cons_self
set_option maxRecDepth 100000 in
theorem t_O_agree : ∀ w ∈ O_agree, w ∈ lw_tbl := k_in [797, 799, 24, 27, 346, 73, 348, 810, 811, 812, 31] (by decide +kernel)
theorem t_Wagree : ∀ w ∈ W_agree, w ∈ lw_tbl := List.forall_mem_cons.mpr ⟨t_h_agree, List.forall_mem_append.mpr ⟨t_O_agree, List.forall_mem_append.mpr ⟨t_WreqAttached, List.forall_mem_append.mpr ⟨t_C9, List.forall_mem_append.mpr ⟨t_C8, t_WareEqual⟩⟩⟩⟩⟩
set_option maxRecDepth 100000 in
theorem t_h_routeKind : (.code yX9_routeKind cX9_routeKind 3 (some .int)) ∈ lw_tbl := k_in (ws := [(.code yX9_routeKind cX9_routeKind 3 (some .int))]) [822] (by decide +kernel) _ List.mem_cons_self
set_option maxRecDepth 100000 in
theorem t_O_routeKind : ∀ w ∈ O_routeKind, w ∈ lw_tbl := k_in [449, 451, 1, 27, 521, 522, 350, 239, 823, 757] (by decide +kernel)
theorem t_WrouteKind : ∀ w ∈ W_routeKind, w ∈ lw_tbl := List.forall_mem_cons.mpr ⟨t_h_routeKind, List.forall_mem_append.mpr ⟨t_O_routeKind, List.forall_mem_append.mpr ⟨t_WreqRouter, List.forall_mem_append.mpr ⟨t_WreqNetwork, List.forall_mem_append.mpr ⟨t_C9, List.forall_mem_append.mpr ⟨t_C6, t_WrouteAt⟩⟩⟩⟩⟩⟩
set_option maxRecDepth 100000 in
theorem t_h_routeCost : (.code yX9_routeCost cX9_routeCost 4 (some .int)) ∈ lw_tbl := k_in (ws := [(.code yX9_routeCost cX9_routeCost 4 (some .int))]) [827] (by decide +kernel) _ List.mem_cons_self
set_option maxRecDepth 100000 in
theorem t_O_routeCost : ∀ w ∈ O_routeCost, w ∈ lw_tbl := k_in [449, 451, 1, 27, 521, 522, 823, 757, 350, 239, 241] (by decide +kernel)
theorem t_WrouteCost : ∀ w ∈ W_routeCost, w ∈ lw_tbl := List.forall_mem_cons.mpr ⟨t_h_routeCost, List.forall_mem_append.mpr ⟨t_O_routeCost, List.forall_mem_append.mpr ⟨t_WreqRouter, List.forall_mem_append.mpr ⟨t_WreqNetwork, List.forall_mem_append.mpr ⟨t_WrouteAt, List.forall_mem_append.mpr ⟨t_C9, t_C6⟩⟩⟩⟩⟩⟩
set_option maxRecDepth 100000 in
theorem t_h_linkAt : (.code yX9_linkAt cX9_linkAt 5 (some .int)) ∈ lw_tbl := k_in (ws := [(.code yX9_linkAt cX9_linkAt 5 (some .int))]) [855] (by decide +kernel) _ List.mem_cons_self
theorem t_O_linkAt : ∀ w ∈ O_linkAt, w ∈ lw_tbl := fun w h => nomatch h
theorem t_WlinkAt : ∀ w ∈ W_linkAt, w ∈ lw_tbl := List.forall_mem_cons.mpr ⟨t_h_linkAt, t_O_linkAt⟩
set_option maxRecDepth 100000 in
theorem t_h_follow : (.code yX4_follow cX4_follow 8 (some .int)) ∈ lw_tbl := k_in (ws := [(.code yX4_follow cX4_follow 8 (some .int))]) [851] (by decide +kernel) _ List.mem_cons_self
set_option maxRecDepth 100000 in
theorem t_O_follow : ∀ w ∈ O_follow, w ∈ lw_tbl := k_in [334, 333, 27, 757, 336, 245, 243, 854, 335, 856, 541, 542, 28, 82] (by decide +kernel)
theorem t_Wfollow : ∀ w ∈ W_follow, w ∈ lw_tbl := List.forall_mem_cons.mpr ⟨t_h_follow, List.forall_mem_append.mpr ⟨t_O_follow, List.forall_mem_append.mpr ⟨t_C4, List.forall_mem_append.mpr ⟨t_WrouteAt, List.forall_mem_append.mpr ⟨t_C6, List.forall_mem_append.mpr ⟨t_WlinkAt, List.forall_mem_append.mpr ⟨t_WcanCarry, t_C8⟩⟩⟩⟩⟩⟩⟩
set_option maxRecDepth 100000 in
theorem t_h_trace : (.code yX9_trace cX9_trace 3 (some .int)) ∈ lw_tbl := k_in (ws := [(.code yX9_trace cX9_trace 3 (some .int))]) [847] (by decide +kernel) _ List.mem_cons_self
set_option maxRecDepth 100000 in
theorem t_O_trace : ∀ w ∈ O_trace, w ∈ lw_tbl := k_in [449, 451, 1, 27, 521, 522, 352, 848, 849, 850, 37] (by decide +kernel)
theorem t_Wtrace : ∀ w ∈ W_trace, w ∈ lw_tbl := List.forall_mem_cons.mpr ⟨t_h_trace, List.forall_mem_append.mpr ⟨t_O_trace, List.forall_mem_append.mpr ⟨t_WreqRouter, List.forall_mem_append.mpr ⟨t_WreqNetwork, List.forall_mem_append.mpr ⟨t_C9, t_Wfollow⟩⟩⟩⟩⟩
set_option maxRecDepth 100000 in
theorem t_h_clock : (.code yX9_clock cX9_clock 1 (some .int)) ∈ lw_tbl := k_in (ws := [(.code yX9_clock cX9_clock 1 (some .int))]) [788] (by decide +kernel) _ List.mem_cons_self
set_option maxRecDepth 100000 in
theorem t_O_clock : ∀ w ∈ O_clock, w ∈ lw_tbl := k_in [347, 133] (by decide +kernel)
theorem t_Wclock : ∀ w ∈ W_clock, w ∈ lw_tbl := List.forall_mem_cons.mpr ⟨t_h_clock, List.forall_mem_append.mpr ⟨t_O_clock, List.forall_mem_append.mpr ⟨t_C9, t_C0⟩⟩⟩
set_option maxRecDepth 100000 in
theorem t_h_lcell : (.code yL_cell cL_cell 2 (some .int)) ∈ lw_tbl := k_in (ws := [(.code yL_cell cL_cell 2 (some .int))]) [863] (by decide +kernel) _ List.mem_cons_self
set_option maxRecDepth 100000 in
theorem t_O_lcell : ∀ w ∈ O_lcell, w ∈ lw_tbl := k_in [864] (by decide +kernel)
theorem t_Wlcell : ∀ w ∈ W_lcell, w ∈ lw_tbl := List.forall_mem_cons.mpr ⟨t_h_lcell, t_O_lcell⟩
