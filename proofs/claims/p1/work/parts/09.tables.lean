
theorem k_in {big ws : List Cond} (ps : List Nat) (hp : ws = ps.filterMap (fun i => big[i]?)) : ∀ w ∈ ws, w ∈ big := by
  intro w hw
  rw [hp] at hw
  obtain ⟨i, -, hi⟩ := List.mem_filterMap.mp hw
  exact List.mem_of_getElem? hi
set_option maxRecDepth 100000 in
theorem t_nest : ∀ w ∈ kNests.map (fun q => Cond.methodLinkNest q.1 q.2.1 q.2.2.1 q.2.2.2), w ∈ lw_tbl := k_in [686, 691, 1120, 1121, 698, 933, 954, 968, 269, 713, 953, 341, 874, 978, 457] (by decide +kernel)
set_option maxRecDepth 100000 in
theorem tw_0 : (.methodLink RL 109 yL_addRouter) ∈ lw_tbl := k_in (ws := [(.methodLink RL 109 yL_addRouter)]) [493] (by decide +kernel) _ List.mem_cons_self
set_option maxRecDepth 100000 in
theorem tw_1 : (.static yL_addRouter) ∈ lw_tbl := k_in (ws := [(.static yL_addRouter)]) [494] (by decide +kernel) _ List.mem_cons_self
set_option maxRecDepth 100000 in
theorem tw_2 : (.initialized RL) ∈ lw_tbl := k_in (ws := [(.initialized RL)]) [74] (by decide +kernel) _ List.mem_cons_self
set_option maxRecDepth 100000 in
theorem tw_3 : (.methodLink RL 114 yX10_addRouter) ∈ lw_tbl := k_in (ws := [(.methodLink RL 114 yX10_addRouter)]) [1285] (by decide +kernel) _ List.mem_cons_self
set_option maxRecDepth 100000 in
theorem tw_4 : (.instanceMethod yX10_addRouter) ∈ lw_tbl := k_in (ws := [(.instanceMethod yX10_addRouter)]) [1286] (by decide +kernel) _ List.mem_cons_self
set_option maxRecDepth 100000 in
theorem tw_5 : (.selects RX10 yX10_addRouter yX10_addRouter) ∈ lw_tbl := k_in (ws := [(.selects RX10 yX10_addRouter yX10_addRouter)]) [1287] (by decide +kernel) _ List.mem_cons_self
set_option maxRecDepth 100000 in
theorem tw_6 : (.initialized RX10) ∈ lw_tbl := k_in (ws := [(.initialized RX10)]) [86] (by decide +kernel) _ List.mem_cons_self
set_option maxRecDepth 100000 in
theorem tw_7 : (.methodLink RL 115 yX10_thrown) ∈ lw_tbl := k_in (ws := [(.methodLink RL 115 yX10_thrown)]) [1281] (by decide +kernel) _ List.mem_cons_self
set_option maxRecDepth 100000 in
theorem tw_8 : (.instanceMethod yX10_thrown) ∈ lw_tbl := k_in (ws := [(.instanceMethod yX10_thrown)]) [1282] (by decide +kernel) _ List.mem_cons_self
set_option maxRecDepth 100000 in
theorem tw_9 : (.selects RX10 yX10_thrown yX10_thrown) ∈ lw_tbl := k_in (ws := [(.selects RX10 yX10_thrown yX10_thrown)]) [1283] (by decide +kernel) _ List.mem_cons_self
set_option maxRecDepth 100000 in
theorem tw_10 : (.methodLink RL 118 yL_addLink) ∈ lw_tbl := k_in (ws := [(.methodLink RL 118 yL_addLink)]) [574] (by decide +kernel) _ List.mem_cons_self
set_option maxRecDepth 100000 in
theorem tw_11 : (.static yL_addLink) ∈ lw_tbl := k_in (ws := [(.static yL_addLink)]) [575] (by decide +kernel) _ List.mem_cons_self
set_option maxRecDepth 100000 in
theorem tw_12 : (.methodLink RL 121 yX10_addLink) ∈ lw_tbl := k_in (ws := [(.methodLink RL 121 yX10_addLink)]) [1293] (by decide +kernel) _ List.mem_cons_self
set_option maxRecDepth 100000 in
theorem tw_13 : (.instanceMethod yX10_addLink) ∈ lw_tbl := k_in (ws := [(.instanceMethod yX10_addLink)]) [1294] (by decide +kernel) _ List.mem_cons_self
set_option maxRecDepth 100000 in
theorem tw_14 : (.selects RX10 yX10_addLink yX10_addLink) ∈ lw_tbl := k_in (ws := [(.selects RX10 yX10_addLink yX10_addLink)]) [1295] (by decide +kernel) _ List.mem_cons_self
set_option maxRecDepth 100000 in
theorem tw_15 : (.methodLink RL 122 yL_setLink) ∈ lw_tbl := k_in (ws := [(.methodLink RL 122 yL_setLink)]) [639] (by decide +kernel) _ List.mem_cons_self
set_option maxRecDepth 100000 in
theorem tw_16 : (.static yL_setLink) ∈ lw_tbl := k_in (ws := [(.static yL_setLink)]) [640] (by decide +kernel) _ List.mem_cons_self
set_option maxRecDepth 100000 in
theorem tw_17 : (.methodLink RL 125 yX10_setLink) ∈ lw_tbl := k_in (ws := [(.methodLink RL 125 yX10_setLink)]) [1308] (by decide +kernel) _ List.mem_cons_self
set_option maxRecDepth 100000 in
theorem tw_18 : (.instanceMethod yX10_setLink) ∈ lw_tbl := k_in (ws := [(.instanceMethod yX10_setLink)]) [1309] (by decide +kernel) _ List.mem_cons_self
set_option maxRecDepth 100000 in
theorem tw_19 : (.selects RX10 yX10_setLink yX10_setLink) ∈ lw_tbl := k_in (ws := [(.selects RX10 yX10_setLink yX10_setLink)]) [1310] (by decide +kernel) _ List.mem_cons_self
set_option maxRecDepth 100000 in
theorem tw_20 : (.methodLink RL 126 yL_setMetric) ∈ lw_tbl := k_in (ws := [(.methodLink RL 126 yL_setMetric)]) [655] (by decide +kernel) _ List.mem_cons_self
set_option maxRecDepth 100000 in
theorem tw_21 : (.static yL_setMetric) ∈ lw_tbl := k_in (ws := [(.static yL_setMetric)]) [656] (by decide +kernel) _ List.mem_cons_self
set_option maxRecDepth 100000 in
theorem tw_22 : (.methodLink RL 129 yX10_setMetric) ∈ lw_tbl := k_in (ws := [(.methodLink RL 129 yX10_setMetric)]) [1320] (by decide +kernel) _ List.mem_cons_self
set_option maxRecDepth 100000 in
theorem tw_23 : (.instanceMethod yX10_setMetric) ∈ lw_tbl := k_in (ws := [(.instanceMethod yX10_setMetric)]) [1321] (by decide +kernel) _ List.mem_cons_self
set_option maxRecDepth 100000 in
theorem tw_24 : (.selects RX10 yX10_setMetric yX10_setMetric) ∈ lw_tbl := k_in (ws := [(.selects RX10 yX10_setMetric yX10_setMetric)]) [1322] (by decide +kernel) _ List.mem_cons_self
set_option maxRecDepth 100000 in
theorem tw_25 : (.methodLink RL 130 yL_setRouter) ∈ lw_tbl := k_in (ws := [(.methodLink RL 130 yL_setRouter)]) [663] (by decide +kernel) _ List.mem_cons_self
set_option maxRecDepth 100000 in
theorem tw_26 : (.static yL_setRouter) ∈ lw_tbl := k_in (ws := [(.static yL_setRouter)]) [664] (by decide +kernel) _ List.mem_cons_self
set_option maxRecDepth 100000 in
theorem tw_27 : (.methodLink RL 132 yX10_setRouter) ∈ lw_tbl := k_in (ws := [(.methodLink RL 132 yX10_setRouter)]) [1324] (by decide +kernel) _ List.mem_cons_self
set_option maxRecDepth 100000 in
theorem tw_28 : (.instanceMethod yX10_setRouter) ∈ lw_tbl := k_in (ws := [(.instanceMethod yX10_setRouter)]) [1325] (by decide +kernel) _ List.mem_cons_self
set_option maxRecDepth 100000 in
theorem tw_29 : (.selects RX10 yX10_setRouter yX10_setRouter) ∈ lw_tbl := k_in (ws := [(.selects RX10 yX10_setRouter yX10_setRouter)]) [1326] (by decide +kernel) _ List.mem_cons_self
set_option maxRecDepth 100000 in
theorem tw_30 : (.methodLink RL 133 yL_announce) ∈ lw_tbl := k_in (ws := [(.methodLink RL 133 yL_announce)]) [718] (by decide +kernel) _ List.mem_cons_self
set_option maxRecDepth 100000 in
theorem tw_31 : (.static yL_announce) ∈ lw_tbl := k_in (ws := [(.static yL_announce)]) [719] (by decide +kernel) _ List.mem_cons_self
set_option maxRecDepth 100000 in
theorem tw_32 : (.methodLink RL 136 yX10_announce) ∈ lw_tbl := k_in (ws := [(.methodLink RL 136 yX10_announce)]) [1340] (by decide +kernel) _ List.mem_cons_self
set_option maxRecDepth 100000 in
theorem tw_33 : (.instanceMethod yX10_announce) ∈ lw_tbl := k_in (ws := [(.instanceMethod yX10_announce)]) [1341] (by decide +kernel) _ List.mem_cons_self
set_option maxRecDepth 100000 in
theorem tw_34 : (.selects RX10 yX10_announce yX10_announce) ∈ lw_tbl := k_in (ws := [(.selects RX10 yX10_announce yX10_announce)]) [1342] (by decide +kernel) _ List.mem_cons_self
set_option maxRecDepth 100000 in
theorem tw_35 : (.methodLink RL 137 yL_withdraw) ∈ lw_tbl := k_in (ws := [(.methodLink RL 137 yL_withdraw)]) [735] (by decide +kernel) _ List.mem_cons_self
set_option maxRecDepth 100000 in
theorem tw_36 : (.static yL_withdraw) ∈ lw_tbl := k_in (ws := [(.static yL_withdraw)]) [736] (by decide +kernel) _ List.mem_cons_self
set_option maxRecDepth 100000 in
theorem tw_37 : (.methodLink RL 139 yX10_withdraw) ∈ lw_tbl := k_in (ws := [(.methodLink RL 139 yX10_withdraw)]) [1355] (by decide +kernel) _ List.mem_cons_self
set_option maxRecDepth 100000 in
theorem tw_38 : (.instanceMethod yX10_withdraw) ∈ lw_tbl := k_in (ws := [(.instanceMethod yX10_withdraw)]) [1356] (by decide +kernel) _ List.mem_cons_self
set_option maxRecDepth 100000 in
theorem tw_39 : (.selects RX10 yX10_withdraw yX10_withdraw) ∈ lw_tbl := k_in (ws := [(.selects RX10 yX10_withdraw yX10_withdraw)]) [1357] (by decide +kernel) _ List.mem_cons_self
set_option maxRecDepth 100000 in
theorem tw_40 : (.methodLink RL 140 yX9_routerCount) ∈ lw_tbl := k_in (ws := [(.methodLink RL 140 yX9_routerCount)]) [427] (by decide +kernel) _ List.mem_cons_self
set_option maxRecDepth 100000 in
theorem tw_41 : (.instanceMethod yX9_routerCount) ∈ lw_tbl := k_in (ws := [(.instanceMethod yX9_routerCount)]) [428] (by decide +kernel) _ List.mem_cons_self
set_option maxRecDepth 100000 in
theorem tw_42 : (.selects RX9 yX9_routerCount yX9_routerCount) ∈ lw_tbl := k_in (ws := [(.selects RX9 yX9_routerCount yX9_routerCount)]) [429] (by decide +kernel) _ List.mem_cons_self
set_option maxRecDepth 100000 in
theorem tw_43 : (.initialized RX9) ∈ lw_tbl := k_in (ws := [(.initialized RX9)]) [75] (by decide +kernel) _ List.mem_cons_self
set_option maxRecDepth 100000 in
theorem tw_44 : (.methodLink RL 143 yX10_routerCount) ∈ lw_tbl := k_in (ws := [(.methodLink RL 143 yX10_routerCount)]) [1359] (by decide +kernel) _ List.mem_cons_self
set_option maxRecDepth 100000 in
theorem tw_45 : (.instanceMethod yX10_routerCount) ∈ lw_tbl := k_in (ws := [(.instanceMethod yX10_routerCount)]) [1360] (by decide +kernel) _ List.mem_cons_self
set_option maxRecDepth 100000 in
theorem tw_46 : (.selects RX10 yX10_routerCount yX10_routerCount) ∈ lw_tbl := k_in (ws := [(.selects RX10 yX10_routerCount yX10_routerCount)]) [1361] (by decide +kernel) _ List.mem_cons_self
set_option maxRecDepth 100000 in
theorem tw_47 : (.methodLink RL 144 yX9_linkCount) ∈ lw_tbl := k_in (ws := [(.methodLink RL 144 yX9_linkCount)]) [431] (by decide +kernel) _ List.mem_cons_self
set_option maxRecDepth 100000 in
theorem tw_48 : (.instanceMethod yX9_linkCount) ∈ lw_tbl := k_in (ws := [(.instanceMethod yX9_linkCount)]) [432] (by decide +kernel) _ List.mem_cons_self
set_option maxRecDepth 100000 in
theorem tw_49 : (.selects RX9 yX9_linkCount yX9_linkCount) ∈ lw_tbl := k_in (ws := [(.selects RX9 yX9_linkCount yX9_linkCount)]) [433] (by decide +kernel) _ List.mem_cons_self
set_option maxRecDepth 100000 in
theorem tw_50 : (.methodLink RL 147 yX10_linkCount) ∈ lw_tbl := k_in (ws := [(.methodLink RL 147 yX10_linkCount)]) [1363] (by decide +kernel) _ List.mem_cons_self
set_option maxRecDepth 100000 in
theorem tw_51 : (.instanceMethod yX10_linkCount) ∈ lw_tbl := k_in (ws := [(.instanceMethod yX10_linkCount)]) [1364] (by decide +kernel) _ List.mem_cons_self
set_option maxRecDepth 100000 in
theorem tw_52 : (.selects RX10 yX10_linkCount yX10_linkCount) ∈ lw_tbl := k_in (ws := [(.selects RX10 yX10_linkCount yX10_linkCount)]) [1365] (by decide +kernel) _ List.mem_cons_self
set_option maxRecDepth 100000 in
theorem tw_53 : (.methodLink RL 148 yL_isUsable) ∈ lw_tbl := k_in (ws := [(.methodLink RL 148 yL_isUsable)]) [759] (by decide +kernel) _ List.mem_cons_self
set_option maxRecDepth 100000 in
theorem tw_54 : (.static yL_isUsable) ∈ lw_tbl := k_in (ws := [(.static yL_isUsable)]) [760] (by decide +kernel) _ List.mem_cons_self
set_option maxRecDepth 100000 in
theorem tw_55 : (.methodLink RL 151 yX10_isUsable) ∈ lw_tbl := k_in (ws := [(.methodLink RL 151 yX10_isUsable)]) [1367] (by decide +kernel) _ List.mem_cons_self
set_option maxRecDepth 100000 in
theorem tw_56 : (.instanceMethod yX10_isUsable) ∈ lw_tbl := k_in (ws := [(.instanceMethod yX10_isUsable)]) [1368] (by decide +kernel) _ List.mem_cons_self
set_option maxRecDepth 100000 in
theorem tw_57 : (.selects RX10 yX10_isUsable yX10_isUsable) ∈ lw_tbl := k_in (ws := [(.selects RX10 yX10_isUsable yX10_isUsable)]) [1369] (by decide +kernel) _ List.mem_cons_self
set_option maxRecDepth 100000 in
theorem tw_58 : (.methodLink RL 152 yL_isBorder) ∈ lw_tbl := k_in (ws := [(.methodLink RL 152 yL_isBorder)]) [770] (by decide +kernel) _ List.mem_cons_self
set_option maxRecDepth 100000 in
theorem tw_59 : (.static yL_isBorder) ∈ lw_tbl := k_in (ws := [(.static yL_isBorder)]) [771] (by decide +kernel) _ List.mem_cons_self
set_option maxRecDepth 100000 in
theorem tw_60 : (.methodLink RL 154 yX10_isBorder) ∈ lw_tbl := k_in (ws := [(.methodLink RL 154 yX10_isBorder)]) [1375] (by decide +kernel) _ List.mem_cons_self
set_option maxRecDepth 100000 in
theorem tw_61 : (.instanceMethod yX10_isBorder) ∈ lw_tbl := k_in (ws := [(.instanceMethod yX10_isBorder)]) [1376] (by decide +kernel) _ List.mem_cons_self
set_option maxRecDepth 100000 in
theorem tw_62 : (.selects RX10 yX10_isBorder yX10_isBorder) ∈ lw_tbl := k_in (ws := [(.selects RX10 yX10_isBorder yX10_isBorder)]) [1377] (by decide +kernel) _ List.mem_cons_self
set_option maxRecDepth 100000 in
theorem tw_63 : (.methodLink RL 155 yL_tick) ∈ lw_tbl := k_in (ws := [(.methodLink RL 155 yL_tick)]) [781] (by decide +kernel) _ List.mem_cons_self
set_option maxRecDepth 100000 in
theorem tw_64 : (.static yL_tick) ∈ lw_tbl := k_in (ws := [(.static yL_tick)]) [782] (by decide +kernel) _ List.mem_cons_self
set_option maxRecDepth 100000 in
theorem tw_65 : (.methodLink RL 157 yX10_tick) ∈ lw_tbl := k_in (ws := [(.methodLink RL 157 yX10_tick)]) [1383] (by decide +kernel) _ List.mem_cons_self
set_option maxRecDepth 100000 in
theorem tw_66 : (.instanceMethod yX10_tick) ∈ lw_tbl := k_in (ws := [(.instanceMethod yX10_tick)]) [1384] (by decide +kernel) _ List.mem_cons_self
set_option maxRecDepth 100000 in
theorem tw_67 : (.selects RX10 yX10_tick yX10_tick) ∈ lw_tbl := k_in (ws := [(.selects RX10 yX10_tick yX10_tick)]) [1385] (by decide +kernel) _ List.mem_cons_self
set_option maxRecDepth 100000 in
theorem tw_68 : (.methodLink RL 158 yX9_clock) ∈ lw_tbl := k_in (ws := [(.methodLink RL 158 yX9_clock)]) [435] (by decide +kernel) _ List.mem_cons_self
set_option maxRecDepth 100000 in
theorem tw_69 : (.instanceMethod yX9_clock) ∈ lw_tbl := k_in (ws := [(.instanceMethod yX9_clock)]) [436] (by decide +kernel) _ List.mem_cons_self
set_option maxRecDepth 100000 in
theorem tw_70 : (.selects RX9 yX9_clock yX9_clock) ∈ lw_tbl := k_in (ws := [(.selects RX9 yX9_clock yX9_clock)]) [437] (by decide +kernel) _ List.mem_cons_self
set_option maxRecDepth 100000 in
theorem tw_71 : (.methodLink RL 161 yX10_clock) ∈ lw_tbl := k_in (ws := [(.methodLink RL 161 yX10_clock)]) [1523] (by decide +kernel) _ List.mem_cons_self
set_option maxRecDepth 100000 in
theorem tw_72 : (.instanceMethod yX10_clock) ∈ lw_tbl := k_in (ws := [(.instanceMethod yX10_clock)]) [1524] (by decide +kernel) _ List.mem_cons_self
set_option maxRecDepth 100000 in
theorem tw_73 : (.selects RX10 yX10_clock yX10_clock) ∈ lw_tbl := k_in (ws := [(.selects RX10 yX10_clock yX10_clock)]) [1525] (by decide +kernel) _ List.mem_cons_self
set_option maxRecDepth 100000 in
theorem tw_74 : (.methodLink RL 162 yX9_inFlight) ∈ lw_tbl := k_in (ws := [(.methodLink RL 162 yX9_inFlight)]) [439] (by decide +kernel) _ List.mem_cons_self
set_option maxRecDepth 100000 in
theorem tw_75 : (.instanceMethod yX9_inFlight) ∈ lw_tbl := k_in (ws := [(.instanceMethod yX9_inFlight)]) [440] (by decide +kernel) _ List.mem_cons_self
set_option maxRecDepth 100000 in
theorem tw_76 : (.selects RX9 yX9_inFlight yX9_inFlight) ∈ lw_tbl := k_in (ws := [(.selects RX9 yX9_inFlight yX9_inFlight)]) [441] (by decide +kernel) _ List.mem_cons_self
set_option maxRecDepth 100000 in
theorem tw_77 : (.methodLink RL 165 yX10_inFlight) ∈ lw_tbl := k_in (ws := [(.methodLink RL 165 yX10_inFlight)]) [1527] (by decide +kernel) _ List.mem_cons_self
set_option maxRecDepth 100000 in
theorem tw_78 : (.instanceMethod yX10_inFlight) ∈ lw_tbl := k_in (ws := [(.instanceMethod yX10_inFlight)]) [1528] (by decide +kernel) _ List.mem_cons_self
set_option maxRecDepth 100000 in
theorem tw_79 : (.selects RX10 yX10_inFlight yX10_inFlight) ∈ lw_tbl := k_in (ws := [(.selects RX10 yX10_inFlight yX10_inFlight)]) [1529] (by decide +kernel) _ List.mem_cons_self
set_option maxRecDepth 100000 in
theorem tw_80 : (.methodLink RL 166 yX9_lost) ∈ lw_tbl := k_in (ws := [(.methodLink RL 166 yX9_lost)]) [443] (by decide +kernel) _ List.mem_cons_self
set_option maxRecDepth 100000 in
theorem tw_81 : (.instanceMethod yX9_lost) ∈ lw_tbl := k_in (ws := [(.instanceMethod yX9_lost)]) [444] (by decide +kernel) _ List.mem_cons_self
set_option maxRecDepth 100000 in
theorem tw_82 : (.selects RX9 yX9_lost yX9_lost) ∈ lw_tbl := k_in (ws := [(.selects RX9 yX9_lost yX9_lost)]) [445] (by decide +kernel) _ List.mem_cons_self
set_option maxRecDepth 100000 in
theorem tw_83 : (.methodLink RL 169 yX10_lost) ∈ lw_tbl := k_in (ws := [(.methodLink RL 169 yX10_lost)]) [1531] (by decide +kernel) _ List.mem_cons_self
set_option maxRecDepth 100000 in
theorem tw_84 : (.instanceMethod yX10_lost) ∈ lw_tbl := k_in (ws := [(.instanceMethod yX10_lost)]) [1532] (by decide +kernel) _ List.mem_cons_self
set_option maxRecDepth 100000 in
theorem tw_85 : (.selects RX10 yX10_lost yX10_lost) ∈ lw_tbl := k_in (ws := [(.selects RX10 yX10_lost yX10_lost)]) [1533] (by decide +kernel) _ List.mem_cons_self
set_option maxRecDepth 100000 in
theorem tw_86 : (.methodLink RL 170 yL_databaseSize) ∈ lw_tbl := k_in (ws := [(.methodLink RL 170 yL_databaseSize)]) [991] (by decide +kernel) _ List.mem_cons_self
set_option maxRecDepth 100000 in
theorem tw_87 : (.static yL_databaseSize) ∈ lw_tbl := k_in (ws := [(.static yL_databaseSize)]) [992] (by decide +kernel) _ List.mem_cons_self
set_option maxRecDepth 100000 in
theorem tw_88 : (.methodLink RL 173 yX10_databaseSize) ∈ lw_tbl := k_in (ws := [(.methodLink RL 173 yX10_databaseSize)]) [1535] (by decide +kernel) _ List.mem_cons_self
set_option maxRecDepth 100000 in
theorem tw_89 : (.instanceMethod yX10_databaseSize) ∈ lw_tbl := k_in (ws := [(.instanceMethod yX10_databaseSize)]) [1536] (by decide +kernel) _ List.mem_cons_self
set_option maxRecDepth 100000 in
theorem tw_90 : (.selects RX10 yX10_databaseSize yX10_databaseSize) ∈ lw_tbl := k_in (ws := [(.selects RX10 yX10_databaseSize yX10_databaseSize)]) [1537] (by decide +kernel) _ List.mem_cons_self
set_option maxRecDepth 100000 in
theorem tw_91 : (.methodLink RL 174 yL_sequence) ∈ lw_tbl := k_in (ws := [(.methodLink RL 174 yL_sequence)]) [1002] (by decide +kernel) _ List.mem_cons_self
set_option maxRecDepth 100000 in
theorem tw_92 : (.static yL_sequence) ∈ lw_tbl := k_in (ws := [(.static yL_sequence)]) [1003] (by decide +kernel) _ List.mem_cons_self
set_option maxRecDepth 100000 in
theorem tw_93 : (.methodLink RL 176 yX10_sequence) ∈ lw_tbl := k_in (ws := [(.methodLink RL 176 yX10_sequence)]) [1543] (by decide +kernel) _ List.mem_cons_self
set_option maxRecDepth 100000 in
theorem tw_94 : (.instanceMethod yX10_sequence) ∈ lw_tbl := k_in (ws := [(.instanceMethod yX10_sequence)]) [1544] (by decide +kernel) _ List.mem_cons_self
set_option maxRecDepth 100000 in
theorem tw_95 : (.selects RX10 yX10_sequence yX10_sequence) ∈ lw_tbl := k_in (ws := [(.selects RX10 yX10_sequence yX10_sequence)]) [1545] (by decide +kernel) _ List.mem_cons_self
set_option maxRecDepth 100000 in
theorem tw_96 : (.methodLink RL 177 yL_listedLinks) ∈ lw_tbl := k_in (ws := [(.methodLink RL 177 yL_listedLinks)]) [1009] (by decide +kernel) _ List.mem_cons_self
set_option maxRecDepth 100000 in
theorem tw_97 : (.static yL_listedLinks) ∈ lw_tbl := k_in (ws := [(.static yL_listedLinks)]) [1010] (by decide +kernel) _ List.mem_cons_self
set_option maxRecDepth 100000 in
theorem tw_98 : (.methodLink RL 179 yX10_listedLinks) ∈ lw_tbl := k_in (ws := [(.methodLink RL 179 yX10_listedLinks)]) [1551] (by decide +kernel) _ List.mem_cons_self
set_option maxRecDepth 100000 in
theorem tw_99 : (.instanceMethod yX10_listedLinks) ∈ lw_tbl := k_in (ws := [(.instanceMethod yX10_listedLinks)]) [1552] (by decide +kernel) _ List.mem_cons_self
set_option maxRecDepth 100000 in
theorem tw_100 : (.selects RX10 yX10_listedLinks yX10_listedLinks) ∈ lw_tbl := k_in (ws := [(.selects RX10 yX10_listedLinks yX10_listedLinks)]) [1553] (by decide +kernel) _ List.mem_cons_self
set_option maxRecDepth 100000 in
theorem tw_101 : (.methodLink RL 180 yL_summary) ∈ lw_tbl := k_in (ws := [(.methodLink RL 180 yL_summary)]) [1020] (by decide +kernel) _ List.mem_cons_self
set_option maxRecDepth 100000 in
theorem tw_102 : (.static yL_summary) ∈ lw_tbl := k_in (ws := [(.static yL_summary)]) [1021] (by decide +kernel) _ List.mem_cons_self
set_option maxRecDepth 100000 in
theorem tw_103 : (.methodLink RL 182 yX10_summary) ∈ lw_tbl := k_in (ws := [(.methodLink RL 182 yX10_summary)]) [1555] (by decide +kernel) _ List.mem_cons_self
set_option maxRecDepth 100000 in
theorem tw_104 : (.instanceMethod yX10_summary) ∈ lw_tbl := k_in (ws := [(.instanceMethod yX10_summary)]) [1556] (by decide +kernel) _ List.mem_cons_self
set_option maxRecDepth 100000 in
theorem tw_105 : (.selects RX10 yX10_summary yX10_summary) ∈ lw_tbl := k_in (ws := [(.selects RX10 yX10_summary yX10_summary)]) [1557] (by decide +kernel) _ List.mem_cons_self
set_option maxRecDepth 100000 in
theorem tw_106 : (.methodLink RL 183 yL_agree) ∈ lw_tbl := k_in (ws := [(.methodLink RL 183 yL_agree)]) [1028] (by decide +kernel) _ List.mem_cons_self
set_option maxRecDepth 100000 in
theorem tw_107 : (.static yL_agree) ∈ lw_tbl := k_in (ws := [(.static yL_agree)]) [1029] (by decide +kernel) _ List.mem_cons_self
set_option maxRecDepth 100000 in
theorem tw_108 : (.methodLink RL 185 yX10_agree) ∈ lw_tbl := k_in (ws := [(.methodLink RL 185 yX10_agree)]) [1559] (by decide +kernel) _ List.mem_cons_self
set_option maxRecDepth 100000 in
theorem tw_109 : (.instanceMethod yX10_agree) ∈ lw_tbl := k_in (ws := [(.instanceMethod yX10_agree)]) [1560] (by decide +kernel) _ List.mem_cons_self
set_option maxRecDepth 100000 in
theorem tw_110 : (.selects RX10 yX10_agree yX10_agree) ∈ lw_tbl := k_in (ws := [(.selects RX10 yX10_agree yX10_agree)]) [1561] (by decide +kernel) _ List.mem_cons_self
set_option maxRecDepth 100000 in
theorem tw_111 : (.methodLink RL 186 yL_distance) ∈ lw_tbl := k_in (ws := [(.methodLink RL 186 yL_distance)]) [1039] (by decide +kernel) _ List.mem_cons_self
set_option maxRecDepth 100000 in
theorem tw_112 : (.static yL_distance) ∈ lw_tbl := k_in (ws := [(.static yL_distance)]) [1040] (by decide +kernel) _ List.mem_cons_self
set_option maxRecDepth 100000 in
theorem tw_113 : (.methodLink RL 188 yX10_distance) ∈ lw_tbl := k_in (ws := [(.methodLink RL 188 yX10_distance)]) [1563] (by decide +kernel) _ List.mem_cons_self
set_option maxRecDepth 100000 in
theorem tw_114 : (.instanceMethod yX10_distance) ∈ lw_tbl := k_in (ws := [(.instanceMethod yX10_distance)]) [1564] (by decide +kernel) _ List.mem_cons_self
set_option maxRecDepth 100000 in
theorem tw_115 : (.selects RX10 yX10_distance yX10_distance) ∈ lw_tbl := k_in (ws := [(.selects RX10 yX10_distance yX10_distance)]) [1565] (by decide +kernel) _ List.mem_cons_self
set_option maxRecDepth 100000 in
theorem tw_116 : (.methodLink RL 189 yL_firstLinkCount) ∈ lw_tbl := k_in (ws := [(.methodLink RL 189 yL_firstLinkCount)]) [1047] (by decide +kernel) _ List.mem_cons_self
set_option maxRecDepth 100000 in
theorem tw_117 : (.static yL_firstLinkCount) ∈ lw_tbl := k_in (ws := [(.static yL_firstLinkCount)]) [1048] (by decide +kernel) _ List.mem_cons_self
set_option maxRecDepth 100000 in
theorem tw_118 : (.methodLink RL 191 yX10_firstLinkCount) ∈ lw_tbl := k_in (ws := [(.methodLink RL 191 yX10_firstLinkCount)]) [1571] (by decide +kernel) _ List.mem_cons_self
set_option maxRecDepth 100000 in
theorem tw_119 : (.instanceMethod yX10_firstLinkCount) ∈ lw_tbl := k_in (ws := [(.instanceMethod yX10_firstLinkCount)]) [1572] (by decide +kernel) _ List.mem_cons_self
set_option maxRecDepth 100000 in
theorem tw_120 : (.selects RX10 yX10_firstLinkCount yX10_firstLinkCount) ∈ lw_tbl := k_in (ws := [(.selects RX10 yX10_firstLinkCount yX10_firstLinkCount)]) [1573] (by decide +kernel) _ List.mem_cons_self
set_option maxRecDepth 100000 in
theorem tw_121 : (.methodLink RL 192 yL_firstLink) ∈ lw_tbl := k_in (ws := [(.methodLink RL 192 yL_firstLink)]) [1054] (by decide +kernel) _ List.mem_cons_self
set_option maxRecDepth 100000 in
theorem tw_122 : (.static yL_firstLink) ∈ lw_tbl := k_in (ws := [(.static yL_firstLink)]) [1055] (by decide +kernel) _ List.mem_cons_self
set_option maxRecDepth 100000 in
theorem tw_123 : (.methodLink RL 194 yX10_firstLink) ∈ lw_tbl := k_in (ws := [(.methodLink RL 194 yX10_firstLink)]) [1578] (by decide +kernel) _ List.mem_cons_self
set_option maxRecDepth 100000 in
theorem tw_124 : (.instanceMethod yX10_firstLink) ∈ lw_tbl := k_in (ws := [(.instanceMethod yX10_firstLink)]) [1579] (by decide +kernel) _ List.mem_cons_self
set_option maxRecDepth 100000 in
theorem tw_125 : (.selects RX10 yX10_firstLink yX10_firstLink) ∈ lw_tbl := k_in (ws := [(.selects RX10 yX10_firstLink yX10_firstLink)]) [1580] (by decide +kernel) _ List.mem_cons_self
set_option maxRecDepth 100000 in
theorem tw_126 : (.methodLink RL 195 yL_routeKind) ∈ lw_tbl := k_in (ws := [(.methodLink RL 195 yL_routeKind)]) [1065] (by decide +kernel) _ List.mem_cons_self
set_option maxRecDepth 100000 in
theorem tw_127 : (.static yL_routeKind) ∈ lw_tbl := k_in (ws := [(.static yL_routeKind)]) [1066] (by decide +kernel) _ List.mem_cons_self
set_option maxRecDepth 100000 in
theorem tw_128 : (.methodLink RL 197 yX10_routeKind) ∈ lw_tbl := k_in (ws := [(.methodLink RL 197 yX10_routeKind)]) [1585] (by decide +kernel) _ List.mem_cons_self
set_option maxRecDepth 100000 in
theorem tw_129 : (.instanceMethod yX10_routeKind) ∈ lw_tbl := k_in (ws := [(.instanceMethod yX10_routeKind)]) [1586] (by decide +kernel) _ List.mem_cons_self
set_option maxRecDepth 100000 in
theorem tw_130 : (.selects RX10 yX10_routeKind yX10_routeKind) ∈ lw_tbl := k_in (ws := [(.selects RX10 yX10_routeKind yX10_routeKind)]) [1587] (by decide +kernel) _ List.mem_cons_self
set_option maxRecDepth 100000 in
theorem tw_131 : (.methodLink RL 198 yL_routeCost) ∈ lw_tbl := k_in (ws := [(.methodLink RL 198 yL_routeCost)]) [1072] (by decide +kernel) _ List.mem_cons_self
set_option maxRecDepth 100000 in
theorem tw_132 : (.static yL_routeCost) ∈ lw_tbl := k_in (ws := [(.static yL_routeCost)]) [1073] (by decide +kernel) _ List.mem_cons_self
set_option maxRecDepth 100000 in
theorem tw_133 : (.methodLink RL 200 yX10_routeCost) ∈ lw_tbl := k_in (ws := [(.methodLink RL 200 yX10_routeCost)]) [1593] (by decide +kernel) _ List.mem_cons_self
set_option maxRecDepth 100000 in
theorem tw_134 : (.instanceMethod yX10_routeCost) ∈ lw_tbl := k_in (ws := [(.instanceMethod yX10_routeCost)]) [1594] (by decide +kernel) _ List.mem_cons_self
set_option maxRecDepth 100000 in
theorem tw_135 : (.selects RX10 yX10_routeCost yX10_routeCost) ∈ lw_tbl := k_in (ws := [(.selects RX10 yX10_routeCost yX10_routeCost)]) [1595] (by decide +kernel) _ List.mem_cons_self
set_option maxRecDepth 100000 in
theorem tw_136 : (.methodLink RL 201 yL_isLocal) ∈ lw_tbl := k_in (ws := [(.methodLink RL 201 yL_isLocal)]) [1080] (by decide +kernel) _ List.mem_cons_self
set_option maxRecDepth 100000 in
theorem tw_137 : (.static yL_isLocal) ∈ lw_tbl := k_in (ws := [(.static yL_isLocal)]) [1081] (by decide +kernel) _ List.mem_cons_self
set_option maxRecDepth 100000 in
theorem tw_138 : (.methodLink RL 203 yX10_isLocal) ∈ lw_tbl := k_in (ws := [(.methodLink RL 203 yX10_isLocal)]) [1597] (by decide +kernel) _ List.mem_cons_self
set_option maxRecDepth 100000 in
theorem tw_139 : (.instanceMethod yX10_isLocal) ∈ lw_tbl := k_in (ws := [(.instanceMethod yX10_isLocal)]) [1598] (by decide +kernel) _ List.mem_cons_self
set_option maxRecDepth 100000 in
theorem tw_140 : (.selects RX10 yX10_isLocal yX10_isLocal) ∈ lw_tbl := k_in (ws := [(.selects RX10 yX10_isLocal yX10_isLocal)]) [1599] (by decide +kernel) _ List.mem_cons_self
set_option maxRecDepth 100000 in
theorem tw_141 : (.methodLink RL 204 yL_routeLinkCount) ∈ lw_tbl := k_in (ws := [(.methodLink RL 204 yL_routeLinkCount)]) [1087] (by decide +kernel) _ List.mem_cons_self
set_option maxRecDepth 100000 in
theorem tw_142 : (.static yL_routeLinkCount) ∈ lw_tbl := k_in (ws := [(.static yL_routeLinkCount)]) [1088] (by decide +kernel) _ List.mem_cons_self
set_option maxRecDepth 100000 in
theorem tw_143 : (.methodLink RL 206 yX10_routeLinkCount) ∈ lw_tbl := k_in (ws := [(.methodLink RL 206 yX10_routeLinkCount)]) [1601] (by decide +kernel) _ List.mem_cons_self
set_option maxRecDepth 100000 in
theorem tw_144 : (.instanceMethod yX10_routeLinkCount) ∈ lw_tbl := k_in (ws := [(.instanceMethod yX10_routeLinkCount)]) [1602] (by decide +kernel) _ List.mem_cons_self
set_option maxRecDepth 100000 in
theorem tw_145 : (.selects RX10 yX10_routeLinkCount yX10_routeLinkCount) ∈ lw_tbl := k_in (ws := [(.selects RX10 yX10_routeLinkCount yX10_routeLinkCount)]) [1603] (by decide +kernel) _ List.mem_cons_self
set_option maxRecDepth 100000 in
theorem tw_146 : (.methodLink RL 207 yL_routeLink) ∈ lw_tbl := k_in (ws := [(.methodLink RL 207 yL_routeLink)]) [1094] (by decide +kernel) _ List.mem_cons_self
set_option maxRecDepth 100000 in
theorem tw_147 : (.static yL_routeLink) ∈ lw_tbl := k_in (ws := [(.static yL_routeLink)]) [1095] (by decide +kernel) _ List.mem_cons_self
set_option maxRecDepth 100000 in
theorem tw_148 : (.methodLink RL 209 yX10_routeLink) ∈ lw_tbl := k_in (ws := [(.methodLink RL 209 yX10_routeLink)]) [1605] (by decide +kernel) _ List.mem_cons_self
set_option maxRecDepth 100000 in
theorem tw_149 : (.instanceMethod yX10_routeLink) ∈ lw_tbl := k_in (ws := [(.instanceMethod yX10_routeLink)]) [1606] (by decide +kernel) _ List.mem_cons_self
set_option maxRecDepth 100000 in
theorem tw_150 : (.selects RX10 yX10_routeLink yX10_routeLink) ∈ lw_tbl := k_in (ws := [(.selects RX10 yX10_routeLink yX10_routeLink)]) [1607] (by decide +kernel) _ List.mem_cons_self
set_option maxRecDepth 100000 in
theorem tw_151 : (.methodLink RL 210 yL_changedRoutes) ∈ lw_tbl := k_in (ws := [(.methodLink RL 210 yL_changedRoutes)]) [1102] (by decide +kernel) _ List.mem_cons_self
set_option maxRecDepth 100000 in
theorem tw_152 : (.static yL_changedRoutes) ∈ lw_tbl := k_in (ws := [(.static yL_changedRoutes)]) [1103] (by decide +kernel) _ List.mem_cons_self
set_option maxRecDepth 100000 in
theorem tw_153 : (.methodLink RL 212 yX10_changedRoutes) ∈ lw_tbl := k_in (ws := [(.methodLink RL 212 yX10_changedRoutes)]) [1609] (by decide +kernel) _ List.mem_cons_self
set_option maxRecDepth 100000 in
theorem tw_154 : (.instanceMethod yX10_changedRoutes) ∈ lw_tbl := k_in (ws := [(.instanceMethod yX10_changedRoutes)]) [1610] (by decide +kernel) _ List.mem_cons_self
set_option maxRecDepth 100000 in
theorem tw_155 : (.selects RX10 yX10_changedRoutes yX10_changedRoutes) ∈ lw_tbl := k_in (ws := [(.selects RX10 yX10_changedRoutes yX10_changedRoutes)]) [1611] (by decide +kernel) _ List.mem_cons_self
set_option maxRecDepth 100000 in
theorem tw_156 : (.methodLink RL 213 yL_trace) ∈ lw_tbl := k_in (ws := [(.methodLink RL 213 yL_trace)]) [1109] (by decide +kernel) _ List.mem_cons_self
set_option maxRecDepth 100000 in
theorem tw_157 : (.static yL_trace) ∈ lw_tbl := k_in (ws := [(.static yL_trace)]) [1110] (by decide +kernel) _ List.mem_cons_self
set_option maxRecDepth 100000 in
theorem tw_158 : (.methodLink RL 215 yX10_trace) ∈ lw_tbl := k_in (ws := [(.methodLink RL 215 yX10_trace)]) [1613] (by decide +kernel) _ List.mem_cons_self
set_option maxRecDepth 100000 in
theorem tw_159 : (.instanceMethod yX10_trace) ∈ lw_tbl := k_in (ws := [(.instanceMethod yX10_trace)]) [1614] (by decide +kernel) _ List.mem_cons_self
set_option maxRecDepth 100000 in
theorem tw_160 : (.selects RX10 yX10_trace yX10_trace) ∈ lw_tbl := k_in (ws := [(.selects RX10 yX10_trace yX10_trace)]) [1615] (by decide +kernel) _ List.mem_cons_self
set_option maxRecDepth 100000 in
theorem tw_161 : (.methodLink RL 216 yL_tracedRouter) ∈ lw_tbl := k_in (ws := [(.methodLink RL 216 yL_tracedRouter)]) [1123] (by decide +kernel) _ List.mem_cons_self
set_option maxRecDepth 100000 in
theorem tw_162 : (.static yL_tracedRouter) ∈ lw_tbl := k_in (ws := [(.static yL_tracedRouter)]) [1124] (by decide +kernel) _ List.mem_cons_self
set_option maxRecDepth 100000 in
theorem tw_163 : (.methodLink RL 218 yX10_tracedRouter) ∈ lw_tbl := k_in (ws := [(.methodLink RL 218 yX10_tracedRouter)]) [1617] (by decide +kernel) _ List.mem_cons_self
set_option maxRecDepth 100000 in
theorem tw_164 : (.instanceMethod yX10_tracedRouter) ∈ lw_tbl := k_in (ws := [(.instanceMethod yX10_tracedRouter)]) [1618] (by decide +kernel) _ List.mem_cons_self
set_option maxRecDepth 100000 in
theorem tw_165 : (.selects RX10 yX10_tracedRouter yX10_tracedRouter) ∈ lw_tbl := k_in (ws := [(.selects RX10 yX10_tracedRouter yX10_tracedRouter)]) [1619] (by decide +kernel) _ List.mem_cons_self
set_option maxRecDepth 100000 in
theorem tw_166 : (.methodLink RL 219 yX9_digest) ∈ lw_tbl := k_in (ws := [(.methodLink RL 219 yX9_digest)]) [447] (by decide +kernel) _ List.mem_cons_self
set_option maxRecDepth 100000 in
theorem tw_167 : (.instanceMethod yX9_digest) ∈ lw_tbl := k_in (ws := [(.instanceMethod yX9_digest)]) [448] (by decide +kernel) _ List.mem_cons_self
set_option maxRecDepth 100000 in
theorem tw_168 : (.selects RX9 yX9_digest yX9_digest) ∈ lw_tbl := k_in (ws := [(.selects RX9 yX9_digest yX9_digest)]) [449] (by decide +kernel) _ List.mem_cons_self
set_option maxRecDepth 100000 in
theorem tw_169 : (.methodLink RL 223 yX10_digest) ∈ lw_tbl := k_in (ws := [(.methodLink RL 223 yX10_digest)]) [1621] (by decide +kernel) _ List.mem_cons_self
set_option maxRecDepth 100000 in
theorem tw_170 : (.instanceMethod yX10_digest) ∈ lw_tbl := k_in (ws := [(.instanceMethod yX10_digest)]) [1622] (by decide +kernel) _ List.mem_cons_self
set_option maxRecDepth 100000 in
theorem tw_171 : (.selects RX10 yX10_digest yX10_digest) ∈ lw_tbl := k_in (ws := [(.selects RX10 yX10_digest yX10_digest)]) [1623] (by decide +kernel) _ List.mem_cons_self
set_option maxRecDepth 100000 in
theorem tw_172 : (.instantiable RX0 6) ∈ lw_tbl := k_in (ws := [(.instantiable RX0 6)]) [174] (by decide +kernel) _ List.mem_cons_self
set_option maxRecDepth 100000 in
theorem tw_173 : (.instantiable RX1 4) ∈ lw_tbl := k_in (ws := [(.instantiable RX1 4)]) [268] (by decide +kernel) _ List.mem_cons_self
set_option maxRecDepth 100000 in
theorem tw_174 : (.instantiable RX2 5) ∈ lw_tbl := k_in (ws := [(.instantiable RX2 5)]) [208] (by decide +kernel) _ List.mem_cons_self
set_option maxRecDepth 100000 in
theorem tw_175 : (.instantiable RX3 2) ∈ lw_tbl := k_in (ws := [(.instantiable RX3 2)]) [340] (by decide +kernel) _ List.mem_cons_self
set_option maxRecDepth 100000 in
theorem tw_176 : (.instantiable RX4 4) ∈ lw_tbl := k_in (ws := [(.instantiable RX4 4)]) [385] (by decide +kernel) _ List.mem_cons_self
set_option maxRecDepth 100000 in
theorem tw_177 : (.instantiable RX5 5) ∈ lw_tbl := k_in (ws := [(.instantiable RX5 5)]) [234] (by decide +kernel) _ List.mem_cons_self
set_option maxRecDepth 100000 in
theorem tw_178 : (.instantiable RX6 11) ∈ lw_tbl := k_in (ws := [(.instantiable RX6 11)]) [262] (by decide +kernel) _ List.mem_cons_self
set_option maxRecDepth 100000 in
theorem tw_179 : (.instantiable RX7 9) ∈ lw_tbl := k_in (ws := [(.instantiable RX7 9)]) [334] (by decide +kernel) _ List.mem_cons_self
set_option maxRecDepth 100000 in
theorem tw_180 : (.instantiable RX8 12) ∈ lw_tbl := k_in (ws := [(.instantiable RX8 12)]) [106] (by decide +kernel) _ List.mem_cons_self
set_option maxRecDepth 100000 in
theorem tw_181 : (.instantiable RX9 7) ∈ lw_tbl := k_in (ws := [(.instantiable RX9 7)]) [98] (by decide +kernel) _ List.mem_cons_self
set_option maxRecDepth 100000 in
theorem tw_182 : (.instantiable RX10 48) ∈ lw_tbl := k_in (ws := [(.instantiable RX10 48)]) [1132] (by decide +kernel) _ List.mem_cons_self
set_option maxRecDepth 100000 in
theorem tw_183 : (.arrayClass .int) ∈ lw_tbl := k_in (ws := [(.arrayClass .int)]) [172] (by decide +kernel) _ List.mem_cons_self
set_option maxRecDepth 100000 in
theorem tw_184 : (.arrayClass .boolean) ∈ lw_tbl := k_in (ws := [(.arrayClass .boolean)]) [171] (by decide +kernel) _ List.mem_cons_self
set_option maxRecDepth 100000 in
theorem tw_185 : (.arrayClass .long) ∈ lw_tbl := k_in (ws := [(.arrayClass .long)]) [260] (by decide +kernel) _ List.mem_cons_self
set_option maxRecDepth 100000 in
theorem tw_186 : (.classLink RL 8 RX9) ∈ lw_tbl := k_in (ws := [(.classLink RL 8 RX9)]) [97] (by decide +kernel) _ List.mem_cons_self
set_option maxRecDepth 100000 in
theorem tw_187 : (.methodLink RL 105 yX9_init) ∈ lw_tbl := k_in (ws := [(.methodLink RL 105 yX9_init)]) [99] (by decide +kernel) _ List.mem_cons_self
set_option maxRecDepth 100000 in
theorem tw_188 : (.instanceMethod yX9_init) ∈ lw_tbl := k_in (ws := [(.instanceMethod yX9_init)]) [100] (by decide +kernel) _ List.mem_cons_self
set_option maxRecDepth 100000 in
theorem tw_189 : (.classLink RL 106 RX10) ∈ lw_tbl := k_in (ws := [(.classLink RL 106 RX10)]) [1131] (by decide +kernel) _ List.mem_cons_self
set_option maxRecDepth 100000 in
theorem tw_190 : (.methodLink RL 108 yX10_init) ∈ lw_tbl := k_in (ws := [(.methodLink RL 108 yX10_init)]) [1133] (by decide +kernel) _ List.mem_cons_self
set_option maxRecDepth 100000 in
theorem tw_191 : (.instanceMethod yX10_init) ∈ lw_tbl := k_in (ws := [(.instanceMethod yX10_init)]) [1134] (by decide +kernel) _ List.mem_cons_self
set_option maxRecDepth 100000 in
theorem t_C0 : ∀ w ∈ wsX00, w ∈ lw_tbl := k_in [194, 196, 198, 200, 202, 204] (by decide +kernel)
set_option maxRecDepth 100000 in
theorem t_C1 : ∀ w ∈ wsX10, w ∈ lw_tbl := k_in [281, 283, 285, 287] (by decide +kernel)
set_option maxRecDepth 100000 in
theorem t_C2 : ∀ w ∈ wsX20, w ∈ lw_tbl := k_in [222, 224, 226, 228, 230] (by decide +kernel)
set_option maxRecDepth 100000 in
theorem t_C3 : ∀ w ∈ wsX30, w ∈ lw_tbl := k_in [349, 351] (by decide +kernel)
set_option maxRecDepth 100000 in
theorem t_C4 : ∀ w ∈ wsX40, w ∈ lw_tbl := k_in [396, 398, 400, 402] (by decide +kernel)
set_option maxRecDepth 100000 in
theorem t_C5 : ∀ w ∈ wsX50, w ∈ lw_tbl := k_in [249, 251, 253, 255, 257] (by decide +kernel)
set_option maxRecDepth 100000 in
theorem t_C6 : ∀ w ∈ wsX60, w ∈ lw_tbl := k_in [310, 312, 314, 316, 318, 320, 322, 324, 326, 328, 330] (by decide +kernel)
set_option maxRecDepth 100000 in
theorem t_C7 : ∀ w ∈ wsX70, w ∈ lw_tbl := k_in [365, 367, 369, 371, 373, 375, 377, 379, 381] (by decide +kernel)
set_option maxRecDepth 100000 in
theorem t_C8 : ∀ w ∈ wsX80, w ∈ lw_tbl := k_in [146, 148, 150, 152, 154, 156, 158, 160, 162, 164, 166, 168] (by decide +kernel)
set_option maxRecDepth 100000 in
theorem t_C9 : ∀ w ∈ wsX90, w ∈ lw_tbl := k_in [412, 414, 416, 418, 420, 422, 424] (by decide +kernel)
set_option maxRecDepth 100000 in
theorem t_C10 : ∀ w ∈ wsX100, w ∈ lw_tbl := k_in [1184, 1186, 1188, 1190, 1192, 1194, 1196, 1198, 1200, 1202, 1204, 1206, 1208, 1210, 1212, 1214, 1216, 1218, 1220, 1222, 1224, 1226, 1228, 1230, 1232, 1234, 1236, 1238, 1240, 1242, 1244, 1246, 1248, 1250, 1252, 1254, 1256, 1258, 1260, 1262, 1264, 1266, 1268, 1270, 1272, 1274, 1276, 1278] (by decide +kernel)
set_option maxRecDepth 100000 in
theorem t_V124 : ∀ w ∈ V_124, w ∈ lw_tbl := by decide +kernel
set_option maxRecDepth 100000 in
theorem t_V91 : ∀ w ∈ V_91, w ∈ lw_tbl := by decide +kernel
set_option maxRecDepth 100000 in
theorem t_V159 : ∀ w ∈ V_159, w ∈ lw_tbl := by decide +kernel
set_option maxRecDepth 100000 in
theorem t_h_X9_requireRouter : (.code yX9_requireRouter cX9_requireRouter 2 none) ∈ lw_tbl := k_in (ws := [(.code yX9_requireRouter cX9_requireRouter 2 none)]) [586] (by decide +kernel) _ List.mem_cons_self
set_option maxRecDepth 100000 in
theorem t_O_X9_requireRouter : ∀ w ∈ O_X9_requireRouter, w ∈ lw_tbl := k_in [587, 91, 405, 115] (by decide +kernel)
theorem t_WX9_requireRouter : ∀ w ∈ W_X9_requireRouter, w ∈ lw_tbl := List.forall_mem_cons.mpr ⟨t_h_X9_requireRouter, List.forall_mem_append.mpr ⟨t_O_X9_requireRouter, List.forall_mem_append.mpr ⟨t_V124, List.forall_mem_append.mpr ⟨t_C9, t_C8⟩⟩⟩⟩
set_option maxRecDepth 100000 in
theorem t_h_X9_addLink : (.code yX9_addLink cX9_addLink 6 (some .int)) ∈ lw_tbl := k_in (ws := [(.code yX9_addLink cX9_addLink 6 (some .int))]) [582] (by decide +kernel) _ List.mem_cons_self
set_option maxRecDepth 100000 in
theorem t_O_X9_addLink : ∀ w ∈ O_X9_addLink, w ∈ lw_tbl := k_in [583, 585, 4, 75] (by decide +kernel)
theorem t_WX9_addLink : ∀ w ∈ W_X9_addLink, w ∈ lw_tbl := List.forall_mem_cons.mpr ⟨t_h_X9_addLink, List.forall_mem_append.mpr ⟨t_O_X9_addLink, t_WX9_requireRouter⟩⟩
set_option maxRecDepth 100000 in
theorem t_h_L_addLink : (.codeWith yL_addLink cL_addLink 8 (some .int) [(0, 16, 19, 19), (0, 16, 23, 21), (0, 16, 27, 13)]) ∈ lw_tbl := k_in (ws := [(.codeWith yL_addLink cL_addLink 8 (some .int) [(0, 16, 19, 19), (0, 16, 23, 21), (0, 16, 27, 13)])]) [576] (by decide +kernel) _ List.mem_cons_self
set_option maxRecDepth 100000 in
theorem t_O_L_addLink : ∀ w ∈ O_L_addLink, w ∈ lw_tbl := k_in [579, 580, 581, 75, 577] (by decide +kernel)
theorem t_WL_addLink : ∀ w ∈ W_L_addLink, w ∈ lw_tbl := List.forall_mem_cons.mpr ⟨t_h_L_addLink, List.forall_mem_append.mpr ⟨t_O_L_addLink, t_WX9_addLink⟩⟩
set_option maxRecDepth 100000 in
theorem t_h_X8_createRouter : (.code yX8_createRouter cX8_createRouter 2 (some .int)) ∈ lw_tbl := k_in (ws := [(.code yX8_createRouter cX8_createRouter 2 (some .int))]) [573] (by decide +kernel) _ List.mem_cons_self
set_option maxRecDepth 100000 in
theorem t_O_X8_createRouter : ∀ w ∈ O_X8_createRouter, w ∈ lw_tbl := k_in [114, 121] (by decide +kernel)
theorem t_WX8_createRouter : ∀ w ∈ W_X8_createRouter, w ∈ lw_tbl := List.forall_mem_cons.mpr ⟨t_h_X8_createRouter, List.forall_mem_append.mpr ⟨t_O_X8_createRouter, t_C8⟩⟩
set_option maxRecDepth 100000 in
theorem t_h_X9_addRouter : (.code yX9_addRouter cX9_addRouter 1 (some .int)) ∈ lw_tbl := k_in (ws := [(.code yX9_addRouter cX9_addRouter 1 (some .int))]) [500] (by decide +kernel) _ List.mem_cons_self
set_option maxRecDepth 100000 in
theorem t_O_X9_addRouter : ∀ w ∈ O_X9_addRouter, w ∈ lw_tbl := k_in [405, 115, 570, 571, 572, 76] (by decide +kernel)
theorem t_WX9_addRouter : ∀ w ∈ W_X9_addRouter, w ∈ lw_tbl := List.forall_mem_cons.mpr ⟨t_h_X9_addRouter, List.forall_mem_append.mpr ⟨t_O_X9_addRouter, List.forall_mem_append.mpr ⟨t_C9, List.forall_mem_append.mpr ⟨t_C8, t_WX8_createRouter⟩⟩⟩⟩
set_option maxRecDepth 100000 in
theorem t_h_L_addRouter : (.codeWith yL_addRouter cL_addRouter 3 (some .int) [(0, 8, 11, 13)]) ∈ lw_tbl := k_in (ws := [(.codeWith yL_addRouter cL_addRouter 3 (some .int) [(0, 8, 11, 13)])]) [495] (by decide +kernel) _ List.mem_cons_self
set_option maxRecDepth 100000 in
theorem t_O_L_addRouter : ∀ w ∈ O_L_addRouter, w ∈ lw_tbl := k_in [497, 498, 499, 75] (by decide +kernel)
theorem t_WL_addRouter : ∀ w ∈ W_L_addRouter, w ∈ lw_tbl := List.forall_mem_cons.mpr ⟨t_h_L_addRouter, List.forall_mem_append.mpr ⟨t_O_L_addRouter, t_WX9_addRouter⟩⟩
set_option maxRecDepth 100000 in
theorem t_h_X9_requireAttached : (.code yX9_requireAttached cX9_requireAttached 3 none) ∈ lw_tbl := k_in (ws := [(.code yX9_requireAttached cX9_requireAttached 3 none)]) [1001] (by decide +kernel) _ List.mem_cons_self
set_option maxRecDepth 100000 in
theorem t_O_X9_requireAttached : ∀ w ∈ O_X9_requireAttached, w ∈ lw_tbl := k_in [583, 585, 4, 75] (by decide +kernel)
theorem t_WX9_requireAttached : ∀ w ∈ W_X9_requireAttached, w ∈ lw_tbl := List.forall_mem_cons.mpr ⟨t_h_X9_requireAttached, List.forall_mem_append.mpr ⟨t_O_X9_requireAttached, t_WX9_requireRouter⟩⟩
set_option maxRecDepth 100000 in
theorem t_h_X9_agree : (.code yX9_agree cX9_agree 4 (some .boolean)) ∈ lw_tbl := k_in (ws := [(.code yX9_agree cX9_agree 4 (some .boolean))]) [1034] (by decide +kernel) _ List.mem_cons_self
set_option maxRecDepth 100000 in
theorem t_O_X9_agree : ∀ w ∈ O_X9_agree, w ∈ lw_tbl := k_in [998, 1000, 28, 75] (by decide +kernel)
theorem t_WX9_agree : ∀ w ∈ W_X9_agree, w ∈ lw_tbl := List.forall_mem_cons.mpr ⟨t_h_X9_agree, List.forall_mem_append.mpr ⟨t_O_X9_agree, t_WX9_requireAttached⟩⟩
set_option maxRecDepth 100000 in
theorem t_h_L_agree : (.codeWith yL_agree cL_agree 6 (some .int) [(0, 19, 22, 19)]) ∈ lw_tbl := k_in (ws := [(.codeWith yL_agree cL_agree 6 (some .int) [(0, 19, 22, 19)])]) [1030] (by decide +kernel) _ List.mem_cons_self
set_option maxRecDepth 100000 in
theorem t_O_L_agree : ∀ w ∈ O_L_agree, w ∈ lw_tbl := k_in [1031, 1032, 1033, 75, 577] (by decide +kernel)
theorem t_WL_agree : ∀ w ∈ W_L_agree, w ∈ lw_tbl := List.forall_mem_cons.mpr ⟨t_h_L_agree, List.forall_mem_append.mpr ⟨t_O_L_agree, t_WX9_agree⟩⟩
set_option maxRecDepth 100000 in
theorem t_h_X9_announce : (.code yX9_announce cX9_announce 7 (some .int)) ∈ lw_tbl := k_in (ws := [(.code yX9_announce cX9_announce 7 (some .int))]) [724] (by decide +kernel) _ List.mem_cons_self
set_option maxRecDepth 100000 in
theorem t_O_X9_announce : ∀ w ∈ O_X9_announce, w ∈ lw_tbl := k_in [583, 585, 4, 75] (by decide +kernel)
theorem t_WX9_announce : ∀ w ∈ W_X9_announce, w ∈ lw_tbl := List.forall_mem_cons.mpr ⟨t_h_X9_announce, List.forall_mem_append.mpr ⟨t_O_X9_announce, t_WX9_requireRouter⟩⟩
set_option maxRecDepth 100000 in
theorem t_h_L_announce : (.codeWith yL_announce cL_announce 7 (some .int) [(0, 14, 17, 19), (0, 14, 21, 21), (0, 14, 25, 13)]) ∈ lw_tbl := k_in (ws := [(.codeWith yL_announce cL_announce 7 (some .int) [(0, 14, 17, 19), (0, 14, 21, 21), (0, 14, 25, 13)])]) [720] (by decide +kernel) _ List.mem_cons_self
set_option maxRecDepth 100000 in
theorem t_O_L_announce : ∀ w ∈ O_L_announce, w ∈ lw_tbl := k_in [721, 722, 723, 75, 577] (by decide +kernel)
theorem t_WL_announce : ∀ w ∈ W_L_announce, w ∈ lw_tbl := List.forall_mem_cons.mpr ⟨t_h_L_announce, List.forall_mem_append.mpr ⟨t_O_L_announce, t_WX9_announce⟩⟩
set_option maxRecDepth 100000 in
theorem t_h_X9_changedRoutes : (.code yX9_changedRoutes cX9_changedRoutes 2 (some .int)) ∈ lw_tbl := k_in (ws := [(.code yX9_changedRoutes cX9_changedRoutes 2 (some .int))]) [1108] (by decide +kernel) _ List.mem_cons_self
set_option maxRecDepth 100000 in
theorem t_O_X9_changedRoutes : ∀ w ∈ O_X9_changedRoutes, w ∈ lw_tbl := k_in [583, 585, 4, 75] (by decide +kernel)
theorem t_WX9_changedRoutes : ∀ w ∈ W_X9_changedRoutes, w ∈ lw_tbl := List.forall_mem_cons.mpr ⟨t_h_X9_changedRoutes, List.forall_mem_append.mpr ⟨t_O_X9_changedRoutes, t_WX9_requireRouter⟩⟩
set_option maxRecDepth 100000 in
theorem t_h_L_changedRoutes : (.codeWith yL_changedRoutes cL_changedRoutes 4 (some .int) [(0, 9, 12, 19)]) ∈ lw_tbl := k_in (ws := [(.codeWith yL_changedRoutes cL_changedRoutes 4 (some .int) [(0, 9, 12, 19)])]) [1104] (by decide +kernel) _ List.mem_cons_self
set_option maxRecDepth 100000 in
theorem t_O_L_changedRoutes : ∀ w ∈ O_L_changedRoutes, w ∈ lw_tbl := k_in [1105, 1106, 1107, 75, 577] (by decide +kernel)
theorem t_WL_changedRoutes : ∀ w ∈ W_L_changedRoutes, w ∈ lw_tbl := List.forall_mem_cons.mpr ⟨t_h_L_changedRoutes, List.forall_mem_append.mpr ⟨t_O_L_changedRoutes, t_WX9_changedRoutes⟩⟩
set_option maxRecDepth 100000 in
theorem t_h_X9_databaseSize : (.code yX9_databaseSize cX9_databaseSize 3 (some .int)) ∈ lw_tbl := k_in (ws := [(.code yX9_databaseSize cX9_databaseSize 3 (some .int))]) [997] (by decide +kernel) _ List.mem_cons_self
set_option maxRecDepth 100000 in
theorem t_O_X9_databaseSize : ∀ w ∈ O_X9_databaseSize, w ∈ lw_tbl := k_in [998, 1000, 28, 75] (by decide +kernel)
theorem t_WX9_databaseSize : ∀ w ∈ W_X9_databaseSize, w ∈ lw_tbl := List.forall_mem_cons.mpr ⟨t_h_X9_databaseSize, List.forall_mem_append.mpr ⟨t_O_X9_databaseSize, t_WX9_requireAttached⟩⟩
set_option maxRecDepth 100000 in
theorem t_h_L_databaseSize : (.codeWith yL_databaseSize cL_databaseSize 5 (some .int) [(0, 10, 13, 19)]) ∈ lw_tbl := k_in (ws := [(.codeWith yL_databaseSize cL_databaseSize 5 (some .int) [(0, 10, 13, 19)])]) [993] (by decide +kernel) _ List.mem_cons_self
set_option maxRecDepth 100000 in
theorem t_O_L_databaseSize : ∀ w ∈ O_L_databaseSize, w ∈ lw_tbl := k_in [994, 995, 996, 75, 577] (by decide +kernel)
theorem t_WL_databaseSize : ∀ w ∈ W_L_databaseSize, w ∈ lw_tbl := List.forall_mem_cons.mpr ⟨t_h_L_databaseSize, List.forall_mem_append.mpr ⟨t_O_L_databaseSize, t_WX9_databaseSize⟩⟩
set_option maxRecDepth 100000 in
theorem t_h_X9_distance : (.code yX9_distance cX9_distance 4 (some .int)) ∈ lw_tbl := k_in (ws := [(.code yX9_distance cX9_distance 4 (some .int))]) [1045] (by decide +kernel) _ List.mem_cons_self
set_option maxRecDepth 100000 in
theorem t_O_X9_distance : ∀ w ∈ O_X9_distance, w ∈ lw_tbl := k_in [998, 1000, 28, 75] (by decide +kernel)
theorem t_WX9_distance : ∀ w ∈ W_X9_distance, w ∈ lw_tbl := List.forall_mem_cons.mpr ⟨t_h_X9_distance, List.forall_mem_append.mpr ⟨t_O_X9_distance, t_WX9_requireAttached⟩⟩
set_option maxRecDepth 100000 in
theorem t_h_L_distance : (.codeWith yL_distance cL_distance 6 (some .int) [(0, 12, 15, 19)]) ∈ lw_tbl := k_in (ws := [(.codeWith yL_distance cL_distance 6 (some .int) [(0, 12, 15, 19)])]) [1041] (by decide +kernel) _ List.mem_cons_self
set_option maxRecDepth 100000 in
theorem t_O_L_distance : ∀ w ∈ O_L_distance, w ∈ lw_tbl := k_in [1042, 1043, 1044, 75, 577] (by decide +kernel)
theorem t_WL_distance : ∀ w ∈ W_L_distance, w ∈ lw_tbl := List.forall_mem_cons.mpr ⟨t_h_L_distance, List.forall_mem_append.mpr ⟨t_O_L_distance, t_WX9_distance⟩⟩
set_option maxRecDepth 100000 in
theorem t_h_X9_firstLink : (.code yX9_firstLink cX9_firstLink 6 (some .int)) ∈ lw_tbl := k_in (ws := [(.code yX9_firstLink cX9_firstLink 6 (some .int))]) [1060] (by decide +kernel) _ List.mem_cons_self
set_option maxRecDepth 100000 in
theorem t_O_X9_firstLink : ∀ w ∈ O_X9_firstLink, w ∈ lw_tbl := k_in [998, 1000, 28, 75] (by decide +kernel)
theorem t_WX9_firstLink : ∀ w ∈ W_X9_firstLink, w ∈ lw_tbl := List.forall_mem_cons.mpr ⟨t_h_X9_firstLink, List.forall_mem_append.mpr ⟨t_O_X9_firstLink, t_WX9_requireAttached⟩⟩
set_option maxRecDepth 100000 in
theorem t_h_L_firstLink : (.codeWith yL_firstLink cL_firstLink 7 (some .int) [(0, 14, 17, 19), (0, 14, 21, 41)]) ∈ lw_tbl := k_in (ws := [(.codeWith yL_firstLink cL_firstLink 7 (some .int) [(0, 14, 17, 19), (0, 14, 21, 41)])]) [1056] (by decide +kernel) _ List.mem_cons_self
set_option maxRecDepth 100000 in
theorem t_O_L_firstLink : ∀ w ∈ O_L_firstLink, w ∈ lw_tbl := k_in [1057, 1058, 1059, 75, 577] (by decide +kernel)
theorem t_WL_firstLink : ∀ w ∈ W_L_firstLink, w ∈ lw_tbl := List.forall_mem_cons.mpr ⟨t_h_L_firstLink, List.forall_mem_append.mpr ⟨t_O_L_firstLink, t_WX9_firstLink⟩⟩
set_option maxRecDepth 100000 in
theorem t_h_X9_firstLinkCount : (.code yX9_firstLinkCount cX9_firstLinkCount 4 (some .int)) ∈ lw_tbl := k_in (ws := [(.code yX9_firstLinkCount cX9_firstLinkCount 4 (some .int))]) [1053] (by decide +kernel) _ List.mem_cons_self
set_option maxRecDepth 100000 in
theorem t_O_X9_firstLinkCount : ∀ w ∈ O_X9_firstLinkCount, w ∈ lw_tbl := k_in [998, 1000, 28, 75] (by decide +kernel)
theorem t_WX9_firstLinkCount : ∀ w ∈ W_X9_firstLinkCount, w ∈ lw_tbl := List.forall_mem_cons.mpr ⟨t_h_X9_firstLinkCount, List.forall_mem_append.mpr ⟨t_O_X9_firstLinkCount, t_WX9_requireAttached⟩⟩
set_option maxRecDepth 100000 in
theorem t_h_L_firstLinkCount : (.codeWith yL_firstLinkCount cL_firstLinkCount 6 (some .int) [(0, 12, 15, 19)]) ∈ lw_tbl := k_in (ws := [(.codeWith yL_firstLinkCount cL_firstLinkCount 6 (some .int) [(0, 12, 15, 19)])]) [1049] (by decide +kernel) _ List.mem_cons_self
set_option maxRecDepth 100000 in
theorem t_O_L_firstLinkCount : ∀ w ∈ O_L_firstLinkCount, w ∈ lw_tbl := k_in [1050, 1051, 1052, 75, 577] (by decide +kernel)
theorem t_WL_firstLinkCount : ∀ w ∈ W_L_firstLinkCount, w ∈ lw_tbl := List.forall_mem_cons.mpr ⟨t_h_L_firstLinkCount, List.forall_mem_append.mpr ⟨t_O_L_firstLinkCount, t_WX9_firstLinkCount⟩⟩
set_option maxRecDepth 100000 in
theorem t_h_X9_isBorder : (.code yX9_isBorder cX9_isBorder 2 (some .boolean)) ∈ lw_tbl := k_in (ws := [(.code yX9_isBorder cX9_isBorder 2 (some .boolean))]) [776] (by decide +kernel) _ List.mem_cons_self
set_option maxRecDepth 100000 in
theorem t_O_X9_isBorder : ∀ w ∈ O_X9_isBorder, w ∈ lw_tbl := k_in [583, 585, 4, 75] (by decide +kernel)
theorem t_WX9_isBorder : ∀ w ∈ W_X9_isBorder, w ∈ lw_tbl := List.forall_mem_cons.mpr ⟨t_h_X9_isBorder, List.forall_mem_append.mpr ⟨t_O_X9_isBorder, t_WX9_requireRouter⟩⟩
set_option maxRecDepth 100000 in
theorem t_h_L_isBorder : (.codeWith yL_isBorder cL_isBorder 4 (some .int) [(0, 16, 19, 19)]) ∈ lw_tbl := k_in (ws := [(.codeWith yL_isBorder cL_isBorder 4 (some .int) [(0, 16, 19, 19)])]) [772] (by decide +kernel) _ List.mem_cons_self
set_option maxRecDepth 100000 in
theorem t_O_L_isBorder : ∀ w ∈ O_L_isBorder, w ∈ lw_tbl := k_in [773, 774, 775, 75, 577] (by decide +kernel)
theorem t_WL_isBorder : ∀ w ∈ W_L_isBorder, w ∈ lw_tbl := List.forall_mem_cons.mpr ⟨t_h_L_isBorder, List.forall_mem_append.mpr ⟨t_O_L_isBorder, t_WX9_isBorder⟩⟩
set_option maxRecDepth 100000 in
theorem t_h_X9_isLocal : (.code yX9_isLocal cX9_isLocal 3 (some .boolean)) ∈ lw_tbl := k_in (ws := [(.code yX9_isLocal cX9_isLocal 3 (some .boolean))]) [1086] (by decide +kernel) _ List.mem_cons_self
set_option maxRecDepth 100000 in
theorem t_O_X9_isLocal : ∀ w ∈ O_X9_isLocal, w ∈ lw_tbl := k_in [583, 585, 4, 75] (by decide +kernel)
theorem t_WX9_isLocal : ∀ w ∈ W_X9_isLocal, w ∈ lw_tbl := List.forall_mem_cons.mpr ⟨t_h_X9_isLocal, List.forall_mem_append.mpr ⟨t_O_X9_isLocal, t_WX9_requireRouter⟩⟩
set_option maxRecDepth 100000 in
theorem t_h_L_isLocal : (.codeWith yL_isLocal cL_isLocal 5 (some .int) [(0, 17, 20, 19)]) ∈ lw_tbl := k_in (ws := [(.codeWith yL_isLocal cL_isLocal 5 (some .int) [(0, 17, 20, 19)])]) [1082] (by decide +kernel) _ List.mem_cons_self
set_option maxRecDepth 100000 in
theorem t_O_L_isLocal : ∀ w ∈ O_L_isLocal, w ∈ lw_tbl := k_in [1083, 1084, 1085, 75, 577] (by decide +kernel)
theorem t_WL_isLocal : ∀ w ∈ W_L_isLocal, w ∈ lw_tbl := List.forall_mem_cons.mpr ⟨t_h_L_isLocal, List.forall_mem_append.mpr ⟨t_O_L_isLocal, t_WX9_isLocal⟩⟩
set_option maxRecDepth 100000 in
theorem t_h_X9_requireLink : (.code yX9_requireLink cX9_requireLink 2 none) ∈ lw_tbl := k_in (ws := [(.code yX9_requireLink cX9_requireLink 2 none)]) [649] (by decide +kernel) _ List.mem_cons_self
set_option maxRecDepth 100000 in
theorem t_O_X9_requireLink : ∀ w ∈ O_X9_requireLink, w ∈ lw_tbl := k_in [587, 91, 405, 120] (by decide +kernel)
theorem t_WX9_requireLink : ∀ w ∈ W_X9_requireLink, w ∈ lw_tbl := List.forall_mem_cons.mpr ⟨t_h_X9_requireLink, List.forall_mem_append.mpr ⟨t_O_X9_requireLink, List.forall_mem_append.mpr ⟨t_V124, List.forall_mem_append.mpr ⟨t_C9, t_C8⟩⟩⟩⟩
set_option maxRecDepth 100000 in
theorem t_h_X9_isUsable : (.code yX9_isUsable cX9_isUsable 2 (some .boolean)) ∈ lw_tbl := k_in (ws := [(.code yX9_isUsable cX9_isUsable 2 (some .boolean))]) [765] (by decide +kernel) _ List.mem_cons_self
set_option maxRecDepth 100000 in
theorem t_O_X9_isUsable : ∀ w ∈ O_X9_isUsable, w ∈ lw_tbl := k_in [646, 648, 6, 75] (by decide +kernel)
theorem t_WX9_isUsable : ∀ w ∈ W_X9_isUsable, w ∈ lw_tbl := List.forall_mem_cons.mpr ⟨t_h_X9_isUsable, List.forall_mem_append.mpr ⟨t_O_X9_isUsable, t_WX9_requireLink⟩⟩
set_option maxRecDepth 100000 in
theorem t_h_L_isUsable : (.codeWith yL_isUsable cL_isUsable 4 (some .int) [(0, 16, 19, 19)]) ∈ lw_tbl := k_in (ws := [(.codeWith yL_isUsable cL_isUsable 4 (some .int) [(0, 16, 19, 19)])]) [761] (by decide +kernel) _ List.mem_cons_self
set_option maxRecDepth 100000 in
theorem t_O_L_isUsable : ∀ w ∈ O_L_isUsable, w ∈ lw_tbl := k_in [762, 763, 764, 75, 577] (by decide +kernel)
theorem t_WL_isUsable : ∀ w ∈ W_L_isUsable, w ∈ lw_tbl := List.forall_mem_cons.mpr ⟨t_h_L_isUsable, List.forall_mem_append.mpr ⟨t_O_L_isUsable, t_WX9_isUsable⟩⟩
set_option maxRecDepth 100000 in
theorem t_h_X9_listedLinks : (.code yX9_listedLinks cX9_listedLinks 5 (some .int)) ∈ lw_tbl := k_in (ws := [(.code yX9_listedLinks cX9_listedLinks 5 (some .int))]) [1015] (by decide +kernel) _ List.mem_cons_self
set_option maxRecDepth 100000 in
theorem t_O_X9_listedLinks : ∀ w ∈ O_X9_listedLinks, w ∈ lw_tbl := k_in [998, 1000, 28, 75] (by decide +kernel)
theorem t_WX9_listedLinks : ∀ w ∈ W_X9_listedLinks, w ∈ lw_tbl := List.forall_mem_cons.mpr ⟨t_h_X9_listedLinks, List.forall_mem_append.mpr ⟨t_O_X9_listedLinks, t_WX9_requireAttached⟩⟩
set_option maxRecDepth 100000 in
theorem t_h_L_listedLinks : (.codeWith yL_listedLinks cL_listedLinks 6 (some .int) [(0, 12, 15, 19)]) ∈ lw_tbl := k_in (ws := [(.codeWith yL_listedLinks cL_listedLinks 6 (some .int) [(0, 12, 15, 19)])]) [1011] (by decide +kernel) _ List.mem_cons_self
set_option maxRecDepth 100000 in
theorem t_O_L_listedLinks : ∀ w ∈ O_L_listedLinks, w ∈ lw_tbl := k_in [1012, 1013, 1014, 75, 577] (by decide +kernel)
theorem t_WL_listedLinks : ∀ w ∈ W_L_listedLinks, w ∈ lw_tbl := List.forall_mem_cons.mpr ⟨t_h_L_listedLinks, List.forall_mem_append.mpr ⟨t_O_L_listedLinks, t_WX9_listedLinks⟩⟩
set_option maxRecDepth 100000 in
theorem t_h_X9_routeCost : (.code yX9_routeCost cX9_routeCost 4 (some .int)) ∈ lw_tbl := k_in (ws := [(.code yX9_routeCost cX9_routeCost 4 (some .int))]) [1078] (by decide +kernel) _ List.mem_cons_self
set_option maxRecDepth 100000 in
theorem t_O_X9_routeCost : ∀ w ∈ O_X9_routeCost, w ∈ lw_tbl := k_in [583, 585, 4, 75] (by decide +kernel)
theorem t_WX9_routeCost : ∀ w ∈ W_X9_routeCost, w ∈ lw_tbl := List.forall_mem_cons.mpr ⟨t_h_X9_routeCost, List.forall_mem_append.mpr ⟨t_O_X9_routeCost, t_WX9_requireRouter⟩⟩
set_option maxRecDepth 100000 in
theorem t_h_L_routeCost : (.codeWith yL_routeCost cL_routeCost 5 (some .int) [(0, 10, 13, 19), (0, 10, 17, 41)]) ∈ lw_tbl := k_in (ws := [(.codeWith yL_routeCost cL_routeCost 5 (some .int) [(0, 10, 13, 19), (0, 10, 17, 41)])]) [1074] (by decide +kernel) _ List.mem_cons_self
set_option maxRecDepth 100000 in
theorem t_O_L_routeCost : ∀ w ∈ O_L_routeCost, w ∈ lw_tbl := k_in [1075, 1076, 1077, 75, 577] (by decide +kernel)
theorem t_WL_routeCost : ∀ w ∈ W_L_routeCost, w ∈ lw_tbl := List.forall_mem_cons.mpr ⟨t_h_L_routeCost, List.forall_mem_append.mpr ⟨t_O_L_routeCost, t_WX9_routeCost⟩⟩
set_option maxRecDepth 100000 in
theorem t_h_X9_routeKind : (.code yX9_routeKind cX9_routeKind 3 (some .int)) ∈ lw_tbl := k_in (ws := [(.code yX9_routeKind cX9_routeKind 3 (some .int))]) [1071] (by decide +kernel) _ List.mem_cons_self
set_option maxRecDepth 100000 in
theorem t_O_X9_routeKind : ∀ w ∈ O_X9_routeKind, w ∈ lw_tbl := k_in [583, 585, 4, 75] (by decide +kernel)
theorem t_WX9_routeKind : ∀ w ∈ W_X9_routeKind, w ∈ lw_tbl := List.forall_mem_cons.mpr ⟨t_h_X9_routeKind, List.forall_mem_append.mpr ⟨t_O_X9_routeKind, t_WX9_requireRouter⟩⟩
set_option maxRecDepth 100000 in
theorem t_h_L_routeKind : (.codeWith yL_routeKind cL_routeKind 5 (some .int) [(0, 10, 13, 19)]) ∈ lw_tbl := k_in (ws := [(.codeWith yL_routeKind cL_routeKind 5 (some .int) [(0, 10, 13, 19)])]) [1067] (by decide +kernel) _ List.mem_cons_self
set_option maxRecDepth 100000 in
theorem t_O_L_routeKind : ∀ w ∈ O_L_routeKind, w ∈ lw_tbl := k_in [1068, 1069, 1070, 75, 577] (by decide +kernel)
theorem t_WL_routeKind : ∀ w ∈ W_L_routeKind, w ∈ lw_tbl := List.forall_mem_cons.mpr ⟨t_h_L_routeKind, List.forall_mem_append.mpr ⟨t_O_L_routeKind, t_WX9_routeKind⟩⟩
set_option maxRecDepth 100000 in
theorem t_h_X9_routeLink : (.code yX9_routeLink cX9_routeLink 5 (some .int)) ∈ lw_tbl := k_in (ws := [(.code yX9_routeLink cX9_routeLink 5 (some .int))]) [1100] (by decide +kernel) _ List.mem_cons_self
set_option maxRecDepth 100000 in
theorem t_O_X9_routeLink : ∀ w ∈ O_X9_routeLink, w ∈ lw_tbl := k_in [583, 585, 4, 75] (by decide +kernel)
theorem t_WX9_routeLink : ∀ w ∈ W_X9_routeLink, w ∈ lw_tbl := List.forall_mem_cons.mpr ⟨t_h_X9_routeLink, List.forall_mem_append.mpr ⟨t_O_X9_routeLink, t_WX9_requireRouter⟩⟩
set_option maxRecDepth 100000 in
theorem t_h_L_routeLink : (.codeWith yL_routeLink cL_routeLink 6 (some .int) [(0, 12, 15, 19), (0, 12, 19, 41)]) ∈ lw_tbl := k_in (ws := [(.codeWith yL_routeLink cL_routeLink 6 (some .int) [(0, 12, 15, 19), (0, 12, 19, 41)])]) [1096] (by decide +kernel) _ List.mem_cons_self
set_option maxRecDepth 100000 in
theorem t_O_L_routeLink : ∀ w ∈ O_L_routeLink, w ∈ lw_tbl := k_in [1097, 1098, 1099, 75, 577] (by decide +kernel)
theorem t_WL_routeLink : ∀ w ∈ W_L_routeLink, w ∈ lw_tbl := List.forall_mem_cons.mpr ⟨t_h_L_routeLink, List.forall_mem_append.mpr ⟨t_O_L_routeLink, t_WX9_routeLink⟩⟩
set_option maxRecDepth 100000 in
theorem t_h_X9_routeLinkCount : (.code yX9_routeLinkCount cX9_routeLinkCount 3 (some .int)) ∈ lw_tbl := k_in (ws := [(.code yX9_routeLinkCount cX9_routeLinkCount 3 (some .int))]) [1093] (by decide +kernel) _ List.mem_cons_self
set_option maxRecDepth 100000 in
theorem t_O_X9_routeLinkCount : ∀ w ∈ O_X9_routeLinkCount, w ∈ lw_tbl := k_in [583, 585, 4, 75] (by decide +kernel)
theorem t_WX9_routeLinkCount : ∀ w ∈ W_X9_routeLinkCount, w ∈ lw_tbl := List.forall_mem_cons.mpr ⟨t_h_X9_routeLinkCount, List.forall_mem_append.mpr ⟨t_O_X9_routeLinkCount, t_WX9_requireRouter⟩⟩
set_option maxRecDepth 100000 in
theorem t_h_L_routeLinkCount : (.codeWith yL_routeLinkCount cL_routeLinkCount 5 (some .int) [(0, 10, 13, 19)]) ∈ lw_tbl := k_in (ws := [(.codeWith yL_routeLinkCount cL_routeLinkCount 5 (some .int) [(0, 10, 13, 19)])]) [1089] (by decide +kernel) _ List.mem_cons_self
set_option maxRecDepth 100000 in
theorem t_O_L_routeLinkCount : ∀ w ∈ O_L_routeLinkCount, w ∈ lw_tbl := k_in [1090, 1091, 1092, 75, 577] (by decide +kernel)
theorem t_WL_routeLinkCount : ∀ w ∈ W_L_routeLinkCount, w ∈ lw_tbl := List.forall_mem_cons.mpr ⟨t_h_L_routeLinkCount, List.forall_mem_append.mpr ⟨t_O_L_routeLinkCount, t_WX9_routeLinkCount⟩⟩
set_option maxRecDepth 100000 in
theorem t_h_X9_sequence : (.code yX9_sequence cX9_sequence 4 (some .int)) ∈ lw_tbl := k_in (ws := [(.code yX9_sequence cX9_sequence 4 (some .int))]) [1008] (by decide +kernel) _ List.mem_cons_self
set_option maxRecDepth 100000 in
theorem t_O_X9_sequence : ∀ w ∈ O_X9_sequence, w ∈ lw_tbl := k_in [998, 1000, 28, 75] (by decide +kernel)
theorem t_WX9_sequence : ∀ w ∈ W_X9_sequence, w ∈ lw_tbl := List.forall_mem_cons.mpr ⟨t_h_X9_sequence, List.forall_mem_append.mpr ⟨t_O_X9_sequence, t_WX9_requireAttached⟩⟩
set_option maxRecDepth 100000 in
theorem t_h_L_sequence : (.codeWith yL_sequence cL_sequence 6 (some .int) [(0, 12, 15, 19)]) ∈ lw_tbl := k_in (ws := [(.codeWith yL_sequence cL_sequence 6 (some .int) [(0, 12, 15, 19)])]) [1004] (by decide +kernel) _ List.mem_cons_self
set_option maxRecDepth 100000 in
theorem t_O_L_sequence : ∀ w ∈ O_L_sequence, w ∈ lw_tbl := k_in [1005, 1006, 1007, 75, 577] (by decide +kernel)
theorem t_WL_sequence : ∀ w ∈ W_L_sequence, w ∈ lw_tbl := List.forall_mem_cons.mpr ⟨t_h_L_sequence, List.forall_mem_append.mpr ⟨t_O_L_sequence, t_WX9_sequence⟩⟩
set_option maxRecDepth 100000 in
theorem t_h_X9_setLink : (.code yX9_setLink cX9_setLink 3 (some .boolean)) ∈ lw_tbl := k_in (ws := [(.code yX9_setLink cX9_setLink 3 (some .boolean))]) [645] (by decide +kernel) _ List.mem_cons_self
set_option maxRecDepth 100000 in
theorem t_O_X9_setLink : ∀ w ∈ O_X9_setLink, w ∈ lw_tbl := k_in [646, 648, 6, 75] (by decide +kernel)
theorem t_WX9_setLink : ∀ w ∈ W_X9_setLink, w ∈ lw_tbl := List.forall_mem_cons.mpr ⟨t_h_X9_setLink, List.forall_mem_append.mpr ⟨t_O_X9_setLink, t_WX9_requireLink⟩⟩
set_option maxRecDepth 100000 in
theorem t_h_L_setLink : (.codeWith yL_setLink cL_setLink 5 (some .int) [(0, 17, 20, 19)]) ∈ lw_tbl := k_in (ws := [(.codeWith yL_setLink cL_setLink 5 (some .int) [(0, 17, 20, 19)])]) [641] (by decide +kernel) _ List.mem_cons_self
set_option maxRecDepth 100000 in
theorem t_O_L_setLink : ∀ w ∈ O_L_setLink, w ∈ lw_tbl := k_in [642, 643, 644, 75, 577] (by decide +kernel)
theorem t_WL_setLink : ∀ w ∈ W_L_setLink, w ∈ lw_tbl := List.forall_mem_cons.mpr ⟨t_h_L_setLink, List.forall_mem_append.mpr ⟨t_O_L_setLink, t_WX9_setLink⟩⟩
set_option maxRecDepth 100000 in
theorem t_h_X9_setMetric : (.code yX9_setMetric cX9_setMetric 6 (some .int)) ∈ lw_tbl := k_in (ws := [(.code yX9_setMetric cX9_setMetric 6 (some .int))]) [661] (by decide +kernel) _ List.mem_cons_self
set_option maxRecDepth 100000 in
theorem t_O_X9_setMetric : ∀ w ∈ O_X9_setMetric, w ∈ lw_tbl := k_in [646, 648, 6, 75] (by decide +kernel)
theorem t_WX9_setMetric : ∀ w ∈ W_X9_setMetric, w ∈ lw_tbl := List.forall_mem_cons.mpr ⟨t_h_X9_setMetric, List.forall_mem_append.mpr ⟨t_O_X9_setMetric, t_WX9_requireLink⟩⟩
set_option maxRecDepth 100000 in
theorem t_h_L_setMetric : (.codeWith yL_setMetric cL_setMetric 6 (some .int) [(0, 12, 15, 19), (0, 12, 19, 21)]) ∈ lw_tbl := k_in (ws := [(.codeWith yL_setMetric cL_setMetric 6 (some .int) [(0, 12, 15, 19), (0, 12, 19, 21)])]) [657] (by decide +kernel) _ List.mem_cons_self
set_option maxRecDepth 100000 in
theorem t_O_L_setMetric : ∀ w ∈ O_L_setMetric, w ∈ lw_tbl := k_in [658, 659, 660, 75, 577] (by decide +kernel)
theorem t_WL_setMetric : ∀ w ∈ W_L_setMetric, w ∈ lw_tbl := List.forall_mem_cons.mpr ⟨t_h_L_setMetric, List.forall_mem_append.mpr ⟨t_O_L_setMetric, t_WX9_setMetric⟩⟩
set_option maxRecDepth 100000 in
theorem t_h_X9_setRouter : (.code yX9_setRouter cX9_setRouter 4 (some .boolean)) ∈ lw_tbl := k_in (ws := [(.code yX9_setRouter cX9_setRouter 4 (some .boolean))]) [669] (by decide +kernel) _ List.mem_cons_self
set_option maxRecDepth 100000 in
theorem t_O_X9_setRouter : ∀ w ∈ O_X9_setRouter, w ∈ lw_tbl := k_in [583, 585, 4, 75] (by decide +kernel)
theorem t_WX9_setRouter : ∀ w ∈ W_X9_setRouter, w ∈ lw_tbl := List.forall_mem_cons.mpr ⟨t_h_X9_setRouter, List.forall_mem_append.mpr ⟨t_O_X9_setRouter, t_WX9_requireRouter⟩⟩
set_option maxRecDepth 100000 in
theorem t_h_L_setRouter : (.codeWith yL_setRouter cL_setRouter 5 (some .int) [(0, 17, 20, 19)]) ∈ lw_tbl := k_in (ws := [(.codeWith yL_setRouter cL_setRouter 5 (some .int) [(0, 17, 20, 19)])]) [665] (by decide +kernel) _ List.mem_cons_self
set_option maxRecDepth 100000 in
theorem t_O_L_setRouter : ∀ w ∈ O_L_setRouter, w ∈ lw_tbl := k_in [666, 667, 668, 75, 577] (by decide +kernel)
theorem t_WL_setRouter : ∀ w ∈ W_L_setRouter, w ∈ lw_tbl := List.forall_mem_cons.mpr ⟨t_h_L_setRouter, List.forall_mem_append.mpr ⟨t_O_L_setRouter, t_WX9_setRouter⟩⟩
set_option maxRecDepth 100000 in
theorem t_h_X9_summary : (.code yX9_summary cX9_summary 6 (some .int)) ∈ lw_tbl := k_in (ws := [(.code yX9_summary cX9_summary 6 (some .int))]) [1026] (by decide +kernel) _ List.mem_cons_self
set_option maxRecDepth 100000 in
theorem t_O_X9_summary : ∀ w ∈ O_X9_summary, w ∈ lw_tbl := k_in [998, 1000, 28, 75] (by decide +kernel)
theorem t_WX9_summary : ∀ w ∈ W_X9_summary, w ∈ lw_tbl := List.forall_mem_cons.mpr ⟨t_h_X9_summary, List.forall_mem_append.mpr ⟨t_O_X9_summary, t_WX9_requireAttached⟩⟩
set_option maxRecDepth 100000 in
theorem t_h_L_summary : (.codeWith yL_summary cL_summary 7 (some .int) [(0, 14, 17, 19)]) ∈ lw_tbl := k_in (ws := [(.codeWith yL_summary cL_summary 7 (some .int) [(0, 14, 17, 19)])]) [1022] (by decide +kernel) _ List.mem_cons_self
set_option maxRecDepth 100000 in
theorem t_O_L_summary : ∀ w ∈ O_L_summary, w ∈ lw_tbl := k_in [1023, 1024, 1025, 75, 577] (by decide +kernel)
theorem t_WL_summary : ∀ w ∈ W_L_summary, w ∈ lw_tbl := List.forall_mem_cons.mpr ⟨t_h_L_summary, List.forall_mem_append.mpr ⟨t_O_L_summary, t_WX9_summary⟩⟩
set_option maxRecDepth 100000 in
theorem t_h_X2_holdsSlot : (.code yX2_holdsSlot cX2_holdsSlot 2 (some .boolean)) ∈ lw_tbl := k_in (ws := [(.code yX2_holdsSlot cX2_holdsSlot 2 (some .boolean))]) [796] (by decide +kernel) _ List.mem_cons_self
set_option maxRecDepth 100000 in
theorem t_O_X2_holdsSlot : ∀ w ∈ O_X2_holdsSlot, w ∈ lw_tbl := k_in [221] (by decide +kernel)
theorem t_WX2_holdsSlot : ∀ w ∈ W_X2_holdsSlot, w ∈ lw_tbl := List.forall_mem_cons.mpr ⟨t_h_X2_holdsSlot, List.forall_mem_append.mpr ⟨t_O_X2_holdsSlot, t_C2⟩⟩
set_option maxRecDepth 100000 in
theorem t_h_X7_removeExpired : (.code yX7_removeExpired cX7_removeExpired 4 none) ∈ lw_tbl := k_in (ws := [(.code yX7_removeExpired cX7_removeExpired 4 none)]) [792] (by decide +kernel) _ List.mem_cons_self
set_option maxRecDepth 100000 in
theorem t_O_X7_removeExpired : ∀ w ∈ O_X7_removeExpired, w ∈ lw_tbl := k_in [362, 361, 182, 793, 794, 795, 79] (by decide +kernel)
theorem t_WX7_removeExpired : ∀ w ∈ W_X7_removeExpired, w ∈ lw_tbl := List.forall_mem_cons.mpr ⟨t_h_X7_removeExpired, List.forall_mem_append.mpr ⟨t_O_X7_removeExpired, List.forall_mem_append.mpr ⟨t_C7, List.forall_mem_append.mpr ⟨t_C0, t_WX2_holdsSlot⟩⟩⟩⟩
set_option maxRecDepth 100000 in
theorem t_h_X7_deliverMail : (.code yX7_deliverMail cX7_deliverMail 6 (some .int)) ∈ lw_tbl := k_in (ws := [(.code yX7_deliverMail cX7_deliverMail 6 (some .int))]) [806] (by decide +kernel) _ List.mem_cons_self
set_option maxRecDepth 100000 in
theorem t_O_X7_deliverMail : ∀ w ∈ O_X7_deliverMail, w ∈ lw_tbl := k_in [358, 356, 346] (by decide +kernel)
theorem t_WX7_deliverMail : ∀ w ∈ W_X7_deliverMail, w ∈ lw_tbl := List.forall_mem_cons.mpr ⟨t_h_X7_deliverMail, List.forall_mem_append.mpr ⟨t_O_X7_deliverMail, List.forall_mem_append.mpr ⟨t_C7, t_C3⟩⟩⟩
set_option maxRecDepth 100000 in
theorem t_h_X7_letRoutersAct : (.code yX7_letRoutersAct cX7_letRoutersAct 2 none) ∈ lw_tbl := k_in (ws := [(.code yX7_letRoutersAct cX7_letRoutersAct 2 none)]) [860] (by decide +kernel) _ List.mem_cons_self
set_option maxRecDepth 100000 in
theorem t_O_X7_letRoutersAct : ∀ w ∈ O_X7_letRoutersAct, w ∈ lw_tbl := k_in [360, 116] (by decide +kernel)
theorem t_WX7_letRoutersAct : ∀ w ∈ W_X7_letRoutersAct, w ∈ lw_tbl := List.forall_mem_cons.mpr ⟨t_h_X7_letRoutersAct, List.forall_mem_append.mpr ⟨t_O_X7_letRoutersAct, List.forall_mem_append.mpr ⟨t_C7, t_C8⟩⟩⟩
set_option maxRecDepth 100000 in
theorem t_h_X8_rememberUsableLinks : (.code yX8_rememberUsableLinks cX8_rememberUsableLinks 2 none) ∈ lw_tbl := k_in (ws := [(.code yX8_rememberUsableLinks cX8_rememberUsableLinks 2 none)]) [990] (by decide +kernel) _ List.mem_cons_self
set_option maxRecDepth 100000 in
theorem t_O_X8_rememberUsableLinks : ∀ w ∈ O_X8_rememberUsableLinks, w ∈ lw_tbl := k_in [119] (by decide +kernel)
theorem t_WX8_rememberUsableLinks : ∀ w ∈ W_X8_rememberUsableLinks, w ∈ lw_tbl := List.forall_mem_cons.mpr ⟨t_h_X8_rememberUsableLinks, List.forall_mem_append.mpr ⟨t_O_X8_rememberUsableLinks, t_C8⟩⟩
set_option maxRecDepth 100000 in
theorem t_h_X9_tick : (.code yX9_tick cX9_tick 4 (some .int)) ∈ lw_tbl := k_in (ws := [(.code yX9_tick cX9_tick 4 (some .int))]) [787] (by decide +kernel) _ List.mem_cons_self
set_option maxRecDepth 100000 in
theorem t_O_X9_tick : ∀ w ∈ O_X9_tick, w ∈ lw_tbl := k_in [406, 183, 410, 789, 790, 791, 83, 803, 804, 805, 857, 858, 859, 405, 987, 988, 989, 76] (by decide +kernel)
theorem t_WX9_tick : ∀ w ∈ W_X9_tick, w ∈ lw_tbl := List.forall_mem_cons.mpr ⟨t_h_X9_tick, List.forall_mem_append.mpr ⟨t_O_X9_tick, List.forall_mem_append.mpr ⟨t_C9, List.forall_mem_append.mpr ⟨t_C0, List.forall_mem_append.mpr ⟨t_WX7_removeExpired, List.forall_mem_append.mpr ⟨t_WX7_deliverMail, List.forall_mem_append.mpr ⟨t_WX7_letRoutersAct, t_WX8_rememberUsableLinks⟩⟩⟩⟩⟩⟩⟩
set_option maxRecDepth 100000 in
theorem t_h_L_tick : (.codeWith yL_tick cL_tick 4 (some .int) [(0, 9, 12, 21)]) ∈ lw_tbl := k_in (ws := [(.codeWith yL_tick cL_tick 4 (some .int) [(0, 9, 12, 21)])]) [783] (by decide +kernel) _ List.mem_cons_self
set_option maxRecDepth 100000 in
theorem t_O_L_tick : ∀ w ∈ O_L_tick, w ∈ lw_tbl := k_in [784, 785, 786, 75] (by decide +kernel)
theorem t_WL_tick : ∀ w ∈ W_L_tick, w ∈ lw_tbl := List.forall_mem_cons.mpr ⟨t_h_L_tick, List.forall_mem_append.mpr ⟨t_O_L_tick, t_WX9_tick⟩⟩
set_option maxRecDepth 100000 in
theorem t_h_X9_tick_x : (.code yX9_tick cX9_tick 4 (some .int)) ∈ lw_tbl := k_in (ws := [(.code yX9_tick cX9_tick 4 (some .int))]) [787] (by decide +kernel) _ List.mem_cons_self
set_option maxRecDepth 100000 in
theorem t_O_X9_tick_x : ∀ w ∈ O_X9_tick_x, w ∈ lw_tbl := k_in [603, 92] (by decide +kernel)
theorem t_WX9_tick_x : ∀ w ∈ W_X9_tick_x, w ∈ lw_tbl := List.forall_mem_cons.mpr ⟨t_h_X9_tick_x, List.forall_mem_append.mpr ⟨t_O_X9_tick_x, t_V91⟩⟩
set_option maxRecDepth 100000 in
theorem t_h_L_tick_x : (.codeWith yL_tick cL_tick 4 (some .int) [(0, 9, 12, 21)]) ∈ lw_tbl := k_in (ws := [(.codeWith yL_tick cL_tick 4 (some .int) [(0, 9, 12, 21)])]) [783] (by decide +kernel) _ List.mem_cons_self
set_option maxRecDepth 100000 in
theorem t_O_L_tick_x : ∀ w ∈ O_L_tick_x, w ∈ lw_tbl := k_in [784, 785, 786, 75, 578] (by decide +kernel)
theorem t_WL_tick_x : ∀ w ∈ W_L_tick_x, w ∈ lw_tbl := List.forall_mem_cons.mpr ⟨t_h_L_tick_x, List.forall_mem_append.mpr ⟨t_O_L_tick_x, t_WX9_tick_x⟩⟩
set_option maxRecDepth 100000 in
theorem t_h_X9_trace : (.code yX9_trace cX9_trace 3 (some .int)) ∈ lw_tbl := k_in (ws := [(.code yX9_trace cX9_trace 3 (some .int))]) [1115] (by decide +kernel) _ List.mem_cons_self
set_option maxRecDepth 100000 in
theorem t_O_X9_trace : ∀ w ∈ O_X9_trace, w ∈ lw_tbl := k_in [583, 585, 4, 75] (by decide +kernel)
theorem t_WX9_trace : ∀ w ∈ W_X9_trace, w ∈ lw_tbl := List.forall_mem_cons.mpr ⟨t_h_X9_trace, List.forall_mem_append.mpr ⟨t_O_X9_trace, t_WX9_requireRouter⟩⟩
set_option maxRecDepth 100000 in
theorem t_h_L_trace : (.codeWith yL_trace cL_trace 5 (some .int) [(0, 10, 13, 19)]) ∈ lw_tbl := k_in (ws := [(.codeWith yL_trace cL_trace 5 (some .int) [(0, 10, 13, 19)])]) [1111] (by decide +kernel) _ List.mem_cons_self
set_option maxRecDepth 100000 in
theorem t_O_L_trace : ∀ w ∈ O_L_trace, w ∈ lw_tbl := k_in [1112, 1113, 1114, 75, 577] (by decide +kernel)
theorem t_WL_trace : ∀ w ∈ W_L_trace, w ∈ lw_tbl := List.forall_mem_cons.mpr ⟨t_h_L_trace, List.forall_mem_append.mpr ⟨t_O_L_trace, t_WX9_trace⟩⟩
set_option maxRecDepth 100000 in
theorem t_h_X9_tracedRouter : (.code yX9_tracedRouter cX9_tracedRouter 2 (some .int)) ∈ lw_tbl := k_in (ws := [(.code yX9_tracedRouter cX9_tracedRouter 2 (some .int))]) [1129] (by decide +kernel) _ List.mem_cons_self
set_option maxRecDepth 100000 in
theorem t_O_X9_tracedRouter : ∀ w ∈ O_X9_tracedRouter, w ∈ lw_tbl := k_in [743, 93, 411, 391] (by decide +kernel)
theorem t_WX9_tracedRouter : ∀ w ∈ W_X9_tracedRouter, w ∈ lw_tbl := List.forall_mem_cons.mpr ⟨t_h_X9_tracedRouter, List.forall_mem_append.mpr ⟨t_O_X9_tracedRouter, List.forall_mem_append.mpr ⟨t_V159, List.forall_mem_append.mpr ⟨t_C9, t_C4⟩⟩⟩⟩
set_option maxRecDepth 100000 in
theorem t_h_L_tracedRouter : (.codeWith yL_tracedRouter cL_tracedRouter 4 (some .int) [(0, 9, 12, 41)]) ∈ lw_tbl := k_in (ws := [(.codeWith yL_tracedRouter cL_tracedRouter 4 (some .int) [(0, 9, 12, 41)])]) [1125] (by decide +kernel) _ List.mem_cons_self
set_option maxRecDepth 100000 in
theorem t_O_L_tracedRouter : ∀ w ∈ O_L_tracedRouter, w ∈ lw_tbl := k_in [1126, 1127, 1128, 75, 738] (by decide +kernel)
theorem t_WL_tracedRouter : ∀ w ∈ W_L_tracedRouter, w ∈ lw_tbl := List.forall_mem_cons.mpr ⟨t_h_L_tracedRouter, List.forall_mem_append.mpr ⟨t_O_L_tracedRouter, t_WX9_tracedRouter⟩⟩
set_option maxRecDepth 100000 in
theorem t_h_X9_withdraw : (.code yX9_withdraw cX9_withdraw 6 (some .int)) ∈ lw_tbl := k_in (ws := [(.code yX9_withdraw cX9_withdraw 6 (some .int))]) [742] (by decide +kernel) _ List.mem_cons_self
set_option maxRecDepth 100000 in
theorem t_O_X9_withdraw : ∀ w ∈ O_X9_withdraw, w ∈ lw_tbl := k_in [583, 585, 4, 75] (by decide +kernel)
theorem t_WX9_withdraw : ∀ w ∈ W_X9_withdraw, w ∈ lw_tbl := List.forall_mem_cons.mpr ⟨t_h_X9_withdraw, List.forall_mem_append.mpr ⟨t_O_X9_withdraw, t_WX9_requireRouter⟩⟩
set_option maxRecDepth 100000 in
theorem t_h_L_withdraw : (.codeWith yL_withdraw cL_withdraw 6 (some .int) [(0, 12, 15, 19), (0, 12, 19, 41)]) ∈ lw_tbl := k_in (ws := [(.codeWith yL_withdraw cL_withdraw 6 (some .int) [(0, 12, 15, 19), (0, 12, 19, 41)])]) [737] (by decide +kernel) _ List.mem_cons_self
set_option maxRecDepth 100000 in
theorem t_O_L_withdraw : ∀ w ∈ O_L_withdraw, w ∈ lw_tbl := k_in [739, 740, 741, 75, 577] (by decide +kernel)
theorem t_WL_withdraw : ∀ w ∈ W_L_withdraw, w ∈ lw_tbl := List.forall_mem_cons.mpr ⟨t_h_L_withdraw, List.forall_mem_append.mpr ⟨t_O_L_withdraw, t_WX9_withdraw⟩⟩
set_option maxRecDepth 100000 in
theorem t_h_X10_isRouter : (.code yX10_isRouter cX10_isRouter 2 (some .boolean)) ∈ lw_tbl := k_in (ws := [(.code yX10_isRouter cX10_isRouter 2 (some .boolean))]) [1300] (by decide +kernel) _ List.mem_cons_self
set_option maxRecDepth 100000 in
theorem t_O_X10_isRouter : ∀ w ∈ O_X10_isRouter, w ∈ lw_tbl := k_in [1138] (by decide +kernel)
theorem t_WX10_isRouter : ∀ w ∈ W_X10_isRouter, w ∈ lw_tbl := List.forall_mem_cons.mpr ⟨t_h_X10_isRouter, List.forall_mem_append.mpr ⟨t_O_X10_isRouter, t_C10⟩⟩
set_option maxRecDepth 100000 in
theorem t_h_X10_fail : (.code yX10_fail cX10_fail 2 (some .int)) ∈ lw_tbl := k_in (ws := [(.code yX10_fail cX10_fail 2 (some .int))]) [1292] (by decide +kernel) _ List.mem_cons_self
set_option maxRecDepth 100000 in
theorem t_O_X10_fail : ∀ w ∈ O_X10_fail, w ∈ lw_tbl := k_in [1137] (by decide +kernel)
theorem t_WX10_fail : ∀ w ∈ W_X10_fail, w ∈ lw_tbl := List.forall_mem_cons.mpr ⟨t_h_X10_fail, List.forall_mem_append.mpr ⟨t_O_X10_fail, t_C10⟩⟩
set_option maxRecDepth 100000 in
theorem t_h_X10_addLink : (.code yX10_addLink cX10_addLink 7 (some .int)) ∈ lw_tbl := k_in (ws := [(.code yX10_addLink cX10_addLink 7 (some .int))]) [1296] (by decide +kernel) _ List.mem_cons_self
set_option maxRecDepth 100000 in
theorem t_O_X10_addLink : ∀ w ∈ O_X10_addLink, w ∈ lw_tbl := k_in [1137, 1297, 1299, 30, 86, 1289, 1291, 29] (by decide +kernel)
theorem t_WX10_addLink : ∀ w ∈ W_X10_addLink, w ∈ lw_tbl := List.forall_mem_cons.mpr ⟨t_h_X10_addLink, List.forall_mem_append.mpr ⟨t_O_X10_addLink, List.forall_mem_append.mpr ⟨t_C10, List.forall_mem_append.mpr ⟨t_WX10_isRouter, t_WX10_fail⟩⟩⟩⟩
set_option maxRecDepth 100000 in
theorem t_h_X10_addRouter : (.code yX10_addRouter cX10_addRouter 1 (some .int)) ∈ lw_tbl := k_in (ws := [(.code yX10_addRouter cX10_addRouter 1 (some .int))]) [1288] (by decide +kernel) _ List.mem_cons_self
set_option maxRecDepth 100000 in
theorem t_O_X10_addRouter : ∀ w ∈ O_X10_addRouter, w ∈ lw_tbl := k_in [1137, 1138, 1139] (by decide +kernel)
theorem t_WX10_addRouter : ∀ w ∈ W_X10_addRouter, w ∈ lw_tbl := List.forall_mem_cons.mpr ⟨t_h_X10_addRouter, List.forall_mem_append.mpr ⟨t_O_X10_addRouter, t_C10⟩⟩
set_option maxRecDepth 100000 in
theorem t_h_X10_hasArea : (.code yX10_hasArea cX10_hasArea 3 (some .boolean)) ∈ lw_tbl := k_in (ws := [(.code yX10_hasArea cX10_hasArea 3 (some .boolean))]) [1350] (by decide +kernel) _ List.mem_cons_self
set_option maxRecDepth 100000 in
theorem t_O_X10_hasArea : ∀ w ∈ O_X10_hasArea, w ∈ lw_tbl := k_in [1297, 1299, 30, 86] (by decide +kernel)
theorem t_WX10_hasArea : ∀ w ∈ W_X10_hasArea, w ∈ lw_tbl := List.forall_mem_cons.mpr ⟨t_h_X10_hasArea, List.forall_mem_append.mpr ⟨t_O_X10_hasArea, t_WX10_isRouter⟩⟩
set_option maxRecDepth 100000 in
theorem t_h_X10_failed : (.code yX10_failed cX10_failed 2 (some .boolean)) ∈ lw_tbl := k_in (ws := [(.code yX10_failed cX10_failed 2 (some .boolean))]) [1319] (by decide +kernel) _ List.mem_cons_self
set_option maxRecDepth 100000 in
theorem t_O_X10_failed : ∀ w ∈ O_X10_failed, w ∈ lw_tbl := k_in [1137] (by decide +kernel)
theorem t_WX10_failed : ∀ w ∈ W_X10_failed, w ∈ lw_tbl := List.forall_mem_cons.mpr ⟨t_h_X10_failed, List.forall_mem_append.mpr ⟨t_O_X10_failed, t_C10⟩⟩
set_option maxRecDepth 100000 in
theorem t_h_X10_agree : (.code yX10_agree cX10_agree 8 (some .boolean)) ∈ lw_tbl := k_in (ws := [(.code yX10_agree cX10_agree 8 (some .boolean))]) [1562] (by decide +kernel) _ List.mem_cons_self
set_option maxRecDepth 100000 in
theorem t_O_X10_agree : ∀ w ∈ O_X10_agree, w ∈ lw_tbl := k_in [1137, 1347, 1349, 37, 86, 1316, 1318, 33] (by decide +kernel)
theorem t_WX10_agree : ∀ w ∈ W_X10_agree, w ∈ lw_tbl := List.forall_mem_cons.mpr ⟨t_h_X10_agree, List.forall_mem_append.mpr ⟨t_O_X10_agree, List.forall_mem_append.mpr ⟨t_C10, List.forall_mem_append.mpr ⟨t_WX10_hasArea, t_WX10_failed⟩⟩⟩⟩
set_option maxRecDepth 100000 in
theorem t_h_X10_announce : (.code yX10_announce cX10_announce 7 (some .int)) ∈ lw_tbl := k_in (ws := [(.code yX10_announce cX10_announce 7 (some .int))]) [1343] (by decide +kernel) _ List.mem_cons_self
set_option maxRecDepth 100000 in
theorem t_O_X10_announce : ∀ w ∈ O_X10_announce, w ∈ lw_tbl := k_in [1137, 1297, 1299, 30, 86, 1289, 1291, 29] (by decide +kernel)
theorem t_WX10_announce : ∀ w ∈ W_X10_announce, w ∈ lw_tbl := List.forall_mem_cons.mpr ⟨t_h_X10_announce, List.forall_mem_append.mpr ⟨t_O_X10_announce, List.forall_mem_append.mpr ⟨t_C10, List.forall_mem_append.mpr ⟨t_WX10_isRouter, t_WX10_fail⟩⟩⟩⟩
set_option maxRecDepth 100000 in
theorem t_h_X10_changedRoutes : (.code yX10_changedRoutes cX10_changedRoutes 2 (some .int)) ∈ lw_tbl := k_in (ws := [(.code yX10_changedRoutes cX10_changedRoutes 2 (some .int))]) [1612] (by decide +kernel) _ List.mem_cons_self
set_option maxRecDepth 100000 in
theorem t_O_X10_changedRoutes : ∀ w ∈ O_X10_changedRoutes, w ∈ lw_tbl := k_in [1137, 1297, 1299, 30, 86, 1289, 1291, 29] (by decide +kernel)
theorem t_WX10_changedRoutes : ∀ w ∈ W_X10_changedRoutes, w ∈ lw_tbl := List.forall_mem_cons.mpr ⟨t_h_X10_changedRoutes, List.forall_mem_append.mpr ⟨t_O_X10_changedRoutes, List.forall_mem_append.mpr ⟨t_C10, List.forall_mem_append.mpr ⟨t_WX10_isRouter, t_WX10_fail⟩⟩⟩⟩
set_option maxRecDepth 100000 in
theorem t_h_X10_clock : (.code yX10_clock cX10_clock 1 (some .int)) ∈ lw_tbl := k_in (ws := [(.code yX10_clock cX10_clock 1 (some .int))]) [1526] (by decide +kernel) _ List.mem_cons_self
set_option maxRecDepth 100000 in
theorem t_O_X10_clock : ∀ w ∈ O_X10_clock, w ∈ lw_tbl := k_in [1137, 1171] (by decide +kernel)
theorem t_WX10_clock : ∀ w ∈ W_X10_clock, w ∈ lw_tbl := List.forall_mem_cons.mpr ⟨t_h_X10_clock, List.forall_mem_append.mpr ⟨t_O_X10_clock, t_C10⟩⟩
set_option maxRecDepth 100000 in
theorem t_h_X10_databaseSize : (.code yX10_databaseSize cX10_databaseSize 3 (some .int)) ∈ lw_tbl := k_in (ws := [(.code yX10_databaseSize cX10_databaseSize 3 (some .int))]) [1538] (by decide +kernel) _ List.mem_cons_self
set_option maxRecDepth 100000 in
theorem t_O_X10_databaseSize : ∀ w ∈ O_X10_databaseSize, w ∈ lw_tbl := k_in [1137, 1347, 1349, 37, 86, 1289, 1291, 29] (by decide +kernel)
theorem t_WX10_databaseSize : ∀ w ∈ W_X10_databaseSize, w ∈ lw_tbl := List.forall_mem_cons.mpr ⟨t_h_X10_databaseSize, List.forall_mem_append.mpr ⟨t_O_X10_databaseSize, List.forall_mem_append.mpr ⟨t_C10, List.forall_mem_append.mpr ⟨t_WX10_hasArea, t_WX10_fail⟩⟩⟩⟩
set_option maxRecDepth 100000 in
theorem t_h_X10_digest : (.code yX10_digest cX10_digest 6 (some .long)) ∈ lw_tbl := k_in (ws := [(.code yX10_digest cX10_digest 6 (some .long))]) [1624] (by decide +kernel) _ List.mem_cons_self
set_option maxRecDepth 100000 in
theorem t_O_X10_digest : ∀ w ∈ O_X10_digest, w ∈ lw_tbl := k_in [1137, 1625, 1171, 1626, 1167, 1172, 1138] (by decide +kernel)
theorem t_WX10_digest : ∀ w ∈ W_X10_digest, w ∈ lw_tbl := List.forall_mem_cons.mpr ⟨t_h_X10_digest, List.forall_mem_append.mpr ⟨t_O_X10_digest, t_C10⟩⟩
set_option maxRecDepth 100000 in
theorem t_h_X10_isTarget : (.code yX10_isTarget cX10_isTarget 4 (some .boolean)) ∈ lw_tbl := k_in (ws := [(.code yX10_isTarget cX10_isTarget 4 (some .boolean))]) [1570] (by decide +kernel) _ List.mem_cons_self
set_option maxRecDepth 100000 in
theorem t_O_X10_isTarget : ∀ w ∈ O_X10_isTarget, w ∈ lw_tbl := k_in [1347, 1349, 37, 86] (by decide +kernel)
theorem t_WX10_isTarget : ∀ w ∈ W_X10_isTarget, w ∈ lw_tbl := List.forall_mem_cons.mpr ⟨t_h_X10_isTarget, List.forall_mem_append.mpr ⟨t_O_X10_isTarget, t_WX10_hasArea⟩⟩
set_option maxRecDepth 100000 in
theorem t_h_X10_distance : (.code yX10_distance cX10_distance 4 (some .int)) ∈ lw_tbl := k_in (ws := [(.code yX10_distance cX10_distance 4 (some .int))]) [1566] (by decide +kernel) _ List.mem_cons_self
set_option maxRecDepth 100000 in
theorem t_O_X10_distance : ∀ w ∈ O_X10_distance, w ∈ lw_tbl := k_in [1137, 1567, 1569, 72, 86, 1289, 1291, 29] (by decide +kernel)
theorem t_WX10_distance : ∀ w ∈ W_X10_distance, w ∈ lw_tbl := List.forall_mem_cons.mpr ⟨t_h_X10_distance, List.forall_mem_append.mpr ⟨t_O_X10_distance, List.forall_mem_append.mpr ⟨t_C10, List.forall_mem_append.mpr ⟨t_WX10_isTarget, t_WX10_fail⟩⟩⟩⟩
set_option maxRecDepth 100000 in
theorem t_h_X10_firstLink : (.code yX10_firstLink cX10_firstLink 6 (some .int)) ∈ lw_tbl := k_in (ws := [(.code yX10_firstLink cX10_firstLink 6 (some .int))]) [1581] (by decide +kernel) _ List.mem_cons_self
set_option maxRecDepth 100000 in
theorem t_O_X10_firstLink : ∀ w ∈ O_X10_firstLink, w ∈ lw_tbl := k_in [1137, 1567, 1569, 72, 86, 1289, 1291, 29] (by decide +kernel)
theorem t_WX10_firstLink : ∀ w ∈ W_X10_firstLink, w ∈ lw_tbl := List.forall_mem_cons.mpr ⟨t_h_X10_firstLink, List.forall_mem_append.mpr ⟨t_O_X10_firstLink, List.forall_mem_append.mpr ⟨t_C10, List.forall_mem_append.mpr ⟨t_WX10_isTarget, t_WX10_fail⟩⟩⟩⟩
set_option maxRecDepth 100000 in
theorem t_h_X10_firstLinkCount : (.code yX10_firstLinkCount cX10_firstLinkCount 4 (some .int)) ∈ lw_tbl := k_in (ws := [(.code yX10_firstLinkCount cX10_firstLinkCount 4 (some .int))]) [1574] (by decide +kernel) _ List.mem_cons_self
set_option maxRecDepth 100000 in
theorem t_O_X10_firstLinkCount : ∀ w ∈ O_X10_firstLinkCount, w ∈ lw_tbl := k_in [1137, 1567, 1569, 72, 86, 1289, 1291, 29] (by decide +kernel)
theorem t_WX10_firstLinkCount : ∀ w ∈ W_X10_firstLinkCount, w ∈ lw_tbl := List.forall_mem_cons.mpr ⟨t_h_X10_firstLinkCount, List.forall_mem_append.mpr ⟨t_O_X10_firstLinkCount, List.forall_mem_append.mpr ⟨t_C10, List.forall_mem_append.mpr ⟨t_WX10_isTarget, t_WX10_fail⟩⟩⟩⟩
set_option maxRecDepth 100000 in
theorem t_h_X10_inFlight : (.code yX10_inFlight cX10_inFlight 1 (some .int)) ∈ lw_tbl := k_in (ws := [(.code yX10_inFlight cX10_inFlight 1 (some .int))]) [1530] (by decide +kernel) _ List.mem_cons_self
set_option maxRecDepth 100000 in
theorem t_O_X10_inFlight : ∀ w ∈ O_X10_inFlight, w ∈ lw_tbl := k_in [1137, 1167] (by decide +kernel)
theorem t_WX10_inFlight : ∀ w ∈ W_X10_inFlight, w ∈ lw_tbl := List.forall_mem_cons.mpr ⟨t_h_X10_inFlight, List.forall_mem_append.mpr ⟨t_O_X10_inFlight, t_C10⟩⟩
set_option maxRecDepth 100000 in
theorem t_h_X10_init : (.code yX10_init cX10_init 2 none) ∈ lw_tbl := k_in (ws := [(.code yX10_init cX10_init 2 none)]) [1135] (by decide +kernel) _ List.mem_cons_self
set_option maxRecDepth 100000 in
theorem t_O_X10_init : ∀ w ∈ O_X10_init, w ∈ lw_tbl := k_in [1136, 103, 104, 171, 1139, 172, 1141, 1142, 1143, 1144, 1145, 1146, 1147, 1148, 1149, 1150, 1151, 1152, 1153, 1154, 1156, 1157, 1158, 1159, 1160, 1161, 1162, 1164, 1165, 1166, 1168, 1169, 1170, 1174, 260, 1175, 1176, 1177, 1178, 1179, 1180, 1181, 1182] (by decide +kernel)
theorem t_WX10_init : ∀ w ∈ W_X10_init, w ∈ lw_tbl := List.forall_mem_cons.mpr ⟨t_h_X10_init, List.forall_mem_append.mpr ⟨t_O_X10_init, t_C10⟩⟩
set_option maxRecDepth 100000 in
theorem t_h_X10_isBorder : (.code yX10_isBorder cX10_isBorder 2 (some .boolean)) ∈ lw_tbl := k_in (ws := [(.code yX10_isBorder cX10_isBorder 2 (some .boolean))]) [1378] (by decide +kernel) _ List.mem_cons_self
set_option maxRecDepth 100000 in
theorem t_O_X10_isBorder : ∀ w ∈ O_X10_isBorder, w ∈ lw_tbl := k_in [1137, 1297, 1299, 30, 86, 1316, 1318, 33] (by decide +kernel)
theorem t_WX10_isBorder : ∀ w ∈ W_X10_isBorder, w ∈ lw_tbl := List.forall_mem_cons.mpr ⟨t_h_X10_isBorder, List.forall_mem_append.mpr ⟨t_O_X10_isBorder, List.forall_mem_append.mpr ⟨t_C10, List.forall_mem_append.mpr ⟨t_WX10_isRouter, t_WX10_failed⟩⟩⟩⟩
set_option maxRecDepth 100000 in
theorem t_h_X10_isRoute : (.code yX10_isRoute cX10_isRoute 3 (some .boolean)) ∈ lw_tbl := k_in (ws := [(.code yX10_isRoute cX10_isRoute 3 (some .boolean))]) [1592] (by decide +kernel) _ List.mem_cons_self
set_option maxRecDepth 100000 in
theorem t_O_X10_isRoute : ∀ w ∈ O_X10_isRoute, w ∈ lw_tbl := k_in [1297, 1299, 30, 86] (by decide +kernel)
theorem t_WX10_isRoute : ∀ w ∈ W_X10_isRoute, w ∈ lw_tbl := List.forall_mem_cons.mpr ⟨t_h_X10_isRoute, List.forall_mem_append.mpr ⟨t_O_X10_isRoute, t_WX10_isRouter⟩⟩
set_option maxRecDepth 100000 in
theorem t_h_X10_isLocal : (.code yX10_isLocal cX10_isLocal 3 (some .boolean)) ∈ lw_tbl := k_in (ws := [(.code yX10_isLocal cX10_isLocal 3 (some .boolean))]) [1600] (by decide +kernel) _ List.mem_cons_self
set_option maxRecDepth 100000 in
theorem t_O_X10_isLocal : ∀ w ∈ O_X10_isLocal, w ∈ lw_tbl := k_in [1137, 1589, 1591, 73, 86, 1316, 1318, 33] (by decide +kernel)
theorem t_WX10_isLocal : ∀ w ∈ W_X10_isLocal, w ∈ lw_tbl := List.forall_mem_cons.mpr ⟨t_h_X10_isLocal, List.forall_mem_append.mpr ⟨t_O_X10_isLocal, List.forall_mem_append.mpr ⟨t_C10, List.forall_mem_append.mpr ⟨t_WX10_isRoute, t_WX10_failed⟩⟩⟩⟩
set_option maxRecDepth 100000 in
theorem t_h_X10_isLink : (.code yX10_isLink cX10_isLink 2 (some .boolean)) ∈ lw_tbl := k_in (ws := [(.code yX10_isLink cX10_isLink 2 (some .boolean))]) [1315] (by decide +kernel) _ List.mem_cons_self
set_option maxRecDepth 100000 in
theorem t_O_X10_isLink : ∀ w ∈ O_X10_isLink, w ∈ lw_tbl := k_in [1140] (by decide +kernel)
theorem t_WX10_isLink : ∀ w ∈ W_X10_isLink, w ∈ lw_tbl := List.forall_mem_cons.mpr ⟨t_h_X10_isLink, List.forall_mem_append.mpr ⟨t_O_X10_isLink, t_C10⟩⟩
set_option maxRecDepth 100000 in
theorem t_h_X10_isUsable : (.code yX10_isUsable cX10_isUsable 2 (some .boolean)) ∈ lw_tbl := k_in (ws := [(.code yX10_isUsable cX10_isUsable 2 (some .boolean))]) [1370] (by decide +kernel) _ List.mem_cons_self
set_option maxRecDepth 100000 in
theorem t_O_X10_isUsable : ∀ w ∈ O_X10_isUsable, w ∈ lw_tbl := k_in [1137, 1312, 1314, 32, 86, 1316, 1318, 33] (by decide +kernel)
theorem t_WX10_isUsable : ∀ w ∈ W_X10_isUsable, w ∈ lw_tbl := List.forall_mem_cons.mpr ⟨t_h_X10_isUsable, List.forall_mem_append.mpr ⟨t_O_X10_isUsable, List.forall_mem_append.mpr ⟨t_C10, List.forall_mem_append.mpr ⟨t_WX10_isLink, t_WX10_failed⟩⟩⟩⟩
set_option maxRecDepth 100000 in
theorem t_h_X10_linkCount : (.code yX10_linkCount cX10_linkCount 1 (some .int)) ∈ lw_tbl := k_in (ws := [(.code yX10_linkCount cX10_linkCount 1 (some .int))]) [1366] (by decide +kernel) _ List.mem_cons_self
set_option maxRecDepth 100000 in
theorem t_O_X10_linkCount : ∀ w ∈ O_X10_linkCount, w ∈ lw_tbl := k_in [1137, 1140] (by decide +kernel)
theorem t_WX10_linkCount : ∀ w ∈ W_X10_linkCount, w ∈ lw_tbl := List.forall_mem_cons.mpr ⟨t_h_X10_linkCount, List.forall_mem_append.mpr ⟨t_O_X10_linkCount, t_C10⟩⟩
set_option maxRecDepth 100000 in
theorem t_h_X10_listedLinks : (.code yX10_listedLinks cX10_listedLinks 7 (some .int)) ∈ lw_tbl := k_in (ws := [(.code yX10_listedLinks cX10_listedLinks 7 (some .int))]) [1554] (by decide +kernel) _ List.mem_cons_self
set_option maxRecDepth 100000 in
theorem t_O_X10_listedLinks : ∀ w ∈ O_X10_listedLinks, w ∈ lw_tbl := k_in [1137, 1347, 1349, 37, 86, 1289, 1291, 29] (by decide +kernel)
theorem t_WX10_listedLinks : ∀ w ∈ W_X10_listedLinks, w ∈ lw_tbl := List.forall_mem_cons.mpr ⟨t_h_X10_listedLinks, List.forall_mem_append.mpr ⟨t_O_X10_listedLinks, List.forall_mem_append.mpr ⟨t_C10, List.forall_mem_append.mpr ⟨t_WX10_hasArea, t_WX10_fail⟩⟩⟩⟩
set_option maxRecDepth 100000 in
theorem t_h_X10_lost : (.code yX10_lost cX10_lost 1 (some .int)) ∈ lw_tbl := k_in (ws := [(.code yX10_lost cX10_lost 1 (some .int))]) [1534] (by decide +kernel) _ List.mem_cons_self
set_option maxRecDepth 100000 in
theorem t_O_X10_lost : ∀ w ∈ O_X10_lost, w ∈ lw_tbl := k_in [1137, 1172] (by decide +kernel)
theorem t_WX10_lost : ∀ w ∈ W_X10_lost, w ∈ lw_tbl := List.forall_mem_cons.mpr ⟨t_h_X10_lost, List.forall_mem_append.mpr ⟨t_O_X10_lost, t_C10⟩⟩
set_option maxRecDepth 100000 in
theorem t_h_X10_routeCost : (.code yX10_routeCost cX10_routeCost 3 (some .int)) ∈ lw_tbl := k_in (ws := [(.code yX10_routeCost cX10_routeCost 3 (some .int))]) [1596] (by decide +kernel) _ List.mem_cons_self
set_option maxRecDepth 100000 in
theorem t_O_X10_routeCost : ∀ w ∈ O_X10_routeCost, w ∈ lw_tbl := k_in [1137, 1589, 1591, 73, 86, 1289, 1291, 29] (by decide +kernel)
theorem t_WX10_routeCost : ∀ w ∈ W_X10_routeCost, w ∈ lw_tbl := List.forall_mem_cons.mpr ⟨t_h_X10_routeCost, List.forall_mem_append.mpr ⟨t_O_X10_routeCost, List.forall_mem_append.mpr ⟨t_C10, List.forall_mem_append.mpr ⟨t_WX10_isRoute, t_WX10_fail⟩⟩⟩⟩
set_option maxRecDepth 100000 in
theorem t_h_X10_routeKind : (.code yX10_routeKind cX10_routeKind 3 (some .int)) ∈ lw_tbl := k_in (ws := [(.code yX10_routeKind cX10_routeKind 3 (some .int))]) [1588] (by decide +kernel) _ List.mem_cons_self
set_option maxRecDepth 100000 in
theorem t_O_X10_routeKind : ∀ w ∈ O_X10_routeKind, w ∈ lw_tbl := k_in [1137, 1589, 1591, 73, 86, 1289, 1291, 29] (by decide +kernel)
theorem t_WX10_routeKind : ∀ w ∈ W_X10_routeKind, w ∈ lw_tbl := List.forall_mem_cons.mpr ⟨t_h_X10_routeKind, List.forall_mem_append.mpr ⟨t_O_X10_routeKind, List.forall_mem_append.mpr ⟨t_C10, List.forall_mem_append.mpr ⟨t_WX10_isRoute, t_WX10_fail⟩⟩⟩⟩
set_option maxRecDepth 100000 in
theorem t_h_X10_routeLink : (.code yX10_routeLink cX10_routeLink 5 (some .int)) ∈ lw_tbl := k_in (ws := [(.code yX10_routeLink cX10_routeLink 5 (some .int))]) [1608] (by decide +kernel) _ List.mem_cons_self
set_option maxRecDepth 100000 in
theorem t_O_X10_routeLink : ∀ w ∈ O_X10_routeLink, w ∈ lw_tbl := k_in [1137, 1589, 1591, 73, 86, 1289, 1291, 29] (by decide +kernel)
theorem t_WX10_routeLink : ∀ w ∈ W_X10_routeLink, w ∈ lw_tbl := List.forall_mem_cons.mpr ⟨t_h_X10_routeLink, List.forall_mem_append.mpr ⟨t_O_X10_routeLink, List.forall_mem_append.mpr ⟨t_C10, List.forall_mem_append.mpr ⟨t_WX10_isRoute, t_WX10_fail⟩⟩⟩⟩
set_option maxRecDepth 100000 in
theorem t_h_X10_routeLinkCount : (.code yX10_routeLinkCount cX10_routeLinkCount 3 (some .int)) ∈ lw_tbl := k_in (ws := [(.code yX10_routeLinkCount cX10_routeLinkCount 3 (some .int))]) [1604] (by decide +kernel) _ List.mem_cons_self
set_option maxRecDepth 100000 in
theorem t_O_X10_routeLinkCount : ∀ w ∈ O_X10_routeLinkCount, w ∈ lw_tbl := k_in [1137, 1589, 1591, 73, 86, 1289, 1291, 29] (by decide +kernel)
theorem t_WX10_routeLinkCount : ∀ w ∈ W_X10_routeLinkCount, w ∈ lw_tbl := List.forall_mem_cons.mpr ⟨t_h_X10_routeLinkCount, List.forall_mem_append.mpr ⟨t_O_X10_routeLinkCount, List.forall_mem_append.mpr ⟨t_C10, List.forall_mem_append.mpr ⟨t_WX10_isRoute, t_WX10_fail⟩⟩⟩⟩
set_option maxRecDepth 100000 in
theorem t_h_X10_routerCount : (.code yX10_routerCount cX10_routerCount 1 (some .int)) ∈ lw_tbl := k_in (ws := [(.code yX10_routerCount cX10_routerCount 1 (some .int))]) [1362] (by decide +kernel) _ List.mem_cons_self
set_option maxRecDepth 100000 in
theorem t_O_X10_routerCount : ∀ w ∈ O_X10_routerCount, w ∈ lw_tbl := k_in [1137, 1138] (by decide +kernel)
theorem t_WX10_routerCount : ∀ w ∈ W_X10_routerCount, w ∈ lw_tbl := List.forall_mem_cons.mpr ⟨t_h_X10_routerCount, List.forall_mem_append.mpr ⟨t_O_X10_routerCount, t_C10⟩⟩
set_option maxRecDepth 100000 in
theorem t_h_X10_sequence : (.code yX10_sequence cX10_sequence 4 (some .int)) ∈ lw_tbl := k_in (ws := [(.code yX10_sequence cX10_sequence 4 (some .int))]) [1546] (by decide +kernel) _ List.mem_cons_self
set_option maxRecDepth 100000 in
theorem t_O_X10_sequence : ∀ w ∈ O_X10_sequence, w ∈ lw_tbl := k_in [1137, 1347, 1349, 37, 86, 1289, 1291, 29] (by decide +kernel)
theorem t_WX10_sequence : ∀ w ∈ W_X10_sequence, w ∈ lw_tbl := List.forall_mem_cons.mpr ⟨t_h_X10_sequence, List.forall_mem_append.mpr ⟨t_O_X10_sequence, List.forall_mem_append.mpr ⟨t_C10, List.forall_mem_append.mpr ⟨t_WX10_hasArea, t_WX10_fail⟩⟩⟩⟩
set_option maxRecDepth 100000 in
theorem t_h_X10_setLink : (.code yX10_setLink cX10_setLink 4 (some .boolean)) ∈ lw_tbl := k_in (ws := [(.code yX10_setLink cX10_setLink 4 (some .boolean))]) [1311] (by decide +kernel) _ List.mem_cons_self
set_option maxRecDepth 100000 in
theorem t_O_X10_setLink : ∀ w ∈ O_X10_setLink, w ∈ lw_tbl := k_in [1137, 1312, 1314, 32, 86, 1316, 1318, 33] (by decide +kernel)
theorem t_WX10_setLink : ∀ w ∈ W_X10_setLink, w ∈ lw_tbl := List.forall_mem_cons.mpr ⟨t_h_X10_setLink, List.forall_mem_append.mpr ⟨t_O_X10_setLink, List.forall_mem_append.mpr ⟨t_C10, List.forall_mem_append.mpr ⟨t_WX10_isLink, t_WX10_failed⟩⟩⟩⟩
set_option maxRecDepth 100000 in
theorem t_h_X10_setMetric : (.code yX10_setMetric cX10_setMetric 5 (some .int)) ∈ lw_tbl := k_in (ws := [(.code yX10_setMetric cX10_setMetric 5 (some .int))]) [1323] (by decide +kernel) _ List.mem_cons_self
set_option maxRecDepth 100000 in
theorem t_O_X10_setMetric : ∀ w ∈ O_X10_setMetric, w ∈ lw_tbl := k_in [1137, 1312, 1314, 32, 86, 1289, 1291, 29] (by decide +kernel)
theorem t_WX10_setMetric : ∀ w ∈ W_X10_setMetric, w ∈ lw_tbl := List.forall_mem_cons.mpr ⟨t_h_X10_setMetric, List.forall_mem_append.mpr ⟨t_O_X10_setMetric, List.forall_mem_append.mpr ⟨t_C10, List.forall_mem_append.mpr ⟨t_WX10_isLink, t_WX10_fail⟩⟩⟩⟩
set_option maxRecDepth 100000 in
theorem t_h_X10_setRouter : (.code yX10_setRouter cX10_setRouter 4 (some .boolean)) ∈ lw_tbl := k_in (ws := [(.code yX10_setRouter cX10_setRouter 4 (some .boolean))]) [1327] (by decide +kernel) _ List.mem_cons_self
set_option maxRecDepth 100000 in
theorem t_O_X10_setRouter : ∀ w ∈ O_X10_setRouter, w ∈ lw_tbl := k_in [1137, 1297, 1299, 30, 86, 1316, 1318, 33] (by decide +kernel)
theorem t_WX10_setRouter : ∀ w ∈ W_X10_setRouter, w ∈ lw_tbl := List.forall_mem_cons.mpr ⟨t_h_X10_setRouter, List.forall_mem_append.mpr ⟨t_O_X10_setRouter, List.forall_mem_append.mpr ⟨t_C10, List.forall_mem_append.mpr ⟨t_WX10_isRouter, t_WX10_failed⟩⟩⟩⟩
set_option maxRecDepth 100000 in
theorem t_h_X10_summary : (.code yX10_summary cX10_summary 6 (some .int)) ∈ lw_tbl := k_in (ws := [(.code yX10_summary cX10_summary 6 (some .int))]) [1558] (by decide +kernel) _ List.mem_cons_self
set_option maxRecDepth 100000 in
theorem t_O_X10_summary : ∀ w ∈ O_X10_summary, w ∈ lw_tbl := k_in [1137, 1347, 1349, 37, 86, 1289, 1291, 29] (by decide +kernel)
theorem t_WX10_summary : ∀ w ∈ W_X10_summary, w ∈ lw_tbl := List.forall_mem_cons.mpr ⟨t_h_X10_summary, List.forall_mem_append.mpr ⟨t_O_X10_summary, List.forall_mem_append.mpr ⟨t_C10, List.forall_mem_append.mpr ⟨t_WX10_hasArea, t_WX10_fail⟩⟩⟩⟩
set_option maxRecDepth 100000 in
theorem t_h_X10_thrown : (.code yX10_thrown cX10_thrown 1 (some .int)) ∈ lw_tbl := k_in (ws := [(.code yX10_thrown cX10_thrown 1 (some .int))]) [1284] (by decide +kernel) _ List.mem_cons_self
set_option maxRecDepth 100000 in
theorem t_O_X10_thrown : ∀ w ∈ O_X10_thrown, w ∈ lw_tbl := k_in [1137] (by decide +kernel)
theorem t_WX10_thrown : ∀ w ∈ W_X10_thrown, w ∈ lw_tbl := List.forall_mem_cons.mpr ⟨t_h_X10_thrown, List.forall_mem_append.mpr ⟨t_O_X10_thrown, t_C10⟩⟩
set_option maxRecDepth 100000 in
theorem t_h_X10_exchange : (.code yX10_exchange cX10_exchange 4 none) ∈ lw_tbl := k_in (ws := [(.code yX10_exchange cX10_exchange 4 none)]) [1398] (by decide +kernel) _ List.mem_cons_self
set_option maxRecDepth 100000 in
theorem t_O_X10_exchange : ∀ w ∈ O_X10_exchange, w ∈ lw_tbl := k_in [1164, 1165, 1166, 1168, 1169, 1170, 1167, 1163] (by decide +kernel)
theorem t_WX10_exchange : ∀ w ∈ W_X10_exchange, w ∈ lw_tbl := List.forall_mem_cons.mpr ⟨t_h_X10_exchange, List.forall_mem_append.mpr ⟨t_O_X10_exchange, t_C10⟩⟩
set_option maxRecDepth 100000 in
theorem t_h_X10_oneTick : (.code yX10_oneTick cX10_oneTick 3 none) ∈ lw_tbl := k_in (ws := [(.code yX10_oneTick cX10_oneTick 3 none)]) [1390] (by decide +kernel) _ List.mem_cons_self
set_option maxRecDepth 100000 in
theorem t_O_X10_oneTick : ∀ w ∈ O_X10_oneTick, w ∈ lw_tbl := k_in [1171, 1160, 1395, 1397, 43, 86, 1163, 1138, 1140] (by decide +kernel)
theorem t_WX10_oneTick : ∀ w ∈ W_X10_oneTick, w ∈ lw_tbl := List.forall_mem_cons.mpr ⟨t_h_X10_oneTick, List.forall_mem_append.mpr ⟨t_O_X10_oneTick, List.forall_mem_append.mpr ⟨t_C10, t_WX10_exchange⟩⟩⟩
set_option maxRecDepth 100000 in
theorem t_h_X10_tick : (.code yX10_tick cX10_tick 3 (some .int)) ∈ lw_tbl := k_in (ws := [(.code yX10_tick cX10_tick 3 (some .int))]) [1386] (by decide +kernel) _ List.mem_cons_self
set_option maxRecDepth 100000 in
theorem t_O_X10_tick : ∀ w ∈ O_X10_tick, w ∈ lw_tbl := k_in [1137, 1173, 1387, 1389, 41, 86] (by decide +kernel)
theorem t_WX10_tick : ∀ w ∈ W_X10_tick, w ∈ lw_tbl := List.forall_mem_cons.mpr ⟨t_h_X10_tick, List.forall_mem_append.mpr ⟨t_O_X10_tick, List.forall_mem_append.mpr ⟨t_C10, t_WX10_oneTick⟩⟩⟩
set_option maxRecDepth 100000 in
theorem t_h_X10_tick_x : (.code yX10_tick cX10_tick 3 (some .int)) ∈ lw_tbl := k_in (ws := [(.code yX10_tick cX10_tick 3 (some .int))]) [1386] (by decide +kernel) _ List.mem_cons_self
set_option maxRecDepth 100000 in
theorem t_O_X10_tick_x : ∀ w ∈ O_X10_tick_x, w ∈ lw_tbl := k_in [1137, 1289, 1291, 29, 86] (by decide +kernel)
theorem t_WX10_tick_x : ∀ w ∈ W_X10_tick_x, w ∈ lw_tbl := List.forall_mem_cons.mpr ⟨t_h_X10_tick_x, List.forall_mem_append.mpr ⟨t_O_X10_tick_x, List.forall_mem_append.mpr ⟨t_C10, t_WX10_fail⟩⟩⟩
set_option maxRecDepth 100000 in
theorem t_h_X10_trace : (.code yX10_trace cX10_trace 7 (some .int)) ∈ lw_tbl := k_in (ws := [(.code yX10_trace cX10_trace 7 (some .int))]) [1616] (by decide +kernel) _ List.mem_cons_self
set_option maxRecDepth 100000 in
theorem t_O_X10_trace : ∀ w ∈ O_X10_trace, w ∈ lw_tbl := k_in [1137, 1589, 1591, 73, 86, 1289, 1291, 29] (by decide +kernel)
theorem t_WX10_trace : ∀ w ∈ W_X10_trace, w ∈ lw_tbl := List.forall_mem_cons.mpr ⟨t_h_X10_trace, List.forall_mem_append.mpr ⟨t_O_X10_trace, List.forall_mem_append.mpr ⟨t_C10, List.forall_mem_append.mpr ⟨t_WX10_isRoute, t_WX10_fail⟩⟩⟩⟩
set_option maxRecDepth 100000 in
theorem t_h_X10_tracedRouter : (.code yX10_tracedRouter cX10_tracedRouter 2 (some .int)) ∈ lw_tbl := k_in (ws := [(.code yX10_tracedRouter cX10_tracedRouter 2 (some .int))]) [1620] (by decide +kernel) _ List.mem_cons_self
set_option maxRecDepth 100000 in
theorem t_O_X10_tracedRouter : ∀ w ∈ O_X10_tracedRouter, w ∈ lw_tbl := k_in [1137, 1289, 1291, 29, 86, 1183] (by decide +kernel)
theorem t_WX10_tracedRouter : ∀ w ∈ W_X10_tracedRouter, w ∈ lw_tbl := List.forall_mem_cons.mpr ⟨t_h_X10_tracedRouter, List.forall_mem_append.mpr ⟨t_O_X10_tracedRouter, List.forall_mem_append.mpr ⟨t_C10, t_WX10_fail⟩⟩⟩
set_option maxRecDepth 100000 in
theorem t_h_X10_withdraw : (.code yX10_withdraw cX10_withdraw 6 (some .int)) ∈ lw_tbl := k_in (ws := [(.code yX10_withdraw cX10_withdraw 6 (some .int))]) [1358] (by decide +kernel) _ List.mem_cons_self
set_option maxRecDepth 100000 in
theorem t_O_X10_withdraw : ∀ w ∈ O_X10_withdraw, w ∈ lw_tbl := k_in [1137, 1297, 1299, 30, 86, 1289, 1291, 29] (by decide +kernel)
theorem t_WX10_withdraw : ∀ w ∈ W_X10_withdraw, w ∈ lw_tbl := List.forall_mem_cons.mpr ⟨t_h_X10_withdraw, List.forall_mem_append.mpr ⟨t_O_X10_withdraw, List.forall_mem_append.mpr ⟨t_C10, List.forall_mem_append.mpr ⟨t_WX10_isRouter, t_WX10_fail⟩⟩⟩⟩
set_option maxRecDepth 100000 in
theorem t_h_X9_clock : (.code yX9_clock cX9_clock 1 (some .int)) ∈ lw_tbl := k_in (ws := [(.code yX9_clock cX9_clock 1 (some .int))]) [438] (by decide +kernel) _ List.mem_cons_self
set_option maxRecDepth 100000 in
theorem t_O_X9_clock : ∀ w ∈ O_X9_clock, w ∈ lw_tbl := k_in [406, 183] (by decide +kernel)
theorem t_WX9_clock : ∀ w ∈ W_X9_clock, w ∈ lw_tbl := List.forall_mem_cons.mpr ⟨t_h_X9_clock, List.forall_mem_append.mpr ⟨t_O_X9_clock, List.forall_mem_append.mpr ⟨t_C9, t_C0⟩⟩⟩
set_option maxRecDepth 100000 in
theorem t_h_X9_digest : (.code yX9_digest cX9_digest 5 (some .long)) ∈ lw_tbl := k_in (ws := [(.code yX9_digest cX9_digest 5 (some .long))]) [450] (by decide +kernel) _ List.mem_cons_self
set_option maxRecDepth 100000 in
theorem t_O_X9_digest : ∀ w ∈ O_X9_digest, w ∈ lw_tbl := k_in [451, 452, 406, 183, 410, 357, 347, 355, 405, 115] (by decide +kernel)
theorem t_WX9_digest : ∀ w ∈ W_X9_digest, w ∈ lw_tbl := List.forall_mem_cons.mpr ⟨t_h_X9_digest, List.forall_mem_append.mpr ⟨t_O_X9_digest, List.forall_mem_append.mpr ⟨t_C9, List.forall_mem_append.mpr ⟨t_C0, List.forall_mem_append.mpr ⟨t_C7, List.forall_mem_append.mpr ⟨t_C3, t_C8⟩⟩⟩⟩⟩⟩
set_option maxRecDepth 100000 in
theorem t_h_X9_inFlight : (.code yX9_inFlight cX9_inFlight 1 (some .int)) ∈ lw_tbl := k_in (ws := [(.code yX9_inFlight cX9_inFlight 1 (some .int))]) [442] (by decide +kernel) _ List.mem_cons_self
set_option maxRecDepth 100000 in
theorem t_O_X9_inFlight : ∀ w ∈ O_X9_inFlight, w ∈ lw_tbl := k_in [410, 357, 347] (by decide +kernel)
theorem t_WX9_inFlight : ∀ w ∈ W_X9_inFlight, w ∈ lw_tbl := List.forall_mem_cons.mpr ⟨t_h_X9_inFlight, List.forall_mem_append.mpr ⟨t_O_X9_inFlight, List.forall_mem_append.mpr ⟨t_C9, List.forall_mem_append.mpr ⟨t_C7, t_C3⟩⟩⟩⟩
set_option maxRecDepth 100000 in
theorem t_h_fill : (.code yJ7_fill_53178 cJ7_fill_53178 4 none) ∈ lw_tbl := k_in (ws := [(.code yJ7_fill_53178 cJ7_fill_53178 4 none)]) [113] (by decide +kernel) _ List.mem_cons_self
set_option maxRecDepth 100000 in
theorem t_O_fill : ∀ w ∈ O_fill, w ∈ lw_tbl := k_in [] (by decide +kernel)
theorem t_Wfill : ∀ w ∈ W_fill, w ∈ lw_tbl := List.forall_mem_cons.mpr ⟨t_h_fill, t_O_fill⟩
set_option maxRecDepth 100000 in
theorem t_h_X8_init : (.code yX8_init cX8_init 1 none) ∈ lw_tbl := k_in (ws := [(.code yX8_init cX8_init 1 none)]) [109] (by decide +kernel) _ List.mem_cons_self
set_option maxRecDepth 100000 in
theorem t_O_X8_init : ∀ w ∈ O_X8_init, w ∈ lw_tbl := k_in [110, 103, 104, 171, 121, 124, 125, 172, 127, 131, 135, 137, 141, 144, 145, 111, 112, 77] (by decide +kernel)
theorem t_WX8_init : ∀ w ∈ W_X8_init, w ∈ lw_tbl := List.forall_mem_cons.mpr ⟨t_h_X8_init, List.forall_mem_append.mpr ⟨t_O_X8_init, List.forall_mem_append.mpr ⟨t_C8, t_Wfill⟩⟩⟩
set_option maxRecDepth 100000 in
theorem t_h_X0_init : (.code yX0_init cX0_init 2 none) ∈ lw_tbl := k_in (ws := [(.code yX0_init cX0_init 2 none)]) [177] (by decide +kernel) _ List.mem_cons_self
set_option maxRecDepth 100000 in
theorem t_O_X0_init : ∀ w ∈ O_X0_init, w ∈ lw_tbl := k_in [178, 103, 104, 179, 172, 184, 187, 191, 180, 192, 193] (by decide +kernel)
theorem t_WX0_init : ∀ w ∈ W_X0_init, w ∈ lw_tbl := List.forall_mem_cons.mpr ⟨t_h_X0_init, List.forall_mem_append.mpr ⟨t_O_X0_init, t_C0⟩⟩
set_option maxRecDepth 100000 in
theorem t_h_X2_init : (.code yX2_init cX2_init 1 none) ∈ lw_tbl := k_in (ws := [(.code yX2_init cX2_init 1 none)]) [211] (by decide +kernel) _ List.mem_cons_self
set_option maxRecDepth 100000 in
theorem t_O_X2_init : ∀ w ∈ O_X2_init, w ∈ lw_tbl := k_in [212, 103, 104, 172, 214, 171, 216, 218, 220, 221, 213, 112, 77] (by decide +kernel)
theorem t_WX2_init : ∀ w ∈ W_X2_init, w ∈ lw_tbl := List.forall_mem_cons.mpr ⟨t_h_X2_init, List.forall_mem_append.mpr ⟨t_O_X2_init, List.forall_mem_append.mpr ⟨t_C2, t_Wfill⟩⟩⟩
set_option maxRecDepth 100000 in
theorem t_h_X5_init : (.code yX5_init cX5_init 4 none) ∈ lw_tbl := k_in (ws := [(.code yX5_init cX5_init 4 none)]) [237] (by decide +kernel) _ List.mem_cons_self
set_option maxRecDepth 100000 in
theorem t_O_X5_init : ∀ w ∈ O_X5_init, w ∈ lw_tbl := k_in [238, 103, 104, 172, 240, 260, 243, 246, 247, 248, 239, 112, 77] (by decide +kernel)
theorem t_WX5_init : ∀ w ∈ W_X5_init, w ∈ lw_tbl := List.forall_mem_cons.mpr ⟨t_h_X5_init, List.forall_mem_append.mpr ⟨t_O_X5_init, List.forall_mem_append.mpr ⟨t_C5, t_Wfill⟩⟩⟩
set_option maxRecDepth 100000 in
theorem t_h_X1_init : (.code yX1_init cX1_init 1 none) ∈ lw_tbl := k_in (ws := [(.code yX1_init cX1_init 1 none)]) [271] (by decide +kernel) _ List.mem_cons_self
set_option maxRecDepth 100000 in
theorem t_O_X1_init : ∀ w ∈ O_X1_init, w ∈ lw_tbl := k_in [272, 103, 104] (by decide +kernel)
theorem t_WX1_init : ∀ w ∈ W_X1_init, w ∈ lw_tbl := List.forall_mem_cons.mpr ⟨t_h_X1_init, t_O_X1_init⟩
set_option maxRecDepth 100000 in
theorem t_h_X6_init : (.code yX6_init cX6_init 5 none) ∈ lw_tbl := k_in (ws := [(.code yX6_init cX6_init 5 none)]) [265] (by decide +kernel) _ List.mem_cons_self
set_option maxRecDepth 100000 in
theorem t_O_X6_init : ∀ w ∈ O_X6_init, w ∈ lw_tbl := k_in [266, 103, 104, 172, 291, 293, 260, 295, 171, 298, 301, 304, 267, 268, 82, 270, 305, 306, 307, 308, 309, 290, 112, 77] (by decide +kernel)
theorem t_WX6_init : ∀ w ∈ W_X6_init, w ∈ lw_tbl := List.forall_mem_cons.mpr ⟨t_h_X6_init, List.forall_mem_append.mpr ⟨t_O_X6_init, List.forall_mem_append.mpr ⟨t_C6, List.forall_mem_append.mpr ⟨t_C1, List.forall_mem_append.mpr ⟨t_WX1_init, t_Wfill⟩⟩⟩⟩⟩
set_option maxRecDepth 100000 in
theorem t_h_X3_init : (.code yX3_init cX3_init 1 none) ∈ lw_tbl := k_in (ws := [(.code yX3_init cX3_init 1 none)]) [343] (by decide +kernel) _ List.mem_cons_self
set_option maxRecDepth 100000 in
theorem t_O_X3_init : ∀ w ∈ O_X3_init, w ∈ lw_tbl := k_in [344, 103, 104, 172, 348] (by decide +kernel)
theorem t_WX3_init : ∀ w ∈ W_X3_init, w ∈ lw_tbl := List.forall_mem_cons.mpr ⟨t_h_X3_init, List.forall_mem_append.mpr ⟨t_O_X3_init, t_C3⟩⟩
set_option maxRecDepth 100000 in
theorem t_h_X7_init : (.code yX7_init cX7_init 6 none) ∈ lw_tbl := k_in (ws := [(.code yX7_init cX7_init 6 none)]) [337] (by decide +kernel) _ List.mem_cons_self
set_option maxRecDepth 100000 in
theorem t_O_X7_init : ∀ w ∈ O_X7_init, w ∈ lw_tbl := k_in [338, 103, 104, 339, 340, 84, 342, 356, 358, 172, 359, 360, 361, 362, 363, 364] (by decide +kernel)
theorem t_WX7_init : ∀ w ∈ W_X7_init, w ∈ lw_tbl := List.forall_mem_cons.mpr ⟨t_h_X7_init, List.forall_mem_append.mpr ⟨t_O_X7_init, List.forall_mem_append.mpr ⟨t_C3, List.forall_mem_append.mpr ⟨t_WX3_init, t_C7⟩⟩⟩⟩
set_option maxRecDepth 100000 in
theorem t_h_X4_init : (.code yX4_init cX4_init 3 none) ∈ lw_tbl := k_in (ws := [(.code yX4_init cX4_init 3 none)]) [388] (by decide +kernel) _ List.mem_cons_self
set_option maxRecDepth 100000 in
theorem t_O_X4_init : ∀ w ∈ O_X4_init, w ∈ lw_tbl := k_in [389, 103, 104, 172, 392, 394, 395] (by decide +kernel)
theorem t_WX4_init : ∀ w ∈ W_X4_init, w ∈ lw_tbl := List.forall_mem_cons.mpr ⟨t_h_X4_init, List.forall_mem_append.mpr ⟨t_O_X4_init, t_C4⟩⟩
set_option maxRecDepth 100000 in
theorem t_h_X9_init : (.code yX9_init cX9_init 1 none) ∈ lw_tbl := k_in (ws := [(.code yX9_init cX9_init 1 none)]) [101] (by decide +kernel) _ List.mem_cons_self
set_option maxRecDepth 100000 in
theorem t_O_X9_init : ∀ w ∈ O_X9_init, w ∈ lw_tbl := k_in [102, 103, 104, 105, 106, 76, 107, 108, 405, 173, 174, 78, 175, 176, 406, 207, 208, 79, 209, 210, 407, 233, 234, 80, 235, 236, 408, 261, 262, 81, 263, 264, 409, 333, 334, 83, 335, 336, 410, 384, 385, 85, 386, 387, 411] (by decide +kernel)
theorem t_WX9_init : ∀ w ∈ W_X9_init, w ∈ lw_tbl := List.forall_mem_cons.mpr ⟨t_h_X9_init, List.forall_mem_append.mpr ⟨t_O_X9_init, List.forall_mem_append.mpr ⟨t_C8, List.forall_mem_append.mpr ⟨t_WX8_init, List.forall_mem_append.mpr ⟨t_C9, List.forall_mem_append.mpr ⟨t_C0, List.forall_mem_append.mpr ⟨t_WX0_init, List.forall_mem_append.mpr ⟨t_C2, List.forall_mem_append.mpr ⟨t_WX2_init, List.forall_mem_append.mpr ⟨t_C5, List.forall_mem_append.mpr ⟨t_WX5_init, List.forall_mem_append.mpr ⟨t_C6, List.forall_mem_append.mpr ⟨t_WX6_init, List.forall_mem_append.mpr ⟨t_C7, List.forall_mem_append.mpr ⟨t_WX7_init, List.forall_mem_append.mpr ⟨t_C4, t_WX4_init⟩⟩⟩⟩⟩⟩⟩⟩⟩⟩⟩⟩⟩⟩⟩⟩
set_option maxRecDepth 100000 in
theorem t_h_X9_linkCount : (.code yX9_linkCount cX9_linkCount 1 (some .int)) ∈ lw_tbl := k_in (ws := [(.code yX9_linkCount cX9_linkCount 1 (some .int))]) [434] (by decide +kernel) _ List.mem_cons_self
set_option maxRecDepth 100000 in
theorem t_O_X9_linkCount : ∀ w ∈ O_X9_linkCount, w ∈ lw_tbl := k_in [405, 120] (by decide +kernel)
theorem t_WX9_linkCount : ∀ w ∈ W_X9_linkCount, w ∈ lw_tbl := List.forall_mem_cons.mpr ⟨t_h_X9_linkCount, List.forall_mem_append.mpr ⟨t_O_X9_linkCount, List.forall_mem_append.mpr ⟨t_C9, t_C8⟩⟩⟩
set_option maxRecDepth 100000 in
theorem t_h_X9_lost : (.code yX9_lost cX9_lost 1 (some .int)) ∈ lw_tbl := k_in (ws := [(.code yX9_lost cX9_lost 1 (some .int))]) [446] (by decide +kernel) _ List.mem_cons_self
set_option maxRecDepth 100000 in
theorem t_O_X9_lost : ∀ w ∈ O_X9_lost, w ∈ lw_tbl := k_in [410, 355] (by decide +kernel)
theorem t_WX9_lost : ∀ w ∈ W_X9_lost, w ∈ lw_tbl := List.forall_mem_cons.mpr ⟨t_h_X9_lost, List.forall_mem_append.mpr ⟨t_O_X9_lost, List.forall_mem_append.mpr ⟨t_C9, t_C7⟩⟩⟩
set_option maxRecDepth 100000 in
theorem t_h_X9_routerCount : (.code yX9_routerCount cX9_routerCount 1 (some .int)) ∈ lw_tbl := k_in (ws := [(.code yX9_routerCount cX9_routerCount 1 (some .int))]) [430] (by decide +kernel) _ List.mem_cons_self
set_option maxRecDepth 100000 in
theorem t_O_X9_routerCount : ∀ w ∈ O_X9_routerCount, w ∈ lw_tbl := k_in [405, 115] (by decide +kernel)
theorem t_WX9_routerCount : ∀ w ∈ W_X9_routerCount, w ∈ lw_tbl := List.forall_mem_cons.mpr ⟨t_h_X9_routerCount, List.forall_mem_append.mpr ⟨t_O_X9_routerCount, List.forall_mem_append.mpr ⟨t_C9, t_C8⟩⟩⟩
set_option maxRecDepth 100000 in
theorem t_strs : ∀ w ∈ kStrs.map (fun q => Cond.stringRef q.1 q.2.1 q.2.2), w ∈ lw_tbl := k_in [596, 650, 788, 1130] (by decide +kernel)
set_option maxRecDepth 100000 in
theorem t_exs : ∀ w ∈ kExs.map (fun n => Cond.castable n n), w ∈ lw_tbl := k_in [589, 605, 745] (by decide +kernel)
set_option maxRecDepth 100000 in
theorem t_sup : ∀ w ∈ kSup.map (fun n => Cond.declares (Bundle.initS n)), w ∈ lw_tbl := k_in [505, 507, 509] (by decide +kernel)
set_option maxRecDepth 100000 in
theorem t_th0 : (Cond.laysStatic "java/lang/Throwable" "UNASSIGNED_STACK" "[Ljava/lang/StackTraceElement;") ∈ lw_tbl := k_in (ws := [(Cond.laysStatic "java/lang/Throwable" "UNASSIGNED_STACK" "[Ljava/lang/StackTraceElement;")]) [528] (by decide +kernel) _ List.mem_cons_self
set_option maxRecDepth 100000 in
theorem t_th1 : (Cond.laysStatic "java/lang/Throwable" "SUPPRESSED_SENTINEL" "Ljava/util/List;") ∈ lw_tbl := k_in (ws := [(Cond.laysStatic "java/lang/Throwable" "SUPPRESSED_SENTINEL" "Ljava/util/List;")]) [530] (by decide +kernel) _ List.mem_cons_self
set_option maxRecDepth 100000 in
theorem t_th2 : (Cond.initialized "java/lang/Throwable") ∈ lw_tbl := k_in (ws := [(Cond.initialized "java/lang/Throwable")]) [87] (by decide +kernel) _ List.mem_cons_self
