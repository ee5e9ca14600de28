theorem dX2_holdsSlot_0 : decode cX2_holdsSlot 0 = .ok (.aload_n 0, 1) := by decide +kernel
theorem dX2_holdsSlot_1 : decode cX2_holdsSlot 1 = .ok (.getfield 25, 3) := by decide +kernel
theorem dX2_holdsSlot_4 : decode cX2_holdsSlot 4 = .ok (.iload_n 1, 1) := by decide +kernel
theorem dX2_holdsSlot_5 : decode cX2_holdsSlot 5 = .ok (.iaload, 1) := by decide +kernel
theorem dX2_holdsSlot_6 : decode cX2_holdsSlot 6 = .ok (.ifCond .le 7, 3) := by decide +kernel
theorem dX2_holdsSlot_13 : decode cX2_holdsSlot 13 = .ok (.iconst 0, 1) := by decide +kernel
theorem dX2_holdsSlot_14 : decode cX2_holdsSlot 14 = .ok (.ireturn, 1) := by decide +kernel
theorem dX7_removeExpired_0 : decode cX7_removeExpired 0 = .ok (.aload_n 0, 1) := by decide +kernel
theorem dX7_removeExpired_1 : decode cX7_removeExpired 1 = .ok (.getfield 33, 3) := by decide +kernel
theorem dX7_removeExpired_4 : decode cX7_removeExpired 4 = .ok (.aload_n 0, 1) := by decide +kernel
theorem dX7_removeExpired_5 : decode cX7_removeExpired 5 = .ok (.getfield 29, 3) := by decide +kernel
theorem dX7_removeExpired_8 : decode cX7_removeExpired 8 = .ok (.getfield 51, 3) := by decide +kernel
theorem dX7_removeExpired_11 : decode cX7_removeExpired 11 = .ok (.bipush 60, 2) := by decide +kernel
theorem dX7_removeExpired_13 : decode cX7_removeExpired 13 = .ok (.isub, 1) := by decide +kernel
theorem dX7_removeExpired_14 : decode cX7_removeExpired 14 = .ok (.bipush 63, 2) := by decide +kernel
theorem dX7_removeExpired_16 : decode cX7_removeExpired 16 = .ok (.iand, 1) := by decide +kernel
theorem dX7_removeExpired_17 : decode cX7_removeExpired 17 = .ok (.invokevirtual 57, 3) := by decide +kernel
theorem dX7_removeExpired_20 : decode cX7_removeExpired 20 = .ok (.ifCond .ne 4, 3) := by decide +kernel
theorem dX7_removeExpired_23 : decode cX7_removeExpired 23 = .ok (.return_, 1) := by decide +kernel
theorem dX7_deliverMail_0 : decode cX7_deliverMail 0 = .ok (.aload_n 0, 1) := by decide +kernel
theorem dX7_deliverMail_1 : decode cX7_deliverMail 1 = .ok (.getfield 18, 3) := by decide +kernel
theorem dX7_deliverMail_4 : decode cX7_deliverMail 4 = .ok (.astore_n 1, 1) := by decide +kernel
theorem dX7_deliverMail_5 : decode cX7_deliverMail 5 = .ok (.aload_n 0, 1) := by decide +kernel
theorem dX7_deliverMail_6 : decode cX7_deliverMail 6 = .ok (.aload_n 0, 1) := by decide +kernel
theorem dX7_deliverMail_7 : decode cX7_deliverMail 7 = .ok (.getfield 12, 3) := by decide +kernel
theorem dX7_deliverMail_10 : decode cX7_deliverMail 10 = .ok (.putfield 18, 3) := by decide +kernel
theorem dX7_deliverMail_13 : decode cX7_deliverMail 13 = .ok (.aload_n 0, 1) := by decide +kernel
theorem dX7_deliverMail_14 : decode cX7_deliverMail 14 = .ok (.aload_n 1, 1) := by decide +kernel
theorem dX7_deliverMail_15 : decode cX7_deliverMail 15 = .ok (.putfield 12, 3) := by decide +kernel
theorem dX7_deliverMail_18 : decode cX7_deliverMail 18 = .ok (.aload_n 0, 1) := by decide +kernel
theorem dX7_deliverMail_19 : decode cX7_deliverMail 19 = .ok (.getfield 12, 3) := by decide +kernel
theorem dX7_deliverMail_22 : decode cX7_deliverMail 22 = .ok (.iconst 0, 1) := by decide +kernel
theorem dX7_deliverMail_23 : decode cX7_deliverMail 23 = .ok (.putfield 80, 3) := by decide +kernel
theorem dX7_deliverMail_26 : decode cX7_deliverMail 26 = .ok (.iconst 0, 1) := by decide +kernel
theorem dX7_deliverMail_27 : decode cX7_deliverMail 27 = .ok (.istore_n 2, 1) := by decide +kernel
theorem dX7_deliverMail_28 : decode cX7_deliverMail 28 = .ok (.iconst 0, 1) := by decide +kernel
theorem dX7_deliverMail_29 : decode cX7_deliverMail 29 = .ok (.istore_n 3, 1) := by decide +kernel
theorem dX7_deliverMail_30 : decode cX7_deliverMail 30 = .ok (.iload_n 3, 1) := by decide +kernel
theorem dX7_deliverMail_31 : decode cX7_deliverMail 31 = .ok (.aload_n 0, 1) := by decide +kernel
theorem dX7_deliverMail_32 : decode cX7_deliverMail 32 = .ok (.getfield 18, 3) := by decide +kernel
theorem dX7_deliverMail_35 : decode cX7_deliverMail 35 = .ok (.getfield 80, 3) := by decide +kernel
theorem dX7_deliverMail_38 : decode cX7_deliverMail 38 = .ok (.if_icmp .ge 81, 3) := by decide +kernel
theorem dX7_deliverMail_119 : decode cX7_deliverMail 119 = .ok (.iload_n 2, 1) := by decide +kernel
theorem dX7_deliverMail_120 : decode cX7_deliverMail 120 = .ok (.ireturn, 1) := by decide +kernel
theorem dX7_letRoutersAct_0 : decode cX7_letRoutersAct 0 = .ok (.iconst 0, 1) := by decide +kernel
theorem dX7_letRoutersAct_1 : decode cX7_letRoutersAct 1 = .ok (.istore_n 1, 1) := by decide +kernel
theorem dX7_letRoutersAct_2 : decode cX7_letRoutersAct 2 = .ok (.iload_n 1, 1) := by decide +kernel
theorem dX7_letRoutersAct_3 : decode cX7_letRoutersAct 3 = .ok (.aload_n 0, 1) := by decide +kernel
theorem dX7_letRoutersAct_4 : decode cX7_letRoutersAct 4 = .ok (.getfield 25, 3) := by decide +kernel
theorem dX7_letRoutersAct_7 : decode cX7_letRoutersAct 7 = .ok (.getfield 63, 3) := by decide +kernel
theorem dX7_letRoutersAct_10 : decode cX7_letRoutersAct 10 = .ok (.if_icmp .ge 111, 3) := by decide +kernel
theorem dX7_letRoutersAct_121 : decode cX7_letRoutersAct 121 = .ok (.return_, 1) := by decide +kernel
theorem dX8_createRouter_0 : decode cX8_createRouter 0 = .ok (.aload_n 0, 1) := by decide +kernel
theorem dX8_createRouter_1 : decode cX8_createRouter 1 = .ok (.getfield 49, 3) := by decide +kernel
theorem dX8_createRouter_4 : decode cX8_createRouter 4 = .ok (.istore_n 1, 1) := by decide +kernel
theorem dX8_createRouter_5 : decode cX8_createRouter 5 = .ok (.aload_n 0, 1) := by decide +kernel
theorem dX8_createRouter_6 : decode cX8_createRouter 6 = .ok (.getfield 9, 3) := by decide +kernel
theorem dX8_createRouter_9 : decode cX8_createRouter 9 = .ok (.iload_n 1, 1) := by decide +kernel
theorem dX8_createRouter_10 : decode cX8_createRouter 10 = .ok (.iconst 1, 1) := by decide +kernel
theorem dX8_createRouter_11 : decode cX8_createRouter 11 = .ok (.bastore, 1) := by decide +kernel
theorem dX8_createRouter_12 : decode cX8_createRouter 12 = .ok (.aload_n 0, 1) := by decide +kernel
theorem dX8_createRouter_13 : decode cX8_createRouter 13 = .ok (.dup, 1) := by decide +kernel
theorem dX8_createRouter_14 : decode cX8_createRouter 14 = .ok (.getfield 49, 3) := by decide +kernel
theorem dX8_createRouter_17 : decode cX8_createRouter 17 = .ok (.iconst 1, 1) := by decide +kernel
theorem dX8_createRouter_18 : decode cX8_createRouter 18 = .ok (.iadd, 1) := by decide +kernel
theorem dX8_createRouter_19 : decode cX8_createRouter 19 = .ok (.putfield 49, 3) := by decide +kernel
theorem dX8_createRouter_22 : decode cX8_createRouter 22 = .ok (.iload_n 1, 1) := by decide +kernel
theorem dX8_createRouter_23 : decode cX8_createRouter 23 = .ok (.ireturn, 1) := by decide +kernel
theorem dX8_rememberUsableLinks_0 : decode cX8_rememberUsableLinks 0 = .ok (.iconst 0, 1) := by decide +kernel
theorem dX8_rememberUsableLinks_1 : decode cX8_rememberUsableLinks 1 = .ok (.istore_n 1, 1) := by decide +kernel
theorem dX8_rememberUsableLinks_2 : decode cX8_rememberUsableLinks 2 = .ok (.iload_n 1, 1) := by decide +kernel
theorem dX8_rememberUsableLinks_3 : decode cX8_rememberUsableLinks 3 = .ok (.aload_n 0, 1) := by decide +kernel
theorem dX8_rememberUsableLinks_4 : decode cX8_rememberUsableLinks 4 = .ok (.getfield 53, 3) := by decide +kernel
theorem dX8_rememberUsableLinks_7 : decode cX8_rememberUsableLinks 7 = .ok (.if_icmp .ge 20, 3) := by decide +kernel
theorem dX8_rememberUsableLinks_27 : decode cX8_rememberUsableLinks 27 = .ok (.return_, 1) := by decide +kernel
theorem dX9_addRouter_0 : decode cX9_addRouter 0 = .ok (.aload_n 0, 1) := by decide +kernel
theorem dX9_addRouter_1 : decode cX9_addRouter 1 = .ok (.getfield 12, 3) := by decide +kernel
theorem dX9_addRouter_4 : decode cX9_addRouter 4 = .ok (.getfield 68, 3) := by decide +kernel
theorem dX9_addRouter_7 : decode cX9_addRouter 7 = .ok (.bipush 16, 2) := by decide +kernel
theorem dX9_addRouter_9 : decode cX9_addRouter 9 = .ok (.if_icmp .lt 13, 3) := by decide +kernel
theorem dX9_addRouter_22 : decode cX9_addRouter 22 = .ok (.aload_n 0, 1) := by decide +kernel
theorem dX9_addRouter_23 : decode cX9_addRouter 23 = .ok (.getfield 12, 3) := by decide +kernel
theorem dX9_addRouter_26 : decode cX9_addRouter 26 = .ok (.invokevirtual 79, 3) := by decide +kernel
theorem dX9_addRouter_29 : decode cX9_addRouter 29 = .ok (.ireturn, 1) := by decide +kernel
theorem dX9_routerCount_0 : decode cX9_routerCount 0 = .ok (.aload_n 0, 1) := by decide +kernel
theorem dX9_routerCount_1 : decode cX9_routerCount 1 = .ok (.getfield 12, 3) := by decide +kernel
theorem dX9_routerCount_4 : decode cX9_routerCount 4 = .ok (.getfield 68, 3) := by decide +kernel
theorem dX9_routerCount_7 : decode cX9_routerCount 7 = .ok (.ireturn, 1) := by decide +kernel
theorem dX9_linkCount_0 : decode cX9_linkCount 0 = .ok (.aload_n 0, 1) := by decide +kernel
theorem dX9_linkCount_1 : decode cX9_linkCount 1 = .ok (.getfield 12, 3) := by decide +kernel
theorem dX9_linkCount_4 : decode cX9_linkCount 4 = .ok (.getfield 101, 3) := by decide +kernel
theorem dX9_linkCount_7 : decode cX9_linkCount 7 = .ok (.ireturn, 1) := by decide +kernel
theorem dX9_tick_21 : decode cX9_tick 21 = .ok (.iconst 0, 1) := by decide +kernel
theorem dX9_tick_22 : decode cX9_tick 22 = .ok (.istore_n 2, 1) := by decide +kernel
theorem dX9_tick_23 : decode cX9_tick 23 = .ok (.iconst 0, 1) := by decide +kernel
theorem dX9_tick_24 : decode cX9_tick 24 = .ok (.istore_n 3, 1) := by decide +kernel
theorem dX9_tick_25 : decode cX9_tick 25 = .ok (.iload_n 3, 1) := by decide +kernel
theorem dX9_tick_26 : decode cX9_tick 26 = .ok (.iload_n 1, 1) := by decide +kernel
theorem dX9_tick_27 : decode cX9_tick 27 = .ok (.if_icmp .ge 53, 3) := by decide +kernel
theorem dX9_tick_30 : decode cX9_tick 30 = .ok (.aload_n 0, 1) := by decide +kernel
theorem dX9_tick_31 : decode cX9_tick 31 = .ok (.getfield 21, 3) := by decide +kernel
theorem dX9_tick_34 : decode cX9_tick 34 = .ok (.dup, 1) := by decide +kernel
theorem dX9_tick_35 : decode cX9_tick 35 = .ok (.getfield 168, 3) := by decide +kernel
theorem dX9_tick_38 : decode cX9_tick 38 = .ok (.iconst 1, 1) := by decide +kernel
theorem dX9_tick_39 : decode cX9_tick 39 = .ok (.iadd, 1) := by decide +kernel
theorem dX9_tick_40 : decode cX9_tick 40 = .ok (.putfield 168, 3) := by decide +kernel
theorem dX9_tick_43 : decode cX9_tick 43 = .ok (.aload_n 0, 1) := by decide +kernel
theorem dX9_tick_44 : decode cX9_tick 44 = .ok (.getfield 55, 3) := by decide +kernel
theorem dX9_tick_47 : decode cX9_tick 47 = .ok (.invokevirtual 171, 3) := by decide +kernel
theorem dX9_tick_50 : decode cX9_tick 50 = .ok (.iload_n 2, 1) := by decide +kernel
theorem dX9_tick_51 : decode cX9_tick 51 = .ok (.aload_n 0, 1) := by decide +kernel
theorem dX9_tick_52 : decode cX9_tick 52 = .ok (.getfield 55, 3) := by decide +kernel
theorem dX9_tick_55 : decode cX9_tick 55 = .ok (.invokevirtual 174, 3) := by decide +kernel
theorem dX9_tick_58 : decode cX9_tick 58 = .ok (.iadd, 1) := by decide +kernel
theorem dX9_tick_59 : decode cX9_tick 59 = .ok (.istore_n 2, 1) := by decide +kernel
theorem dX9_tick_60 : decode cX9_tick 60 = .ok (.aload_n 0, 1) := by decide +kernel
theorem dX9_tick_61 : decode cX9_tick 61 = .ok (.getfield 55, 3) := by decide +kernel
theorem dX9_tick_64 : decode cX9_tick 64 = .ok (.invokevirtual 177, 3) := by decide +kernel
theorem dX9_tick_67 : decode cX9_tick 67 = .ok (.aload_n 0, 1) := by decide +kernel
theorem dX9_tick_68 : decode cX9_tick 68 = .ok (.getfield 12, 3) := by decide +kernel
theorem dX9_tick_71 : decode cX9_tick 71 = .ok (.invokevirtual 180, 3) := by decide +kernel
theorem dX9_tick_74 : decode cX9_tick 74 = .ok (.iinc 3 1, 3) := by decide +kernel
theorem dX9_tick_77 : decode cX9_tick 77 = .ok (.goto (-52), 3) := by decide +kernel
theorem dX9_tick_80 : decode cX9_tick 80 = .ok (.iload_n 2, 1) := by decide +kernel
theorem dX9_tick_81 : decode cX9_tick 81 = .ok (.ireturn, 1) := by decide +kernel
theorem dX9_clock_0 : decode cX9_clock 0 = .ok (.aload_n 0, 1) := by decide +kernel
theorem dX9_clock_1 : decode cX9_clock 1 = .ok (.getfield 21, 3) := by decide +kernel
theorem dX9_clock_4 : decode cX9_clock 4 = .ok (.getfield 168, 3) := by decide +kernel
theorem dX9_clock_7 : decode cX9_clock 7 = .ok (.ireturn, 1) := by decide +kernel
theorem dX9_inFlight_0 : decode cX9_inFlight 0 = .ok (.aload_n 0, 1) := by decide +kernel
theorem dX9_inFlight_1 : decode cX9_inFlight 1 = .ok (.getfield 55, 3) := by decide +kernel
theorem dX9_inFlight_4 : decode cX9_inFlight 4 = .ok (.getfield 183, 3) := by decide +kernel
theorem dX9_inFlight_7 : decode cX9_inFlight 7 = .ok (.getfield 187, 3) := by decide +kernel
theorem dX9_inFlight_10 : decode cX9_inFlight 10 = .ok (.ireturn, 1) := by decide +kernel
theorem dX9_lost_0 : decode cX9_lost 0 = .ok (.aload_n 0, 1) := by decide +kernel
theorem dX9_lost_1 : decode cX9_lost 1 = .ok (.getfield 55, 3) := by decide +kernel
theorem dX9_lost_4 : decode cX9_lost 4 = .ok (.getfield 192, 3) := by decide +kernel
theorem dX9_lost_7 : decode cX9_lost 7 = .ok (.ireturn, 1) := by decide +kernel
theorem dX9_digest_0 : decode cX9_digest 0 = .ok (.ldc2_w 282, 3) := by decide +kernel
theorem dX9_digest_3 : decode cX9_digest 3 = .ok (.lstore_n 1, 1) := by decide +kernel
theorem dX9_digest_4 : decode cX9_digest 4 = .ok (.lload_n 1, 1) := by decide +kernel
theorem dX9_digest_5 : decode cX9_digest 5 = .ok (.ldc2_w 284, 3) := by decide +kernel
theorem dX9_digest_8 : decode cX9_digest 8 = .ok (.lmul, 1) := by decide +kernel
theorem dX9_digest_9 : decode cX9_digest 9 = .ok (.aload_n 0, 1) := by decide +kernel
theorem dX9_digest_10 : decode cX9_digest 10 = .ok (.getfield 21, 3) := by decide +kernel
theorem dX9_digest_13 : decode cX9_digest 13 = .ok (.getfield 168, 3) := by decide +kernel
theorem dX9_digest_16 : decode cX9_digest 16 = .ok (.i2l, 1) := by decide +kernel
theorem dX9_digest_17 : decode cX9_digest 17 = .ok (.ladd, 1) := by decide +kernel
theorem dX9_digest_18 : decode cX9_digest 18 = .ok (.lstore_n 1, 1) := by decide +kernel
theorem dX9_digest_19 : decode cX9_digest 19 = .ok (.lload_n 1, 1) := by decide +kernel
theorem dX9_digest_20 : decode cX9_digest 20 = .ok (.ldc2_w 284, 3) := by decide +kernel
theorem dX9_digest_23 : decode cX9_digest 23 = .ok (.lmul, 1) := by decide +kernel
theorem dX9_digest_24 : decode cX9_digest 24 = .ok (.aload_n 0, 1) := by decide +kernel
theorem dX9_digest_25 : decode cX9_digest 25 = .ok (.getfield 55, 3) := by decide +kernel
theorem dX9_digest_28 : decode cX9_digest 28 = .ok (.getfield 183, 3) := by decide +kernel
theorem dX9_digest_31 : decode cX9_digest 31 = .ok (.getfield 187, 3) := by decide +kernel
theorem dX9_digest_34 : decode cX9_digest 34 = .ok (.i2l, 1) := by decide +kernel
theorem dX9_digest_35 : decode cX9_digest 35 = .ok (.ladd, 1) := by decide +kernel
theorem dX9_digest_36 : decode cX9_digest 36 = .ok (.lstore_n 1, 1) := by decide +kernel
theorem dX9_digest_37 : decode cX9_digest 37 = .ok (.lload_n 1, 1) := by decide +kernel
theorem dX9_digest_38 : decode cX9_digest 38 = .ok (.ldc2_w 284, 3) := by decide +kernel
theorem dX9_digest_41 : decode cX9_digest 41 = .ok (.lmul, 1) := by decide +kernel
theorem dX9_digest_42 : decode cX9_digest 42 = .ok (.aload_n 0, 1) := by decide +kernel
theorem dX9_digest_43 : decode cX9_digest 43 = .ok (.getfield 55, 3) := by decide +kernel
theorem dX9_digest_46 : decode cX9_digest 46 = .ok (.getfield 192, 3) := by decide +kernel
theorem dX9_digest_49 : decode cX9_digest 49 = .ok (.i2l, 1) := by decide +kernel
theorem dX9_digest_50 : decode cX9_digest 50 = .ok (.ladd, 1) := by decide +kernel
theorem dX9_digest_51 : decode cX9_digest 51 = .ok (.lstore_n 1, 1) := by decide +kernel
theorem dX9_digest_52 : decode cX9_digest 52 = .ok (.iconst 0, 1) := by decide +kernel
theorem dX9_digest_53 : decode cX9_digest 53 = .ok (.istore_n 3, 1) := by decide +kernel
theorem dX9_digest_54 : decode cX9_digest 54 = .ok (.iload_n 3, 1) := by decide +kernel
theorem dX9_digest_55 : decode cX9_digest 55 = .ok (.aload_n 0, 1) := by decide +kernel
theorem dX9_digest_56 : decode cX9_digest 56 = .ok (.getfield 12, 3) := by decide +kernel
theorem dX9_digest_59 : decode cX9_digest 59 = .ok (.getfield 68, 3) := by decide +kernel
theorem dX9_digest_62 : decode cX9_digest 62 = .ok (.if_icmp .ge 34, 3) := by decide +kernel
theorem dX9_digest_96 : decode cX9_digest 96 = .ok (.iconst 0, 1) := by decide +kernel
theorem dX9_digest_97 : decode cX9_digest 97 = .ok (.istore_n 3, 1) := by decide +kernel
theorem dX9_digest_98 : decode cX9_digest 98 = .ok (.iload_n 3, 1) := by decide +kernel
theorem dX9_digest_99 : decode cX9_digest 99 = .ok (.aload_n 0, 1) := by decide +kernel
theorem dX9_digest_100 : decode cX9_digest 100 = .ok (.getfield 12, 3) := by decide +kernel
theorem dX9_digest_103 : decode cX9_digest 103 = .ok (.getfield 68, 3) := by decide +kernel
theorem dX9_digest_106 : decode cX9_digest 106 = .ok (.if_icmp .ge 46, 3) := by decide +kernel
theorem dX9_digest_152 : decode cX9_digest 152 = .ok (.iconst 0, 1) := by decide +kernel
theorem dX9_digest_153 : decode cX9_digest 153 = .ok (.istore_n 3, 1) := by decide +kernel
theorem dX9_digest_154 : decode cX9_digest 154 = .ok (.iload_n 3, 1) := by decide +kernel
theorem dX9_digest_155 : decode cX9_digest 155 = .ok (.aload_n 0, 1) := by decide +kernel
theorem dX9_digest_156 : decode cX9_digest 156 = .ok (.getfield 12, 3) := by decide +kernel
theorem dX9_digest_159 : decode cX9_digest 159 = .ok (.getfield 68, 3) := by decide +kernel
theorem dX9_digest_162 : decode cX9_digest 162 = .ok (.if_icmp .ge 16, 3) := by decide +kernel
theorem dX9_digest_178 : decode cX9_digest 178 = .ok (.lload_n 1, 1) := by decide +kernel
theorem dX9_digest_179 : decode cX9_digest 179 = .ok (.lreturn, 1) := by decide +kernel
def O_X8_createRouter : List Cond := [.fieldLink RX8 49 "RoutingDomain$Topology" "routerCount" "I", .fieldLink RX8 9 "RoutingDomain$Topology" "isRouterUp" "[Z"]
def W_X8_createRouter : List Cond := .code yX8_createRouter cX8_createRouter 2 (some .int) :: (O_X8_createRouter ++ wsX80)
theorem m_X8_createRouter_O : ∀ w ∈ O_X8_createRouter, w ∈ W_X8_createRouter := fun _ h => List.mem_cons_of_mem _ (List.mem_append_left _ h)
theorem m_X8_createRouter_C8 : ∀ w ∈ wsX80, w ∈ W_X8_createRouter := fun _ h => List.mem_cons_of_mem _ (List.mem_append_right _ h)
theorem gdO_X8_createRouter : O_X8_createRouter.all goodWord = true := by decide +kernel
theorem gd_X8_createRouter : W_X8_createRouter.all goodWord = true := k_all_cons rfl (k_all_app gdO_X8_createRouter gdC_8)
set_option maxHeartbeats 4000000 in
set_option maxRecDepth 100000 in
theorem c_X8_createRouter (l : Launch) (D : va_G) (cI cZ cJ : ClassId) (h0 : Nat) (ad : Nat → Nat) : kMi l yX8_createRouter W_X8_createRouter { frames := 0, cells := 0, slots := 0, locals := 0 } 0 0 D (kT cI cZ cJ) [.ref h0] [(h0, .inr (8, [.int 0, .int 0, .ref (ad 7), .ref (ad 8), .ref (ad 9), .ref (ad 10), .ref (ad 11), .ref (ad 12), .ref (ad 13), .ref (ad 14), .ref (ad 15), .ref (ad 16)])), ((ad 7), .inl (cZ, 16, .inl (fun _ => 0)))] (S := Unit) (fun r _ => r = 0) (fun _ => [(h0, .inr (8, [.int 1, .int 0, .ref (ad 7), .ref (ad 8), .ref (ad 9), .ref (ad 10), .ref (ad 11), .ref (ad 12), .ref (ad 13), .ref (ad 14), .ref (ad 15), .ref (ad 16)])), ((ad 7), .inl (cZ, 16, .inl (upd (fun _ => 0) (0 : Int32).toNatClampNeg (vp_nar .boolean 1))))]) := by
  refine kMi_of (lv := [(0, .ref h0)]) RX8 "createRouter" (by decide +kernel) rfl rfl rfl (Nat.le_of_ble_eq_true rfl) rfl ?_
  intro p e s m below meth c A H locs ls E hA hK hP hD hS hl
  obtain ⟨hx, hb, hr, hts, hown, hlocks, hml, hin, hN⟩ := id E
  refine lv_aload_n hx hb dX8_createRouter_0 rfl (lv_at hl 0 rfl) ?_
  refine va_get (ci := 8) (v := .int 0) (C := RX8) (T := TX8) (N := 12) hx hb hts m_X8_createRouter_C8 hown hK hP 0 rfl rfl 0 (by decide) (hts (.fieldLink RX8 49 "RoutingDomain$Topology" "routerCount" "I") (m_X8_createRouter_O _ (by decide +kernel))) (fun _ h9 => h9) rfl dX8_createRouter_1 ?_
  refine lv_istore_n (lv' := [(1, .int 0), (0, .ref h0)]) hx hb dX8_createRouter_4 rfl hl (by decide) rfl (fun ls hl => ?_)
  refine lv_aload_n hx hb dX8_createRouter_5 rfl (lv_at hl 1 rfl) ?_
  refine va_get (ci := 8) (v := .ref (ad 7)) (C := RX8) (T := TX8) (N := 12) hx hb hts m_X8_createRouter_C8 hown hK hP 0 rfl rfl 2 (by decide) (hts (.fieldLink RX8 9 "RoutingDomain$Topology" "isRouterUp" "[Z") (m_X8_createRouter_O _ (by decide +kernel))) (fun _ h9 => h9) rfl dX8_createRouter_6 ?_
  refine lv_iload_n hx hb dX8_createRouter_9 rfl (lv_at hl 0 rfl) ?_
  refine lv_iconst (v := 1) hx hb dX8_createRouter_10 (by decide) ?_
  refine va_zast hx hb hK hP hD hS 1 1 rfl rfl (vp_in_iff.mpr (by decide)) dX8_createRouter_11 (fun H locs hP hD hS => ?_)
  have hP : va_P D vwCl [(h0, .inr (8, [.int 0, .int 0, .ref (ad 7), .ref (ad 8), .ref (ad 9), .ref (ad 10), .ref (ad 11), .ref (ad 12), .ref (ad 13), .ref (ad 14), .ref (ad 15), .ref (ad 16)])), ((ad 7), .inl (cZ, 16, .inl (upd (fun _ => 0) (0 : Int32).toNatClampNeg (vp_nar .boolean 1))))] H := hP
  have hD : va_D A [(h0, .inr (8, [.int 0, .int 0, .ref (ad 7), .ref (ad 8), .ref (ad 9), .ref (ad 10), .ref (ad 11), .ref (ad 12), .ref (ad 13), .ref (ad 14), .ref (ad 15), .ref (ad 16)])), ((ad 7), .inl (cZ, 16, .inl (upd (fun _ => 0) (0 : Int32).toNatClampNeg (vp_nar .boolean 1))))] := hD
  refine lv_aload_n hx hb dX8_createRouter_12 rfl (lv_at hl 1 rfl) ?_
  refine lv_dup hx hb dX8_createRouter_13 rfl ?_
  refine va_get (ci := 8) (v := .int 0) (C := RX8) (T := TX8) (N := 12) hx hb hts m_X8_createRouter_C8 hown hK hP 0 rfl rfl 0 (by decide) (hts (.fieldLink RX8 49 "RoutingDomain$Topology" "routerCount" "I") (m_X8_createRouter_O _ (by decide +kernel))) (fun _ h9 => h9) rfl dX8_createRouter_14 ?_
  refine lv_iconst (v := 1) hx hb dX8_createRouter_17 (by decide) ?_
  refine lv_iadd hx hb dX8_createRouter_18 ?_
  refine lv_topi (fun y ey => ?_)
  obtain rfl : y = 1 := ey.trans (by decide)
  refine va_put (ci := 8) (v := .int 1) (ty := .int) (C := RX8) (T := TX8) (N := 12) hx hb hts m_X8_createRouter_C8 tyX8 tyX8_ok nmX8 hown hK hP hD hS 0 rfl rfl 0 (by decide) (hts (.fieldLink RX8 49 "RoutingDomain$Topology" "routerCount" "I") (m_X8_createRouter_O _ (by decide +kernel))) (fun _ h9 => h9) rfl (by decide +kernel) rfl rfl (Nat.le_of_ble_eq_true rfl) dX8_createRouter_19 (fun H locs hP hD hS => ?_)
  have hP : va_P D vwCl [(h0, .inr (8, [.int 1, .int 0, .ref (ad 7), .ref (ad 8), .ref (ad 9), .ref (ad 10), .ref (ad 11), .ref (ad 12), .ref (ad 13), .ref (ad 14), .ref (ad 15), .ref (ad 16)])), ((ad 7), .inl (cZ, 16, .inl (upd (fun _ => 0) (0 : Int32).toNatClampNeg (vp_nar .boolean 1))))] H := hP
  have hD : va_D A [(h0, .inr (8, [.int 1, .int 0, .ref (ad 7), .ref (ad 8), .ref (ad 9), .ref (ad 10), .ref (ad 11), .ref (ad 12), .ref (ad 13), .ref (ad 14), .ref (ad 15), .ref (ad 16)])), ((ad 7), .inl (cZ, 16, .inl (upd (fun _ => 0) (0 : Int32).toNatClampNeg (vp_nar .boolean 1))))] := hD
  refine lv_iload_n hx hb dX8_createRouter_22 rfl (lv_at hl 0 rfl) ?_
  exact k_iret E hK hP hD hS () [0, 1] (by decide) rfl rfl (Nat.le_of_ble_eq_true rfl) (Nat.le_of_ble_eq_true rfl) dX8_createRouter_23

def O_X9_addRouter : List Cond := [.fieldLink RX9 12 "RoutingDomain" "topology" "LRoutingDomain$Topology;", .fieldLink RX9 68 "RoutingDomain$Topology" "routerCount" "I", .methodLink RX9 79 yX8_createRouter, .instanceMethod yX8_createRouter, .selects RX8 yX8_createRouter yX8_createRouter, .initialized RX8]
def W_X9_addRouter : List Cond := .code yX9_addRouter cX9_addRouter 1 (some .int) :: (O_X9_addRouter ++ (wsX90 ++ (wsX80 ++ W_X8_createRouter)))
theorem m_X9_addRouter_O : ∀ w ∈ O_X9_addRouter, w ∈ W_X9_addRouter := fun _ h => List.mem_cons_of_mem _ (List.mem_append_left _ h)
theorem m_X9_addRouter_C9 : ∀ w ∈ wsX90, w ∈ W_X9_addRouter := fun _ h => List.mem_cons_of_mem _ (List.mem_append_right _ (List.mem_append_left _ h))
theorem m_X9_addRouter_C8 : ∀ w ∈ wsX80, w ∈ W_X9_addRouter := fun _ h => List.mem_cons_of_mem _ (List.mem_append_right _ (List.mem_append_right _ (List.mem_append_left _ h)))
theorem m_X9_addRouter_WX8_createRouter : ∀ w ∈ W_X8_createRouter, w ∈ W_X9_addRouter := fun _ h => List.mem_cons_of_mem _ (List.mem_append_right _ (List.mem_append_right _ (List.mem_append_right _ h)))
theorem gdO_X9_addRouter : O_X9_addRouter.all goodWord = true := by decide +kernel
theorem gd_X9_addRouter : W_X9_addRouter.all goodWord = true := k_all_cons rfl (k_all_app gdO_X9_addRouter (k_all_app gdC_9 (k_all_app gdC_8 gd_X8_createRouter)))
set_option maxHeartbeats 4000000 in
set_option maxRecDepth 100000 in
theorem c_X9_addRouter (l : Launch) (D : va_G) (cI cZ cJ : ClassId) (h0 : Nat) (ad : Nat → Nat) : kMi l yX9_addRouter W_X9_addRouter { frames := 1, cells := 0, slots := 0, locals := 30 } 0 0 D (kT cI cZ cJ) [.ref h0] [(h0, .inr (9, [.ref (ad 0), .ref (ad 1), .ref (ad 2), .ref (ad 3), .ref (ad 4), .ref (ad 5), .ref (ad 6)])), ((ad 0), .inr (8, [.int 0, .int 0, .ref (ad 7), .ref (ad 8), .ref (ad 9), .ref (ad 10), .ref (ad 11), .ref (ad 12), .ref (ad 13), .ref (ad 14), .ref (ad 15), .ref (ad 16)])), ((ad 7), .inl (cZ, 16, .inl (fun _ => 0)))] (S := Unit) (fun r _ => r = 0) (fun _ => [(h0, .inr (9, [.ref (ad 0), .ref (ad 1), .ref (ad 2), .ref (ad 3), .ref (ad 4), .ref (ad 5), .ref (ad 6)])), ((ad 0), .inr (8, [.int 1, .int 0, .ref (ad 7), .ref (ad 8), .ref (ad 9), .ref (ad 10), .ref (ad 11), .ref (ad 12), .ref (ad 13), .ref (ad 14), .ref (ad 15), .ref (ad 16)])), ((ad 7), .inl (cZ, 16, .inl (upd (fun _ => 0) (0 : Int32).toNatClampNeg (vp_nar .boolean 1))))]) := by
  refine kMi_of (lv := [(0, .ref h0)]) RX9 "addRouter" (by decide +kernel) rfl rfl rfl (Nat.le_of_ble_eq_true rfl) rfl ?_
  intro p e s m below meth c A H locs ls E hA hK hP hD hS hl
  obtain ⟨hx, hb, hr, hts, hown, hlocks, hml, hin, hN⟩ := id E
  refine lv_aload_n hx hb dX9_addRouter_0 rfl (lv_at hl 0 rfl) ?_
  refine va_get (ci := 9) (v := .ref (ad 0)) (C := RX9) (T := TX9) (N := 7) hx hb hts m_X9_addRouter_C9 hown hK hP 0 rfl rfl 0 (by decide) (hts (.fieldLink RX9 12 "RoutingDomain" "topology" "LRoutingDomain$Topology;") (m_X9_addRouter_O _ (by decide +kernel))) (fun _ h9 => h9) rfl dX9_addRouter_1 ?_
  refine va_get (ci := 8) (v := .int 0) (C := RX8) (T := TX8) (N := 12) hx hb hts m_X9_addRouter_C8 hown hK hP 1 rfl rfl 0 (by decide) (hts (.fieldLink RX9 68 "RoutingDomain$Topology" "routerCount" "I") (m_X9_addRouter_O _ (by decide +kernel))) (fun _ h9 => h9) rfl dX9_addRouter_4 ?_
  refine lv_bipush (v := 16) hx hb dX9_addRouter_7 (by decide) ?_
  refine lv_icmp_lt (tgt := 22) hx hb dX9_addRouter_9 (by decide) (fun _ => ?_) (fun c => absurd (by decide) c)
  refine lv_aload_n hx hb dX9_addRouter_22 rfl (lv_at hl 0 rfl) ?_
  refine va_get (ci := 9) (v := .ref (ad 0)) (C := RX9) (T := TX9) (N := 7) hx hb hts m_X9_addRouter_C9 hown hK hP 0 rfl rfl 0 (by decide) (hts (.fieldLink RX9 12 "RoutingDomain" "topology" "LRoutingDomain$Topology;") (m_X9_addRouter_O _ (by decide +kernel))) (fun _ h9 => h9) rfl dX9_addRouter_23 ?_
  refine kVi (As := []) (rest := []) (wr := [(h0, .inr (9, [.ref (ad 0), .ref (ad 1), .ref (ad 2), .ref (ad 3), .ref (ad 4), .ref (ad 5), .ref (ad 6)]))]) (w2 := fun _ => [(h0, .inr (9, [.ref (ad 0), .ref (ad 1), .ref (ad 2), .ref (ad 3), .ref (ad 4), .ref (ad 5), .ref (ad 6)])), ((ad 0), .inr (8, [.int 1, .int 0, .ref (ad 7), .ref (ad 8), .ref (ad 9), .ref (ad 10), .ref (ad 11), .ref (ad 12), .ref (ad 13), .ref (ad 14), .ref (ad 15), .ref (ad 16)])), ((ad 7), .inl (cZ, 16, .inl (upd (fun _ => 0) (0 : Int32).toNatClampNeg (vp_nar .boolean 1))))]) ⟨hx, hb, hml, hown, hts⟩ hN (c_X8_createRouter l D cI cZ cJ (ad 0) ad) (cwV 0 hts (k_gV (fun w h => m_X9_addRouter_O w ((by decide +kernel : ∀ w ∈ ([.methodLink RX9 79 yX8_createRouter, .instanceMethod yX8_createRouter, .selects RX8 yX8_createRouter yX8_createRouter, .initialized RX8] : List Cond), w ∈ O_X9_addRouter) w h)) m_X9_addRouter_WX8_createRouter gd_X8_createRouter) rfl rfl rfl (by decide +kernel) ⟨Nat.le_of_ble_eq_true rfl, Nat.le_of_ble_eq_true rfl⟩) hK hP hD hS hA [1, 2] [0] [0, 1, 2] rfl rfl ⟨by decide, by decide, by decide⟩ (by decide) (fun _ => rfl) 8 0 rfl rfl rfl rfl hl.1 rfl (Nat.le_of_ble_eq_true rfl) dX9_addRouter_26 ⟨Nat.le_of_ble_eq_true rfl, Nat.le_of_ble_eq_true rfl⟩ (fun r u H locs hw hP hD hS => ?_)
  have hP : va_P D vwCl [(h0, .inr (9, [.ref (ad 0), .ref (ad 1), .ref (ad 2), .ref (ad 3), .ref (ad 4), .ref (ad 5), .ref (ad 6)])), ((ad 0), .inr (8, [.int 1, .int 0, .ref (ad 7), .ref (ad 8), .ref (ad 9), .ref (ad 10), .ref (ad 11), .ref (ad 12), .ref (ad 13), .ref (ad 14), .ref (ad 15), .ref (ad 16)])), ((ad 7), .inl (cZ, 16, .inl (upd (fun _ => 0) (0 : Int32).toNatClampNeg (vp_nar .boolean 1))))] H := hP
  have hD : va_D A [(h0, .inr (9, [.ref (ad 0), .ref (ad 1), .ref (ad 2), .ref (ad 3), .ref (ad 4), .ref (ad 5), .ref (ad 6)])), ((ad 0), .inr (8, [.int 1, .int 0, .ref (ad 7), .ref (ad 8), .ref (ad 9), .ref (ad 10), .ref (ad 11), .ref (ad 12), .ref (ad 13), .ref (ad 14), .ref (ad 15), .ref (ad 16)])), ((ad 7), .inl (cZ, 16, .inl (upd (fun _ => 0) (0 : Int32).toNatClampNeg (vp_nar .boolean 1))))] := hD
  obtain rfl : r = 0 := hw
  exact k_iret E hK hP hD hS () [0, 1, 2] (by decide) rfl rfl (Nat.le_of_ble_eq_true rfl) (Nat.le_of_ble_eq_true rfl) dX9_addRouter_29

def O_X9_routerCount : List Cond := [.fieldLink RX9 12 "RoutingDomain" "topology" "LRoutingDomain$Topology;", .fieldLink RX9 68 "RoutingDomain$Topology" "routerCount" "I"]
def W_X9_routerCount : List Cond := .code yX9_routerCount cX9_routerCount 1 (some .int) :: (O_X9_routerCount ++ (wsX90 ++ wsX80))
theorem m_X9_routerCount_O : ∀ w ∈ O_X9_routerCount, w ∈ W_X9_routerCount := fun _ h => List.mem_cons_of_mem _ (List.mem_append_left _ h)
theorem m_X9_routerCount_C9 : ∀ w ∈ wsX90, w ∈ W_X9_routerCount := fun _ h => List.mem_cons_of_mem _ (List.mem_append_right _ (List.mem_append_left _ h))
theorem m_X9_routerCount_C8 : ∀ w ∈ wsX80, w ∈ W_X9_routerCount := fun _ h => List.mem_cons_of_mem _ (List.mem_append_right _ (List.mem_append_right _ h))
theorem gdO_X9_routerCount : O_X9_routerCount.all goodWord = true := by decide +kernel
theorem gd_X9_routerCount : W_X9_routerCount.all goodWord = true := k_all_cons rfl (k_all_app gdO_X9_routerCount (k_all_app gdC_9 gdC_8))
set_option maxHeartbeats 4000000 in
set_option maxRecDepth 100000 in
theorem c_X9_routerCount (l : Launch) (D : va_G) (cI cZ cJ : ClassId) (h0 : Nat) (ad : Nat → Nat) : kMi l yX9_routerCount W_X9_routerCount { frames := 0, cells := 0, slots := 0, locals := 0 } 0 0 D (kT cI cZ cJ) [.ref h0] [(h0, .inr (9, [.ref (ad 0), .ref (ad 1), .ref (ad 2), .ref (ad 3), .ref (ad 4), .ref (ad 5), .ref (ad 6)])), ((ad 0), .inr (8, [.int 0, .int 0, .ref (ad 7), .ref (ad 8), .ref (ad 9), .ref (ad 10), .ref (ad 11), .ref (ad 12), .ref (ad 13), .ref (ad 14), .ref (ad 15), .ref (ad 16)]))] (S := Unit) (fun r _ => r = 0) (fun _ => [(h0, .inr (9, [.ref (ad 0), .ref (ad 1), .ref (ad 2), .ref (ad 3), .ref (ad 4), .ref (ad 5), .ref (ad 6)])), ((ad 0), .inr (8, [.int 0, .int 0, .ref (ad 7), .ref (ad 8), .ref (ad 9), .ref (ad 10), .ref (ad 11), .ref (ad 12), .ref (ad 13), .ref (ad 14), .ref (ad 15), .ref (ad 16)]))]) := by
  refine kMi_of (lv := [(0, .ref h0)]) RX9 "routerCount" (by decide +kernel) rfl rfl rfl (Nat.le_of_ble_eq_true rfl) rfl ?_
  intro p e s m below meth c A H locs ls E hA hK hP hD hS hl
  obtain ⟨hx, hb, hr, hts, hown, hlocks, hml, hin, hN⟩ := id E
  refine lv_aload_n hx hb dX9_routerCount_0 rfl (lv_at hl 0 rfl) ?_
  refine va_get (ci := 9) (v := .ref (ad 0)) (C := RX9) (T := TX9) (N := 7) hx hb hts m_X9_routerCount_C9 hown hK hP 0 rfl rfl 0 (by decide) (hts (.fieldLink RX9 12 "RoutingDomain" "topology" "LRoutingDomain$Topology;") (m_X9_routerCount_O _ (by decide +kernel))) (fun _ h9 => h9) rfl dX9_routerCount_1 ?_
  refine va_get (ci := 8) (v := .int 0) (C := RX8) (T := TX8) (N := 12) hx hb hts m_X9_routerCount_C8 hown hK hP 1 rfl rfl 0 (by decide) (hts (.fieldLink RX9 68 "RoutingDomain$Topology" "routerCount" "I") (m_X9_routerCount_O _ (by decide +kernel))) (fun _ h9 => h9) rfl dX9_routerCount_4 ?_
  exact k_iret E hK hP hD hS () [0, 1] (by decide) rfl rfl (Nat.le_of_ble_eq_true rfl) (Nat.le_of_ble_eq_true rfl) dX9_routerCount_7

def O_X9_linkCount : List Cond := [.fieldLink RX9 12 "RoutingDomain" "topology" "LRoutingDomain$Topology;", .fieldLink RX9 101 "RoutingDomain$Topology" "linkCount" "I"]
def W_X9_linkCount : List Cond := .code yX9_linkCount cX9_linkCount 1 (some .int) :: (O_X9_linkCount ++ (wsX90 ++ wsX80))
theorem m_X9_linkCount_O : ∀ w ∈ O_X9_linkCount, w ∈ W_X9_linkCount := fun _ h => List.mem_cons_of_mem _ (List.mem_append_left _ h)
theorem m_X9_linkCount_C9 : ∀ w ∈ wsX90, w ∈ W_X9_linkCount := fun _ h => List.mem_cons_of_mem _ (List.mem_append_right _ (List.mem_append_left _ h))
theorem m_X9_linkCount_C8 : ∀ w ∈ wsX80, w ∈ W_X9_linkCount := fun _ h => List.mem_cons_of_mem _ (List.mem_append_right _ (List.mem_append_right _ h))
theorem gdO_X9_linkCount : O_X9_linkCount.all goodWord = true := by decide +kernel
theorem gd_X9_linkCount : W_X9_linkCount.all goodWord = true := k_all_cons rfl (k_all_app gdO_X9_linkCount (k_all_app gdC_9 gdC_8))
set_option maxHeartbeats 4000000 in
set_option maxRecDepth 100000 in
theorem c_X9_linkCount (l : Launch) (D : va_G) (cI cZ cJ : ClassId) (h0 : Nat) (ad : Nat → Nat) : kMi l yX9_linkCount W_X9_linkCount { frames := 0, cells := 0, slots := 0, locals := 0 } 0 0 D (kT cI cZ cJ) [.ref h0] [(h0, .inr (9, [.ref (ad 0), .ref (ad 1), .ref (ad 2), .ref (ad 3), .ref (ad 4), .ref (ad 5), .ref (ad 6)])), ((ad 0), .inr (8, [.int 0, .int 0, .ref (ad 7), .ref (ad 8), .ref (ad 9), .ref (ad 10), .ref (ad 11), .ref (ad 12), .ref (ad 13), .ref (ad 14), .ref (ad 15), .ref (ad 16)]))] (S := Unit) (fun r _ => r = 0) (fun _ => [(h0, .inr (9, [.ref (ad 0), .ref (ad 1), .ref (ad 2), .ref (ad 3), .ref (ad 4), .ref (ad 5), .ref (ad 6)])), ((ad 0), .inr (8, [.int 0, .int 0, .ref (ad 7), .ref (ad 8), .ref (ad 9), .ref (ad 10), .ref (ad 11), .ref (ad 12), .ref (ad 13), .ref (ad 14), .ref (ad 15), .ref (ad 16)]))]) := by
  refine kMi_of (lv := [(0, .ref h0)]) RX9 "linkCount" (by decide +kernel) rfl rfl rfl (Nat.le_of_ble_eq_true rfl) rfl ?_
  intro p e s m below meth c A H locs ls E hA hK hP hD hS hl
  obtain ⟨hx, hb, hr, hts, hown, hlocks, hml, hin, hN⟩ := id E
  refine lv_aload_n hx hb dX9_linkCount_0 rfl (lv_at hl 0 rfl) ?_
  refine va_get (ci := 9) (v := .ref (ad 0)) (C := RX9) (T := TX9) (N := 7) hx hb hts m_X9_linkCount_C9 hown hK hP 0 rfl rfl 0 (by decide) (hts (.fieldLink RX9 12 "RoutingDomain" "topology" "LRoutingDomain$Topology;") (m_X9_linkCount_O _ (by decide +kernel))) (fun _ h9 => h9) rfl dX9_linkCount_1 ?_
  refine va_get (ci := 8) (v := .int 0) (C := RX8) (T := TX8) (N := 12) hx hb hts m_X9_linkCount_C8 hown hK hP 1 rfl rfl 1 (by decide) (hts (.fieldLink RX9 101 "RoutingDomain$Topology" "linkCount" "I") (m_X9_linkCount_O _ (by decide +kernel))) (fun _ h9 => h9) rfl dX9_linkCount_4 ?_
  exact k_iret E hK hP hD hS () [0, 1] (by decide) rfl rfl (Nat.le_of_ble_eq_true rfl) (Nat.le_of_ble_eq_true rfl) dX9_linkCount_7

def O_X9_clock : List Cond := [.fieldLink RX9 21 "RoutingDomain" "advertisements" "LRoutingDomain$Advertisements;", .fieldLink RX9 168 "RoutingDomain$Advertisements" "now" "I"]
def W_X9_clock : List Cond := .code yX9_clock cX9_clock 1 (some .int) :: (O_X9_clock ++ (wsX90 ++ wsX00))
theorem m_X9_clock_O : ∀ w ∈ O_X9_clock, w ∈ W_X9_clock := fun _ h => List.mem_cons_of_mem _ (List.mem_append_left _ h)
theorem m_X9_clock_C9 : ∀ w ∈ wsX90, w ∈ W_X9_clock := fun _ h => List.mem_cons_of_mem _ (List.mem_append_right _ (List.mem_append_left _ h))
theorem m_X9_clock_C0 : ∀ w ∈ wsX00, w ∈ W_X9_clock := fun _ h => List.mem_cons_of_mem _ (List.mem_append_right _ (List.mem_append_right _ h))
theorem gdO_X9_clock : O_X9_clock.all goodWord = true := by decide +kernel
theorem gd_X9_clock : W_X9_clock.all goodWord = true := k_all_cons rfl (k_all_app gdO_X9_clock (k_all_app gdC_9 gdC_0))
set_option maxHeartbeats 4000000 in
set_option maxRecDepth 100000 in
theorem c_X9_clock (l : Launch) (D : va_G) (cI cZ cJ : ClassId) (h0 : Nat) (ad : Nat → Nat) : kMi l yX9_clock W_X9_clock { frames := 0, cells := 0, slots := 0, locals := 0 } 0 0 D (kT cI cZ cJ) [.ref h0] [(h0, .inr (9, [.ref (ad 0), .ref (ad 1), .ref (ad 2), .ref (ad 3), .ref (ad 4), .ref (ad 5), .ref (ad 6)])), ((ad 1), .inr (0, [.int 0, .ref (ad 17), .ref (ad 18), .ref (ad 19), .ref (ad 20), .ref (ad 0)]))] (S := Unit) (fun r _ => r = 0) (fun _ => [(h0, .inr (9, [.ref (ad 0), .ref (ad 1), .ref (ad 2), .ref (ad 3), .ref (ad 4), .ref (ad 5), .ref (ad 6)])), ((ad 1), .inr (0, [.int 0, .ref (ad 17), .ref (ad 18), .ref (ad 19), .ref (ad 20), .ref (ad 0)]))]) := by
  refine kMi_of (lv := [(0, .ref h0)]) RX9 "clock" (by decide +kernel) rfl rfl rfl (Nat.le_of_ble_eq_true rfl) rfl ?_
  intro p e s m below meth c A H locs ls E hA hK hP hD hS hl
  obtain ⟨hx, hb, hr, hts, hown, hlocks, hml, hin, hN⟩ := id E
  refine lv_aload_n hx hb dX9_clock_0 rfl (lv_at hl 0 rfl) ?_
  refine va_get (ci := 9) (v := .ref (ad 1)) (C := RX9) (T := TX9) (N := 7) hx hb hts m_X9_clock_C9 hown hK hP 0 rfl rfl 1 (by decide) (hts (.fieldLink RX9 21 "RoutingDomain" "advertisements" "LRoutingDomain$Advertisements;") (m_X9_clock_O _ (by decide +kernel))) (fun _ h9 => h9) rfl dX9_clock_1 ?_
  refine va_get (ci := 0) (v := .int 0) (C := RX0) (T := TX0) (N := 6) hx hb hts m_X9_clock_C0 hown hK hP 1 rfl rfl 0 (by decide) (hts (.fieldLink RX9 168 "RoutingDomain$Advertisements" "now" "I") (m_X9_clock_O _ (by decide +kernel))) (fun _ h9 => h9) rfl dX9_clock_4 ?_
  exact k_iret E hK hP hD hS () [0, 1] (by decide) rfl rfl (Nat.le_of_ble_eq_true rfl) (Nat.le_of_ble_eq_true rfl) dX9_clock_7

def O_X9_inFlight : List Cond := [.fieldLink RX9 55 "RoutingDomain" "simulator" "LRoutingDomain$Simulator;", .fieldLink RX9 183 "RoutingDomain$Simulator" "sent" "LRoutingDomain$Mail;", .fieldLink RX9 187 "RoutingDomain$Mail" "count" "I"]
def W_X9_inFlight : List Cond := .code yX9_inFlight cX9_inFlight 1 (some .int) :: (O_X9_inFlight ++ (wsX90 ++ (wsX70 ++ wsX30)))
theorem m_X9_inFlight_O : ∀ w ∈ O_X9_inFlight, w ∈ W_X9_inFlight := fun _ h => List.mem_cons_of_mem _ (List.mem_append_left _ h)
theorem m_X9_inFlight_C9 : ∀ w ∈ wsX90, w ∈ W_X9_inFlight := fun _ h => List.mem_cons_of_mem _ (List.mem_append_right _ (List.mem_append_left _ h))
theorem m_X9_inFlight_C7 : ∀ w ∈ wsX70, w ∈ W_X9_inFlight := fun _ h => List.mem_cons_of_mem _ (List.mem_append_right _ (List.mem_append_right _ (List.mem_append_left _ h)))
theorem m_X9_inFlight_C3 : ∀ w ∈ wsX30, w ∈ W_X9_inFlight := fun _ h => List.mem_cons_of_mem _ (List.mem_append_right _ (List.mem_append_right _ (List.mem_append_right _ h)))
theorem gdO_X9_inFlight : O_X9_inFlight.all goodWord = true := by decide +kernel
theorem gd_X9_inFlight : W_X9_inFlight.all goodWord = true := k_all_cons rfl (k_all_app gdO_X9_inFlight (k_all_app gdC_9 (k_all_app gdC_7 gdC_3)))
set_option maxHeartbeats 4000000 in
set_option maxRecDepth 100000 in
theorem c_X9_inFlight (l : Launch) (D : va_G) (cI cZ cJ : ClassId) (h0 : Nat) (ad : Nat → Nat) (b1 : Nat) (b2 : Nat) (c1 : Nat) : kMi l yX9_inFlight W_X9_inFlight { frames := 0, cells := 0, slots := 0, locals := 0 } 0 0 D (kT cI cZ cJ) [.ref h0] [(h0, .inr (9, [.ref (ad 0), .ref (ad 1), .ref (ad 2), .ref (ad 3), .ref (ad 4), .ref (ad 5), .ref (ad 6)])), ((ad 5), .inr (7, [.int 0, .ref b1, .ref b2, .ref (ad 35), .ref (ad 0), .ref (ad 1), .ref (ad 2), .ref (ad 3), .ref (ad 4)])), (b1, .inr (3, [.int 0, .ref c1]))] (S := Unit) (fun r _ => r = 0) (fun _ => [(h0, .inr (9, [.ref (ad 0), .ref (ad 1), .ref (ad 2), .ref (ad 3), .ref (ad 4), .ref (ad 5), .ref (ad 6)])), ((ad 5), .inr (7, [.int 0, .ref b1, .ref b2, .ref (ad 35), .ref (ad 0), .ref (ad 1), .ref (ad 2), .ref (ad 3), .ref (ad 4)])), (b1, .inr (3, [.int 0, .ref c1]))]) := by
  refine kMi_of (lv := [(0, .ref h0)]) RX9 "inFlight" (by decide +kernel) rfl rfl rfl (Nat.le_of_ble_eq_true rfl) rfl ?_
  intro p e s m below meth c A H locs ls E hA hK hP hD hS hl
  obtain ⟨hx, hb, hr, hts, hown, hlocks, hml, hin, hN⟩ := id E
  refine lv_aload_n hx hb dX9_inFlight_0 rfl (lv_at hl 0 rfl) ?_
  refine va_get (ci := 9) (v := .ref (ad 5)) (C := RX9) (T := TX9) (N := 7) hx hb hts m_X9_inFlight_C9 hown hK hP 0 rfl rfl 5 (by decide) (hts (.fieldLink RX9 55 "RoutingDomain" "simulator" "LRoutingDomain$Simulator;") (m_X9_inFlight_O _ (by decide +kernel))) (fun _ h9 => h9) rfl dX9_inFlight_1 ?_
  refine va_get (ci := 7) (v := .ref b1) (C := RX7) (T := TX7) (N := 9) hx hb hts m_X9_inFlight_C7 hown hK hP 1 rfl rfl 1 (by decide) (hts (.fieldLink RX9 183 "RoutingDomain$Simulator" "sent" "LRoutingDomain$Mail;") (m_X9_inFlight_O _ (by decide +kernel))) (fun _ h9 => h9) rfl dX9_inFlight_4 ?_
  refine va_get (ci := 3) (v := .int 0) (C := RX3) (T := TX3) (N := 2) hx hb hts m_X9_inFlight_C3 hown hK hP 2 rfl rfl 0 (by decide) (hts (.fieldLink RX9 187 "RoutingDomain$Mail" "count" "I") (m_X9_inFlight_O _ (by decide +kernel))) (fun _ h9 => h9) rfl dX9_inFlight_7 ?_
  exact k_iret E hK hP hD hS () [0, 1, 2] (by decide) rfl rfl (Nat.le_of_ble_eq_true rfl) (Nat.le_of_ble_eq_true rfl) dX9_inFlight_10

def O_X9_lost : List Cond := [.fieldLink RX9 55 "RoutingDomain" "simulator" "LRoutingDomain$Simulator;", .fieldLink RX9 192 "RoutingDomain$Simulator" "lostCount" "I"]
def W_X9_lost : List Cond := .code yX9_lost cX9_lost 1 (some .int) :: (O_X9_lost ++ (wsX90 ++ wsX70))
theorem m_X9_lost_O : ∀ w ∈ O_X9_lost, w ∈ W_X9_lost := fun _ h => List.mem_cons_of_mem _ (List.mem_append_left _ h)
theorem m_X9_lost_C9 : ∀ w ∈ wsX90, w ∈ W_X9_lost := fun _ h => List.mem_cons_of_mem _ (List.mem_append_right _ (List.mem_append_left _ h))
theorem m_X9_lost_C7 : ∀ w ∈ wsX70, w ∈ W_X9_lost := fun _ h => List.mem_cons_of_mem _ (List.mem_append_right _ (List.mem_append_right _ h))
theorem gdO_X9_lost : O_X9_lost.all goodWord = true := by decide +kernel
theorem gd_X9_lost : W_X9_lost.all goodWord = true := k_all_cons rfl (k_all_app gdO_X9_lost (k_all_app gdC_9 gdC_7))
set_option maxHeartbeats 4000000 in
set_option maxRecDepth 100000 in
theorem c_X9_lost (l : Launch) (D : va_G) (cI cZ cJ : ClassId) (h0 : Nat) (ad : Nat → Nat) (b1 : Nat) (b2 : Nat) : kMi l yX9_lost W_X9_lost { frames := 0, cells := 0, slots := 0, locals := 0 } 0 0 D (kT cI cZ cJ) [.ref h0] [(h0, .inr (9, [.ref (ad 0), .ref (ad 1), .ref (ad 2), .ref (ad 3), .ref (ad 4), .ref (ad 5), .ref (ad 6)])), ((ad 5), .inr (7, [.int 0, .ref b1, .ref b2, .ref (ad 35), .ref (ad 0), .ref (ad 1), .ref (ad 2), .ref (ad 3), .ref (ad 4)]))] (S := Unit) (fun r _ => r = 0) (fun _ => [(h0, .inr (9, [.ref (ad 0), .ref (ad 1), .ref (ad 2), .ref (ad 3), .ref (ad 4), .ref (ad 5), .ref (ad 6)])), ((ad 5), .inr (7, [.int 0, .ref b1, .ref b2, .ref (ad 35), .ref (ad 0), .ref (ad 1), .ref (ad 2), .ref (ad 3), .ref (ad 4)]))]) := by
  refine kMi_of (lv := [(0, .ref h0)]) RX9 "lost" (by decide +kernel) rfl rfl rfl (Nat.le_of_ble_eq_true rfl) rfl ?_
  intro p e s m below meth c A H locs ls E hA hK hP hD hS hl
  obtain ⟨hx, hb, hr, hts, hown, hlocks, hml, hin, hN⟩ := id E
  refine lv_aload_n hx hb dX9_lost_0 rfl (lv_at hl 0 rfl) ?_
  refine va_get (ci := 9) (v := .ref (ad 5)) (C := RX9) (T := TX9) (N := 7) hx hb hts m_X9_lost_C9 hown hK hP 0 rfl rfl 5 (by decide) (hts (.fieldLink RX9 55 "RoutingDomain" "simulator" "LRoutingDomain$Simulator;") (m_X9_lost_O _ (by decide +kernel))) (fun _ h9 => h9) rfl dX9_lost_1 ?_
  refine va_get (ci := 7) (v := .int 0) (C := RX7) (T := TX7) (N := 9) hx hb hts m_X9_lost_C7 hown hK hP 1 rfl rfl 0 (by decide) (hts (.fieldLink RX9 192 "RoutingDomain$Simulator" "lostCount" "I") (m_X9_lost_O _ (by decide +kernel))) (fun _ h9 => h9) rfl dX9_lost_4 ?_
  exact k_iret E hK hP hD hS () [0, 1] (by decide) rfl rfl (Nat.le_of_ble_eq_true rfl) (Nat.le_of_ble_eq_true rfl) dX9_lost_7

def O_X9_digest : List Cond := [.constantLong RX9 282 (19), .constantLong RX9 284 (31), .fieldLink RX9 21 "RoutingDomain" "advertisements" "LRoutingDomain$Advertisements;", .fieldLink RX9 168 "RoutingDomain$Advertisements" "now" "I", .fieldLink RX9 55 "RoutingDomain" "simulator" "LRoutingDomain$Simulator;", .fieldLink RX9 183 "RoutingDomain$Simulator" "sent" "LRoutingDomain$Mail;", .fieldLink RX9 187 "RoutingDomain$Mail" "count" "I", .fieldLink RX9 192 "RoutingDomain$Simulator" "lostCount" "I", .fieldLink RX9 12 "RoutingDomain" "topology" "LRoutingDomain$Topology;", .fieldLink RX9 68 "RoutingDomain$Topology" "routerCount" "I"]
def W_X9_digest : List Cond := .code yX9_digest cX9_digest 5 (some .long) :: (O_X9_digest ++ (wsX90 ++ (wsX00 ++ (wsX70 ++ (wsX30 ++ wsX80)))))
theorem m_X9_digest_O : ∀ w ∈ O_X9_digest, w ∈ W_X9_digest := fun _ h => List.mem_cons_of_mem _ (List.mem_append_left _ h)
theorem m_X9_digest_C9 : ∀ w ∈ wsX90, w ∈ W_X9_digest := fun _ h => List.mem_cons_of_mem _ (List.mem_append_right _ (List.mem_append_left _ h))
theorem m_X9_digest_C0 : ∀ w ∈ wsX00, w ∈ W_X9_digest := fun _ h => List.mem_cons_of_mem _ (List.mem_append_right _ (List.mem_append_right _ (List.mem_append_left _ h)))
theorem m_X9_digest_C7 : ∀ w ∈ wsX70, w ∈ W_X9_digest := fun _ h => List.mem_cons_of_mem _ (List.mem_append_right _ (List.mem_append_right _ (List.mem_append_right _ (List.mem_append_left _ h))))
theorem m_X9_digest_C3 : ∀ w ∈ wsX30, w ∈ W_X9_digest := fun _ h => List.mem_cons_of_mem _ (List.mem_append_right _ (List.mem_append_right _ (List.mem_append_right _ (List.mem_append_right _ (List.mem_append_left _ h)))))
theorem m_X9_digest_C8 : ∀ w ∈ wsX80, w ∈ W_X9_digest := fun _ h => List.mem_cons_of_mem _ (List.mem_append_right _ (List.mem_append_right _ (List.mem_append_right _ (List.mem_append_right _ (List.mem_append_right _ h)))))
theorem gdO_X9_digest : O_X9_digest.all goodWord = true := by decide +kernel
theorem gd_X9_digest : W_X9_digest.all goodWord = true := k_all_cons rfl (k_all_app gdO_X9_digest (k_all_app gdC_9 (k_all_app gdC_0 (k_all_app gdC_7 (k_all_app gdC_3 gdC_8)))))
set_option maxHeartbeats 4000000 in
set_option maxRecDepth 100000 in
theorem c_X9_digest (l : Launch) (D : va_G) (cI cZ cJ : ClassId) (h0 : Nat) (ad : Nat → Nat) (b1 : Nat) (b2 : Nat) (c1 : Nat) : kMl l yX9_digest W_X9_digest { frames := 0, cells := 0, slots := 0, locals := 0 } 0 0 D (kT cI cZ cJ) [.ref h0] [(h0, .inr (9, [.ref (ad 0), .ref (ad 1), .ref (ad 2), .ref (ad 3), .ref (ad 4), .ref (ad 5), .ref (ad 6)])), ((ad 0), .inr (8, [.int 0, .int 0, .ref (ad 7), .ref (ad 8), .ref (ad 9), .ref (ad 10), .ref (ad 11), .ref (ad 12), .ref (ad 13), .ref (ad 14), .ref (ad 15), .ref (ad 16)])), ((ad 1), .inr (0, [.int 0, .ref (ad 17), .ref (ad 18), .ref (ad 19), .ref (ad 20), .ref (ad 0)])), ((ad 5), .inr (7, [.int 0, .ref b1, .ref b2, .ref (ad 35), .ref (ad 0), .ref (ad 1), .ref (ad 2), .ref (ad 3), .ref (ad 4)])), (b1, .inr (3, [.int 0, .ref c1]))] (S := Unit) (fun r _ => r = 566029) (fun _ => [(h0, .inr (9, [.ref (ad 0), .ref (ad 1), .ref (ad 2), .ref (ad 3), .ref (ad 4), .ref (ad 5), .ref (ad 6)])), ((ad 0), .inr (8, [.int 0, .int 0, .ref (ad 7), .ref (ad 8), .ref (ad 9), .ref (ad 10), .ref (ad 11), .ref (ad 12), .ref (ad 13), .ref (ad 14), .ref (ad 15), .ref (ad 16)])), ((ad 1), .inr (0, [.int 0, .ref (ad 17), .ref (ad 18), .ref (ad 19), .ref (ad 20), .ref (ad 0)])), ((ad 5), .inr (7, [.int 0, .ref b1, .ref b2, .ref (ad 35), .ref (ad 0), .ref (ad 1), .ref (ad 2), .ref (ad 3), .ref (ad 4)])), (b1, .inr (3, [.int 0, .ref c1]))]) := by
  refine kMl_of (lv := [(0, .ref h0)]) RX9 "digest" (by decide +kernel) rfl rfl rfl (Nat.le_of_ble_eq_true rfl) rfl ?_
  intro p e s m below meth c A H locs ls E hA hK hP hD hS hl
  obtain ⟨hx, hb, hr, hts, hown, hlocks, hml, hin, hN⟩ := id E
  refine lv_ldc2 hx hb hown (hts (.constantLong RX9 282 (19)) (m_X9_digest_O _ (by decide +kernel))) dX9_digest_0 ?_
  refine lv_lstore_n (lv' := [(1, .long 19), (0, .ref h0)]) hx hb dX9_digest_3 rfl hl (by decide) rfl (fun ls hl => ?_)
  refine lv_lload_n hx hb dX9_digest_4 rfl (lv_at hl 0 rfl) ?_
  refine lv_ldc2 hx hb hown (hts (.constantLong RX9 284 (31)) (m_X9_digest_O _ (by decide +kernel))) dX9_digest_5 ?_
  refine lv_lmul hx hb dX9_digest_8 ?_
  refine lv_topl (fun y ey => ?_)
  obtain rfl : y = 589 := ey.trans (by decide)
  refine lv_aload_n hx hb dX9_digest_9 rfl (lv_at hl 1 rfl) ?_
  refine va_get (ci := 9) (v := .ref (ad 1)) (C := RX9) (T := TX9) (N := 7) hx hb hts m_X9_digest_C9 hown hK hP 0 rfl rfl 1 (by decide) (hts (.fieldLink RX9 21 "RoutingDomain" "advertisements" "LRoutingDomain$Advertisements;") (m_X9_digest_O _ (by decide +kernel))) (fun _ h9 => h9) rfl dX9_digest_10 ?_
  refine va_get (ci := 0) (v := .int 0) (C := RX0) (T := TX0) (N := 6) hx hb hts m_X9_digest_C0 hown hK hP 2 rfl rfl 0 (by decide) (hts (.fieldLink RX9 168 "RoutingDomain$Advertisements" "now" "I") (m_X9_digest_O _ (by decide +kernel))) (fun _ h9 => h9) rfl dX9_digest_13 ?_
  refine lv_i2l (v := 0) hx hb dX9_digest_16 (by decide) ?_
  refine lv_ladd hx hb dX9_digest_17 ?_
  refine lv_topl (fun y ey => ?_)
  obtain rfl : y = 589 := ey.trans (by decide)
  refine lv_lstore_n (lv' := [(1, .long 589), (0, .ref h0)]) hx hb dX9_digest_18 rfl hl (by decide) rfl (fun ls hl => ?_)
  refine lv_lload_n hx hb dX9_digest_19 rfl (lv_at hl 0 rfl) ?_
  refine lv_ldc2 hx hb hown (hts (.constantLong RX9 284 (31)) (m_X9_digest_O _ (by decide +kernel))) dX9_digest_20 ?_
  refine lv_lmul hx hb dX9_digest_23 ?_
  refine lv_topl (fun y ey => ?_)
  obtain rfl : y = 18259 := ey.trans (by decide)
  refine lv_aload_n hx hb dX9_digest_24 rfl (lv_at hl 1 rfl) ?_
  refine va_get (ci := 9) (v := .ref (ad 5)) (C := RX9) (T := TX9) (N := 7) hx hb hts m_X9_digest_C9 hown hK hP 0 rfl rfl 5 (by decide) (hts (.fieldLink RX9 55 "RoutingDomain" "simulator" "LRoutingDomain$Simulator;") (m_X9_digest_O _ (by decide +kernel))) (fun _ h9 => h9) rfl dX9_digest_25 ?_
  refine va_get (ci := 7) (v := .ref b1) (C := RX7) (T := TX7) (N := 9) hx hb hts m_X9_digest_C7 hown hK hP 3 rfl rfl 1 (by decide) (hts (.fieldLink RX9 183 "RoutingDomain$Simulator" "sent" "LRoutingDomain$Mail;") (m_X9_digest_O _ (by decide +kernel))) (fun _ h9 => h9) rfl dX9_digest_28 ?_
  refine va_get (ci := 3) (v := .int 0) (C := RX3) (T := TX3) (N := 2) hx hb hts m_X9_digest_C3 hown hK hP 4 rfl rfl 0 (by decide) (hts (.fieldLink RX9 187 "RoutingDomain$Mail" "count" "I") (m_X9_digest_O _ (by decide +kernel))) (fun _ h9 => h9) rfl dX9_digest_31 ?_
  refine lv_i2l (v := 0) hx hb dX9_digest_34 (by decide) ?_
  refine lv_ladd hx hb dX9_digest_35 ?_
  refine lv_topl (fun y ey => ?_)
  obtain rfl : y = 18259 := ey.trans (by decide)
  refine lv_lstore_n (lv' := [(1, .long 18259), (0, .ref h0)]) hx hb dX9_digest_36 rfl hl (by decide) rfl (fun ls hl => ?_)
  refine lv_lload_n hx hb dX9_digest_37 rfl (lv_at hl 0 rfl) ?_
  refine lv_ldc2 hx hb hown (hts (.constantLong RX9 284 (31)) (m_X9_digest_O _ (by decide +kernel))) dX9_digest_38 ?_
  refine lv_lmul hx hb dX9_digest_41 ?_
  refine lv_topl (fun y ey => ?_)
  obtain rfl : y = 566029 := ey.trans (by decide)
  refine lv_aload_n hx hb dX9_digest_42 rfl (lv_at hl 1 rfl) ?_
  refine va_get (ci := 9) (v := .ref (ad 5)) (C := RX9) (T := TX9) (N := 7) hx hb hts m_X9_digest_C9 hown hK hP 0 rfl rfl 5 (by decide) (hts (.fieldLink RX9 55 "RoutingDomain" "simulator" "LRoutingDomain$Simulator;") (m_X9_digest_O _ (by decide +kernel))) (fun _ h9 => h9) rfl dX9_digest_43 ?_
  refine va_get (ci := 7) (v := .int 0) (C := RX7) (T := TX7) (N := 9) hx hb hts m_X9_digest_C7 hown hK hP 3 rfl rfl 0 (by decide) (hts (.fieldLink RX9 192 "RoutingDomain$Simulator" "lostCount" "I") (m_X9_digest_O _ (by decide +kernel))) (fun _ h9 => h9) rfl dX9_digest_46 ?_
  refine lv_i2l (v := 0) hx hb dX9_digest_49 (by decide) ?_
  refine lv_ladd hx hb dX9_digest_50 ?_
  refine lv_topl (fun y ey => ?_)
  obtain rfl : y = 566029 := ey.trans (by decide)
  refine lv_lstore_n (lv' := [(1, .long 566029), (0, .ref h0)]) hx hb dX9_digest_51 rfl hl (by decide) rfl (fun ls hl => ?_)
  refine lv_iconst (v := 0) hx hb dX9_digest_52 (by decide) ?_
  refine lv_istore_n (lv' := [(3, .int 0), (1, .long 566029), (0, .ref h0)]) hx hb dX9_digest_53 rfl hl (by decide) rfl (fun ls hl => ?_)
  refine lv_iload_n hx hb dX9_digest_54 rfl (lv_at hl 0 rfl) ?_
  refine lv_aload_n hx hb dX9_digest_55 rfl (lv_at hl 2 rfl) ?_
  refine va_get (ci := 9) (v := .ref (ad 0)) (C := RX9) (T := TX9) (N := 7) hx hb hts m_X9_digest_C9 hown hK hP 0 rfl rfl 0 (by decide) (hts (.fieldLink RX9 12 "RoutingDomain" "topology" "LRoutingDomain$Topology;") (m_X9_digest_O _ (by decide +kernel))) (fun _ h9 => h9) rfl dX9_digest_56 ?_
  refine va_get (ci := 8) (v := .int 0) (C := RX8) (T := TX8) (N := 12) hx hb hts m_X9_digest_C8 hown hK hP 1 rfl rfl 0 (by decide) (hts (.fieldLink RX9 68 "RoutingDomain$Topology" "routerCount" "I") (m_X9_digest_O _ (by decide +kernel))) (fun _ h9 => h9) rfl dX9_digest_59 ?_
  refine lv_icmp_ge (tgt := 96) hx hb dX9_digest_62 (by decide) (fun _ => ?_) (fun c => absurd (by decide) c)
  refine lv_iconst (v := 0) hx hb dX9_digest_96 (by decide) ?_
  refine lv_istore_n (lv' := [(3, .int 0), (1, .long 566029), (0, .ref h0)]) hx hb dX9_digest_97 rfl hl (by decide) rfl (fun ls hl => ?_)
  refine lv_iload_n hx hb dX9_digest_98 rfl (lv_at hl 0 rfl) ?_
  refine lv_aload_n hx hb dX9_digest_99 rfl (lv_at hl 2 rfl) ?_
  refine va_get (ci := 9) (v := .ref (ad 0)) (C := RX9) (T := TX9) (N := 7) hx hb hts m_X9_digest_C9 hown hK hP 0 rfl rfl 0 (by decide) (hts (.fieldLink RX9 12 "RoutingDomain" "topology" "LRoutingDomain$Topology;") (m_X9_digest_O _ (by decide +kernel))) (fun _ h9 => h9) rfl dX9_digest_100 ?_
  refine va_get (ci := 8) (v := .int 0) (C := RX8) (T := TX8) (N := 12) hx hb hts m_X9_digest_C8 hown hK hP 1 rfl rfl 0 (by decide) (hts (.fieldLink RX9 68 "RoutingDomain$Topology" "routerCount" "I") (m_X9_digest_O _ (by decide +kernel))) (fun _ h9 => h9) rfl dX9_digest_103 ?_
  refine lv_icmp_ge (tgt := 152) hx hb dX9_digest_106 (by decide) (fun _ => ?_) (fun c => absurd (by decide) c)
  refine lv_iconst (v := 0) hx hb dX9_digest_152 (by decide) ?_
  refine lv_istore_n (lv' := [(3, .int 0), (1, .long 566029), (0, .ref h0)]) hx hb dX9_digest_153 rfl hl (by decide) rfl (fun ls hl => ?_)
  refine lv_iload_n hx hb dX9_digest_154 rfl (lv_at hl 0 rfl) ?_
  refine lv_aload_n hx hb dX9_digest_155 rfl (lv_at hl 2 rfl) ?_
  refine va_get (ci := 9) (v := .ref (ad 0)) (C := RX9) (T := TX9) (N := 7) hx hb hts m_X9_digest_C9 hown hK hP 0 rfl rfl 0 (by decide) (hts (.fieldLink RX9 12 "RoutingDomain" "topology" "LRoutingDomain$Topology;") (m_X9_digest_O _ (by decide +kernel))) (fun _ h9 => h9) rfl dX9_digest_156 ?_
  refine va_get (ci := 8) (v := .int 0) (C := RX8) (T := TX8) (N := 12) hx hb hts m_X9_digest_C8 hown hK hP 1 rfl rfl 0 (by decide) (hts (.fieldLink RX9 68 "RoutingDomain$Topology" "routerCount" "I") (m_X9_digest_O _ (by decide +kernel))) (fun _ h9 => h9) rfl dX9_digest_159 ?_
  refine lv_icmp_ge (tgt := 178) hx hb dX9_digest_162 (by decide) (fun _ => ?_) (fun c => absurd (by decide) c)
  refine lv_lload_n hx hb dX9_digest_178 rfl (lv_at hl 1 rfl) ?_
  exact k_lret E hK hP hD hS () [0, 1, 2, 3, 4] (by decide) rfl rfl (Nat.le_of_ble_eq_true rfl) (Nat.le_of_ble_eq_true rfl) dX9_digest_179

def O_X2_holdsSlot : List Cond := [.fieldLink RX2 25 "RoutingDomain$Databases" "holdersOfSlot" "[I"]
def W_X2_holdsSlot : List Cond := .code yX2_holdsSlot cX2_holdsSlot 2 (some .boolean) :: (O_X2_holdsSlot ++ wsX20)
theorem m_X2_holdsSlot_O : ∀ w ∈ O_X2_holdsSlot, w ∈ W_X2_holdsSlot := fun _ h => List.mem_cons_of_mem _ (List.mem_append_left _ h)
theorem m_X2_holdsSlot_C2 : ∀ w ∈ wsX20, w ∈ W_X2_holdsSlot := fun _ h => List.mem_cons_of_mem _ (List.mem_append_right _ h)
theorem gdO_X2_holdsSlot : O_X2_holdsSlot.all goodWord = true := by decide +kernel
theorem gd_X2_holdsSlot : W_X2_holdsSlot.all goodWord = true := k_all_cons rfl (k_all_app gdO_X2_holdsSlot gdC_2)
set_option maxHeartbeats 4000000 in
set_option maxRecDepth 100000 in
theorem c_X2_holdsSlot (l : Launch) (D : va_G) (cI cZ cJ : ClassId) (h0 : Nat) (ad : Nat → Nat) (p0 : Int32) (hp : vp_in p0 64) : kMi l yX2_holdsSlot W_X2_holdsSlot { frames := 0, cells := 0, slots := 0, locals := 0 } 0 0 D (kT cI cZ cJ) [.ref h0, .int p0] [(h0, .inr (2, [.ref (ad 21), .ref (ad 22), .ref (ad 23), .ref (ad 24), .ref (ad 25)])), ((ad 25), .inl (cI, 64, .inl (fun _ => 0)))] (S := Unit) (fun r _ => r = 0) (fun _ => [(h0, .inr (2, [.ref (ad 21), .ref (ad 22), .ref (ad 23), .ref (ad 24), .ref (ad 25)])), ((ad 25), .inl (cI, 64, .inl (fun _ => 0)))]) := by
  refine kMi_of (lv := [(0, .ref h0), (1, .int p0)]) RX2 "holdsSlot" (by decide +kernel) rfl rfl rfl (Nat.le_of_ble_eq_true rfl) rfl ?_
  intro p e s m below meth c A H locs ls E hA hK hP hD hS hl
  obtain ⟨hx, hb, hr, hts, hown, hlocks, hml, hin, hN⟩ := id E
  refine lv_aload_n hx hb dX2_holdsSlot_0 rfl (lv_at hl 0 rfl) ?_
  refine va_get (ci := 2) (v := .ref (ad 25)) (C := RX2) (T := TX2) (N := 5) hx hb hts m_X2_holdsSlot_C2 hown hK hP 0 rfl rfl 4 (by decide) (hts (.fieldLink RX2 25 "RoutingDomain$Databases" "holdersOfSlot" "[I") (m_X2_holdsSlot_O _ (by decide +kernel))) (fun _ h9 => h9) rfl dX2_holdsSlot_1 ?_
  refine lv_iload_n hx hb dX2_holdsSlot_4 rfl (lv_at hl 1 rfl) ?_
  refine va_iald hx hb hK hP 1 0 rfl rfl hp dX2_holdsSlot_5 ?_
  refine lv_if_le (tgt := 13) hx hb dX2_holdsSlot_6 (by decide) (fun _ => ?_) (fun c => absurd (by decide) c)
  refine lv_iconst (v := 0) hx hb dX2_holdsSlot_13 (by decide) ?_
  exact k_zret E hK hP hD hS () [0, 1] (by decide) rfl rfl (by decide) (Nat.le_of_ble_eq_true rfl) (Nat.le_of_ble_eq_true rfl) dX2_holdsSlot_14

def O_X7_removeExpired : List Cond := [.fieldLink RX7 33 "RoutingDomain$Simulator" "databases" "LRoutingDomain$Databases;", .fieldLink RX7 29 "RoutingDomain$Simulator" "advertisements" "LRoutingDomain$Advertisements;", .fieldLink RX7 51 "RoutingDomain$Advertisements" "now" "I", .methodLink RX7 57 yX2_holdsSlot, .instanceMethod yX2_holdsSlot, .selects RX2 yX2_holdsSlot yX2_holdsSlot, .initialized RX2]
def W_X7_removeExpired : List Cond := .code yX7_removeExpired cX7_removeExpired 4 none :: (O_X7_removeExpired ++ (wsX70 ++ (wsX00 ++ W_X2_holdsSlot)))
theorem m_X7_removeExpired_O : ∀ w ∈ O_X7_removeExpired, w ∈ W_X7_removeExpired := fun _ h => List.mem_cons_of_mem _ (List.mem_append_left _ h)
theorem m_X7_removeExpired_C7 : ∀ w ∈ wsX70, w ∈ W_X7_removeExpired := fun _ h => List.mem_cons_of_mem _ (List.mem_append_right _ (List.mem_append_left _ h))
theorem m_X7_removeExpired_C0 : ∀ w ∈ wsX00, w ∈ W_X7_removeExpired := fun _ h => List.mem_cons_of_mem _ (List.mem_append_right _ (List.mem_append_right _ (List.mem_append_left _ h)))
theorem m_X7_removeExpired_WX2_holdsSlot : ∀ w ∈ W_X2_holdsSlot, w ∈ W_X7_removeExpired := fun _ h => List.mem_cons_of_mem _ (List.mem_append_right _ (List.mem_append_right _ (List.mem_append_right _ h)))
theorem gdO_X7_removeExpired : O_X7_removeExpired.all goodWord = true := by decide +kernel
theorem gd_X7_removeExpired : W_X7_removeExpired.all goodWord = true := k_all_cons rfl (k_all_app gdO_X7_removeExpired (k_all_app gdC_7 (k_all_app gdC_0 gd_X2_holdsSlot)))
set_option maxHeartbeats 4000000 in
set_option maxRecDepth 100000 in
theorem c_X7_removeExpired (l : Launch) (D : va_G) (cI cZ cJ : ClassId) (h0 : Nat) (ad : Nat → Nat) (b1 : Nat) (b2 : Nat) (now : Int32) : kMv l yX7_removeExpired W_X7_removeExpired { frames := 1, cells := 0, slots := 0, locals := 30 } 0 0 D (kT cI cZ cJ) [.ref h0] [(h0, .inr (7, [.int 0, .ref b1, .ref b2, .ref (ad 35), .ref (ad 0), .ref (ad 1), .ref (ad 2), .ref (ad 3), .ref (ad 4)])), ((ad 1), .inr (0, [.int now, .ref (ad 17), .ref (ad 18), .ref (ad 19), .ref (ad 20), .ref (ad 0)])), ((ad 2), .inr (2, [.ref (ad 21), .ref (ad 22), .ref (ad 23), .ref (ad 24), .ref (ad 25)])), ((ad 25), .inl (cI, 64, .inl (fun _ => 0)))] (S := Unit) (fun _ => True) (fun _ => [(h0, .inr (7, [.int 0, .ref b1, .ref b2, .ref (ad 35), .ref (ad 0), .ref (ad 1), .ref (ad 2), .ref (ad 3), .ref (ad 4)])), ((ad 1), .inr (0, [.int now, .ref (ad 17), .ref (ad 18), .ref (ad 19), .ref (ad 20), .ref (ad 0)])), ((ad 2), .inr (2, [.ref (ad 21), .ref (ad 22), .ref (ad 23), .ref (ad 24), .ref (ad 25)])), ((ad 25), .inl (cI, 64, .inl (fun _ => 0)))]) := by
  refine kMv_of (lv := [(0, .ref h0)]) RX7 "removeExpired" (by decide +kernel) rfl rfl rfl (Nat.le_of_ble_eq_true rfl) rfl ?_
  intro p e s m below meth c A H locs ls E hA hK hP hD hS hl
  obtain ⟨hx, hb, hr, hts, hown, hlocks, hml, hin, hN⟩ := id E
  refine lv_aload_n hx hb dX7_removeExpired_0 rfl (lv_at hl 0 rfl) ?_
  refine va_get (ci := 7) (v := .ref (ad 2)) (C := RX7) (T := TX7) (N := 9) hx hb hts m_X7_removeExpired_C7 hown hK hP 0 rfl rfl 6 (by decide) (hts (.fieldLink RX7 33 "RoutingDomain$Simulator" "databases" "LRoutingDomain$Databases;") (m_X7_removeExpired_O _ (by decide +kernel))) (fun _ h9 => h9) rfl dX7_removeExpired_1 ?_
  refine lv_aload_n hx hb dX7_removeExpired_4 rfl (lv_at hl 0 rfl) ?_
  refine va_get (ci := 7) (v := .ref (ad 1)) (C := RX7) (T := TX7) (N := 9) hx hb hts m_X7_removeExpired_C7 hown hK hP 0 rfl rfl 5 (by decide) (hts (.fieldLink RX7 29 "RoutingDomain$Simulator" "advertisements" "LRoutingDomain$Advertisements;") (m_X7_removeExpired_O _ (by decide +kernel))) (fun _ h9 => h9) rfl dX7_removeExpired_5 ?_
  refine va_get (ci := 0) (v := .int now) (C := RX0) (T := TX0) (N := 6) hx hb hts m_X7_removeExpired_C0 hown hK hP 1 rfl rfl 0 (by decide) (hts (.fieldLink RX7 51 "RoutingDomain$Advertisements" "now" "I") (m_X7_removeExpired_O _ (by decide +kernel))) (fun _ h9 => h9) rfl dX7_removeExpired_8 ?_
  refine lv_bipush (v := 60) hx hb dX7_removeExpired_11 (by decide) ?_
  refine lv_isub hx hb dX7_removeExpired_13 ?_
  refine lv_bipush (v := 63) hx hb dX7_removeExpired_14 (by decide) ?_
  refine lv_iand hx hb dX7_removeExpired_16 ?_
  refine kVi (As := [.int ((now - 60) &&& 63)]) (rest := []) (wr := [(h0, .inr (7, [.int 0, .ref b1, .ref b2, .ref (ad 35), .ref (ad 0), .ref (ad 1), .ref (ad 2), .ref (ad 3), .ref (ad 4)])), ((ad 1), .inr (0, [.int now, .ref (ad 17), .ref (ad 18), .ref (ad 19), .ref (ad 20), .ref (ad 0)]))]) (w2 := fun _ => [(h0, .inr (7, [.int 0, .ref b1, .ref b2, .ref (ad 35), .ref (ad 0), .ref (ad 1), .ref (ad 2), .ref (ad 3), .ref (ad 4)])), ((ad 1), .inr (0, [.int now, .ref (ad 17), .ref (ad 18), .ref (ad 19), .ref (ad 20), .ref (ad 0)])), ((ad 2), .inr (2, [.ref (ad 21), .ref (ad 22), .ref (ad 23), .ref (ad 24), .ref (ad 25)])), ((ad 25), .inl (cI, 64, .inl (fun _ => 0)))]) ⟨hx, hb, hml, hown, hts⟩ hN (c_X2_holdsSlot l D cI cZ cJ (ad 2) ad ((now - 60) &&& 63) (k_in63 _)) (cwV 1 hts (k_gV (fun w h => m_X7_removeExpired_O w ((by decide +kernel : ∀ w ∈ ([.methodLink RX7 57 yX2_holdsSlot, .instanceMethod yX2_holdsSlot, .selects RX2 yX2_holdsSlot yX2_holdsSlot, .initialized RX2] : List Cond), w ∈ O_X7_removeExpired) w h)) m_X7_removeExpired_WX2_holdsSlot gd_X2_holdsSlot) rfl rfl rfl (by decide +kernel) ⟨Nat.le_of_ble_eq_true rfl, Nat.le_of_ble_eq_true rfl⟩) hK hP hD hS hA [2, 3] [0, 1] [0, 1, 2, 3] rfl rfl ⟨by decide, by decide, by decide⟩ (by decide) (fun _ => rfl) 2 0 rfl rfl rfl rfl hl.1 rfl (Nat.le_of_ble_eq_true rfl) dX7_removeExpired_17 ⟨Nat.le_of_ble_eq_true rfl, Nat.le_of_ble_eq_true rfl⟩ (fun r u H locs hw hP hD hS => ?_)
  have hP : va_P D vwCl [(h0, .inr (7, [.int 0, .ref b1, .ref b2, .ref (ad 35), .ref (ad 0), .ref (ad 1), .ref (ad 2), .ref (ad 3), .ref (ad 4)])), ((ad 1), .inr (0, [.int now, .ref (ad 17), .ref (ad 18), .ref (ad 19), .ref (ad 20), .ref (ad 0)])), ((ad 2), .inr (2, [.ref (ad 21), .ref (ad 22), .ref (ad 23), .ref (ad 24), .ref (ad 25)])), ((ad 25), .inl (cI, 64, .inl (fun _ => 0)))] H := hP
  have hD : va_D A [(h0, .inr (7, [.int 0, .ref b1, .ref b2, .ref (ad 35), .ref (ad 0), .ref (ad 1), .ref (ad 2), .ref (ad 3), .ref (ad 4)])), ((ad 1), .inr (0, [.int now, .ref (ad 17), .ref (ad 18), .ref (ad 19), .ref (ad 20), .ref (ad 0)])), ((ad 2), .inr (2, [.ref (ad 21), .ref (ad 22), .ref (ad 23), .ref (ad 24), .ref (ad 25)])), ((ad 25), .inl (cI, 64, .inl (fun _ => 0)))] := hD
  obtain rfl : r = 0 := hw
  refine lv_if_ne (tgt := 24) hx hb dX7_removeExpired_20 (by decide) (fun c => absurd (by decide) c) (fun _ => ?_)
  exact k_vret E hK hP hD hS () [0, 1, 2, 3] (by decide) rfl trivial (Nat.le_of_ble_eq_true rfl) (Nat.le_of_ble_eq_true rfl) dX7_removeExpired_23

def O_X7_deliverMail : List Cond := [.fieldLink RX7 18 "RoutingDomain$Simulator" "arriving" "LRoutingDomain$Mail;", .fieldLink RX7 12 "RoutingDomain$Simulator" "sent" "LRoutingDomain$Mail;", .fieldLink RX7 80 "RoutingDomain$Mail" "count" "I"]
def W_X7_deliverMail : List Cond := .code yX7_deliverMail cX7_deliverMail 6 (some .int) :: (O_X7_deliverMail ++ (wsX70 ++ wsX30))
theorem m_X7_deliverMail_O : ∀ w ∈ O_X7_deliverMail, w ∈ W_X7_deliverMail := fun _ h => List.mem_cons_of_mem _ (List.mem_append_left _ h)
theorem m_X7_deliverMail_C7 : ∀ w ∈ wsX70, w ∈ W_X7_deliverMail := fun _ h => List.mem_cons_of_mem _ (List.mem_append_right _ (List.mem_append_left _ h))
theorem m_X7_deliverMail_C3 : ∀ w ∈ wsX30, w ∈ W_X7_deliverMail := fun _ h => List.mem_cons_of_mem _ (List.mem_append_right _ (List.mem_append_right _ h))
theorem gdO_X7_deliverMail : O_X7_deliverMail.all goodWord = true := by decide +kernel
theorem gd_X7_deliverMail : W_X7_deliverMail.all goodWord = true := k_all_cons rfl (k_all_app gdO_X7_deliverMail (k_all_app gdC_7 gdC_3))
set_option maxHeartbeats 4000000 in
set_option maxRecDepth 100000 in
theorem c_X7_deliverMail (l : Launch) (D : va_G) (cI cZ cJ : ClassId) (h0 : Nat) (ad : Nat → Nat) (b1 : Nat) (b2 : Nat) (c1 : Nat) (c2 : Nat) : kMi l yX7_deliverMail W_X7_deliverMail { frames := 0, cells := 0, slots := 0, locals := 0 } 0 0 D (kT cI cZ cJ) [.ref h0] [(h0, .inr (7, [.int 0, .ref b1, .ref b2, .ref (ad 35), .ref (ad 0), .ref (ad 1), .ref (ad 2), .ref (ad 3), .ref (ad 4)])), (b1, .inr (3, [.int 0, .ref c1])), (b2, .inr (3, [.int 0, .ref c2]))] (S := Unit) (fun r _ => r = 0) (fun _ => [(h0, .inr (7, [.int 0, .ref b2, .ref b1, .ref (ad 35), .ref (ad 0), .ref (ad 1), .ref (ad 2), .ref (ad 3), .ref (ad 4)])), (b1, .inr (3, [.int 0, .ref c1])), (b2, .inr (3, [.int 0, .ref c2]))]) := by
  refine kMi_of (lv := [(0, .ref h0)]) RX7 "deliverMail" (by decide +kernel) rfl rfl rfl (Nat.le_of_ble_eq_true rfl) rfl ?_
  intro p e s m below meth c A H locs ls E hA hK hP hD hS hl
  obtain ⟨hx, hb, hr, hts, hown, hlocks, hml, hin, hN⟩ := id E
  refine lv_aload_n hx hb dX7_deliverMail_0 rfl (lv_at hl 0 rfl) ?_
  refine va_get (ci := 7) (v := .ref b2) (C := RX7) (T := TX7) (N := 9) hx hb hts m_X7_deliverMail_C7 hown hK hP 0 rfl rfl 2 (by decide) (hts (.fieldLink RX7 18 "RoutingDomain$Simulator" "arriving" "LRoutingDomain$Mail;") (m_X7_deliverMail_O _ (by decide +kernel))) (fun _ h9 => h9) rfl dX7_deliverMail_1 ?_
  refine lv_astore_n (lv' := [(1, .ref b2), (0, .ref h0)]) hx hb dX7_deliverMail_4 rfl hl (by decide) rfl (fun ls hl => ?_)
  refine lv_aload_n hx hb dX7_deliverMail_5 rfl (lv_at hl 1 rfl) ?_
  refine lv_aload_n hx hb dX7_deliverMail_6 rfl (lv_at hl 1 rfl) ?_
  refine va_get (ci := 7) (v := .ref b1) (C := RX7) (T := TX7) (N := 9) hx hb hts m_X7_deliverMail_C7 hown hK hP 0 rfl rfl 1 (by decide) (hts (.fieldLink RX7 12 "RoutingDomain$Simulator" "sent" "LRoutingDomain$Mail;") (m_X7_deliverMail_O _ (by decide +kernel))) (fun _ h9 => h9) rfl dX7_deliverMail_7 ?_
  refine va_put (ci := 7) (v := .ref b1) (ty := (.object "RoutingDomain$Mail")) (C := RX7) (T := TX7) (N := 9) hx hb hts m_X7_deliverMail_C7 tyX7 tyX7_ok nmX7 hown hK hP hD hS 0 rfl rfl 2 (by decide) (hts (.fieldLink RX7 18 "RoutingDomain$Simulator" "arriving" "LRoutingDomain$Mail;") (m_X7_deliverMail_O _ (by decide +kernel))) (fun _ h9 => h9) rfl (by decide +kernel) rfl rfl (Nat.le_of_ble_eq_true rfl) dX7_deliverMail_10 (fun H locs hP hD hS => ?_)
  have hP : va_P D vwCl [(h0, .inr (7, [.int 0, .ref b1, .ref b1, .ref (ad 35), .ref (ad 0), .ref (ad 1), .ref (ad 2), .ref (ad 3), .ref (ad 4)])), (b1, .inr (3, [.int 0, .ref c1])), (b2, .inr (3, [.int 0, .ref c2]))] H := hP
  have hD : va_D A [(h0, .inr (7, [.int 0, .ref b1, .ref b1, .ref (ad 35), .ref (ad 0), .ref (ad 1), .ref (ad 2), .ref (ad 3), .ref (ad 4)])), (b1, .inr (3, [.int 0, .ref c1])), (b2, .inr (3, [.int 0, .ref c2]))] := hD
  refine lv_aload_n hx hb dX7_deliverMail_13 rfl (lv_at hl 1 rfl) ?_
  refine lv_aload_n hx hb dX7_deliverMail_14 rfl (lv_at hl 0 rfl) ?_
  refine va_put (ci := 7) (v := .ref b2) (ty := (.object "RoutingDomain$Mail")) (C := RX7) (T := TX7) (N := 9) hx hb hts m_X7_deliverMail_C7 tyX7 tyX7_ok nmX7 hown hK hP hD hS 0 rfl rfl 1 (by decide) (hts (.fieldLink RX7 12 "RoutingDomain$Simulator" "sent" "LRoutingDomain$Mail;") (m_X7_deliverMail_O _ (by decide +kernel))) (fun _ h9 => h9) rfl (by decide +kernel) rfl rfl (Nat.le_of_ble_eq_true rfl) dX7_deliverMail_15 (fun H locs hP hD hS => ?_)
  have hP : va_P D vwCl [(h0, .inr (7, [.int 0, .ref b2, .ref b1, .ref (ad 35), .ref (ad 0), .ref (ad 1), .ref (ad 2), .ref (ad 3), .ref (ad 4)])), (b1, .inr (3, [.int 0, .ref c1])), (b2, .inr (3, [.int 0, .ref c2]))] H := hP
  have hD : va_D A [(h0, .inr (7, [.int 0, .ref b2, .ref b1, .ref (ad 35), .ref (ad 0), .ref (ad 1), .ref (ad 2), .ref (ad 3), .ref (ad 4)])), (b1, .inr (3, [.int 0, .ref c1])), (b2, .inr (3, [.int 0, .ref c2]))] := hD
  refine lv_aload_n hx hb dX7_deliverMail_18 rfl (lv_at hl 1 rfl) ?_
  refine va_get (ci := 7) (v := .ref b2) (C := RX7) (T := TX7) (N := 9) hx hb hts m_X7_deliverMail_C7 hown hK hP 0 rfl rfl 1 (by decide) (hts (.fieldLink RX7 12 "RoutingDomain$Simulator" "sent" "LRoutingDomain$Mail;") (m_X7_deliverMail_O _ (by decide +kernel))) (fun _ h9 => h9) rfl dX7_deliverMail_19 ?_
  refine lv_iconst (v := 0) hx hb dX7_deliverMail_22 (by decide) ?_
  refine va_put (ci := 3) (v := .int 0) (ty := .int) (C := RX3) (T := TX3) (N := 2) hx hb hts m_X7_deliverMail_C3 tyX3 tyX3_ok nmX3 hown hK hP hD hS 2 rfl rfl 0 (by decide) (hts (.fieldLink RX7 80 "RoutingDomain$Mail" "count" "I") (m_X7_deliverMail_O _ (by decide +kernel))) (fun _ h9 => h9) rfl (by decide +kernel) rfl rfl (Nat.le_of_ble_eq_true rfl) dX7_deliverMail_23 (fun H locs hP hD hS => ?_)
  have hP : va_P D vwCl [(h0, .inr (7, [.int 0, .ref b2, .ref b1, .ref (ad 35), .ref (ad 0), .ref (ad 1), .ref (ad 2), .ref (ad 3), .ref (ad 4)])), (b1, .inr (3, [.int 0, .ref c1])), (b2, .inr (3, [.int 0, .ref c2]))] H := hP
  have hD : va_D A [(h0, .inr (7, [.int 0, .ref b2, .ref b1, .ref (ad 35), .ref (ad 0), .ref (ad 1), .ref (ad 2), .ref (ad 3), .ref (ad 4)])), (b1, .inr (3, [.int 0, .ref c1])), (b2, .inr (3, [.int 0, .ref c2]))] := hD
  refine lv_iconst (v := 0) hx hb dX7_deliverMail_26 (by decide) ?_
  refine lv_istore_n (lv' := [(2, .int 0), (1, .ref b2), (0, .ref h0)]) hx hb dX7_deliverMail_27 rfl hl (by decide) rfl (fun ls hl => ?_)
  refine lv_iconst (v := 0) hx hb dX7_deliverMail_28 (by decide) ?_
  refine lv_istore_n (lv' := [(3, .int 0), (2, .int 0), (1, .ref b2), (0, .ref h0)]) hx hb dX7_deliverMail_29 rfl hl (by decide) rfl (fun ls hl => ?_)
  refine lv_iload_n hx hb dX7_deliverMail_30 rfl (lv_at hl 0 rfl) ?_
  refine lv_aload_n hx hb dX7_deliverMail_31 rfl (lv_at hl 3 rfl) ?_
  refine va_get (ci := 7) (v := .ref b1) (C := RX7) (T := TX7) (N := 9) hx hb hts m_X7_deliverMail_C7 hown hK hP 0 rfl rfl 2 (by decide) (hts (.fieldLink RX7 18 "RoutingDomain$Simulator" "arriving" "LRoutingDomain$Mail;") (m_X7_deliverMail_O _ (by decide +kernel))) (fun _ h9 => h9) rfl dX7_deliverMail_32 ?_
  refine va_get (ci := 3) (v := .int 0) (C := RX3) (T := TX3) (N := 2) hx hb hts m_X7_deliverMail_C3 hown hK hP 1 rfl rfl 0 (by decide) (hts (.fieldLink RX7 80 "RoutingDomain$Mail" "count" "I") (m_X7_deliverMail_O _ (by decide +kernel))) (fun _ h9 => h9) rfl dX7_deliverMail_35 ?_
  refine lv_icmp_ge (tgt := 119) hx hb dX7_deliverMail_38 (by decide) (fun _ => ?_) (fun c => absurd (by decide) c)
  refine lv_iload_n hx hb dX7_deliverMail_119 rfl (lv_at hl 1 rfl) ?_
  exact k_iret E hK hP hD hS () [0, 1, 2] (by decide) rfl rfl (Nat.le_of_ble_eq_true rfl) (Nat.le_of_ble_eq_true rfl) dX7_deliverMail_120

def O_X7_letRoutersAct : List Cond := [.fieldLink RX7 25 "RoutingDomain$Simulator" "topology" "LRoutingDomain$Topology;", .fieldLink RX7 63 "RoutingDomain$Topology" "routerCount" "I"]
def W_X7_letRoutersAct : List Cond := .code yX7_letRoutersAct cX7_letRoutersAct 2 none :: (O_X7_letRoutersAct ++ (wsX70 ++ wsX80))
theorem m_X7_letRoutersAct_O : ∀ w ∈ O_X7_letRoutersAct, w ∈ W_X7_letRoutersAct := fun _ h => List.mem_cons_of_mem _ (List.mem_append_left _ h)
theorem m_X7_letRoutersAct_C7 : ∀ w ∈ wsX70, w ∈ W_X7_letRoutersAct := fun _ h => List.mem_cons_of_mem _ (List.mem_append_right _ (List.mem_append_left _ h))
theorem m_X7_letRoutersAct_C8 : ∀ w ∈ wsX80, w ∈ W_X7_letRoutersAct := fun _ h => List.mem_cons_of_mem _ (List.mem_append_right _ (List.mem_append_right _ h))
theorem gdO_X7_letRoutersAct : O_X7_letRoutersAct.all goodWord = true := by decide +kernel
theorem gd_X7_letRoutersAct : W_X7_letRoutersAct.all goodWord = true := k_all_cons rfl (k_all_app gdO_X7_letRoutersAct (k_all_app gdC_7 gdC_8))
set_option maxHeartbeats 4000000 in
set_option maxRecDepth 100000 in
theorem c_X7_letRoutersAct (l : Launch) (D : va_G) (cI cZ cJ : ClassId) (h0 : Nat) (ad : Nat → Nat) (b1 : Nat) (b2 : Nat) : kMv l yX7_letRoutersAct W_X7_letRoutersAct { frames := 0, cells := 0, slots := 0, locals := 0 } 0 0 D (kT cI cZ cJ) [.ref h0] [(h0, .inr (7, [.int 0, .ref b1, .ref b2, .ref (ad 35), .ref (ad 0), .ref (ad 1), .ref (ad 2), .ref (ad 3), .ref (ad 4)])), ((ad 0), .inr (8, [.int 0, .int 0, .ref (ad 7), .ref (ad 8), .ref (ad 9), .ref (ad 10), .ref (ad 11), .ref (ad 12), .ref (ad 13), .ref (ad 14), .ref (ad 15), .ref (ad 16)]))] (S := Unit) (fun _ => True) (fun _ => [(h0, .inr (7, [.int 0, .ref b1, .ref b2, .ref (ad 35), .ref (ad 0), .ref (ad 1), .ref (ad 2), .ref (ad 3), .ref (ad 4)])), ((ad 0), .inr (8, [.int 0, .int 0, .ref (ad 7), .ref (ad 8), .ref (ad 9), .ref (ad 10), .ref (ad 11), .ref (ad 12), .ref (ad 13), .ref (ad 14), .ref (ad 15), .ref (ad 16)]))]) := by
  refine kMv_of (lv := [(0, .ref h0)]) RX7 "letRoutersAct" (by decide +kernel) rfl rfl rfl (Nat.le_of_ble_eq_true rfl) rfl ?_
  intro p e s m below meth c A H locs ls E hA hK hP hD hS hl
  obtain ⟨hx, hb, hr, hts, hown, hlocks, hml, hin, hN⟩ := id E
  refine lv_iconst (v := 0) hx hb dX7_letRoutersAct_0 (by decide) ?_
  refine lv_istore_n (lv' := [(1, .int 0), (0, .ref h0)]) hx hb dX7_letRoutersAct_1 rfl hl (by decide) rfl (fun ls hl => ?_)
  refine lv_iload_n hx hb dX7_letRoutersAct_2 rfl (lv_at hl 0 rfl) ?_
  refine lv_aload_n hx hb dX7_letRoutersAct_3 rfl (lv_at hl 1 rfl) ?_
  refine va_get (ci := 7) (v := .ref (ad 0)) (C := RX7) (T := TX7) (N := 9) hx hb hts m_X7_letRoutersAct_C7 hown hK hP 0 rfl rfl 4 (by decide) (hts (.fieldLink RX7 25 "RoutingDomain$Simulator" "topology" "LRoutingDomain$Topology;") (m_X7_letRoutersAct_O _ (by decide +kernel))) (fun _ h9 => h9) rfl dX7_letRoutersAct_4 ?_
  refine va_get (ci := 8) (v := .int 0) (C := RX8) (T := TX8) (N := 12) hx hb hts m_X7_letRoutersAct_C8 hown hK hP 1 rfl rfl 0 (by decide) (hts (.fieldLink RX7 63 "RoutingDomain$Topology" "routerCount" "I") (m_X7_letRoutersAct_O _ (by decide +kernel))) (fun _ h9 => h9) rfl dX7_letRoutersAct_7 ?_
  refine lv_icmp_ge (tgt := 121) hx hb dX7_letRoutersAct_10 (by decide) (fun _ => ?_) (fun c => absurd (by decide) c)
  exact k_vret E hK hP hD hS () [0, 1] (by decide) rfl trivial (Nat.le_of_ble_eq_true rfl) (Nat.le_of_ble_eq_true rfl) dX7_letRoutersAct_121

def O_X8_rememberUsableLinks : List Cond := [.fieldLink RX8 53 "RoutingDomain$Topology" "linkCount" "I"]
def W_X8_rememberUsableLinks : List Cond := .code yX8_rememberUsableLinks cX8_rememberUsableLinks 2 none :: (O_X8_rememberUsableLinks ++ wsX80)
theorem m_X8_rememberUsableLinks_O : ∀ w ∈ O_X8_rememberUsableLinks, w ∈ W_X8_rememberUsableLinks := fun _ h => List.mem_cons_of_mem _ (List.mem_append_left _ h)
theorem m_X8_rememberUsableLinks_C8 : ∀ w ∈ wsX80, w ∈ W_X8_rememberUsableLinks := fun _ h => List.mem_cons_of_mem _ (List.mem_append_right _ h)
theorem gdO_X8_rememberUsableLinks : O_X8_rememberUsableLinks.all goodWord = true := by decide +kernel
theorem gd_X8_rememberUsableLinks : W_X8_rememberUsableLinks.all goodWord = true := k_all_cons rfl (k_all_app gdO_X8_rememberUsableLinks gdC_8)
set_option maxHeartbeats 4000000 in
set_option maxRecDepth 100000 in
theorem c_X8_rememberUsableLinks (l : Launch) (D : va_G) (cI cZ cJ : ClassId) (h0 : Nat) (ad : Nat → Nat) : kMv l yX8_rememberUsableLinks W_X8_rememberUsableLinks { frames := 0, cells := 0, slots := 0, locals := 0 } 0 0 D (kT cI cZ cJ) [.ref h0] [(h0, .inr (8, [.int 0, .int 0, .ref (ad 7), .ref (ad 8), .ref (ad 9), .ref (ad 10), .ref (ad 11), .ref (ad 12), .ref (ad 13), .ref (ad 14), .ref (ad 15), .ref (ad 16)]))] (S := Unit) (fun _ => True) (fun _ => [(h0, .inr (8, [.int 0, .int 0, .ref (ad 7), .ref (ad 8), .ref (ad 9), .ref (ad 10), .ref (ad 11), .ref (ad 12), .ref (ad 13), .ref (ad 14), .ref (ad 15), .ref (ad 16)]))]) := by
  refine kMv_of (lv := [(0, .ref h0)]) RX8 "rememberUsableLinks" (by decide +kernel) rfl rfl rfl (Nat.le_of_ble_eq_true rfl) rfl ?_
  intro p e s m below meth c A H locs ls E hA hK hP hD hS hl
  obtain ⟨hx, hb, hr, hts, hown, hlocks, hml, hin, hN⟩ := id E
  refine lv_iconst (v := 0) hx hb dX8_rememberUsableLinks_0 (by decide) ?_
  refine lv_istore_n (lv' := [(1, .int 0), (0, .ref h0)]) hx hb dX8_rememberUsableLinks_1 rfl hl (by decide) rfl (fun ls hl => ?_)
  refine lv_iload_n hx hb dX8_rememberUsableLinks_2 rfl (lv_at hl 0 rfl) ?_
  refine lv_aload_n hx hb dX8_rememberUsableLinks_3 rfl (lv_at hl 1 rfl) ?_
  refine va_get (ci := 8) (v := .int 0) (C := RX8) (T := TX8) (N := 12) hx hb hts m_X8_rememberUsableLinks_C8 hown hK hP 0 rfl rfl 1 (by decide) (hts (.fieldLink RX8 53 "RoutingDomain$Topology" "linkCount" "I") (m_X8_rememberUsableLinks_O _ (by decide +kernel))) (fun _ h9 => h9) rfl dX8_rememberUsableLinks_4 ?_
  refine lv_icmp_ge (tgt := 27) hx hb dX8_rememberUsableLinks_7 (by decide) (fun _ => ?_) (fun c => absurd (by decide) c)
  exact k_vret E hK hP hD hS () [0] (by decide) rfl trivial (Nat.le_of_ble_eq_true rfl) (Nat.le_of_ble_eq_true rfl) dX8_rememberUsableLinks_27

def O_X9_tick : List Cond := [.fieldLink RX9 21 "RoutingDomain" "advertisements" "LRoutingDomain$Advertisements;", .fieldLink RX9 168 "RoutingDomain$Advertisements" "now" "I", .fieldLink RX9 55 "RoutingDomain" "simulator" "LRoutingDomain$Simulator;", .methodLink RX9 171 yX7_removeExpired, .instanceMethod yX7_removeExpired, .selects RX7 yX7_removeExpired yX7_removeExpired, .initialized RX7, .methodLink RX9 174 yX7_deliverMail, .instanceMethod yX7_deliverMail, .selects RX7 yX7_deliverMail yX7_deliverMail, .methodLink RX9 177 yX7_letRoutersAct, .instanceMethod yX7_letRoutersAct, .selects RX7 yX7_letRoutersAct yX7_letRoutersAct, .fieldLink RX9 12 "RoutingDomain" "topology" "LRoutingDomain$Topology;", .methodLink RX9 180 yX8_rememberUsableLinks, .instanceMethod yX8_rememberUsableLinks, .selects RX8 yX8_rememberUsableLinks yX8_rememberUsableLinks, .initialized RX8]
def W_X9_tick : List Cond := .code yX9_tick cX9_tick 4 (some .int) :: (O_X9_tick ++ (wsX90 ++ (wsX00 ++ (W_X7_removeExpired ++ (W_X7_deliverMail ++ (W_X7_letRoutersAct ++ W_X8_rememberUsableLinks))))))
theorem m_X9_tick_O : ∀ w ∈ O_X9_tick, w ∈ W_X9_tick := fun _ h => List.mem_cons_of_mem _ (List.mem_append_left _ h)
theorem m_X9_tick_C9 : ∀ w ∈ wsX90, w ∈ W_X9_tick := fun _ h => List.mem_cons_of_mem _ (List.mem_append_right _ (List.mem_append_left _ h))
theorem m_X9_tick_C0 : ∀ w ∈ wsX00, w ∈ W_X9_tick := fun _ h => List.mem_cons_of_mem _ (List.mem_append_right _ (List.mem_append_right _ (List.mem_append_left _ h)))
theorem m_X9_tick_WX7_removeExpired : ∀ w ∈ W_X7_removeExpired, w ∈ W_X9_tick := fun _ h => List.mem_cons_of_mem _ (List.mem_append_right _ (List.mem_append_right _ (List.mem_append_right _ (List.mem_append_left _ h))))
theorem m_X9_tick_WX7_deliverMail : ∀ w ∈ W_X7_deliverMail, w ∈ W_X9_tick := fun _ h => List.mem_cons_of_mem _ (List.mem_append_right _ (List.mem_append_right _ (List.mem_append_right _ (List.mem_append_right _ (List.mem_append_left _ h)))))
theorem m_X9_tick_WX7_letRoutersAct : ∀ w ∈ W_X7_letRoutersAct, w ∈ W_X9_tick := fun _ h => List.mem_cons_of_mem _ (List.mem_append_right _ (List.mem_append_right _ (List.mem_append_right _ (List.mem_append_right _ (List.mem_append_right _ (List.mem_append_left _ h))))))
theorem m_X9_tick_WX8_rememberUsableLinks : ∀ w ∈ W_X8_rememberUsableLinks, w ∈ W_X9_tick := fun _ h => List.mem_cons_of_mem _ (List.mem_append_right _ (List.mem_append_right _ (List.mem_append_right _ (List.mem_append_right _ (List.mem_append_right _ (List.mem_append_right _ h))))))
theorem gdO_X9_tick : O_X9_tick.all goodWord = true := by decide +kernel
theorem gd_X9_tick : W_X9_tick.all goodWord = true := k_all_cons rfl (k_all_app gdO_X9_tick (k_all_app gdC_9 (k_all_app gdC_0 (k_all_app gd_X7_removeExpired (k_all_app gd_X7_deliverMail (k_all_app gd_X7_letRoutersAct gd_X8_rememberUsableLinks))))))
set_option maxHeartbeats 4000000 in
set_option maxRecDepth 100000 in
theorem c_X9_tick (l : Launch) (D : va_G) (cI cZ cJ : ClassId) (h0 : Nat) (ad : Nat → Nat) (b1 : Nat) (b2 : Nat) (c1 : Nat) (c2 : Nat) (n : Nat) (now : Int32) (hn1 : 1 ≤ n) (hn2 : n ≤ 60) : kMi l yX9_tick W_X9_tick { frames := 3, cells := 0, slots := 0, locals := 90 } 0 0 D (kT cI cZ cJ) [.ref h0, .int (nI n)] [(h0, .inr (9, [.ref (ad 0), .ref (ad 1), .ref (ad 2), .ref (ad 3), .ref (ad 4), .ref (ad 5), .ref (ad 6)])), ((ad 0), .inr (8, [.int 0, .int 0, .ref (ad 7), .ref (ad 8), .ref (ad 9), .ref (ad 10), .ref (ad 11), .ref (ad 12), .ref (ad 13), .ref (ad 14), .ref (ad 15), .ref (ad 16)])), ((ad 1), .inr (0, [.int now, .ref (ad 17), .ref (ad 18), .ref (ad 19), .ref (ad 20), .ref (ad 0)])), ((ad 2), .inr (2, [.ref (ad 21), .ref (ad 22), .ref (ad 23), .ref (ad 24), .ref (ad 25)])), ((ad 25), .inl (cI, 64, .inl (fun _ => 0))), ((ad 5), .inr (7, [.int 0, .ref b1, .ref b2, .ref (ad 35), .ref (ad 0), .ref (ad 1), .ref (ad 2), .ref (ad 3), .ref (ad 4)])), (b1, .inr (3, [.int 0, .ref c1])), (b2, .inr (3, [.int 0, .ref c2]))] (S := Int32 × Nat × Nat × Nat × Nat) (fun r u => r = 0) (fun u => [(h0, .inr (9, [.ref (ad 0), .ref (ad 1), .ref (ad 2), .ref (ad 3), .ref (ad 4), .ref (ad 5), .ref (ad 6)])), ((ad 0), .inr (8, [.int 0, .int 0, .ref (ad 7), .ref (ad 8), .ref (ad 9), .ref (ad 10), .ref (ad 11), .ref (ad 12), .ref (ad 13), .ref (ad 14), .ref (ad 15), .ref (ad 16)])), ((ad 1), .inr (0, [.int u.1, .ref (ad 17), .ref (ad 18), .ref (ad 19), .ref (ad 20), .ref (ad 0)])), ((ad 2), .inr (2, [.ref (ad 21), .ref (ad 22), .ref (ad 23), .ref (ad 24), .ref (ad 25)])), ((ad 25), .inl (cI, 64, .inl (fun _ => 0))), ((ad 5), .inr (7, [.int 0, .ref u.2.1, .ref u.2.2.1, .ref (ad 35), .ref (ad 0), .ref (ad 1), .ref (ad 2), .ref (ad 3), .ref (ad 4)])), (u.2.1, .inr (3, [.int 0, .ref u.2.2.2.1])), (u.2.2.1, .inr (3, [.int 0, .ref u.2.2.2.2]))]) := by
  refine kMi_of (lv := [(0, .ref h0), (1, .int (nI n))]) RX9 "tick" (by decide +kernel) rfl rfl rfl (Nat.le_of_ble_eq_true rfl) rfl ?_
  intro p e s m below meth c A H locs ls E hA hK hP hD hS hl
  obtain ⟨hx, hb, hr, hts, hown, hlocks, hml, hin, hN⟩ := id E
  refine lv_iload_n hx hb dX9_tick_0 rfl (lv_at hl 1 rfl) ?_
  refine lv_iconst (v := 1) hx hb dX9_tick_1 (by decide) ?_
  refine lv_icmp_lt (tgt := 11) hx hb dX9_tick_2 (by decide) (fun c => False.elim (by exact absurd c (by show ¬ nI n < nI 1; exact nI_nlt hn1 (by omega)))) (fun c_2 => ?_)
  refine lv_iload_n hx hb dX9_tick_5 rfl (lv_at hl 1 rfl) ?_
  refine lv_bipush (v := 60) hx hb dX9_tick_6 (by decide) ?_
  refine lv_icmp_le (tgt := 21) hx hb dX9_tick_8 (by decide) (fun c_8 => ?_) (fun c => False.elim (by exact absurd (by show nI n ≤ nI 60; exact nI_le hn2 (by omega)) c))
  refine lv_iconst (v := 0) hx hb dX9_tick_21 (by decide) ?_
  refine lv_istore_n (lv' := [(2, .int 0), (0, .ref h0), (1, .int (nI n))]) hx hb dX9_tick_22 rfl hl (by decide) rfl (fun ls hl => ?_)
  refine lv_iconst (v := 0) hx hb dX9_tick_23 (by decide) ?_
  refine lv_istore_n (lv' := [(3, .int 0), (2, .int 0), (0, .ref h0), (1, .int (nI n))]) hx hb dX9_tick_24 rfl hl (by decide) rfl (fun ls hl => ?_)
  refine k_loop (Nat × Int32 × Nat × Nat × Nat × Nat) 25 4 (fun u => u.1 ≤ n) (fun u => n - u.1) (fun u => [(h0, .inr (9, [.ref (ad 0), .ref (ad 1), .ref (ad 2), .ref (ad 3), .ref (ad 4), .ref (ad 5), .ref (ad 6)])), ((ad 0), .inr (8, [.int 0, .int 0, .ref (ad 7), .ref (ad 8), .ref (ad 9), .ref (ad 10), .ref (ad 11), .ref (ad 12), .ref (ad 13), .ref (ad 14), .ref (ad 15), .ref (ad 16)])), ((ad 1), .inr (0, [.int u.2.1, .ref (ad 17), .ref (ad 18), .ref (ad 19), .ref (ad 20), .ref (ad 0)])), ((ad 2), .inr (2, [.ref (ad 21), .ref (ad 22), .ref (ad 23), .ref (ad 24), .ref (ad 25)])), ((ad 25), .inl (cI, 64, .inl (fun _ => 0))), ((ad 5), .inr (7, [.int 0, .ref u.2.2.1, .ref u.2.2.2.1, .ref (ad 35), .ref (ad 0), .ref (ad 1), .ref (ad 2), .ref (ad 3), .ref (ad 4)])), (u.2.2.1, .inr (3, [.int 0, .ref u.2.2.2.2.1])), (u.2.2.2.1, .inr (3, [.int 0, .ref u.2.2.2.2.2]))]) (fun u => [(0, .ref h0), (1, .int (nI n)), (2, .int 0), (3, .int (nI u.1))]) ?_ (0, now, b1, b2, c1, c2) (Nat.zero_le _) (hP.sub [0, 1, 2, 3, 4, 5, 6, 7] rfl) (hD.sub [0, 1, 2, 3, 4, 5, 6, 7] (by decide) rfl) hS (lv_sub hl [2, 3, 1, 0] rfl)
  intro ⟨i, nw, u1, u2, v1, v2⟩ H locs ls hinv hP hD hS hl ih
  have hinv : i ≤ n := hinv
  have hP : va_P D vwCl [(h0, .inr (9, [.ref (ad 0), .ref (ad 1), .ref (ad 2), .ref (ad 3), .ref (ad 4), .ref (ad 5), .ref (ad 6)])), ((ad 0), .inr (8, [.int 0, .int 0, .ref (ad 7), .ref (ad 8), .ref (ad 9), .ref (ad 10), .ref (ad 11), .ref (ad 12), .ref (ad 13), .ref (ad 14), .ref (ad 15), .ref (ad 16)])), ((ad 1), .inr (0, [.int nw, .ref (ad 17), .ref (ad 18), .ref (ad 19), .ref (ad 20), .ref (ad 0)])), ((ad 2), .inr (2, [.ref (ad 21), .ref (ad 22), .ref (ad 23), .ref (ad 24), .ref (ad 25)])), ((ad 25), .inl (cI, 64, .inl (fun _ => 0))), ((ad 5), .inr (7, [.int 0, .ref u1, .ref u2, .ref (ad 35), .ref (ad 0), .ref (ad 1), .ref (ad 2), .ref (ad 3), .ref (ad 4)])), (u1, .inr (3, [.int 0, .ref v1])), (u2, .inr (3, [.int 0, .ref v2]))] H := hP
  have hD : va_D A [(h0, .inr (9, [.ref (ad 0), .ref (ad 1), .ref (ad 2), .ref (ad 3), .ref (ad 4), .ref (ad 5), .ref (ad 6)])), ((ad 0), .inr (8, [.int 0, .int 0, .ref (ad 7), .ref (ad 8), .ref (ad 9), .ref (ad 10), .ref (ad 11), .ref (ad 12), .ref (ad 13), .ref (ad 14), .ref (ad 15), .ref (ad 16)])), ((ad 1), .inr (0, [.int nw, .ref (ad 17), .ref (ad 18), .ref (ad 19), .ref (ad 20), .ref (ad 0)])), ((ad 2), .inr (2, [.ref (ad 21), .ref (ad 22), .ref (ad 23), .ref (ad 24), .ref (ad 25)])), ((ad 25), .inl (cI, 64, .inl (fun _ => 0))), ((ad 5), .inr (7, [.int 0, .ref u1, .ref u2, .ref (ad 35), .ref (ad 0), .ref (ad 1), .ref (ad 2), .ref (ad 3), .ref (ad 4)])), (u1, .inr (3, [.int 0, .ref v1])), (u2, .inr (3, [.int 0, .ref v2]))] := hD
  have hl : lv_has ls 4 [(0, .ref h0), (1, .int (nI n)), (2, .int 0), (3, .int (nI i))] := hl
  refine lv_iload_n hx hb dX9_tick_25 rfl (lv_at hl 3 rfl) ?_
  refine lv_iload_n hx hb dX9_tick_26 rfl (lv_at hl 1 rfl) ?_
  refine lv_icmp_ge (tgt := 80) hx hb dX9_tick_27 (by decide) (fun c_27 => ?_) (fun c_27 => ?_)
  · refine lv_iload_n hx hb dX9_tick_80 rfl (lv_at hl 2 rfl) ?_
    exact k_iret E hK hP hD hS (nw, u1, u2, v1, v2) [0, 1, 2, 3, 4, 5, 6, 7] (by decide) rfl rfl (Nat.le_of_ble_eq_true rfl) (Nat.le_of_ble_eq_true rfl) dX9_tick_81
  · have hlt : i < n := by
      rcases Nat.lt_or_ge i n with q | q
      · exact q
      · exact absurd (nI_le q (by omega)) c_27
    refine lv_aload_n hx hb dX9_tick_30 rfl (lv_at hl 0 rfl) ?_
    refine va_get (ci := 9) (v := .ref (ad 1)) (C := RX9) (T := TX9) (N := 7) hx hb hts m_X9_tick_C9 hown hK hP 0 rfl rfl 1 (by decide) (hts (.fieldLink RX9 21 "RoutingDomain" "advertisements" "LRoutingDomain$Advertisements;") (m_X9_tick_O _ (by decide +kernel))) (fun _ h9 => h9) rfl dX9_tick_31 ?_
    refine lv_dup hx hb dX9_tick_34 rfl ?_
    refine va_get (ci := 0) (v := .int nw) (C := RX0) (T := TX0) (N := 6) hx hb hts m_X9_tick_C0 hown hK hP 2 rfl rfl 0 (by decide) (hts (.fieldLink RX9 168 "RoutingDomain$Advertisements" "now" "I") (m_X9_tick_O _ (by decide +kernel))) (fun _ h9 => h9) rfl dX9_tick_35 ?_
    refine lv_iconst (v := 1) hx hb dX9_tick_38 (by decide) ?_
    refine lv_iadd hx hb dX9_tick_39 ?_
    refine va_put (ci := 0) (v := .int (nw + 1)) (ty := .int) (C := RX0) (T := TX0) (N := 6) hx hb hts m_X9_tick_C0 tyX0 tyX0_ok nmX0 hown hK hP hD hS 2 rfl rfl 0 (by decide) (hts (.fieldLink RX9 168 "RoutingDomain$Advertisements" "now" "I") (m_X9_tick_O _ (by decide +kernel))) (fun _ h9 => h9) rfl (by decide +kernel) rfl rfl (Nat.le_of_ble_eq_true rfl) dX9_tick_40 (fun H locs hP hD hS => ?_)
    have hP : va_P D vwCl [(h0, .inr (9, [.ref (ad 0), .ref (ad 1), .ref (ad 2), .ref (ad 3), .ref (ad 4), .ref (ad 5), .ref (ad 6)])), ((ad 0), .inr (8, [.int 0, .int 0, .ref (ad 7), .ref (ad 8), .ref (ad 9), .ref (ad 10), .ref (ad 11), .ref (ad 12), .ref (ad 13), .ref (ad 14), .ref (ad 15), .ref (ad 16)])), ((ad 1), .inr (0, [.int (nw + 1), .ref (ad 17), .ref (ad 18), .ref (ad 19), .ref (ad 20), .ref (ad 0)])), ((ad 2), .inr (2, [.ref (ad 21), .ref (ad 22), .ref (ad 23), .ref (ad 24), .ref (ad 25)])), ((ad 25), .inl (cI, 64, .inl (fun _ => 0))), ((ad 5), .inr (7, [.int 0, .ref u1, .ref u2, .ref (ad 35), .ref (ad 0), .ref (ad 1), .ref (ad 2), .ref (ad 3), .ref (ad 4)])), (u1, .inr (3, [.int 0, .ref v1])), (u2, .inr (3, [.int 0, .ref v2]))] H := hP
    have hD : va_D A [(h0, .inr (9, [.ref (ad 0), .ref (ad 1), .ref (ad 2), .ref (ad 3), .ref (ad 4), .ref (ad 5), .ref (ad 6)])), ((ad 0), .inr (8, [.int 0, .int 0, .ref (ad 7), .ref (ad 8), .ref (ad 9), .ref (ad 10), .ref (ad 11), .ref (ad 12), .ref (ad 13), .ref (ad 14), .ref (ad 15), .ref (ad 16)])), ((ad 1), .inr (0, [.int (nw + 1), .ref (ad 17), .ref (ad 18), .ref (ad 19), .ref (ad 20), .ref (ad 0)])), ((ad 2), .inr (2, [.ref (ad 21), .ref (ad 22), .ref (ad 23), .ref (ad 24), .ref (ad 25)])), ((ad 25), .inl (cI, 64, .inl (fun _ => 0))), ((ad 5), .inr (7, [.int 0, .ref u1, .ref u2, .ref (ad 35), .ref (ad 0), .ref (ad 1), .ref (ad 2), .ref (ad 3), .ref (ad 4)])), (u1, .inr (3, [.int 0, .ref v1])), (u2, .inr (3, [.int 0, .ref v2]))] := hD
    refine lv_aload_n hx hb dX9_tick_43 rfl (lv_at hl 0 rfl) ?_
    refine va_get (ci := 9) (v := .ref (ad 5)) (C := RX9) (T := TX9) (N := 7) hx hb hts m_X9_tick_C9 hown hK hP 0 rfl rfl 5 (by decide) (hts (.fieldLink RX9 55 "RoutingDomain" "simulator" "LRoutingDomain$Simulator;") (m_X9_tick_O _ (by decide +kernel))) (fun _ h9 => h9) rfl dX9_tick_44 ?_
    refine kVv (As := []) (rest := []) (wr := [(h0, .inr (9, [.ref (ad 0), .ref (ad 1), .ref (ad 2), .ref (ad 3), .ref (ad 4), .ref (ad 5), .ref (ad 6)])), ((ad 0), .inr (8, [.int 0, .int 0, .ref (ad 7), .ref (ad 8), .ref (ad 9), .ref (ad 10), .ref (ad 11), .ref (ad 12), .ref (ad 13), .ref (ad 14), .ref (ad 15), .ref (ad 16)])), (u1, .inr (3, [.int 0, .ref v1])), (u2, .inr (3, [.int 0, .ref v2]))]) (w2 := fun _ => [(h0, .inr (9, [.ref (ad 0), .ref (ad 1), .ref (ad 2), .ref (ad 3), .ref (ad 4), .ref (ad 5), .ref (ad 6)])), ((ad 0), .inr (8, [.int 0, .int 0, .ref (ad 7), .ref (ad 8), .ref (ad 9), .ref (ad 10), .ref (ad 11), .ref (ad 12), .ref (ad 13), .ref (ad 14), .ref (ad 15), .ref (ad 16)])), ((ad 1), .inr (0, [.int (nw + 1), .ref (ad 17), .ref (ad 18), .ref (ad 19), .ref (ad 20), .ref (ad 0)])), ((ad 2), .inr (2, [.ref (ad 21), .ref (ad 22), .ref (ad 23), .ref (ad 24), .ref (ad 25)])), ((ad 25), .inl (cI, 64, .inl (fun _ => 0))), ((ad 5), .inr (7, [.int 0, .ref u1, .ref u2, .ref (ad 35), .ref (ad 0), .ref (ad 1), .ref (ad 2), .ref (ad 3), .ref (ad 4)])), (u1, .inr (3, [.int 0, .ref v1])), (u2, .inr (3, [.int 0, .ref v2]))]) ⟨hx, hb, hml, hown, hts⟩ hN (c_X7_removeExpired l D cI cZ cJ (ad 5) ad u1 u2 (nw + 1)) (cwV 0 hts (k_gV (fun w h => m_X9_tick_O w ((by decide +kernel : ∀ w ∈ ([.methodLink RX9 171 yX7_removeExpired, .instanceMethod yX7_removeExpired, .selects RX7 yX7_removeExpired yX7_removeExpired, .initialized RX7] : List Cond), w ∈ O_X9_tick) w h)) m_X9_tick_WX7_removeExpired gd_X7_removeExpired) rfl rfl rfl (by decide +kernel) ⟨Nat.le_of_ble_eq_true rfl, Nat.le_of_ble_eq_true rfl⟩) hK hP hD hS hA [5, 2, 3, 4] [0, 1, 6, 7] [0, 1, 5, 6, 7, 4, 2, 3] rfl rfl ⟨by decide, by decide, by decide⟩ (by decide) (fun _ => rfl) 7 0 rfl rfl rfl rfl hl.1 rfl (Nat.le_of_ble_eq_true rfl) dX9_tick_47 ⟨Nat.le_of_ble_eq_true rfl, Nat.le_of_ble_eq_true rfl⟩ (fun u H locs hw hP hD hS => ?_)
    have hP : va_P D vwCl [(h0, .inr (9, [.ref (ad 0), .ref (ad 1), .ref (ad 2), .ref (ad 3), .ref (ad 4), .ref (ad 5), .ref (ad 6)])), ((ad 0), .inr (8, [.int 0, .int 0, .ref (ad 7), .ref (ad 8), .ref (ad 9), .ref (ad 10), .ref (ad 11), .ref (ad 12), .ref (ad 13), .ref (ad 14), .ref (ad 15), .ref (ad 16)])), ((ad 1), .inr (0, [.int (nw + 1), .ref (ad 17), .ref (ad 18), .ref (ad 19), .ref (ad 20), .ref (ad 0)])), ((ad 2), .inr (2, [.ref (ad 21), .ref (ad 22), .ref (ad 23), .ref (ad 24), .ref (ad 25)])), ((ad 25), .inl (cI, 64, .inl (fun _ => 0))), ((ad 5), .inr (7, [.int 0, .ref u1, .ref u2, .ref (ad 35), .ref (ad 0), .ref (ad 1), .ref (ad 2), .ref (ad 3), .ref (ad 4)])), (u1, .inr (3, [.int 0, .ref v1])), (u2, .inr (3, [.int 0, .ref v2]))] H := hP
    have hD : va_D A [(h0, .inr (9, [.ref (ad 0), .ref (ad 1), .ref (ad 2), .ref (ad 3), .ref (ad 4), .ref (ad 5), .ref (ad 6)])), ((ad 0), .inr (8, [.int 0, .int 0, .ref (ad 7), .ref (ad 8), .ref (ad 9), .ref (ad 10), .ref (ad 11), .ref (ad 12), .ref (ad 13), .ref (ad 14), .ref (ad 15), .ref (ad 16)])), ((ad 1), .inr (0, [.int (nw + 1), .ref (ad 17), .ref (ad 18), .ref (ad 19), .ref (ad 20), .ref (ad 0)])), ((ad 2), .inr (2, [.ref (ad 21), .ref (ad 22), .ref (ad 23), .ref (ad 24), .ref (ad 25)])), ((ad 25), .inl (cI, 64, .inl (fun _ => 0))), ((ad 5), .inr (7, [.int 0, .ref u1, .ref u2, .ref (ad 35), .ref (ad 0), .ref (ad 1), .ref (ad 2), .ref (ad 3), .ref (ad 4)])), (u1, .inr (3, [.int 0, .ref v1])), (u2, .inr (3, [.int 0, .ref v2]))] := hD
    refine lv_iload_n hx hb dX9_tick_50 rfl (lv_at hl 2 rfl) ?_
    refine lv_aload_n hx hb dX9_tick_51 rfl (lv_at hl 0 rfl) ?_
    refine va_get (ci := 9) (v := .ref (ad 5)) (C := RX9) (T := TX9) (N := 7) hx hb hts m_X9_tick_C9 hown hK hP 0 rfl rfl 5 (by decide) (hts (.fieldLink RX9 55 "RoutingDomain" "simulator" "LRoutingDomain$Simulator;") (m_X9_tick_O _ (by decide +kernel))) (fun _ h9 => h9) rfl dX9_tick_52 ?_
    refine kVi (As := []) (rest := [.int 0]) (wr := [(h0, .inr (9, [.ref (ad 0), .ref (ad 1), .ref (ad 2), .ref (ad 3), .ref (ad 4), .ref (ad 5), .ref (ad 6)])), ((ad 0), .inr (8, [.int 0, .int 0, .ref (ad 7), .ref (ad 8), .ref (ad 9), .ref (ad 10), .ref (ad 11), .ref (ad 12), .ref (ad 13), .ref (ad 14), .ref (ad 15), .ref (ad 16)])), ((ad 1), .inr (0, [.int (nw + 1), .ref (ad 17), .ref (ad 18), .ref (ad 19), .ref (ad 20), .ref (ad 0)])), ((ad 2), .inr (2, [.ref (ad 21), .ref (ad 22), .ref (ad 23), .ref (ad 24), .ref (ad 25)])), ((ad 25), .inl (cI, 64, .inl (fun _ => 0)))]) (w2 := fun _ => [(h0, .inr (9, [.ref (ad 0), .ref (ad 1), .ref (ad 2), .ref (ad 3), .ref (ad 4), .ref (ad 5), .ref (ad 6)])), ((ad 0), .inr (8, [.int 0, .int 0, .ref (ad 7), .ref (ad 8), .ref (ad 9), .ref (ad 10), .ref (ad 11), .ref (ad 12), .ref (ad 13), .ref (ad 14), .ref (ad 15), .ref (ad 16)])), ((ad 1), .inr (0, [.int (nw + 1), .ref (ad 17), .ref (ad 18), .ref (ad 19), .ref (ad 20), .ref (ad 0)])), ((ad 2), .inr (2, [.ref (ad 21), .ref (ad 22), .ref (ad 23), .ref (ad 24), .ref (ad 25)])), ((ad 25), .inl (cI, 64, .inl (fun _ => 0))), ((ad 5), .inr (7, [.int 0, .ref u2, .ref u1, .ref (ad 35), .ref (ad 0), .ref (ad 1), .ref (ad 2), .ref (ad 3), .ref (ad 4)])), (u1, .inr (3, [.int 0, .ref v1])), (u2, .inr (3, [.int 0, .ref v2]))]) ⟨hx, hb, hml, hown, hts⟩ hN (c_X7_deliverMail l D cI cZ cJ (ad 5) ad u1 u2 v1 v2) (cwV 0 hts (k_gV (fun w h => m_X9_tick_O w ((by decide +kernel : ∀ w ∈ ([.methodLink RX9 174 yX7_deliverMail, .instanceMethod yX7_deliverMail, .selects RX7 yX7_deliverMail yX7_deliverMail, .initialized RX7] : List Cond), w ∈ O_X9_tick) w h)) m_X9_tick_WX7_deliverMail gd_X7_deliverMail) rfl rfl rfl (by decide +kernel) ⟨Nat.le_of_ble_eq_true rfl, Nat.le_of_ble_eq_true rfl⟩) hK hP hD hS hA [5, 6, 7] [0, 1, 2, 3, 4] [0, 1, 2, 3, 4, 5, 6, 7] rfl rfl ⟨by decide, by decide, by decide⟩ (by decide) (fun _ => rfl) 7 0 rfl rfl rfl rfl hl.1 rfl (Nat.le_of_ble_eq_true rfl) dX9_tick_55 ⟨Nat.le_of_ble_eq_true rfl, Nat.le_of_ble_eq_true rfl⟩ (fun r u H locs hw hP hD hS => ?_)
    have hP : va_P D vwCl [(h0, .inr (9, [.ref (ad 0), .ref (ad 1), .ref (ad 2), .ref (ad 3), .ref (ad 4), .ref (ad 5), .ref (ad 6)])), ((ad 0), .inr (8, [.int 0, .int 0, .ref (ad 7), .ref (ad 8), .ref (ad 9), .ref (ad 10), .ref (ad 11), .ref (ad 12), .ref (ad 13), .ref (ad 14), .ref (ad 15), .ref (ad 16)])), ((ad 1), .inr (0, [.int (nw + 1), .ref (ad 17), .ref (ad 18), .ref (ad 19), .ref (ad 20), .ref (ad 0)])), ((ad 2), .inr (2, [.ref (ad 21), .ref (ad 22), .ref (ad 23), .ref (ad 24), .ref (ad 25)])), ((ad 25), .inl (cI, 64, .inl (fun _ => 0))), ((ad 5), .inr (7, [.int 0, .ref u2, .ref u1, .ref (ad 35), .ref (ad 0), .ref (ad 1), .ref (ad 2), .ref (ad 3), .ref (ad 4)])), (u1, .inr (3, [.int 0, .ref v1])), (u2, .inr (3, [.int 0, .ref v2]))] H := hP
    have hD : va_D A [(h0, .inr (9, [.ref (ad 0), .ref (ad 1), .ref (ad 2), .ref (ad 3), .ref (ad 4), .ref (ad 5), .ref (ad 6)])), ((ad 0), .inr (8, [.int 0, .int 0, .ref (ad 7), .ref (ad 8), .ref (ad 9), .ref (ad 10), .ref (ad 11), .ref (ad 12), .ref (ad 13), .ref (ad 14), .ref (ad 15), .ref (ad 16)])), ((ad 1), .inr (0, [.int (nw + 1), .ref (ad 17), .ref (ad 18), .ref (ad 19), .ref (ad 20), .ref (ad 0)])), ((ad 2), .inr (2, [.ref (ad 21), .ref (ad 22), .ref (ad 23), .ref (ad 24), .ref (ad 25)])), ((ad 25), .inl (cI, 64, .inl (fun _ => 0))), ((ad 5), .inr (7, [.int 0, .ref u2, .ref u1, .ref (ad 35), .ref (ad 0), .ref (ad 1), .ref (ad 2), .ref (ad 3), .ref (ad 4)])), (u1, .inr (3, [.int 0, .ref v1])), (u2, .inr (3, [.int 0, .ref v2]))] := hD
    obtain rfl : r = 0 := hw
    refine lv_iadd hx hb dX9_tick_58 ?_
    refine lv_topi (fun y ey => ?_)
    obtain rfl : y = 0 := ey.trans (by decide)
    refine lv_istore_n (lv' := [(2, .int 0), (0, .ref h0), (1, .int (nI n)), (3, .int (nI i))]) hx hb dX9_tick_59 rfl hl (by decide) rfl (fun ls hl => ?_)
    refine lv_aload_n hx hb dX9_tick_60 rfl (lv_at hl 1 rfl) ?_
    refine va_get (ci := 9) (v := .ref (ad 5)) (C := RX9) (T := TX9) (N := 7) hx hb hts m_X9_tick_C9 hown hK hP 0 rfl rfl 5 (by decide) (hts (.fieldLink RX9 55 "RoutingDomain" "simulator" "LRoutingDomain$Simulator;") (m_X9_tick_O _ (by decide +kernel))) (fun _ h9 => h9) rfl dX9_tick_61 ?_
    refine kVv (As := []) (rest := []) (wr := [(h0, .inr (9, [.ref (ad 0), .ref (ad 1), .ref (ad 2), .ref (ad 3), .ref (ad 4), .ref (ad 5), .ref (ad 6)])), ((ad 1), .inr (0, [.int (nw + 1), .ref (ad 17), .ref (ad 18), .ref (ad 19), .ref (ad 20), .ref (ad 0)])), ((ad 2), .inr (2, [.ref (ad 21), .ref (ad 22), .ref (ad 23), .ref (ad 24), .ref (ad 25)])), ((ad 25), .inl (cI, 64, .inl (fun _ => 0))), (u1, .inr (3, [.int 0, .ref v1])), (u2, .inr (3, [.int 0, .ref v2]))]) (w2 := fun _ => [(h0, .inr (9, [.ref (ad 0), .ref (ad 1), .ref (ad 2), .ref (ad 3), .ref (ad 4), .ref (ad 5), .ref (ad 6)])), ((ad 0), .inr (8, [.int 0, .int 0, .ref (ad 7), .ref (ad 8), .ref (ad 9), .ref (ad 10), .ref (ad 11), .ref (ad 12), .ref (ad 13), .ref (ad 14), .ref (ad 15), .ref (ad 16)])), ((ad 1), .inr (0, [.int (nw + 1), .ref (ad 17), .ref (ad 18), .ref (ad 19), .ref (ad 20), .ref (ad 0)])), ((ad 2), .inr (2, [.ref (ad 21), .ref (ad 22), .ref (ad 23), .ref (ad 24), .ref (ad 25)])), ((ad 25), .inl (cI, 64, .inl (fun _ => 0))), ((ad 5), .inr (7, [.int 0, .ref u2, .ref u1, .ref (ad 35), .ref (ad 0), .ref (ad 1), .ref (ad 2), .ref (ad 3), .ref (ad 4)])), (u1, .inr (3, [.int 0, .ref v1])), (u2, .inr (3, [.int 0, .ref v2]))]) ⟨hx, hb, hml, hown, hts⟩ hN (c_X7_letRoutersAct l D cI cZ cJ (ad 5) ad u2 u1) (cwV 0 hts (k_gV (fun w h => m_X9_tick_O w ((by decide +kernel : ∀ w ∈ ([.methodLink RX9 177 yX7_letRoutersAct, .instanceMethod yX7_letRoutersAct, .selects RX7 yX7_letRoutersAct yX7_letRoutersAct, .initialized RX7] : List Cond), w ∈ O_X9_tick) w h)) m_X9_tick_WX7_letRoutersAct gd_X7_letRoutersAct) rfl rfl rfl (by decide +kernel) ⟨Nat.le_of_ble_eq_true rfl, Nat.le_of_ble_eq_true rfl⟩) hK hP hD hS hA [5, 1] [0, 2, 3, 4, 6, 7] [0, 7, 1, 2, 3, 6, 4, 5] rfl rfl ⟨by decide, by decide, by decide⟩ (by decide) (fun _ => rfl) 7 0 rfl rfl rfl rfl hl.1 rfl (Nat.le_of_ble_eq_true rfl) dX9_tick_64 ⟨Nat.le_of_ble_eq_true rfl, Nat.le_of_ble_eq_true rfl⟩ (fun u H locs hw hP hD hS => ?_)
    have hP : va_P D vwCl [(h0, .inr (9, [.ref (ad 0), .ref (ad 1), .ref (ad 2), .ref (ad 3), .ref (ad 4), .ref (ad 5), .ref (ad 6)])), ((ad 0), .inr (8, [.int 0, .int 0, .ref (ad 7), .ref (ad 8), .ref (ad 9), .ref (ad 10), .ref (ad 11), .ref (ad 12), .ref (ad 13), .ref (ad 14), .ref (ad 15), .ref (ad 16)])), ((ad 1), .inr (0, [.int (nw + 1), .ref (ad 17), .ref (ad 18), .ref (ad 19), .ref (ad 20), .ref (ad 0)])), ((ad 2), .inr (2, [.ref (ad 21), .ref (ad 22), .ref (ad 23), .ref (ad 24), .ref (ad 25)])), ((ad 25), .inl (cI, 64, .inl (fun _ => 0))), ((ad 5), .inr (7, [.int 0, .ref u2, .ref u1, .ref (ad 35), .ref (ad 0), .ref (ad 1), .ref (ad 2), .ref (ad 3), .ref (ad 4)])), (u1, .inr (3, [.int 0, .ref v1])), (u2, .inr (3, [.int 0, .ref v2]))] H := hP
    have hD : va_D A [(h0, .inr (9, [.ref (ad 0), .ref (ad 1), .ref (ad 2), .ref (ad 3), .ref (ad 4), .ref (ad 5), .ref (ad 6)])), ((ad 0), .inr (8, [.int 0, .int 0, .ref (ad 7), .ref (ad 8), .ref (ad 9), .ref (ad 10), .ref (ad 11), .ref (ad 12), .ref (ad 13), .ref (ad 14), .ref (ad 15), .ref (ad 16)])), ((ad 1), .inr (0, [.int (nw + 1), .ref (ad 17), .ref (ad 18), .ref (ad 19), .ref (ad 20), .ref (ad 0)])), ((ad 2), .inr (2, [.ref (ad 21), .ref (ad 22), .ref (ad 23), .ref (ad 24), .ref (ad 25)])), ((ad 25), .inl (cI, 64, .inl (fun _ => 0))), ((ad 5), .inr (7, [.int 0, .ref u2, .ref u1, .ref (ad 35), .ref (ad 0), .ref (ad 1), .ref (ad 2), .ref (ad 3), .ref (ad 4)])), (u1, .inr (3, [.int 0, .ref v1])), (u2, .inr (3, [.int 0, .ref v2]))] := hD
    refine lv_aload_n hx hb dX9_tick_67 rfl (lv_at hl 1 rfl) ?_
    refine va_get (ci := 9) (v := .ref (ad 0)) (C := RX9) (T := TX9) (N := 7) hx hb hts m_X9_tick_C9 hown hK hP 0 rfl rfl 0 (by decide) (hts (.fieldLink RX9 12 "RoutingDomain" "topology" "LRoutingDomain$Topology;") (m_X9_tick_O _ (by decide +kernel))) (fun _ h9 => h9) rfl dX9_tick_68 ?_
    refine kVv (As := []) (rest := []) (wr := [(h0, .inr (9, [.ref (ad 0), .ref (ad 1), .ref (ad 2), .ref (ad 3), .ref (ad 4), .ref (ad 5), .ref (ad 6)])), ((ad 1), .inr (0, [.int (nw + 1), .ref (ad 17), .ref (ad 18), .ref (ad 19), .ref (ad 20), .ref (ad 0)])), ((ad 2), .inr (2, [.ref (ad 21), .ref (ad 22), .ref (ad 23), .ref (ad 24), .ref (ad 25)])), ((ad 25), .inl (cI, 64, .inl (fun _ => 0))), ((ad 5), .inr (7, [.int 0, .ref u2, .ref u1, .ref (ad 35), .ref (ad 0), .ref (ad 1), .ref (ad 2), .ref (ad 3), .ref (ad 4)])), (u1, .inr (3, [.int 0, .ref v1])), (u2, .inr (3, [.int 0, .ref v2]))]) (w2 := fun _ => [(h0, .inr (9, [.ref (ad 0), .ref (ad 1), .ref (ad 2), .ref (ad 3), .ref (ad 4), .ref (ad 5), .ref (ad 6)])), ((ad 0), .inr (8, [.int 0, .int 0, .ref (ad 7), .ref (ad 8), .ref (ad 9), .ref (ad 10), .ref (ad 11), .ref (ad 12), .ref (ad 13), .ref (ad 14), .ref (ad 15), .ref (ad 16)])), ((ad 1), .inr (0, [.int (nw + 1), .ref (ad 17), .ref (ad 18), .ref (ad 19), .ref (ad 20), .ref (ad 0)])), ((ad 2), .inr (2, [.ref (ad 21), .ref (ad 22), .ref (ad 23), .ref (ad 24), .ref (ad 25)])), ((ad 25), .inl (cI, 64, .inl (fun _ => 0))), ((ad 5), .inr (7, [.int 0, .ref u2, .ref u1, .ref (ad 35), .ref (ad 0), .ref (ad 1), .ref (ad 2), .ref (ad 3), .ref (ad 4)])), (u1, .inr (3, [.int 0, .ref v1])), (u2, .inr (3, [.int 0, .ref v2]))]) ⟨hx, hb, hml, hown, hts⟩ hN (c_X8_rememberUsableLinks l D cI cZ cJ (ad 0) ad) (cwV 0 hts (k_gV (fun w h => m_X9_tick_O w ((by decide +kernel : ∀ w ∈ ([.methodLink RX9 180 yX8_rememberUsableLinks, .instanceMethod yX8_rememberUsableLinks, .selects RX8 yX8_rememberUsableLinks yX8_rememberUsableLinks, .initialized RX8] : List Cond), w ∈ O_X9_tick) w h)) m_X9_tick_WX8_rememberUsableLinks gd_X8_rememberUsableLinks) rfl rfl rfl (by decide +kernel) ⟨Nat.le_of_ble_eq_true rfl, Nat.le_of_ble_eq_true rfl⟩) hK hP hD hS hA [1] [0, 2, 3, 4, 5, 6, 7] [0, 7, 1, 2, 3, 4, 5, 6] rfl rfl ⟨by decide, by decide, by decide⟩ (by decide) (fun _ => rfl) 8 0 rfl rfl rfl rfl hl.1 rfl (Nat.le_of_ble_eq_true rfl) dX9_tick_71 ⟨Nat.le_of_ble_eq_true rfl, Nat.le_of_ble_eq_true rfl⟩ (fun u H locs hw hP hD hS => ?_)
    have hP : va_P D vwCl [(h0, .inr (9, [.ref (ad 0), .ref (ad 1), .ref (ad 2), .ref (ad 3), .ref (ad 4), .ref (ad 5), .ref (ad 6)])), ((ad 0), .inr (8, [.int 0, .int 0, .ref (ad 7), .ref (ad 8), .ref (ad 9), .ref (ad 10), .ref (ad 11), .ref (ad 12), .ref (ad 13), .ref (ad 14), .ref (ad 15), .ref (ad 16)])), ((ad 1), .inr (0, [.int (nw + 1), .ref (ad 17), .ref (ad 18), .ref (ad 19), .ref (ad 20), .ref (ad 0)])), ((ad 2), .inr (2, [.ref (ad 21), .ref (ad 22), .ref (ad 23), .ref (ad 24), .ref (ad 25)])), ((ad 25), .inl (cI, 64, .inl (fun _ => 0))), ((ad 5), .inr (7, [.int 0, .ref u2, .ref u1, .ref (ad 35), .ref (ad 0), .ref (ad 1), .ref (ad 2), .ref (ad 3), .ref (ad 4)])), (u1, .inr (3, [.int 0, .ref v1])), (u2, .inr (3, [.int 0, .ref v2]))] H := hP
    have hD : va_D A [(h0, .inr (9, [.ref (ad 0), .ref (ad 1), .ref (ad 2), .ref (ad 3), .ref (ad 4), .ref (ad 5), .ref (ad 6)])), ((ad 0), .inr (8, [.int 0, .int 0, .ref (ad 7), .ref (ad 8), .ref (ad 9), .ref (ad 10), .ref (ad 11), .ref (ad 12), .ref (ad 13), .ref (ad 14), .ref (ad 15), .ref (ad 16)])), ((ad 1), .inr (0, [.int (nw + 1), .ref (ad 17), .ref (ad 18), .ref (ad 19), .ref (ad 20), .ref (ad 0)])), ((ad 2), .inr (2, [.ref (ad 21), .ref (ad 22), .ref (ad 23), .ref (ad 24), .ref (ad 25)])), ((ad 25), .inl (cI, 64, .inl (fun _ => 0))), ((ad 5), .inr (7, [.int 0, .ref u2, .ref u1, .ref (ad 35), .ref (ad 0), .ref (ad 1), .ref (ad 2), .ref (ad 3), .ref (ad 4)])), (u1, .inr (3, [.int 0, .ref v1])), (u2, .inr (3, [.int 0, .ref v2]))] := hD
    refine lv_iinc (v := (nI (i + 1))) (lv' := [(3, .int (nI (i + 1))), (2, .int 0), (0, .ref h0), (1, .int (nI n))]) hx hb dX9_tick_74 hl (k := 3) rfl (by rw [← nI_1]; rfl) (by decide) rfl (fun ls hl => ?_)
    refine lv_goto (tgt := 25) hx hb dX9_tick_77 (by decide) ?_
    exact ih (i + 1, (nw + 1), u2, u1, v2, v1) H locs ls (by show i + 1 ≤ n; omega) (by show n - (i + 1) < n - i; omega) (hP.sub [0, 1, 2, 3, 4, 5, 7, 6] rfl) (hD.sub [0, 1, 2, 3, 4, 5, 7, 6] (by decide) rfl) hS (lv_sub hl [2, 3, 1, 0] rfl)

