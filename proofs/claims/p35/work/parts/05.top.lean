theorem dX8_createRouter_0 : decode cX8_createRouter 0 = .ok (.aload_n 0, 1) := by decide +kernel
theorem dX8_createRouter_1 : decode cX8_createRouter 1 = .ok (.getfield 49, 3) := by decide +kernel
theorem dX8_createRouter_4 : decode cX8_createRouter 4 = .ok (.istore_n 1, 1) := by decide +kernel
theorem dX8_createRouter_5 : decode cX8_createRouter 5 = .ok (.aload_n 0, 1) := by decide +kernel
theorem dX8_createRouter_6 : decode cX8_createRouter 6 = .ok (.getfield 9, 3) := by decide +kernel
theorem dX8_createRouter_9 : decode cX8_createRouter 9 = .ok (.iload_n 1, 1) := by decide +kernel
theorem dX8_createRouter_10 : decode cX8_createRouter 10 = .ok (.iconst 1, 1) := by decide +kernel
theorem dX8_createRouter_11 : decode cX8_createRouter 11 = .ok (.bastore, 1) := by decide +kernel
theorem dX8_createRouter_12 : decode cX8_createRouter 12 = .ok (.aload_n 0, 1) := by decide +kernel
theorem dX8_createRouter_13 : decode cX8_createRouter 13 = .ok (.dup, 1) := by decide +kernel
theorem dX8_createRouter_14 : decode cX8_createRouter 14 = .ok (.getfield 49, 3) := by decide +kernel
theorem dX8_createRouter_17 : decode cX8_createRouter 17 = .ok (.iconst 1, 1) := by decide +kernel
theorem dX8_createRouter_18 : decode cX8_createRouter 18 = .ok (.iadd, 1) := by decide +kernel
theorem dX8_createRouter_19 : decode cX8_createRouter 19 = .ok (.putfield 49, 3) := by decide +kernel
theorem dX8_createRouter_22 : decode cX8_createRouter 22 = .ok (.iload_n 1, 1) := by decide +kernel
theorem dX8_createRouter_23 : decode cX8_createRouter 23 = .ok (.ireturn, 1) := by decide +kernel
theorem dX8_createLink_0 : decode cX8_createLink 0 = .ok (.aload_n 0, 1) := by decide +kernel
theorem dX8_createLink_1 : decode cX8_createLink 1 = .ok (.getfield 53, 3) := by decide +kernel
theorem dX8_createLink_4 : decode cX8_createLink 4 = .ok (.istore 6, 2) := by decide +kernel
theorem dX8_createLink_6 : decode cX8_createLink 6 = .ok (.aload_n 0, 1) := by decide +kernel
theorem dX8_createLink_7 : decode cX8_createLink 7 = .ok (.getfield 15, 3) := by decide +kernel
theorem dX8_createLink_10 : decode cX8_createLink 10 = .ok (.iload 6, 2) := by decide +kernel
theorem dX8_createLink_12 : decode cX8_createLink 12 = .ok (.iconst 1, 1) := by decide +kernel
theorem dX8_createLink_13 : decode cX8_createLink 13 = .ok (.bastore, 1) := by decide +kernel
theorem dX8_createLink_14 : decode cX8_createLink 14 = .ok (.aload_n 0, 1) := by decide +kernel
theorem dX8_createLink_15 : decode cX8_createLink 15 = .ok (.getfield 21, 3) := by decide +kernel
theorem dX8_createLink_18 : decode cX8_createLink 18 = .ok (.iload 6, 2) := by decide +kernel
theorem dX8_createLink_20 : decode cX8_createLink 20 = .ok (.iload_n 3, 1) := by decide +kernel
theorem dX8_createLink_21 : decode cX8_createLink 21 = .ok (.iastore, 1) := by decide +kernel
theorem dX8_createLink_22 : decode cX8_createLink 22 = .ok (.aload_n 0, 1) := by decide +kernel
theorem dX8_createLink_23 : decode cX8_createLink 23 = .ok (.iload 6, 2) := by decide +kernel
theorem dX8_createLink_25 : decode cX8_createLink 25 = .ok (.iconst 2, 1) := by decide +kernel
theorem dX8_createLink_26 : decode cX8_createLink 26 = .ok (.imul, 1) := by decide +kernel
theorem dX8_createLink_27 : decode cX8_createLink 27 = .ok (.iload_n 1, 1) := by decide +kernel
theorem dX8_createLink_28 : decode cX8_createLink 28 = .ok (.iload_n 3, 1) := by decide +kernel
theorem dX8_createLink_29 : decode cX8_createLink 29 = .ok (.iload 4, 2) := by decide +kernel
theorem dX8_createLink_31 : decode cX8_createLink 31 = .ok (.invokevirtual 56, 3) := by decide +kernel
theorem dX8_createLink_34 : decode cX8_createLink 34 = .ok (.aload_n 0, 1) := by decide +kernel
theorem dX8_createLink_35 : decode cX8_createLink 35 = .ok (.iload 6, 2) := by decide +kernel
theorem dX8_createLink_37 : decode cX8_createLink 37 = .ok (.iconst 2, 1) := by decide +kernel
theorem dX8_createLink_38 : decode cX8_createLink 38 = .ok (.imul, 1) := by decide +kernel
theorem dX8_createLink_39 : decode cX8_createLink 39 = .ok (.iconst 1, 1) := by decide +kernel
theorem dX8_createLink_40 : decode cX8_createLink 40 = .ok (.iadd, 1) := by decide +kernel
theorem dX8_createLink_41 : decode cX8_createLink 41 = .ok (.iload_n 2, 1) := by decide +kernel
theorem dX8_createLink_42 : decode cX8_createLink 42 = .ok (.iload_n 3, 1) := by decide +kernel
theorem dX8_createLink_43 : decode cX8_createLink 43 = .ok (.iload 5, 2) := by decide +kernel
theorem dX8_createLink_45 : decode cX8_createLink 45 = .ok (.invokevirtual 56, 3) := by decide +kernel
theorem dX8_createLink_48 : decode cX8_createLink 48 = .ok (.aload_n 0, 1) := by decide +kernel
theorem dX8_createLink_49 : decode cX8_createLink 49 = .ok (.dup, 1) := by decide +kernel
theorem dX8_createLink_50 : decode cX8_createLink 50 = .ok (.getfield 53, 3) := by decide +kernel
theorem dX8_createLink_53 : decode cX8_createLink 53 = .ok (.iconst 1, 1) := by decide +kernel
theorem dX8_createLink_54 : decode cX8_createLink 54 = .ok (.iadd, 1) := by decide +kernel
theorem dX8_createLink_55 : decode cX8_createLink 55 = .ok (.putfield 53, 3) := by decide +kernel
theorem dX8_createLink_58 : decode cX8_createLink 58 = .ok (.iload 6, 2) := by decide +kernel
theorem dX8_createLink_60 : decode cX8_createLink 60 = .ok (.ireturn, 1) := by decide +kernel
theorem dX8_attach_0 : decode cX8_attach 0 = .ok (.aload_n 0, 1) := by decide +kernel
theorem dX8_attach_1 : decode cX8_attach 1 = .ok (.getfield 25, 3) := by decide +kernel
theorem dX8_attach_4 : decode cX8_attach 4 = .ok (.iload_n 1, 1) := by decide +kernel
theorem dX8_attach_5 : decode cX8_attach 5 = .ok (.iload_n 2, 1) := by decide +kernel
theorem dX8_attach_6 : decode cX8_attach 6 = .ok (.iastore, 1) := by decide +kernel
theorem dX8_attach_7 : decode cX8_attach 7 = .ok (.aload_n 0, 1) := by decide +kernel
theorem dX8_attach_8 : decode cX8_attach 8 = .ok (.getfield 28, 3) := by decide +kernel
theorem dX8_attach_11 : decode cX8_attach 11 = .ok (.iload_n 1, 1) := by decide +kernel
theorem dX8_attach_12 : decode cX8_attach 12 = .ok (.iload 4, 2) := by decide +kernel
theorem dX8_attach_14 : decode cX8_attach 14 = .ok (.iastore, 1) := by decide +kernel
theorem dX8_attach_15 : decode cX8_attach 15 = .ok (.aload_n 0, 1) := by decide +kernel
theorem dX8_attach_16 : decode cX8_attach 16 = .ok (.getfield 37, 3) := by decide +kernel
theorem dX8_attach_19 : decode cX8_attach 19 = .ok (.iload_n 2, 1) := by decide +kernel
theorem dX8_attach_20 : decode cX8_attach 20 = .ok (.bipush 40, 2) := by decide +kernel
theorem dX8_attach_22 : decode cX8_attach 22 = .ok (.imul, 1) := by decide +kernel
theorem dX8_attach_23 : decode cX8_attach 23 = .ok (.aload_n 0, 1) := by decide +kernel
theorem dX8_attach_24 : decode cX8_attach 24 = .ok (.getfield 31, 3) := by decide +kernel
theorem dX8_attach_27 : decode cX8_attach 27 = .ok (.iload_n 2, 1) := by decide +kernel
theorem dX8_attach_28 : decode cX8_attach 28 = .ok (.iaload, 1) := by decide +kernel
theorem dX8_attach_29 : decode cX8_attach 29 = .ok (.iadd, 1) := by decide +kernel
theorem dX8_attach_30 : decode cX8_attach 30 = .ok (.iload_n 1, 1) := by decide +kernel
theorem dX8_attach_31 : decode cX8_attach 31 = .ok (.iastore, 1) := by decide +kernel
theorem dX8_attach_32 : decode cX8_attach 32 = .ok (.aload_n 0, 1) := by decide +kernel
theorem dX8_attach_33 : decode cX8_attach 33 = .ok (.getfield 31, 3) := by decide +kernel
theorem dX8_attach_36 : decode cX8_attach 36 = .ok (.iload_n 2, 1) := by decide +kernel
theorem dX8_attach_37 : decode cX8_attach 37 = .ok (.dup2, 1) := by decide +kernel
theorem dX8_attach_38 : decode cX8_attach 38 = .ok (.iaload, 1) := by decide +kernel
theorem dX8_attach_39 : decode cX8_attach 39 = .ok (.iconst 1, 1) := by decide +kernel
theorem dX8_attach_40 : decode cX8_attach 40 = .ok (.iadd, 1) := by decide +kernel
theorem dX8_attach_41 : decode cX8_attach 41 = .ok (.iastore, 1) := by decide +kernel
theorem dX8_attach_42 : decode cX8_attach 42 = .ok (.aload_n 0, 1) := by decide +kernel
theorem dX8_attach_43 : decode cX8_attach 43 = .ok (.getfield 40, 3) := by decide +kernel
theorem dX8_attach_46 : decode cX8_attach 46 = .ok (.iload_n 2, 1) := by decide +kernel
theorem dX8_attach_47 : decode cX8_attach 47 = .ok (.iconst 4, 1) := by decide +kernel
theorem dX8_attach_48 : decode cX8_attach 48 = .ok (.imul, 1) := by decide +kernel
theorem dX8_attach_49 : decode cX8_attach 49 = .ok (.iload_n 3, 1) := by decide +kernel
theorem dX8_attach_50 : decode cX8_attach 50 = .ok (.iadd, 1) := by decide +kernel
theorem dX8_attach_51 : decode cX8_attach 51 = .ok (.iconst 1, 1) := by decide +kernel
theorem dX8_attach_52 : decode cX8_attach 52 = .ok (.bastore, 1) := by decide +kernel
theorem dX8_attach_53 : decode cX8_attach 53 = .ok (.return_, 1) := by decide +kernel
theorem dX8_switchLink_0 : decode cX8_switchLink 0 = .ok (.aload_n 0, 1) := by decide +kernel
theorem dX8_switchLink_1 : decode cX8_switchLink 1 = .ok (.getfield 15, 3) := by decide +kernel
theorem dX8_switchLink_4 : decode cX8_switchLink 4 = .ok (.iload_n 1, 1) := by decide +kernel
theorem dX8_switchLink_5 : decode cX8_switchLink 5 = .ok (.baload, 1) := by decide +kernel
theorem dX8_switchLink_6 : decode cX8_switchLink 6 = .ok (.istore_n 3, 1) := by decide +kernel
theorem dX8_switchLink_7 : decode cX8_switchLink 7 = .ok (.aload_n 0, 1) := by decide +kernel
theorem dX8_switchLink_8 : decode cX8_switchLink 8 = .ok (.getfield 15, 3) := by decide +kernel
theorem dX8_switchLink_11 : decode cX8_switchLink 11 = .ok (.iload_n 1, 1) := by decide +kernel
theorem dX8_switchLink_12 : decode cX8_switchLink 12 = .ok (.iload_n 2, 1) := by decide +kernel
theorem dX8_switchLink_13 : decode cX8_switchLink 13 = .ok (.bastore, 1) := by decide +kernel
theorem dX8_switchLink_14 : decode cX8_switchLink 14 = .ok (.iload_n 2, 1) := by decide +kernel
theorem dX8_switchLink_15 : decode cX8_switchLink 15 = .ok (.ifCond .ne 10, 3) := by decide +kernel
theorem dX8_switchLink_18 : decode cX8_switchLink 18 = .ok (.aload_n 0, 1) := by decide +kernel
theorem dX8_switchLink_19 : decode cX8_switchLink 19 = .ok (.getfield 18, 3) := by decide +kernel
theorem dX8_switchLink_22 : decode cX8_switchLink 22 = .ok (.iload_n 1, 1) := by decide +kernel
theorem dX8_switchLink_23 : decode cX8_switchLink 23 = .ok (.iconst 0, 1) := by decide +kernel
theorem dX8_switchLink_24 : decode cX8_switchLink 24 = .ok (.bastore, 1) := by decide +kernel
theorem dX8_switchLink_25 : decode cX8_switchLink 25 = .ok (.iload_n 3, 1) := by decide +kernel
theorem dX8_switchLink_26 : decode cX8_switchLink 26 = .ok (.ireturn, 1) := by decide +kernel
theorem dX8_switchRouter_0 : decode cX8_switchRouter 0 = .ok (.aload_n 0, 1) := by decide +kernel
theorem dX8_switchRouter_1 : decode cX8_switchRouter 1 = .ok (.getfield 9, 3) := by decide +kernel
theorem dX8_switchRouter_4 : decode cX8_switchRouter 4 = .ok (.iload_n 1, 1) := by decide +kernel
theorem dX8_switchRouter_5 : decode cX8_switchRouter 5 = .ok (.baload, 1) := by decide +kernel
theorem dX8_switchRouter_6 : decode cX8_switchRouter 6 = .ok (.istore_n 3, 1) := by decide +kernel
theorem dX8_switchRouter_7 : decode cX8_switchRouter 7 = .ok (.aload_n 0, 1) := by decide +kernel
theorem dX8_switchRouter_8 : decode cX8_switchRouter 8 = .ok (.getfield 9, 3) := by decide +kernel
theorem dX8_switchRouter_11 : decode cX8_switchRouter 11 = .ok (.iload_n 1, 1) := by decide +kernel
theorem dX8_switchRouter_12 : decode cX8_switchRouter 12 = .ok (.iload_n 2, 1) := by decide +kernel
theorem dX8_switchRouter_13 : decode cX8_switchRouter 13 = .ok (.bastore, 1) := by decide +kernel
theorem dX8_switchRouter_14 : decode cX8_switchRouter 14 = .ok (.iload_n 2, 1) := by decide +kernel
theorem dX8_switchRouter_15 : decode cX8_switchRouter 15 = .ok (.ifCond .ne 38, 3) := by decide +kernel
theorem dX8_switchRouter_18 : decode cX8_switchRouter 18 = .ok (.iconst 0, 1) := by decide +kernel
theorem dX8_switchRouter_19 : decode cX8_switchRouter 19 = .ok (.istore 4, 2) := by decide +kernel
theorem dX8_switchRouter_21 : decode cX8_switchRouter 21 = .ok (.iload 4, 2) := by decide +kernel
theorem dX8_switchRouter_23 : decode cX8_switchRouter 23 = .ok (.aload_n 0, 1) := by decide +kernel
theorem dX8_switchRouter_24 : decode cX8_switchRouter 24 = .ok (.getfield 31, 3) := by decide +kernel
theorem dX8_switchRouter_27 : decode cX8_switchRouter 27 = .ok (.iload_n 1, 1) := by decide +kernel
theorem dX8_switchRouter_28 : decode cX8_switchRouter 28 = .ok (.iaload, 1) := by decide +kernel
theorem dX8_switchRouter_29 : decode cX8_switchRouter 29 = .ok (.if_icmp .ge 24, 3) := by decide +kernel
theorem dX8_switchRouter_32 : decode cX8_switchRouter 32 = .ok (.aload_n 0, 1) := by decide +kernel
theorem dX8_switchRouter_33 : decode cX8_switchRouter 33 = .ok (.getfield 18, 3) := by decide +kernel
theorem dX8_switchRouter_36 : decode cX8_switchRouter 36 = .ok (.aload_n 0, 1) := by decide +kernel
theorem dX8_switchRouter_37 : decode cX8_switchRouter 37 = .ok (.iload_n 1, 1) := by decide +kernel
theorem dX8_switchRouter_38 : decode cX8_switchRouter 38 = .ok (.iload 4, 2) := by decide +kernel
theorem dX8_switchRouter_40 : decode cX8_switchRouter 40 = .ok (.invokevirtual 60, 3) := by decide +kernel
theorem dX8_switchRouter_43 : decode cX8_switchRouter 43 = .ok (.iconst 1, 1) := by decide +kernel
theorem dX8_switchRouter_44 : decode cX8_switchRouter 44 = .ok (.ishr, 1) := by decide +kernel
theorem dX8_switchRouter_45 : decode cX8_switchRouter 45 = .ok (.iconst 0, 1) := by decide +kernel
theorem dX8_switchRouter_46 : decode cX8_switchRouter 46 = .ok (.bastore, 1) := by decide +kernel
theorem dX8_switchRouter_47 : decode cX8_switchRouter 47 = .ok (.iinc 4 1, 3) := by decide +kernel
theorem dX8_switchRouter_50 : decode cX8_switchRouter 50 = .ok (.goto (-29), 3) := by decide +kernel
theorem dX8_switchRouter_53 : decode cX8_switchRouter 53 = .ok (.iload_n 3, 1) := by decide +kernel
theorem dX8_switchRouter_54 : decode cX8_switchRouter 54 = .ok (.ireturn, 1) := by decide +kernel
theorem dX8_portAt_0 : decode cX8_portAt 0 = .ok (.aload_n 0, 1) := by decide +kernel
theorem dX8_portAt_1 : decode cX8_portAt 1 = .ok (.getfield 37, 3) := by decide +kernel
theorem dX8_portAt_4 : decode cX8_portAt 4 = .ok (.iload_n 1, 1) := by decide +kernel
theorem dX8_portAt_5 : decode cX8_portAt 5 = .ok (.bipush 40, 2) := by decide +kernel
theorem dX8_portAt_7 : decode cX8_portAt 7 = .ok (.imul, 1) := by decide +kernel
theorem dX8_portAt_8 : decode cX8_portAt 8 = .ok (.iload_n 2, 1) := by decide +kernel
theorem dX8_portAt_9 : decode cX8_portAt 9 = .ok (.iadd, 1) := by decide +kernel
theorem dX8_portAt_10 : decode cX8_portAt 10 = .ok (.iaload, 1) := by decide +kernel
theorem dX8_portAt_11 : decode cX8_portAt 11 = .ok (.ireturn, 1) := by decide +kernel
theorem dX8_canCarry_0 : decode cX8_canCarry 0 = .ok (.aload_n 0, 1) := by decide +kernel
theorem dX8_canCarry_1 : decode cX8_canCarry 1 = .ok (.getfield 15, 3) := by decide +kernel
theorem dX8_canCarry_4 : decode cX8_canCarry 4 = .ok (.iload_n 1, 1) := by decide +kernel
theorem dX8_canCarry_5 : decode cX8_canCarry 5 = .ok (.baload, 1) := by decide +kernel
theorem dX8_canCarry_6 : decode cX8_canCarry 6 = .ok (.ifCond .eq 41, 3) := by decide +kernel
theorem dX8_canCarry_9 : decode cX8_canCarry 9 = .ok (.aload_n 0, 1) := by decide +kernel
theorem dX8_canCarry_10 : decode cX8_canCarry 10 = .ok (.getfield 9, 3) := by decide +kernel
theorem dX8_canCarry_13 : decode cX8_canCarry 13 = .ok (.aload_n 0, 1) := by decide +kernel
theorem dX8_canCarry_14 : decode cX8_canCarry 14 = .ok (.getfield 25, 3) := by decide +kernel
theorem dX8_canCarry_17 : decode cX8_canCarry 17 = .ok (.iload_n 1, 1) := by decide +kernel
theorem dX8_canCarry_18 : decode cX8_canCarry 18 = .ok (.iconst 2, 1) := by decide +kernel
theorem dX8_canCarry_19 : decode cX8_canCarry 19 = .ok (.imul, 1) := by decide +kernel
theorem dX8_canCarry_20 : decode cX8_canCarry 20 = .ok (.iaload, 1) := by decide +kernel
theorem dX8_canCarry_21 : decode cX8_canCarry 21 = .ok (.baload, 1) := by decide +kernel
theorem dX8_canCarry_22 : decode cX8_canCarry 22 = .ok (.ifCond .eq 25, 3) := by decide +kernel
theorem dX8_canCarry_25 : decode cX8_canCarry 25 = .ok (.aload_n 0, 1) := by decide +kernel
theorem dX8_canCarry_26 : decode cX8_canCarry 26 = .ok (.getfield 9, 3) := by decide +kernel
theorem dX8_canCarry_29 : decode cX8_canCarry 29 = .ok (.aload_n 0, 1) := by decide +kernel
theorem dX8_canCarry_30 : decode cX8_canCarry 30 = .ok (.getfield 25, 3) := by decide +kernel
theorem dX8_canCarry_33 : decode cX8_canCarry 33 = .ok (.iload_n 1, 1) := by decide +kernel
theorem dX8_canCarry_34 : decode cX8_canCarry 34 = .ok (.iconst 2, 1) := by decide +kernel
theorem dX8_canCarry_35 : decode cX8_canCarry 35 = .ok (.imul, 1) := by decide +kernel
theorem dX8_canCarry_36 : decode cX8_canCarry 36 = .ok (.iconst 1, 1) := by decide +kernel
theorem dX8_canCarry_37 : decode cX8_canCarry 37 = .ok (.iadd, 1) := by decide +kernel
theorem dX8_canCarry_38 : decode cX8_canCarry 38 = .ok (.iaload, 1) := by decide +kernel
theorem dX8_canCarry_39 : decode cX8_canCarry 39 = .ok (.baload, 1) := by decide +kernel
theorem dX8_canCarry_40 : decode cX8_canCarry 40 = .ok (.ifCond .eq 7, 3) := by decide +kernel
theorem dX8_canCarry_43 : decode cX8_canCarry 43 = .ok (.iconst 1, 1) := by decide +kernel
theorem dX8_canCarry_44 : decode cX8_canCarry 44 = .ok (.goto 4, 3) := by decide +kernel
theorem dX8_canCarry_47 : decode cX8_canCarry 47 = .ok (.iconst 0, 1) := by decide +kernel
theorem dX8_canCarry_48 : decode cX8_canCarry 48 = .ok (.ireturn, 1) := by decide +kernel
theorem dX8_touches_0 : decode cX8_touches 0 = .ok (.iload_n 2, 1) := by decide +kernel
theorem dX8_touches_1 : decode cX8_touches 1 = .ok (.invokestatic 64, 3) := by decide +kernel
theorem dX8_touches_4 : decode cX8_touches 4 = .ok (.ifCond .eq 20, 3) := by decide +kernel
theorem dX8_touches_7 : decode cX8_touches 7 = .ok (.aload_n 0, 1) := by decide +kernel
theorem dX8_touches_8 : decode cX8_touches 8 = .ok (.getfield 40, 3) := by decide +kernel
theorem dX8_touches_11 : decode cX8_touches 11 = .ok (.iload_n 1, 1) := by decide +kernel
theorem dX8_touches_12 : decode cX8_touches 12 = .ok (.iconst 4, 1) := by decide +kernel
theorem dX8_touches_13 : decode cX8_touches 13 = .ok (.imul, 1) := by decide +kernel
theorem dX8_touches_14 : decode cX8_touches 14 = .ok (.iload_n 2, 1) := by decide +kernel
theorem dX8_touches_15 : decode cX8_touches 15 = .ok (.iadd, 1) := by decide +kernel
theorem dX8_touches_16 : decode cX8_touches 16 = .ok (.baload, 1) := by decide +kernel
theorem dX8_touches_17 : decode cX8_touches 17 = .ok (.ifCond .eq 7, 3) := by decide +kernel
theorem dX8_touches_20 : decode cX8_touches 20 = .ok (.iconst 1, 1) := by decide +kernel
theorem dX8_touches_21 : decode cX8_touches 21 = .ok (.goto 4, 3) := by decide +kernel
theorem dX8_touches_24 : decode cX8_touches 24 = .ok (.iconst 0, 1) := by decide +kernel
theorem dX8_touches_25 : decode cX8_touches 25 = .ok (.ireturn, 1) := by decide +kernel
theorem dX8_joinsAreas_0 : decode cX8_joinsAreas 0 = .ok (.iload_n 1, 1) := by decide +kernel
theorem dX8_joinsAreas_1 : decode cX8_joinsAreas 1 = .ok (.iconst 4, 1) := by decide +kernel
theorem dX8_joinsAreas_2 : decode cX8_joinsAreas 2 = .ok (.imul, 1) := by decide +kernel
theorem dX8_joinsAreas_3 : decode cX8_joinsAreas 3 = .ok (.istore_n 2, 1) := by decide +kernel
theorem dX8_joinsAreas_4 : decode cX8_joinsAreas 4 = .ok (.aload_n 0, 1) := by decide +kernel
theorem dX8_joinsAreas_5 : decode cX8_joinsAreas 5 = .ok (.getfield 40, 3) := by decide +kernel
theorem dX8_joinsAreas_8 : decode cX8_joinsAreas 8 = .ok (.iload_n 2, 1) := by decide +kernel
theorem dX8_joinsAreas_9 : decode cX8_joinsAreas 9 = .ok (.baload, 1) := by decide +kernel
theorem dX8_joinsAreas_10 : decode cX8_joinsAreas 10 = .ok (.ifCond .eq 40, 3) := by decide +kernel
theorem dX8_joinsAreas_13 : decode cX8_joinsAreas 13 = .ok (.aload_n 0, 1) := by decide +kernel
theorem dX8_joinsAreas_14 : decode cX8_joinsAreas 14 = .ok (.getfield 40, 3) := by decide +kernel
theorem dX8_joinsAreas_17 : decode cX8_joinsAreas 17 = .ok (.iload_n 2, 1) := by decide +kernel
theorem dX8_joinsAreas_18 : decode cX8_joinsAreas 18 = .ok (.iconst 1, 1) := by decide +kernel
theorem dX8_joinsAreas_19 : decode cX8_joinsAreas 19 = .ok (.iadd, 1) := by decide +kernel
theorem dX8_joinsAreas_20 : decode cX8_joinsAreas 20 = .ok (.baload, 1) := by decide +kernel
theorem dX8_joinsAreas_21 : decode cX8_joinsAreas 21 = .ok (.ifCond .ne 25, 3) := by decide +kernel
theorem dX8_joinsAreas_24 : decode cX8_joinsAreas 24 = .ok (.aload_n 0, 1) := by decide +kernel
theorem dX8_joinsAreas_25 : decode cX8_joinsAreas 25 = .ok (.getfield 40, 3) := by decide +kernel
theorem dX8_joinsAreas_28 : decode cX8_joinsAreas 28 = .ok (.iload_n 2, 1) := by decide +kernel
theorem dX8_joinsAreas_29 : decode cX8_joinsAreas 29 = .ok (.iconst 2, 1) := by decide +kernel
theorem dX8_joinsAreas_30 : decode cX8_joinsAreas 30 = .ok (.iadd, 1) := by decide +kernel
theorem dX8_joinsAreas_31 : decode cX8_joinsAreas 31 = .ok (.baload, 1) := by decide +kernel
theorem dX8_joinsAreas_32 : decode cX8_joinsAreas 32 = .ok (.ifCond .ne 14, 3) := by decide +kernel
theorem dX8_joinsAreas_35 : decode cX8_joinsAreas 35 = .ok (.aload_n 0, 1) := by decide +kernel
theorem dX8_joinsAreas_36 : decode cX8_joinsAreas 36 = .ok (.getfield 40, 3) := by decide +kernel
theorem dX8_joinsAreas_39 : decode cX8_joinsAreas 39 = .ok (.iload_n 2, 1) := by decide +kernel
theorem dX8_joinsAreas_40 : decode cX8_joinsAreas 40 = .ok (.iconst 3, 1) := by decide +kernel
theorem dX8_joinsAreas_41 : decode cX8_joinsAreas 41 = .ok (.iadd, 1) := by decide +kernel
theorem dX8_joinsAreas_42 : decode cX8_joinsAreas 42 = .ok (.baload, 1) := by decide +kernel
theorem dX8_joinsAreas_43 : decode cX8_joinsAreas 43 = .ok (.ifCond .eq 7, 3) := by decide +kernel
theorem dX8_joinsAreas_46 : decode cX8_joinsAreas 46 = .ok (.iconst 1, 1) := by decide +kernel
theorem dX8_joinsAreas_47 : decode cX8_joinsAreas 47 = .ok (.goto 4, 3) := by decide +kernel
theorem dX8_joinsAreas_50 : decode cX8_joinsAreas 50 = .ok (.iconst 0, 1) := by decide +kernel
theorem dX8_joinsAreas_51 : decode cX8_joinsAreas 51 = .ok (.ireturn, 1) := by decide +kernel
theorem dX8_announcementAt_0 : decode cX8_announcementAt 0 = .ok (.iload_n 1, 1) := by decide +kernel
theorem dX8_announcementAt_1 : decode cX8_announcementAt 1 = .ok (.iconst 4, 1) := by decide +kernel
theorem dX8_announcementAt_2 : decode cX8_announcementAt 2 = .ok (.imul, 1) := by decide +kernel
theorem dX8_announcementAt_3 : decode cX8_announcementAt 3 = .ok (.iload_n 2, 1) := by decide +kernel
theorem dX8_announcementAt_4 : decode cX8_announcementAt 4 = .ok (.iadd, 1) := by decide +kernel
theorem dX8_announcementAt_5 : decode cX8_announcementAt 5 = .ok (.bipush 16, 2) := by decide +kernel
theorem dX8_announcementAt_7 : decode cX8_announcementAt 7 = .ok (.imul, 1) := by decide +kernel
theorem dX8_announcementAt_8 : decode cX8_announcementAt 8 = .ok (.iload_n 3, 1) := by decide +kernel
theorem dX8_announcementAt_9 : decode cX8_announcementAt 9 = .ok (.iadd, 1) := by decide +kernel
theorem dX8_announcementAt_10 : decode cX8_announcementAt 10 = .ok (.ireturn, 1) := by decide +kernel
theorem dX8_metricToList_0 : decode cX8_metricToList 0 = .ok (.aload_n 0, 1) := by decide +kernel
theorem dX8_metricToList_1 : decode cX8_metricToList 1 = .ok (.iload_n 1, 1) := by decide +kernel
theorem dX8_metricToList_2 : decode cX8_metricToList 2 = .ok (.iconst 1, 1) := by decide +kernel
theorem dX8_metricToList_3 : decode cX8_metricToList 3 = .ok (.ishr, 1) := by decide +kernel
theorem dX8_metricToList_4 : decode cX8_metricToList 4 = .ok (.invokevirtual 68, 3) := by decide +kernel
theorem dX8_metricToList_7 : decode cX8_metricToList 7 = .ok (.ifCond .eq 12, 3) := by decide +kernel
theorem dX8_metricToList_10 : decode cX8_metricToList 10 = .ok (.aload_n 0, 1) := by decide +kernel
theorem dX8_metricToList_11 : decode cX8_metricToList 11 = .ok (.getfield 28, 3) := by decide +kernel
theorem dX8_metricToList_14 : decode cX8_metricToList 14 = .ok (.iload_n 1, 1) := by decide +kernel
theorem dX8_metricToList_15 : decode cX8_metricToList 15 = .ok (.iaload, 1) := by decide +kernel
theorem dX8_metricToList_16 : decode cX8_metricToList 16 = .ok (.goto 4, 3) := by decide +kernel
theorem dX8_metricToList_19 : decode cX8_metricToList 19 = .ok (.iconst 0, 1) := by decide +kernel
theorem dX8_metricToList_20 : decode cX8_metricToList 20 = .ok (.ireturn, 1) := by decide +kernel
theorem dX8_rememberUsableLinks_0 : decode cX8_rememberUsableLinks 0 = .ok (.iconst 0, 1) := by decide +kernel
theorem dX8_rememberUsableLinks_1 : decode cX8_rememberUsableLinks 1 = .ok (.istore_n 1, 1) := by decide +kernel
theorem dX8_rememberUsableLinks_2 : decode cX8_rememberUsableLinks 2 = .ok (.iload_n 1, 1) := by decide +kernel
theorem dX8_rememberUsableLinks_3 : decode cX8_rememberUsableLinks 3 = .ok (.aload_n 0, 1) := by decide +kernel
theorem dX8_rememberUsableLinks_4 : decode cX8_rememberUsableLinks 4 = .ok (.getfield 53, 3) := by decide +kernel
theorem dX8_rememberUsableLinks_7 : decode cX8_rememberUsableLinks 7 = .ok (.if_icmp .ge 20, 3) := by decide +kernel
theorem dX8_rememberUsableLinks_10 : decode cX8_rememberUsableLinks 10 = .ok (.aload_n 0, 1) := by decide +kernel
theorem dX8_rememberUsableLinks_11 : decode cX8_rememberUsableLinks 11 = .ok (.getfield 18, 3) := by decide +kernel
theorem dX8_rememberUsableLinks_14 : decode cX8_rememberUsableLinks 14 = .ok (.iload_n 1, 1) := by decide +kernel
theorem dX8_rememberUsableLinks_15 : decode cX8_rememberUsableLinks 15 = .ok (.aload_n 0, 1) := by decide +kernel
theorem dX8_rememberUsableLinks_16 : decode cX8_rememberUsableLinks 16 = .ok (.iload_n 1, 1) := by decide +kernel
theorem dX8_rememberUsableLinks_17 : decode cX8_rememberUsableLinks 17 = .ok (.invokevirtual 68, 3) := by decide +kernel
theorem dX8_rememberUsableLinks_20 : decode cX8_rememberUsableLinks 20 = .ok (.bastore, 1) := by decide +kernel
theorem dX8_rememberUsableLinks_21 : decode cX8_rememberUsableLinks 21 = .ok (.iinc 1 1, 3) := by decide +kernel
theorem dX8_rememberUsableLinks_24 : decode cX8_rememberUsableLinks 24 = .ok (.goto (-22), 3) := by decide +kernel
theorem dX8_rememberUsableLinks_27 : decode cX8_rememberUsableLinks 27 = .ok (.return_, 1) := by decide +kernel
theorem dX9_isArea_0 : decode cX9_isArea 0 = .ok (.iload_n 0, 1) := by decide +kernel
theorem dX9_isArea_1 : decode cX9_isArea 1 = .ok (.ifCond .lt 12, 3) := by decide +kernel
theorem dX9_isArea_4 : decode cX9_isArea 4 = .ok (.iload_n 0, 1) := by decide +kernel
theorem dX9_isArea_5 : decode cX9_isArea 5 = .ok (.iconst 4, 1) := by decide +kernel
theorem dX9_isArea_6 : decode cX9_isArea 6 = .ok (.if_icmp .ge 7, 3) := by decide +kernel
theorem dX9_isArea_9 : decode cX9_isArea 9 = .ok (.iconst 1, 1) := by decide +kernel
theorem dX9_isArea_10 : decode cX9_isArea 10 = .ok (.goto 4, 3) := by decide +kernel
theorem dX9_isArea_13 : decode cX9_isArea 13 = .ok (.iconst 0, 1) := by decide +kernel
theorem dX9_isArea_14 : decode cX9_isArea 14 = .ok (.ireturn, 1) := by decide +kernel
theorem gdC_0 : wsX00.all goodWord = true := by decide +kernel
theorem gdC_1 : wsX10.all goodWord = true := by decide +kernel
theorem gdC_2 : wsX20.all goodWord = true := by decide +kernel
theorem gdC_3 : wsX30.all goodWord = true := by decide +kernel
theorem gdC_4 : wsX40.all goodWord = true := by decide +kernel
theorem gdC_5 : wsX50.all goodWord = true := by decide +kernel
theorem gdC_6 : wsX60.all goodWord = true := by decide +kernel
theorem gdC_7 : wsX70.all goodWord = true := by decide +kernel
theorem gdC_8 : wsX80.all goodWord = true := by decide +kernel
theorem gdC_9 : wsX90.all goodWord = true := by decide +kernel
def cc (ru lu : Nat → Bool) (rp : Nat → Nat) (l : Nat) : Bool := lu l && (ru (rp (l * 2)) && ru (rp (l * 2 + 1)))
def swB (po : Nat → Nat) (r i : Nat) (w : Nat → Bool) : Nat → Bool := fs w (po (r * 40 + i) / 2) false
def rmB (ru lu : Nat → Bool) (rp : Nat → Nat) (i : Nat) (w : Nat → Bool) : Nat → Bool := fs w i (cc ru lu rp i)
def mtl (ru lu : Nat → Bool) (rp mp : Nat → Nat) (p : Nat) : Nat := if cc ru lu rp (p / 2) = true then mp p else 0
def O_portAt : List Cond := [.fieldLink RX8 37 "RoutingDomain$Topology" "ports" "[I"]
def W_portAt : List Cond := .code yX8_portAt cX8_portAt 3 (some .int) :: (O_portAt ++ wsX80)
theorem m_portAt_O : ∀ w ∈ O_portAt, w ∈ W_portAt := fun _ h => List.mem_cons_of_mem _ (List.mem_append_left _ h)
theorem m_portAt_C8 : ∀ w ∈ wsX80, w ∈ W_portAt := fun _ h => List.mem_cons_of_mem _ (List.mem_append_right _ h)
theorem gdO_portAt : O_portAt.all goodWord = true := by decide +kernel
theorem gd_portAt : W_portAt.all goodWord = true := k_all_cons rfl (k_all_app gdO_portAt gdC_8)
set_option maxHeartbeats 4000000 in
set_option maxRecDepth 100000 in
theorem c_portAt (l : Launch) (D : va_G) (cI cZ cJ : ClassId) (h0 : Nat) (ad : Nat → Nat) (rc : Nat) (lc : Nat) (po : Nat → Nat) (r : Nat) (i : Nat) (hr : r < 16) (hi : i < 40) : kMi l yX8_portAt W_portAt { frames := 0, cells := 0, slots := 0, locals := 0 } 0 0 D (kT cI cZ cJ) [.ref h0, .int (nI r), .int (nI i)] [(h0, .inr (8, [.int (nI rc), .int (nI lc), .ref (ad 7), .ref (ad 8), .ref (ad 9), .ref (ad 10), .ref (ad 11), .ref (ad 12), .ref (ad 13), .ref (ad 14), .ref (ad 15), .ref (ad 16)])), ((ad 15), .inl (cI, 640, .inl (eN po)))] (S := Unit) (fun res_ _ => res_ = (nI (po (r * 40 + i)))) (fun _ => [(h0, .inr (8, [.int (nI rc), .int (nI lc), .ref (ad 7), .ref (ad 8), .ref (ad 9), .ref (ad 10), .ref (ad 11), .ref (ad 12), .ref (ad 13), .ref (ad 14), .ref (ad 15), .ref (ad 16)])), ((ad 15), .inl (cI, 640, .inl (eN po)))]) := by
  refine kMi_of (lv := [(0, .ref h0), (1, .int (nI r)), (2, .int (nI i))]) RX8 "portAt" (by decide +kernel) rfl rfl rfl (Nat.le_of_ble_eq_true rfl) rfl ?_
  intro p e s m below meth c A H locs ls E hA hK hP hD hS hl
  obtain ⟨hx, hb, hr_, hts, hown, hlocks, hml, hin, hN⟩ := id E
  refine lv_aload_n hx hb dX8_portAt_0 rfl (lv_at hl 0 rfl) ?_
  refine va_get (ci := 8) (v := .ref (ad 15)) (C := RX8) (T := TX8) (N := 12) hx hb hts m_portAt_C8 hown hK hP 0 rfl rfl 10 (by decide) (hts (.fieldLink RX8 37 "RoutingDomain$Topology" "ports" "[I") (m_portAt_O _ (by decide +kernel))) (fun _ h9 => h9) rfl dX8_portAt_1 ?_
  refine lv_iload_n hx hb dX8_portAt_4 rfl (lv_at hl 1 rfl) ?_
  refine lv_bipush (v := 40) hx hb dX8_portAt_5 (by decide) ?_
  refine lv_imul hx hb dX8_portAt_7 ?_
  refine lv_topi (fun y ey => ?_)
  obtain rfl : y = (nI (r * 40)) := ey.trans (pk_mul r 40)
  refine lv_iload_n hx hb dX8_portAt_8 rfl (lv_at hl 2 rfl) ?_
  refine lv_iadd hx hb dX8_portAt_9 ?_
  refine lv_topi (fun y ey => ?_)
  obtain rfl : y = (nI ((r * 40) + i)) := ey.trans (nI_add (r * 40) i)
  refine va_iald hx hb hK hP 1 0 rfl rfl (vp_in_nI (show ((r * 40) + i) < 640 from by omega) (by decide)) dX8_portAt_10 ?_
  refine lv_topi (fun y ey => ?_)
  obtain rfl : y = (nI (po ((r * 40) + i))) := ey.trans (ldN (f := po) (j := ((r * 40) + i)) (by omega))
  exact k_iret E hK hP hD hS () [0, 1] (by decide) rfl (by first | rfl | (simp [bI, oI]; done) | (simp [bI, oI]; rfl)) (Nat.le_of_ble_eq_true rfl) (Nat.le_of_ble_eq_true rfl) dX8_portAt_11

def O_announcementAt : List Cond := []
def W_announcementAt : List Cond := .code yX8_announcementAt cX8_announcementAt 4 (some .int) :: O_announcementAt
theorem m_announcementAt_O : ∀ w ∈ O_announcementAt, w ∈ W_announcementAt := fun _ h => List.mem_cons_of_mem _ h
theorem gdO_announcementAt : O_announcementAt.all goodWord = true := by decide +kernel
theorem gd_announcementAt : W_announcementAt.all goodWord = true := k_all_cons rfl gdO_announcementAt
set_option maxHeartbeats 4000000 in
set_option maxRecDepth 100000 in
theorem c_announcementAt (l : Launch) (D : va_G) (cI cZ cJ : ClassId) (h0 : Nat) (ad : Nat → Nat) (rc : Nat) (lc : Nat) (r : Nat) (a : Nat) (n : Nat) : kMi l yX8_announcementAt W_announcementAt { frames := 0, cells := 0, slots := 0, locals := 0 } 0 0 D (kT cI cZ cJ) [.ref h0, .int (nI r), .int (nI a), .int (nI n)] [(h0, .inr (8, [.int (nI rc), .int (nI lc), .ref (ad 7), .ref (ad 8), .ref (ad 9), .ref (ad 10), .ref (ad 11), .ref (ad 12), .ref (ad 13), .ref (ad 14), .ref (ad 15), .ref (ad 16)]))] (S := Unit) (fun res_ _ => res_ = (nI ((r * 4 + a) * 16 + n))) (fun _ => [(h0, .inr (8, [.int (nI rc), .int (nI lc), .ref (ad 7), .ref (ad 8), .ref (ad 9), .ref (ad 10), .ref (ad 11), .ref (ad 12), .ref (ad 13), .ref (ad 14), .ref (ad 15), .ref (ad 16)]))]) := by
  refine kMi_of (lv := [(0, .ref h0), (1, .int (nI r)), (2, .int (nI a)), (3, .int (nI n))]) RX8 "announcementAt" (by decide +kernel) rfl rfl rfl (Nat.le_of_ble_eq_true rfl) rfl ?_
  intro p e s m below meth c A H locs ls E hA hK hP hD hS hl
  obtain ⟨hx, hb, hr_, hts, hown, hlocks, hml, hin, hN⟩ := id E
  refine lv_iload_n hx hb dX8_announcementAt_0 rfl (lv_at hl 1 rfl) ?_
  refine lv_iconst (v := 4) hx hb dX8_announcementAt_1 (by decide) ?_
  refine lv_imul hx hb dX8_announcementAt_2 ?_
  refine lv_topi (fun y ey => ?_)
  obtain rfl : y = (nI (r * 4)) := ey.trans (pk_mul r 4)
  refine lv_iload_n hx hb dX8_announcementAt_3 rfl (lv_at hl 2 rfl) ?_
  refine lv_iadd hx hb dX8_announcementAt_4 ?_
  refine lv_topi (fun y ey => ?_)
  obtain rfl : y = (nI ((r * 4) + a)) := ey.trans (nI_add (r * 4) a)
  refine lv_bipush (v := 16) hx hb dX8_announcementAt_5 (by decide) ?_
  refine lv_imul hx hb dX8_announcementAt_7 ?_
  refine lv_topi (fun y ey => ?_)
  obtain rfl : y = (nI (((r * 4) + a) * 16)) := ey.trans (pk_mul ((r * 4) + a) 16)
  refine lv_iload_n hx hb dX8_announcementAt_8 rfl (lv_at hl 3 rfl) ?_
  refine lv_iadd hx hb dX8_announcementAt_9 ?_
  refine lv_topi (fun y ey => ?_)
  obtain rfl : y = (nI ((((r * 4) + a) * 16) + n)) := ey.trans (nI_add (((r * 4) + a) * 16) n)
  exact k_iret E hK hP hD hS () [0] (by decide) rfl (by first | rfl | (simp [bI, oI]; done) | (simp [bI, oI]; rfl)) (Nat.le_of_ble_eq_true rfl) (Nat.le_of_ble_eq_true rfl) dX8_announcementAt_10

def O_isArea : List Cond := []
def W_isArea : List Cond := .code yX9_isArea cX9_isArea 1 (some .boolean) :: O_isArea
theorem m_isArea_O : ∀ w ∈ O_isArea, w ∈ W_isArea := fun _ h => List.mem_cons_of_mem _ h
theorem gdO_isArea : O_isArea.all goodWord = true := by decide +kernel
theorem gd_isArea : W_isArea.all goodWord = true := k_all_cons rfl gdO_isArea
set_option maxHeartbeats 4000000 in
set_option maxRecDepth 100000 in
theorem c_isArea (l : Launch) (D : va_G) (cI cZ cJ : ClassId) (a : Nat) (ha : a < 2 ^ 31) : kMi l yX9_isArea W_isArea { frames := 0, cells := 0, slots := 0, locals := 0 } 0 0 D (kT cI cZ cJ) [.int (nI a)] [] (S := Unit) (fun res_ _ => res_ = (bI (decide (a < 4)))) (fun _ => []) := by
  refine kMi_of (lv := [(0, .int (nI a))]) RX9 "isArea" (by decide +kernel) rfl rfl rfl (Nat.le_of_ble_eq_true rfl) rfl ?_
  intro p e s m below meth c A H locs ls E hA hK hP hD hS hl
  obtain ⟨hx, hb, hr_, hts, hown, hlocks, hml, hin, hN⟩ := id E
  refine lv_iload_n hx hb dX9_isArea_0 rfl (lv_at hl 0 rfl) ?_
  refine lv_if_lt (tgt := 13) hx hb dX9_isArea_1 (by decide) (fun c_1 => False.elim (by have n_1 : a < 0 := (nI_ltI (a := a) (b := 0) (by omega) (by omega)).mp c_1; omega)) (fun c_1 => ?_)
  have n_1 : ¬ a < 0 := fun h => c_1 ((nI_ltI (a := a) (b := 0) (by omega) (by omega)).mpr h)
  refine lv_iload_n hx hb dX9_isArea_4 rfl (lv_at hl 0 rfl) ?_
  refine lv_iconst (v := 4) hx hb dX9_isArea_5 (by decide) ?_
  refine lv_icmp_ge (tgt := 13) hx hb dX9_isArea_6 (by decide) (fun c_6 => ?_) (fun c_6 => ?_)
  · have n_6 : 4 ≤ a := (nI_leI (a := 4) (b := a) (by omega) (by omega)).mp c_6
    refine lv_iconst (v := 0) hx hb dX9_isArea_13 (by decide) ?_
    exact k_zret E hK hP hD hS () [] (by decide) rfl (by first | rfl | (simp [bI, oI, n_1, n_6]; done) | (simp [bI, oI, n_1, n_6]; rfl)) (by decide) (Nat.le_of_ble_eq_true rfl) (Nat.le_of_ble_eq_true rfl) dX9_isArea_14
  · have n_6 : ¬ 4 ≤ a := fun h => c_6 ((nI_leI (a := 4) (b := a) (by omega) (by omega)).mpr h)
    refine lv_iconst (v := 1) hx hb dX9_isArea_9 (by decide) ?_
    refine lv_goto (tgt := 14) hx hb dX9_isArea_10 (by decide) ?_
    exact k_zret E hK hP hD hS () [] (by decide) rfl (by first | rfl | (simp [bI, oI, n_1, n_6]; done) | (simp [bI, oI, n_1, n_6]; rfl)) (by decide) (Nat.le_of_ble_eq_true rfl) (Nat.le_of_ble_eq_true rfl) dX9_isArea_14

def O_touches : List Cond := [.initialized RX9, .static yX9_isArea, .fieldLink RX8 40 "RoutingDomain$Topology" "attached" "[Z"]
def W_touches : List Cond := .code yX8_touches cX8_touches 3 (some .boolean) :: (O_touches ++ (W_isArea ++ wsX80))
theorem m_touches_O : ∀ w ∈ O_touches, w ∈ W_touches := fun _ h => List.mem_cons_of_mem _ (List.mem_append_left _ h)
theorem m_touches_WisArea : ∀ w ∈ W_isArea, w ∈ W_touches := fun _ h => List.mem_cons_of_mem _ (List.mem_append_right _ (List.mem_append_left _ h))
theorem m_touches_C8 : ∀ w ∈ wsX80, w ∈ W_touches := fun _ h => List.mem_cons_of_mem _ (List.mem_append_right _ (List.mem_append_right _ h))
theorem gdO_touches : O_touches.all goodWord = true := by decide +kernel
theorem gd_touches : W_touches.all goodWord = true := k_all_cons rfl (k_all_app gdO_touches (k_all_app gd_isArea gdC_8))
set_option maxHeartbeats 4000000 in
set_option maxRecDepth 100000 in
theorem c_touches (l : Launch) (D : va_G) (cI cZ cJ : ClassId) (h0 : Nat) (ad : Nat → Nat) (rc : Nat) (lc : Nat) (at_ : Nat → Bool) (r : Nat) (a : Nat) (hr : r < 16) (ha : a < 2 ^ 31) : kMi l yX8_touches W_touches { frames := 1, cells := 0, slots := 0, locals := 30 } 0 0 D (kT cI cZ cJ) [.ref h0, .int (nI r), .int (nI a)] [(h0, .inr (8, [.int (nI rc), .int (nI lc), .ref (ad 7), .ref (ad 8), .ref (ad 9), .ref (ad 10), .ref (ad 11), .ref (ad 12), .ref (ad 13), .ref (ad 14), .ref (ad 15), .ref (ad 16)])), ((ad 16), .inl (cZ, 64, .inl (eB at_)))] (S := Unit) (fun res_ _ => res_ = (bI (decide (a < 4) && at_ (r * 4 + a)))) (fun _ => [(h0, .inr (8, [.int (nI rc), .int (nI lc), .ref (ad 7), .ref (ad 8), .ref (ad 9), .ref (ad 10), .ref (ad 11), .ref (ad 12), .ref (ad 13), .ref (ad 14), .ref (ad 15), .ref (ad 16)])), ((ad 16), .inl (cZ, 64, .inl (eB at_)))]) := by
  refine kMi_of (lv := [(0, .ref h0), (1, .int (nI r)), (2, .int (nI a))]) RX8 "touches" (by decide +kernel) rfl rfl rfl (Nat.le_of_ble_eq_true rfl) rfl ?_
  intro p e s m below meth c A H locs ls E hA hK hP hD hS hl
  obtain ⟨hx, hb, hr_, hts, hown, hlocks, hml, hin, hN⟩ := id E
  refine lv_iload_n hx hb dX8_touches_0 rfl (lv_at hl 2 rfl) ?_
  refine kSNi (As := [.int (nI a)]) (rest := []) (wr := [(h0, .inr (8, [.int (nI rc), .int (nI lc), .ref (ad 7), .ref (ad 8), .ref (ad 9), .ref (ad 10), .ref (ad 11), .ref (ad 12), .ref (ad 13), .ref (ad 14), .ref (ad 15), .ref (ad 16)])), ((ad 16), .inl (cZ, 64, .inl (eB at_)))]) (w2 := fun _ => [(h0, .inr (8, [.int (nI rc), .int (nI lc), .ref (ad 7), .ref (ad 8), .ref (ad 9), .ref (ad 10), .ref (ad 11), .ref (ad 12), .ref (ad 13), .ref (ad 14), .ref (ad 15), .ref (ad 16)])), ((ad 16), .inl (cZ, 64, .inl (eB at_)))]) ⟨hx, hb, hml, hown, hts⟩ hN (c_isArea l D cI cZ cJ a ha) ⟨va_cnB (host := "RoutingDomain") 1 hts (goodIn_sub m_touches_WisArea gd_isArea) rfl rfl rfl (hN (_, 64, _, _) (by decide +kernel) : va_Nw (.methodLinkNest RX8 64 yX9_isArea "RoutingDomain") s) (hts (.initialized RX9) (m_touches_O _ (by decide +kernel))) (by decide +kernel) ⟨Nat.le_of_ble_eq_true rfl, Nat.le_of_ble_eq_true rfl⟩, (hts (.static yX9_isArea) (m_touches_O _ (by decide +kernel))), trivial⟩ hK hP hD hS hA [] [0, 1] [0, 1] rfl rfl ⟨by decide, by decide, by decide⟩ (by decide) (fun _ => rfl) rfl hl.1 rfl (Nat.le_of_ble_eq_true rfl) dX8_touches_1 ⟨Nat.le_of_ble_eq_true rfl, Nat.le_of_ble_eq_true rfl⟩ (fun res_ u H locs hw hP hD hS => ?_)
  have hP : va_P D vwCl [(h0, .inr (8, [.int (nI rc), .int (nI lc), .ref (ad 7), .ref (ad 8), .ref (ad 9), .ref (ad 10), .ref (ad 11), .ref (ad 12), .ref (ad 13), .ref (ad 14), .ref (ad 15), .ref (ad 16)])), ((ad 16), .inl (cZ, 64, .inl (eB at_)))] H := hP
  have hD : va_D A [(h0, .inr (8, [.int (nI rc), .int (nI lc), .ref (ad 7), .ref (ad 8), .ref (ad 9), .ref (ad 10), .ref (ad 11), .ref (ad 12), .ref (ad 13), .ref (ad 14), .ref (ad 15), .ref (ad 16)])), ((ad 16), .inl (cZ, 64, .inl (eB at_)))] := hD
  obtain rfl : res_ = (bI (decide (a < 4))) := hw
  refine lv_if_eq (tgt := 24) hx hb dX8_touches_4 (by decide) (fun c_4 => ?_) (fun c_4 => ?_)
  · have n_4 : (decide (a < 4)) = false := bI_0 c_4
    refine lv_iconst (v := 0) hx hb dX8_touches_24 (by decide) ?_
    exact k_zret E hK hP hD hS () [0, 1] (by decide) rfl (by first | rfl | (simp [bI, oI, n_4]; done) | (simp [bI, oI, n_4]; rfl)) (by decide) (Nat.le_of_ble_eq_true rfl) (Nat.le_of_ble_eq_true rfl) dX8_touches_25
  · have n_4 : (decide (a < 4)) = true := bI_1 c_4
    have ha4 : a < 4 := of_decide_eq_true n_4
    refine lv_aload_n hx hb dX8_touches_7 rfl (lv_at hl 0 rfl) ?_
    refine va_get (ci := 8) (v := .ref (ad 16)) (C := RX8) (T := TX8) (N := 12) hx hb hts m_touches_C8 hown hK hP 0 rfl rfl 11 (by decide) (hts (.fieldLink RX8 40 "RoutingDomain$Topology" "attached" "[Z") (m_touches_O _ (by decide +kernel))) (fun _ h9 => h9) rfl dX8_touches_8 ?_
    refine lv_iload_n hx hb dX8_touches_11 rfl (lv_at hl 1 rfl) ?_
    refine lv_iconst (v := 4) hx hb dX8_touches_12 (by decide) ?_
    refine lv_imul hx hb dX8_touches_13 ?_
    refine lv_topi (fun y ey => ?_)
    obtain rfl : y = (nI (r * 4)) := ey.trans (pk_mul r 4)
    refine lv_iload_n hx hb dX8_touches_14 rfl (lv_at hl 2 rfl) ?_
    refine lv_iadd hx hb dX8_touches_15 ?_
    refine lv_topi (fun y ey => ?_)
    obtain rfl : y = (nI ((r * 4) + a)) := ey.trans (nI_add (r * 4) a)
    refine va_zald hx hb hK hP 1 1 rfl rfl (vp_in_nI (show ((r * 4) + a) < 64 from by omega) (by decide)) dX8_touches_16 ?_
    refine lv_topi (fun y ey => ?_)
    obtain rfl : y = (bI (at_ ((r * 4) + a))) := ey.trans (ldB (f := at_) (j := ((r * 4) + a)) (by omega))
    refine lv_if_eq (tgt := 24) hx hb dX8_touches_17 (by decide) (fun c_17 => ?_) (fun c_17 => ?_)
    · have n_17 : (at_ ((r * 4) + a)) = false := bI_0 c_17
      refine lv_iconst (v := 0) hx hb dX8_touches_24 (by decide) ?_
      exact k_zret E hK hP hD hS () [0, 1] (by decide) rfl (by first | rfl | (simp [bI, oI, n_4, n_17]; done) | (simp [bI, oI, n_4, n_17]; rfl)) (by decide) (Nat.le_of_ble_eq_true rfl) (Nat.le_of_ble_eq_true rfl) dX8_touches_25
    · have n_17 : (at_ ((r * 4) + a)) = true := bI_1 c_17
      refine lv_iconst (v := 1) hx hb dX8_touches_20 (by decide) ?_
      refine lv_goto (tgt := 25) hx hb dX8_touches_21 (by decide) ?_
      exact k_zret E hK hP hD hS () [0, 1] (by decide) rfl (by first | rfl | (simp [bI, oI, n_4, n_17]; done) | (simp [bI, oI, n_4, n_17]; rfl)) (by decide) (Nat.le_of_ble_eq_true rfl) (Nat.le_of_ble_eq_true rfl) dX8_touches_25

def O_joinsAreas : List Cond := [.fieldLink RX8 40 "RoutingDomain$Topology" "attached" "[Z"]
def W_joinsAreas : List Cond := .code yX8_joinsAreas cX8_joinsAreas 3 (some .boolean) :: (O_joinsAreas ++ wsX80)
theorem m_joinsAreas_O : ∀ w ∈ O_joinsAreas, w ∈ W_joinsAreas := fun _ h => List.mem_cons_of_mem _ (List.mem_append_left _ h)
theorem m_joinsAreas_C8 : ∀ w ∈ wsX80, w ∈ W_joinsAreas := fun _ h => List.mem_cons_of_mem _ (List.mem_append_right _ h)
theorem gdO_joinsAreas : O_joinsAreas.all goodWord = true := by decide +kernel
theorem gd_joinsAreas : W_joinsAreas.all goodWord = true := k_all_cons rfl (k_all_app gdO_joinsAreas gdC_8)
set_option maxHeartbeats 4000000 in
set_option maxRecDepth 100000 in
theorem c_joinsAreas (l : Launch) (D : va_G) (cI cZ cJ : ClassId) (h0 : Nat) (ad : Nat → Nat) (rc : Nat) (lc : Nat) (at_ : Nat → Bool) (r : Nat) (hr : r < 16) : kMi l yX8_joinsAreas W_joinsAreas { frames := 0, cells := 0, slots := 0, locals := 0 } 0 0 D (kT cI cZ cJ) [.ref h0, .int (nI r)] [(h0, .inr (8, [.int (nI rc), .int (nI lc), .ref (ad 7), .ref (ad 8), .ref (ad 9), .ref (ad 10), .ref (ad 11), .ref (ad 12), .ref (ad 13), .ref (ad 14), .ref (ad 15), .ref (ad 16)])), ((ad 16), .inl (cZ, 64, .inl (eB at_)))] (S := Unit) (fun res_ _ => res_ = (bI (at_ (r * 4) && (at_ (r * 4 + 1) || (at_ (r * 4 + 2) || at_ (r * 4 + 3)))))) (fun _ => [(h0, .inr (8, [.int (nI rc), .int (nI lc), .ref (ad 7), .ref (ad 8), .ref (ad 9), .ref (ad 10), .ref (ad 11), .ref (ad 12), .ref (ad 13), .ref (ad 14), .ref (ad 15), .ref (ad 16)])), ((ad 16), .inl (cZ, 64, .inl (eB at_)))]) := by
  refine kMi_of (lv := [(0, .ref h0), (1, .int (nI r))]) RX8 "joinsAreas" (by decide +kernel) rfl rfl rfl (Nat.le_of_ble_eq_true rfl) rfl ?_
  intro p e s m below meth c A H locs ls E hA hK hP hD hS hl
  obtain ⟨hx, hb, hr_, hts, hown, hlocks, hml, hin, hN⟩ := id E
  refine lv_iload_n hx hb dX8_joinsAreas_0 rfl (lv_at hl 1 rfl) ?_
  refine lv_iconst (v := 4) hx hb dX8_joinsAreas_1 (by decide) ?_
  refine lv_imul hx hb dX8_joinsAreas_2 ?_
  refine lv_topi (fun y ey => ?_)
  obtain rfl : y = (nI (r * 4)) := ey.trans (pk_mul r 4)
  refine lv_istore_n (lv' := [(2, .int (nI (r * 4))), (0, .ref h0), (1, .int (nI r))]) hx hb dX8_joinsAreas_3 rfl hl (by decide) rfl (fun ls hl => ?_)
  refine lv_aload_n hx hb dX8_joinsAreas_4 rfl (lv_at hl 1 rfl) ?_
  refine va_get (ci := 8) (v := .ref (ad 16)) (C := RX8) (T := TX8) (N := 12) hx hb hts m_joinsAreas_C8 hown hK hP 0 rfl rfl 11 (by decide) (hts (.fieldLink RX8 40 "RoutingDomain$Topology" "attached" "[Z") (m_joinsAreas_O _ (by decide +kernel))) (fun _ h9 => h9) rfl dX8_joinsAreas_5 ?_
  refine lv_iload_n hx hb dX8_joinsAreas_8 rfl (lv_at hl 0 rfl) ?_
  refine va_zald hx hb hK hP 1 1 rfl rfl (vp_in_nI (show (r * 4) < 64 from by omega) (by decide)) dX8_joinsAreas_9 ?_
  refine lv_topi (fun y ey => ?_)
  obtain rfl : y = (bI (at_ (r * 4))) := ey.trans (ldB (f := at_) (j := (r * 4)) (by omega))
  refine lv_if_eq (tgt := 50) hx hb dX8_joinsAreas_10 (by decide) (fun c_10 => ?_) (fun c_10 => ?_)
  · have n_10 : (at_ (r * 4)) = false := bI_0 c_10
    refine lv_iconst (v := 0) hx hb dX8_joinsAreas_50 (by decide) ?_
    exact k_zret E hK hP hD hS () [0, 1] (by decide) rfl (by first | rfl | (simp [bI, oI, n_10]; done) | (simp [bI, oI, n_10]; rfl)) (by decide) (Nat.le_of_ble_eq_true rfl) (Nat.le_of_ble_eq_true rfl) dX8_joinsAreas_51
  · have n_10 : (at_ (r * 4)) = true := bI_1 c_10
    refine lv_aload_n hx hb dX8_joinsAreas_13 rfl (lv_at hl 1 rfl) ?_
    refine va_get (ci := 8) (v := .ref (ad 16)) (C := RX8) (T := TX8) (N := 12) hx hb hts m_joinsAreas_C8 hown hK hP 0 rfl rfl 11 (by decide) (hts (.fieldLink RX8 40 "RoutingDomain$Topology" "attached" "[Z") (m_joinsAreas_O _ (by decide +kernel))) (fun _ h9 => h9) rfl dX8_joinsAreas_14 ?_
    refine lv_iload_n hx hb dX8_joinsAreas_17 rfl (lv_at hl 0 rfl) ?_
    refine lv_iconst (v := 1) hx hb dX8_joinsAreas_18 (by decide) ?_
    refine lv_iadd hx hb dX8_joinsAreas_19 ?_
    refine lv_topi (fun y ey => ?_)
    obtain rfl : y = (nI ((r * 4) + 1)) := ey.trans (nI_add (r * 4) 1)
    refine va_zald hx hb hK hP 1 1 rfl rfl (vp_in_nI (show ((r * 4) + 1) < 64 from by omega) (by decide)) dX8_joinsAreas_20 ?_
    refine lv_topi (fun y ey => ?_)
    obtain rfl : y = (bI (at_ ((r * 4) + 1))) := ey.trans (ldB (f := at_) (j := ((r * 4) + 1)) (by omega))
    refine lv_if_ne (tgt := 46) hx hb dX8_joinsAreas_21 (by decide) (fun c_21 => ?_) (fun c_21 => ?_)
    · have n_21 : (at_ ((r * 4) + 1)) = true := bI_1 c_21
      refine lv_iconst (v := 1) hx hb dX8_joinsAreas_46 (by decide) ?_
      refine lv_goto (tgt := 51) hx hb dX8_joinsAreas_47 (by decide) ?_
      exact k_zret E hK hP hD hS () [0, 1] (by decide) rfl (by first | rfl | (simp [bI, oI, n_10, n_21]; done) | (simp [bI, oI, n_10, n_21]; rfl)) (by decide) (Nat.le_of_ble_eq_true rfl) (Nat.le_of_ble_eq_true rfl) dX8_joinsAreas_51
    · have n_21 : (at_ ((r * 4) + 1)) = false := bI_0 c_21
      refine lv_aload_n hx hb dX8_joinsAreas_24 rfl (lv_at hl 1 rfl) ?_
      refine va_get (ci := 8) (v := .ref (ad 16)) (C := RX8) (T := TX8) (N := 12) hx hb hts m_joinsAreas_C8 hown hK hP 0 rfl rfl 11 (by decide) (hts (.fieldLink RX8 40 "RoutingDomain$Topology" "attached" "[Z") (m_joinsAreas_O _ (by decide +kernel))) (fun _ h9 => h9) rfl dX8_joinsAreas_25 ?_
      refine lv_iload_n hx hb dX8_joinsAreas_28 rfl (lv_at hl 0 rfl) ?_
      refine lv_iconst (v := 2) hx hb dX8_joinsAreas_29 (by decide) ?_
      refine lv_iadd hx hb dX8_joinsAreas_30 ?_
      refine lv_topi (fun y ey => ?_)
      obtain rfl : y = (nI ((r * 4) + 2)) := ey.trans (nI_add (r * 4) 2)
      refine va_zald hx hb hK hP 1 1 rfl rfl (vp_in_nI (show ((r * 4) + 2) < 64 from by omega) (by decide)) dX8_joinsAreas_31 ?_
      refine lv_topi (fun y ey => ?_)
      obtain rfl : y = (bI (at_ ((r * 4) + 2))) := ey.trans (ldB (f := at_) (j := ((r * 4) + 2)) (by omega))
      refine lv_if_ne (tgt := 46) hx hb dX8_joinsAreas_32 (by decide) (fun c_32 => ?_) (fun c_32 => ?_)
      · have n_32 : (at_ ((r * 4) + 2)) = true := bI_1 c_32
        refine lv_iconst (v := 1) hx hb dX8_joinsAreas_46 (by decide) ?_
        refine lv_goto (tgt := 51) hx hb dX8_joinsAreas_47 (by decide) ?_
        exact k_zret E hK hP hD hS () [0, 1] (by decide) rfl (by first | rfl | (simp [bI, oI, n_10, n_21, n_32]; done) | (simp [bI, oI, n_10, n_21, n_32]; rfl)) (by decide) (Nat.le_of_ble_eq_true rfl) (Nat.le_of_ble_eq_true rfl) dX8_joinsAreas_51
      · have n_32 : (at_ ((r * 4) + 2)) = false := bI_0 c_32
        refine lv_aload_n hx hb dX8_joinsAreas_35 rfl (lv_at hl 1 rfl) ?_
        refine va_get (ci := 8) (v := .ref (ad 16)) (C := RX8) (T := TX8) (N := 12) hx hb hts m_joinsAreas_C8 hown hK hP 0 rfl rfl 11 (by decide) (hts (.fieldLink RX8 40 "RoutingDomain$Topology" "attached" "[Z") (m_joinsAreas_O _ (by decide +kernel))) (fun _ h9 => h9) rfl dX8_joinsAreas_36 ?_
        refine lv_iload_n hx hb dX8_joinsAreas_39 rfl (lv_at hl 0 rfl) ?_
        refine lv_iconst (v := 3) hx hb dX8_joinsAreas_40 (by decide) ?_
        refine lv_iadd hx hb dX8_joinsAreas_41 ?_
        refine lv_topi (fun y ey => ?_)
        obtain rfl : y = (nI ((r * 4) + 3)) := ey.trans (nI_add (r * 4) 3)
        refine va_zald hx hb hK hP 1 1 rfl rfl (vp_in_nI (show ((r * 4) + 3) < 64 from by omega) (by decide)) dX8_joinsAreas_42 ?_
        refine lv_topi (fun y ey => ?_)
        obtain rfl : y = (bI (at_ ((r * 4) + 3))) := ey.trans (ldB (f := at_) (j := ((r * 4) + 3)) (by omega))
        refine lv_if_eq (tgt := 50) hx hb dX8_joinsAreas_43 (by decide) (fun c_43 => ?_) (fun c_43 => ?_)
        · have n_43 : (at_ ((r * 4) + 3)) = false := bI_0 c_43
          refine lv_iconst (v := 0) hx hb dX8_joinsAreas_50 (by decide) ?_
          exact k_zret E hK hP hD hS () [0, 1] (by decide) rfl (by first | rfl | (simp [bI, oI, n_10, n_21, n_32, n_43]; done) | (simp [bI, oI, n_10, n_21, n_32, n_43]; rfl)) (by decide) (Nat.le_of_ble_eq_true rfl) (Nat.le_of_ble_eq_true rfl) dX8_joinsAreas_51
        · have n_43 : (at_ ((r * 4) + 3)) = true := bI_1 c_43
          refine lv_iconst (v := 1) hx hb dX8_joinsAreas_46 (by decide) ?_
          refine lv_goto (tgt := 51) hx hb dX8_joinsAreas_47 (by decide) ?_
          exact k_zret E hK hP hD hS () [0, 1] (by decide) rfl (by first | rfl | (simp [bI, oI, n_10, n_21, n_32, n_43]; done) | (simp [bI, oI, n_10, n_21, n_32, n_43]; rfl)) (by decide) (Nat.le_of_ble_eq_true rfl) (Nat.le_of_ble_eq_true rfl) dX8_joinsAreas_51

def O_canCarry : List Cond := [.fieldLink RX8 15 "RoutingDomain$Topology" "isLinkUp" "[Z", .fieldLink RX8 9 "RoutingDomain$Topology" "isRouterUp" "[Z", .fieldLink RX8 25 "RoutingDomain$Topology" "routerOfPort" "[I"]
def W_canCarry : List Cond := .code yX8_canCarry cX8_canCarry 2 (some .boolean) :: (O_canCarry ++ wsX80)
theorem m_canCarry_O : ∀ w ∈ O_canCarry, w ∈ W_canCarry := fun _ h => List.mem_cons_of_mem _ (List.mem_append_left _ h)
theorem m_canCarry_C8 : ∀ w ∈ wsX80, w ∈ W_canCarry := fun _ h => List.mem_cons_of_mem _ (List.mem_append_right _ h)
theorem gdO_canCarry : O_canCarry.all goodWord = true := by decide +kernel
theorem gd_canCarry : W_canCarry.all goodWord = true := k_all_cons rfl (k_all_app gdO_canCarry gdC_8)
set_option maxHeartbeats 4000000 in
set_option maxRecDepth 100000 in
theorem c_canCarry (l : Launch) (D : va_G) (cI cZ cJ : ClassId) (h0 : Nat) (ad : Nat → Nat) (rc : Nat) (lc : Nat) (ru : Nat → Bool) (lu : Nat → Bool) (rp : Nat → Nat) (k : Nat) (hk : k < 40) (hrp : ∀ j, rp j < 16) : kMi l yX8_canCarry W_canCarry { frames := 0, cells := 0, slots := 0, locals := 0 } 0 0 D (kT cI cZ cJ) [.ref h0, .int (nI k)] [(h0, .inr (8, [.int (nI rc), .int (nI lc), .ref (ad 7), .ref (ad 8), .ref (ad 9), .ref (ad 10), .ref (ad 11), .ref (ad 12), .ref (ad 13), .ref (ad 14), .ref (ad 15), .ref (ad 16)])), ((ad 7), .inl (cZ, 16, .inl (eB ru))), ((ad 8), .inl (cZ, 40, .inl (eB lu))), ((ad 11), .inl (cI, 80, .inl (eN rp)))] (S := Unit) (fun res_ _ => res_ = (bI (cc ru lu rp k))) (fun _ => [(h0, .inr (8, [.int (nI rc), .int (nI lc), .ref (ad 7), .ref (ad 8), .ref (ad 9), .ref (ad 10), .ref (ad 11), .ref (ad 12), .ref (ad 13), .ref (ad 14), .ref (ad 15), .ref (ad 16)])), ((ad 7), .inl (cZ, 16, .inl (eB ru))), ((ad 8), .inl (cZ, 40, .inl (eB lu))), ((ad 11), .inl (cI, 80, .inl (eN rp)))]) := by
  refine kMi_of (lv := [(0, .ref h0), (1, .int (nI k))]) RX8 "canCarry" (by decide +kernel) rfl rfl rfl (Nat.le_of_ble_eq_true rfl) rfl ?_
  intro p e s m below meth c A H locs ls E hA hK hP hD hS hl
  obtain ⟨hx, hb, hr_, hts, hown, hlocks, hml, hin, hN⟩ := id E
  have hq1 := hrp (k * 2)
  have hq2 := hrp (k * 2 + 1)
  refine lv_aload_n hx hb dX8_canCarry_0 rfl (lv_at hl 0 rfl) ?_
  refine va_get (ci := 8) (v := .ref (ad 8)) (C := RX8) (T := TX8) (N := 12) hx hb hts m_canCarry_C8 hown hK hP 0 rfl rfl 3 (by decide) (hts (.fieldLink RX8 15 "RoutingDomain$Topology" "isLinkUp" "[Z") (m_canCarry_O _ (by decide +kernel))) (fun _ h9 => h9) rfl dX8_canCarry_1 ?_
  refine lv_iload_n hx hb dX8_canCarry_4 rfl (lv_at hl 1 rfl) ?_
  refine va_zald hx hb hK hP 2 1 rfl rfl (vp_in_nI (show k < 40 from by omega) (by decide)) dX8_canCarry_5 ?_
  refine lv_topi (fun y ey => ?_)
  obtain rfl : y = (bI (lu k)) := ey.trans (ldB (f := lu) (j := k) (by omega))
  refine lv_if_eq (tgt := 47) hx hb dX8_canCarry_6 (by decide) (fun c_6 => ?_) (fun c_6 => ?_)
  · have n_6 : (lu k) = false := bI_0 c_6
    refine lv_iconst (v := 0) hx hb dX8_canCarry_47 (by decide) ?_
    exact k_zret E hK hP hD hS () [0, 1, 2, 3] (by decide) rfl (by first | rfl | (simp [cc, bI, oI, n_6]; done) | (simp [cc, bI, oI, n_6]; rfl)) (by decide) (Nat.le_of_ble_eq_true rfl) (Nat.le_of_ble_eq_true rfl) dX8_canCarry_48
  · have n_6 : (lu k) = true := bI_1 c_6
    refine lv_aload_n hx hb dX8_canCarry_9 rfl (lv_at hl 0 rfl) ?_
    refine va_get (ci := 8) (v := .ref (ad 7)) (C := RX8) (T := TX8) (N := 12) hx hb hts m_canCarry_C8 hown hK hP 0 rfl rfl 2 (by decide) (hts (.fieldLink RX8 9 "RoutingDomain$Topology" "isRouterUp" "[Z") (m_canCarry_O _ (by decide +kernel))) (fun _ h9 => h9) rfl dX8_canCarry_10 ?_
    refine lv_aload_n hx hb dX8_canCarry_13 rfl (lv_at hl 0 rfl) ?_
    refine va_get (ci := 8) (v := .ref (ad 11)) (C := RX8) (T := TX8) (N := 12) hx hb hts m_canCarry_C8 hown hK hP 0 rfl rfl 6 (by decide) (hts (.fieldLink RX8 25 "RoutingDomain$Topology" "routerOfPort" "[I") (m_canCarry_O _ (by decide +kernel))) (fun _ h9 => h9) rfl dX8_canCarry_14 ?_
    refine lv_iload_n hx hb dX8_canCarry_17 rfl (lv_at hl 1 rfl) ?_
    refine lv_iconst (v := 2) hx hb dX8_canCarry_18 (by decide) ?_
    refine lv_imul hx hb dX8_canCarry_19 ?_
    refine lv_topi (fun y ey => ?_)
    obtain rfl : y = (nI (k * 2)) := ey.trans (pk_mul k 2)
    refine va_iald hx hb hK hP 3 0 rfl rfl (vp_in_nI (show (k * 2) < 80 from by omega) (by decide)) dX8_canCarry_20 ?_
    refine lv_topi (fun y ey => ?_)
    obtain rfl : y = (nI (rp (k * 2))) := ey.trans (ldN (f := rp) (j := (k * 2)) (by omega))
    refine va_zald hx hb hK hP 1 1 rfl rfl (vp_in_nI (show (rp (k * 2)) < 16 from by omega) (by decide)) dX8_canCarry_21 ?_
    refine lv_topi (fun y ey => ?_)
    obtain rfl : y = (bI (ru (rp (k * 2)))) := ey.trans (ldB (f := ru) (j := (rp (k * 2))) (by omega))
    refine lv_if_eq (tgt := 47) hx hb dX8_canCarry_22 (by decide) (fun c_22 => ?_) (fun c_22 => ?_)
    · have n_22 : (ru (rp (k * 2))) = false := bI_0 c_22
      refine lv_iconst (v := 0) hx hb dX8_canCarry_47 (by decide) ?_
      exact k_zret E hK hP hD hS () [0, 1, 2, 3] (by decide) rfl (by first | rfl | (simp [cc, bI, oI, n_6, n_22]; done) | (simp [cc, bI, oI, n_6, n_22]; rfl)) (by decide) (Nat.le_of_ble_eq_true rfl) (Nat.le_of_ble_eq_true rfl) dX8_canCarry_48
    · have n_22 : (ru (rp (k * 2))) = true := bI_1 c_22
      refine lv_aload_n hx hb dX8_canCarry_25 rfl (lv_at hl 0 rfl) ?_
      refine va_get (ci := 8) (v := .ref (ad 7)) (C := RX8) (T := TX8) (N := 12) hx hb hts m_canCarry_C8 hown hK hP 0 rfl rfl 2 (by decide) (hts (.fieldLink RX8 9 "RoutingDomain$Topology" "isRouterUp" "[Z") (m_canCarry_O _ (by decide +kernel))) (fun _ h9 => h9) rfl dX8_canCarry_26 ?_
      refine lv_aload_n hx hb dX8_canCarry_29 rfl (lv_at hl 0 rfl) ?_
      refine va_get (ci := 8) (v := .ref (ad 11)) (C := RX8) (T := TX8) (N := 12) hx hb hts m_canCarry_C8 hown hK hP 0 rfl rfl 6 (by decide) (hts (.fieldLink RX8 25 "RoutingDomain$Topology" "routerOfPort" "[I") (m_canCarry_O _ (by decide +kernel))) (fun _ h9 => h9) rfl dX8_canCarry_30 ?_
      refine lv_iload_n hx hb dX8_canCarry_33 rfl (lv_at hl 1 rfl) ?_
      refine lv_iconst (v := 2) hx hb dX8_canCarry_34 (by decide) ?_
      refine lv_imul hx hb dX8_canCarry_35 ?_
      refine lv_topi (fun y ey => ?_)
      obtain rfl : y = (nI (k * 2)) := ey.trans (pk_mul k 2)
      refine lv_iconst (v := 1) hx hb dX8_canCarry_36 (by decide) ?_
      refine lv_iadd hx hb dX8_canCarry_37 ?_
      refine lv_topi (fun y ey => ?_)
      obtain rfl : y = (nI ((k * 2) + 1)) := ey.trans (nI_add (k * 2) 1)
      refine va_iald hx hb hK hP 3 0 rfl rfl (vp_in_nI (show ((k * 2) + 1) < 80 from by omega) (by decide)) dX8_canCarry_38 ?_
      refine lv_topi (fun y ey => ?_)
      obtain rfl : y = (nI (rp ((k * 2) + 1))) := ey.trans (ldN (f := rp) (j := ((k * 2) + 1)) (by omega))
      refine va_zald hx hb hK hP 1 1 rfl rfl (vp_in_nI (show (rp ((k * 2) + 1)) < 16 from by omega) (by decide)) dX8_canCarry_39 ?_
      refine lv_topi (fun y ey => ?_)
      obtain rfl : y = (bI (ru (rp ((k * 2) + 1)))) := ey.trans (ldB (f := ru) (j := (rp ((k * 2) + 1))) (by omega))
      refine lv_if_eq (tgt := 47) hx hb dX8_canCarry_40 (by decide) (fun c_40 => ?_) (fun c_40 => ?_)
      · have n_40 : (ru (rp ((k * 2) + 1))) = false := bI_0 c_40
        refine lv_iconst (v := 0) hx hb dX8_canCarry_47 (by decide) ?_
        exact k_zret E hK hP hD hS () [0, 1, 2, 3] (by decide) rfl (by first | rfl | (simp [cc, bI, oI, n_6, n_22, n_40]; done) | (simp [cc, bI, oI, n_6, n_22, n_40]; rfl)) (by decide) (Nat.le_of_ble_eq_true rfl) (Nat.le_of_ble_eq_true rfl) dX8_canCarry_48
      · have n_40 : (ru (rp ((k * 2) + 1))) = true := bI_1 c_40
        refine lv_iconst (v := 1) hx hb dX8_canCarry_43 (by decide) ?_
        refine lv_goto (tgt := 48) hx hb dX8_canCarry_44 (by decide) ?_
        exact k_zret E hK hP hD hS () [0, 1, 2, 3] (by decide) rfl (by first | rfl | (simp [cc, bI, oI, n_6, n_22, n_40]; done) | (simp [cc, bI, oI, n_6, n_22, n_40]; rfl)) (by decide) (Nat.le_of_ble_eq_true rfl) (Nat.le_of_ble_eq_true rfl) dX8_canCarry_48

def O_metricToList : List Cond := [.methodLink RX8 68 yX8_canCarry, .instanceMethod yX8_canCarry, .selects RX8 yX8_canCarry yX8_canCarry, .initialized RX8, .fieldLink RX8 28 "RoutingDomain$Topology" "metricOfPort" "[I"]
def W_metricToList : List Cond := .code yX8_metricToList cX8_metricToList 2 (some .int) :: (O_metricToList ++ (W_canCarry ++ wsX80))
theorem m_metricToList_O : ∀ w ∈ O_metricToList, w ∈ W_metricToList := fun _ h => List.mem_cons_of_mem _ (List.mem_append_left _ h)
theorem m_metricToList_WcanCarry : ∀ w ∈ W_canCarry, w ∈ W_metricToList := fun _ h => List.mem_cons_of_mem _ (List.mem_append_right _ (List.mem_append_left _ h))
theorem m_metricToList_C8 : ∀ w ∈ wsX80, w ∈ W_metricToList := fun _ h => List.mem_cons_of_mem _ (List.mem_append_right _ (List.mem_append_right _ h))
theorem gdO_metricToList : O_metricToList.all goodWord = true := by decide +kernel
theorem gd_metricToList : W_metricToList.all goodWord = true := k_all_cons rfl (k_all_app gdO_metricToList (k_all_app gd_canCarry gdC_8))
set_option maxHeartbeats 4000000 in
set_option maxRecDepth 100000 in
theorem c_metricToList (l : Launch) (D : va_G) (cI cZ cJ : ClassId) (h0 : Nat) (ad : Nat → Nat) (rc : Nat) (lc : Nat) (ru : Nat → Bool) (lu : Nat → Bool) (rp : Nat → Nat) (mp : Nat → Nat) (q : Nat) (hq : q < 80) (hrp : ∀ j, rp j < 16) : kMi l yX8_metricToList W_metricToList { frames := 1, cells := 0, slots := 0, locals := 30 } 0 0 D (kT cI cZ cJ) [.ref h0, .int (nI q)] [(h0, .inr (8, [.int (nI rc), .int (nI lc), .ref (ad 7), .ref (ad 8), .ref (ad 9), .ref (ad 10), .ref (ad 11), .ref (ad 12), .ref (ad 13), .ref (ad 14), .ref (ad 15), .ref (ad 16)])), ((ad 7), .inl (cZ, 16, .inl (eB ru))), ((ad 8), .inl (cZ, 40, .inl (eB lu))), ((ad 11), .inl (cI, 80, .inl (eN rp))), ((ad 12), .inl (cI, 80, .inl (eN mp)))] (S := Unit) (fun res_ _ => res_ = (nI (mtl ru lu rp mp q))) (fun _ => [(h0, .inr (8, [.int (nI rc), .int (nI lc), .ref (ad 7), .ref (ad 8), .ref (ad 9), .ref (ad 10), .ref (ad 11), .ref (ad 12), .ref (ad 13), .ref (ad 14), .ref (ad 15), .ref (ad 16)])), ((ad 7), .inl (cZ, 16, .inl (eB ru))), ((ad 8), .inl (cZ, 40, .inl (eB lu))), ((ad 11), .inl (cI, 80, .inl (eN rp))), ((ad 12), .inl (cI, 80, .inl (eN mp)))]) := by
  refine kMi_of (lv := [(0, .ref h0), (1, .int (nI q))]) RX8 "metricToList" (by decide +kernel) rfl rfl rfl (Nat.le_of_ble_eq_true rfl) rfl ?_
  intro p e s m below meth c A H locs ls E hA hK hP hD hS hl
  obtain ⟨hx, hb, hr_, hts, hown, hlocks, hml, hin, hN⟩ := id E
  refine lv_aload_n hx hb dX8_metricToList_0 rfl (lv_at hl 0 rfl) ?_
  refine lv_iload_n hx hb dX8_metricToList_1 rfl (lv_at hl 1 rfl) ?_
  refine lv_iconst (v := 1) hx hb dX8_metricToList_2 (by decide) ?_
  refine lv_ishr hx hb dX8_metricToList_3 ?_
  refine lv_topi (fun y ey => ?_)
  obtain rfl : y = (nI (q / 2)) := ey.trans (k_shr (a := q) (by omega) 1 (by decide))
  refine kVi (As := [.int (nI (q / 2))]) (rest := []) (wr := [((ad 12), .inl (cI, 80, .inl (eN mp)))]) (w2 := fun _ => [(h0, .inr (8, [.int (nI rc), .int (nI lc), .ref (ad 7), .ref (ad 8), .ref (ad 9), .ref (ad 10), .ref (ad 11), .ref (ad 12), .ref (ad 13), .ref (ad 14), .ref (ad 15), .ref (ad 16)])), ((ad 7), .inl (cZ, 16, .inl (eB ru))), ((ad 8), .inl (cZ, 40, .inl (eB lu))), ((ad 11), .inl (cI, 80, .inl (eN rp))), ((ad 12), .inl (cI, 80, .inl (eN mp)))]) ⟨hx, hb, hml, hown, hts⟩ hN (c_canCarry l D cI cZ cJ h0 ad rc lc ru lu rp (q / 2) (by omega) hrp) (cwV 1 hts (k_gV (fun w h => m_metricToList_O w ((by decide +kernel : ∀ w ∈ ([.methodLink RX8 68 yX8_canCarry, .instanceMethod yX8_canCarry, .selects RX8 yX8_canCarry yX8_canCarry, .initialized RX8] : List Cond), w ∈ O_metricToList) w h)) m_metricToList_WcanCarry gd_canCarry) rfl rfl rfl (by decide +kernel) ⟨Nat.le_of_ble_eq_true rfl, Nat.le_of_ble_eq_true rfl⟩) hK hP hD hS hA [0, 1, 2, 3] [4] [1, 2, 3, 4, 0] rfl rfl ⟨by decide, by decide, by decide⟩ (by decide) (fun _ => rfl) 8 0 rfl rfl rfl rfl hl.1 rfl (Nat.le_of_ble_eq_true rfl) dX8_metricToList_4 ⟨Nat.le_of_ble_eq_true rfl, Nat.le_of_ble_eq_true rfl⟩ (fun res_ u H locs hw hP hD hS => ?_)
  have hP : va_P D vwCl [(h0, .inr (8, [.int (nI rc), .int (nI lc), .ref (ad 7), .ref (ad 8), .ref (ad 9), .ref (ad 10), .ref (ad 11), .ref (ad 12), .ref (ad 13), .ref (ad 14), .ref (ad 15), .ref (ad 16)])), ((ad 7), .inl (cZ, 16, .inl (eB ru))), ((ad 8), .inl (cZ, 40, .inl (eB lu))), ((ad 11), .inl (cI, 80, .inl (eN rp))), ((ad 12), .inl (cI, 80, .inl (eN mp)))] H := hP
  have hD : va_D A [(h0, .inr (8, [.int (nI rc), .int (nI lc), .ref (ad 7), .ref (ad 8), .ref (ad 9), .ref (ad 10), .ref (ad 11), .ref (ad 12), .ref (ad 13), .ref (ad 14), .ref (ad 15), .ref (ad 16)])), ((ad 7), .inl (cZ, 16, .inl (eB ru))), ((ad 8), .inl (cZ, 40, .inl (eB lu))), ((ad 11), .inl (cI, 80, .inl (eN rp))), ((ad 12), .inl (cI, 80, .inl (eN mp)))] := hD
  obtain rfl : res_ = (bI (cc ru lu rp (q / 2))) := hw
  refine lv_if_eq (tgt := 19) hx hb dX8_metricToList_7 (by decide) (fun c_7 => ?_) (fun c_7 => ?_)
  · have n_7 : (cc ru lu rp (q / 2)) = false := bI_0 c_7
    refine lv_iconst (v := 0) hx hb dX8_metricToList_19 (by decide) ?_
    exact k_iret E hK hP hD hS () [0, 1, 2, 3, 4] (by decide) rfl (by first | rfl | (simp [mtl, bI, oI, n_7]; done) | (simp [mtl, bI, oI, n_7]; rfl)) (Nat.le_of_ble_eq_true rfl) (Nat.le_of_ble_eq_true rfl) dX8_metricToList_20
  · have n_7 : (cc ru lu rp (q / 2)) = true := bI_1 c_7
    refine lv_aload_n hx hb dX8_metricToList_10 rfl (lv_at hl 0 rfl) ?_
    refine va_get (ci := 8) (v := .ref (ad 12)) (C := RX8) (T := TX8) (N := 12) hx hb hts m_metricToList_C8 hown hK hP 0 rfl rfl 7 (by decide) (hts (.fieldLink RX8 28 "RoutingDomain$Topology" "metricOfPort" "[I") (m_metricToList_O _ (by decide +kernel))) (fun _ h9 => h9) rfl dX8_metricToList_11 ?_
    refine lv_iload_n hx hb dX8_metricToList_14 rfl (lv_at hl 1 rfl) ?_
    refine va_iald hx hb hK hP 4 0 rfl rfl (vp_in_nI (show q < 80 from by omega) (by decide)) dX8_metricToList_15 ?_
    refine lv_topi (fun y ey => ?_)
    obtain rfl : y = (nI (mp q)) := ey.trans (ldN (f := mp) (j := q) (by omega))
    refine lv_goto (tgt := 20) hx hb dX8_metricToList_16 (by decide) ?_
    exact k_iret E hK hP hD hS () [0, 1, 2, 3, 4] (by decide) rfl (by first | rfl | (simp [mtl, bI, oI, n_7]; done) | (simp [mtl, bI, oI, n_7]; rfl)) (Nat.le_of_ble_eq_true rfl) (Nat.le_of_ble_eq_true rfl) dX8_metricToList_20

def O_createRouter : List Cond := [.fieldLink RX8 49 "RoutingDomain$Topology" "routerCount" "I", .fieldLink RX8 9 "RoutingDomain$Topology" "isRouterUp" "[Z"]
def W_createRouter : List Cond := .code yX8_createRouter cX8_createRouter 2 (some .int) :: (O_createRouter ++ wsX80)
theorem m_createRouter_O : ∀ w ∈ O_createRouter, w ∈ W_createRouter := fun _ h => List.mem_cons_of_mem _ (List.mem_append_left _ h)
theorem m_createRouter_C8 : ∀ w ∈ wsX80, w ∈ W_createRouter := fun _ h => List.mem_cons_of_mem _ (List.mem_append_right _ h)
theorem gdO_createRouter : O_createRouter.all goodWord = true := by decide +kernel
theorem gd_createRouter : W_createRouter.all goodWord = true := k_all_cons rfl (k_all_app gdO_createRouter gdC_8)
set_option maxHeartbeats 4000000 in
set_option maxRecDepth 100000 in
theorem c_createRouter (l : Launch) (D : va_G) (cI cZ cJ : ClassId) (h0 : Nat) (ad : Nat → Nat) (rc : Nat) (lc : Nat) (ru : Nat → Bool) (hrc : rc < 16) : kMi l yX8_createRouter W_createRouter { frames := 0, cells := 0, slots := 0, locals := 0 } 0 0 D (kT cI cZ cJ) [.ref h0] [(h0, .inr (8, [.int (nI rc), .int (nI lc), .ref (ad 7), .ref (ad 8), .ref (ad 9), .ref (ad 10), .ref (ad 11), .ref (ad 12), .ref (ad 13), .ref (ad 14), .ref (ad 15), .ref (ad 16)])), ((ad 7), .inl (cZ, 16, .inl (eB ru)))] (S := Unit) (fun res_ _ => res_ = (nI rc)) (fun _ => [(h0, .inr (8, [.int (nI (rc + 1)), .int (nI lc), .ref (ad 7), .ref (ad 8), .ref (ad 9), .ref (ad 10), .ref (ad 11), .ref (ad 12), .ref (ad 13), .ref (ad 14), .ref (ad 15), .ref (ad 16)])), ((ad 7), .inl (cZ, 16, .inl (eB (fs ru rc true))))]) := by
  refine kMi_of (lv := [(0, .ref h0)]) RX8 "createRouter" (by decide +kernel) rfl rfl rfl (Nat.le_of_ble_eq_true rfl) rfl ?_
  intro p e s m below meth c A H locs ls E hA hK hP hD hS hl
  obtain ⟨hx, hb, hr_, hts, hown, hlocks, hml, hin, hN⟩ := id E
  refine lv_aload_n hx hb dX8_createRouter_0 rfl (lv_at hl 0 rfl) ?_
  refine va_get (ci := 8) (v := .int (nI rc)) (C := RX8) (T := TX8) (N := 12) hx hb hts m_createRouter_C8 hown hK hP 0 rfl rfl 0 (by decide) (hts (.fieldLink RX8 49 "RoutingDomain$Topology" "routerCount" "I") (m_createRouter_O _ (by decide +kernel))) (fun _ h9 => h9) rfl dX8_createRouter_1 ?_
  refine lv_istore_n (lv' := [(1, .int (nI rc)), (0, .ref h0)]) hx hb dX8_createRouter_4 rfl hl (by decide) rfl (fun ls hl => ?_)
  refine lv_aload_n hx hb dX8_createRouter_5 rfl (lv_at hl 1 rfl) ?_
  refine va_get (ci := 8) (v := .ref (ad 7)) (C := RX8) (T := TX8) (N := 12) hx hb hts m_createRouter_C8 hown hK hP 0 rfl rfl 2 (by decide) (hts (.fieldLink RX8 9 "RoutingDomain$Topology" "isRouterUp" "[Z") (m_createRouter_O _ (by decide +kernel))) (fun _ h9 => h9) rfl dX8_createRouter_6 ?_
  refine lv_iload_n hx hb dX8_createRouter_9 rfl (lv_at hl 0 rfl) ?_
  refine lv_iconst (v := 1) hx hb dX8_createRouter_10 (by decide) ?_
  refine va_zast hx hb hK hP hD hS 1 1 rfl rfl (vp_in_nI (show rc < 16 from by omega) (by decide)) dX8_createRouter_11 (fun H locs hP hD hS => ?_)
  have hP : va_P D vwCl [(h0, .inr (8, [.int (nI rc), .int (nI lc), .ref (ad 7), .ref (ad 8), .ref (ad 9), .ref (ad 10), .ref (ad 11), .ref (ad 12), .ref (ad 13), .ref (ad 14), .ref (ad 15), .ref (ad 16)])), ((ad 7), .inl (cZ, 16, .inl (upd (eB ru) (nI rc).toNatClampNeg (vp_nar .boolean (bI true)))))] H := hP
  have hD : va_D A [(h0, .inr (8, [.int (nI rc), .int (nI lc), .ref (ad 7), .ref (ad 8), .ref (ad 9), .ref (ad 10), .ref (ad 11), .ref (ad 12), .ref (ad 13), .ref (ad 14), .ref (ad 15), .ref (ad 16)])), ((ad 7), .inl (cZ, 16, .inl (upd (eB ru) (nI rc).toNatClampNeg (vp_nar .boolean (bI true)))))] := hD
  rw [show (upd (eB ru) (nI rc).toNatClampNeg (vp_nar .boolean (bI true))) = (eB (fs ru rc true)) from stB (by omega)] at hP hD
  refine lv_aload_n hx hb dX8_createRouter_12 rfl (lv_at hl 1 rfl) ?_
  refine lv_dup hx hb dX8_createRouter_13 rfl ?_
  refine va_get (ci := 8) (v := .int (nI rc)) (C := RX8) (T := TX8) (N := 12) hx hb hts m_createRouter_C8 hown hK hP 0 rfl rfl 0 (by decide) (hts (.fieldLink RX8 49 "RoutingDomain$Topology" "routerCount" "I") (m_createRouter_O _ (by decide +kernel))) (fun _ h9 => h9) rfl dX8_createRouter_14 ?_
  refine lv_iconst (v := 1) hx hb dX8_createRouter_17 (by decide) ?_
  refine lv_iadd hx hb dX8_createRouter_18 ?_
  refine lv_topi (fun y ey => ?_)
  obtain rfl : y = (nI (rc + 1)) := ey.trans (nI_add rc 1)
  refine va_put (ci := 8) (v := .int (nI (rc + 1))) (ty := .int) (C := RX8) (T := TX8) (N := 12) hx hb hts m_createRouter_C8 tyX8 tyX8_ok nmX8 hown hK hP hD hS 0 rfl rfl 0 (by decide) (hts (.fieldLink RX8 49 "RoutingDomain$Topology" "routerCount" "I") (m_createRouter_O _ (by decide +kernel))) (fun _ h9 => h9) rfl (by decide +kernel) rfl rfl (Nat.le_of_ble_eq_true rfl) dX8_createRouter_19 (fun H locs hP hD hS => ?_)
  have hP : va_P D vwCl [(h0, .inr (8, [.int (nI (rc + 1)), .int (nI lc), .ref (ad 7), .ref (ad 8), .ref (ad 9), .ref (ad 10), .ref (ad 11), .ref (ad 12), .ref (ad 13), .ref (ad 14), .ref (ad 15), .ref (ad 16)])), ((ad 7), .inl (cZ, 16, .inl (eB (fs ru rc true))))] H := hP
  have hD : va_D A [(h0, .inr (8, [.int (nI (rc + 1)), .int (nI lc), .ref (ad 7), .ref (ad 8), .ref (ad 9), .ref (ad 10), .ref (ad 11), .ref (ad 12), .ref (ad 13), .ref (ad 14), .ref (ad 15), .ref (ad 16)])), ((ad 7), .inl (cZ, 16, .inl (eB (fs ru rc true))))] := hD
  refine lv_iload_n hx hb dX8_createRouter_22 rfl (lv_at hl 0 rfl) ?_
  exact k_iret E hK hP hD hS () [0, 1] (by decide) rfl (by first | rfl | (simp [bI, oI]; done) | (simp [bI, oI]; rfl)) (Nat.le_of_ble_eq_true rfl) (Nat.le_of_ble_eq_true rfl) dX8_createRouter_23

def O_switchLink : List Cond := [.fieldLink RX8 15 "RoutingDomain$Topology" "isLinkUp" "[Z", .fieldLink RX8 18 "RoutingDomain$Topology" "wasUsable" "[Z"]
def W_switchLink : List Cond := .code yX8_switchLink cX8_switchLink 4 (some .boolean) :: (O_switchLink ++ wsX80)
theorem m_switchLink_O : ∀ w ∈ O_switchLink, w ∈ W_switchLink := fun _ h => List.mem_cons_of_mem _ (List.mem_append_left _ h)
theorem m_switchLink_C8 : ∀ w ∈ wsX80, w ∈ W_switchLink := fun _ h => List.mem_cons_of_mem _ (List.mem_append_right _ h)
theorem gdO_switchLink : O_switchLink.all goodWord = true := by decide +kernel
theorem gd_switchLink : W_switchLink.all goodWord = true := k_all_cons rfl (k_all_app gdO_switchLink gdC_8)
set_option maxHeartbeats 4000000 in
set_option maxRecDepth 100000 in
theorem c_switchLink (l : Launch) (D : va_G) (cI cZ cJ : ClassId) (h0 : Nat) (ad : Nat → Nat) (rc : Nat) (lc : Nat) (lu : Nat → Bool) (wu : Nat → Bool) (k : Nat) (b : Bool) (hk : k < 40) : kMi l yX8_switchLink W_switchLink { frames := 0, cells := 0, slots := 0, locals := 0 } 0 0 D (kT cI cZ cJ) [.ref h0, .int (nI k), .int (bI b)] [(h0, .inr (8, [.int (nI rc), .int (nI lc), .ref (ad 7), .ref (ad 8), .ref (ad 9), .ref (ad 10), .ref (ad 11), .ref (ad 12), .ref (ad 13), .ref (ad 14), .ref (ad 15), .ref (ad 16)])), ((ad 8), .inl (cZ, 40, .inl (eB lu))), ((ad 9), .inl (cZ, 40, .inl (eB wu)))] (S := Unit) (fun res_ _ => res_ = (bI (lu k))) (fun _ => [(h0, .inr (8, [.int (nI rc), .int (nI lc), .ref (ad 7), .ref (ad 8), .ref (ad 9), .ref (ad 10), .ref (ad 11), .ref (ad 12), .ref (ad 13), .ref (ad 14), .ref (ad 15), .ref (ad 16)])), ((ad 8), .inl (cZ, 40, .inl (eB (fs lu k b)))), ((ad 9), .inl (cZ, 40, .inl (eB (if b = true then wu else fs wu k false))))]) := by
  refine kMi_of (lv := [(0, .ref h0), (1, .int (nI k)), (2, .int (bI b))]) RX8 "switchLink" (by decide +kernel) rfl rfl rfl (Nat.le_of_ble_eq_true rfl) rfl ?_
  intro p e s m below meth c A H locs ls E hA hK hP hD hS hl
  obtain ⟨hx, hb, hr_, hts, hown, hlocks, hml, hin, hN⟩ := id E
  refine lv_aload_n hx hb dX8_switchLink_0 rfl (lv_at hl 0 rfl) ?_
  refine va_get (ci := 8) (v := .ref (ad 8)) (C := RX8) (T := TX8) (N := 12) hx hb hts m_switchLink_C8 hown hK hP 0 rfl rfl 3 (by decide) (hts (.fieldLink RX8 15 "RoutingDomain$Topology" "isLinkUp" "[Z") (m_switchLink_O _ (by decide +kernel))) (fun _ h9 => h9) rfl dX8_switchLink_1 ?_
  refine lv_iload_n hx hb dX8_switchLink_4 rfl (lv_at hl 1 rfl) ?_
  refine va_zald hx hb hK hP 1 1 rfl rfl (vp_in_nI (show k < 40 from by omega) (by decide)) dX8_switchLink_5 ?_
  refine lv_topi (fun y ey => ?_)
  obtain rfl : y = (bI (lu k)) := ey.trans (ldB (f := lu) (j := k) (by omega))
  refine lv_istore_n (lv' := [(3, .int (bI (lu k))), (0, .ref h0), (1, .int (nI k)), (2, .int (bI b))]) hx hb dX8_switchLink_6 rfl hl (by decide) rfl (fun ls hl => ?_)
  refine lv_aload_n hx hb dX8_switchLink_7 rfl (lv_at hl 1 rfl) ?_
  refine va_get (ci := 8) (v := .ref (ad 8)) (C := RX8) (T := TX8) (N := 12) hx hb hts m_switchLink_C8 hown hK hP 0 rfl rfl 3 (by decide) (hts (.fieldLink RX8 15 "RoutingDomain$Topology" "isLinkUp" "[Z") (m_switchLink_O _ (by decide +kernel))) (fun _ h9 => h9) rfl dX8_switchLink_8 ?_
  refine lv_iload_n hx hb dX8_switchLink_11 rfl (lv_at hl 2 rfl) ?_
  refine lv_iload_n hx hb dX8_switchLink_12 rfl (lv_at hl 3 rfl) ?_
  refine va_zast hx hb hK hP hD hS 1 1 rfl rfl (vp_in_nI (show k < 40 from by omega) (by decide)) dX8_switchLink_13 (fun H locs hP hD hS => ?_)
  have hP : va_P D vwCl [(h0, .inr (8, [.int (nI rc), .int (nI lc), .ref (ad 7), .ref (ad 8), .ref (ad 9), .ref (ad 10), .ref (ad 11), .ref (ad 12), .ref (ad 13), .ref (ad 14), .ref (ad 15), .ref (ad 16)])), ((ad 8), .inl (cZ, 40, .inl (upd (eB lu) (nI k).toNatClampNeg (vp_nar .boolean (bI b))))), ((ad 9), .inl (cZ, 40, .inl (eB wu)))] H := hP
  have hD : va_D A [(h0, .inr (8, [.int (nI rc), .int (nI lc), .ref (ad 7), .ref (ad 8), .ref (ad 9), .ref (ad 10), .ref (ad 11), .ref (ad 12), .ref (ad 13), .ref (ad 14), .ref (ad 15), .ref (ad 16)])), ((ad 8), .inl (cZ, 40, .inl (upd (eB lu) (nI k).toNatClampNeg (vp_nar .boolean (bI b))))), ((ad 9), .inl (cZ, 40, .inl (eB wu)))] := hD
  rw [show (upd (eB lu) (nI k).toNatClampNeg (vp_nar .boolean (bI b))) = (eB (fs lu k b)) from stB (by omega)] at hP hD
  refine lv_iload_n hx hb dX8_switchLink_14 rfl (lv_at hl 3 rfl) ?_
  refine lv_if_ne (tgt := 25) hx hb dX8_switchLink_15 (by decide) (fun c_15 => ?_) (fun c_15 => ?_)
  · have n_15 : b = true := bI_1 c_15
    subst n_15
    refine lv_iload_n hx hb dX8_switchLink_25 rfl (lv_at hl 0 rfl) ?_
    rw [show wu = (if true = true then wu else fs wu k false) from (by first | rfl | (simp [itr_s]; done))] at hP hD
    exact k_zret E hK hP hD hS () [0, 1, 2] (by decide) rfl (by first | rfl | (simp [bI, oI]; done) | (simp [bI, oI]; rfl)) (bI_01 _) (Nat.le_of_ble_eq_true rfl) (Nat.le_of_ble_eq_true rfl) dX8_switchLink_26
  · have n_15 : b = false := bI_0 c_15
    subst n_15
    refine lv_aload_n hx hb dX8_switchLink_18 rfl (lv_at hl 1 rfl) ?_
    refine va_get (ci := 8) (v := .ref (ad 9)) (C := RX8) (T := TX8) (N := 12) hx hb hts m_switchLink_C8 hown hK hP 0 rfl rfl 4 (by decide) (hts (.fieldLink RX8 18 "RoutingDomain$Topology" "wasUsable" "[Z") (m_switchLink_O _ (by decide +kernel))) (fun _ h9 => h9) rfl dX8_switchLink_19 ?_
    refine lv_iload_n hx hb dX8_switchLink_22 rfl (lv_at hl 2 rfl) ?_
    refine lv_iconst (v := 0) hx hb dX8_switchLink_23 (by decide) ?_
    refine va_zast hx hb hK hP hD hS 2 1 rfl rfl (vp_in_nI (show k < 40 from by omega) (by decide)) dX8_switchLink_24 (fun H locs hP hD hS => ?_)
    have hP : va_P D vwCl [(h0, .inr (8, [.int (nI rc), .int (nI lc), .ref (ad 7), .ref (ad 8), .ref (ad 9), .ref (ad 10), .ref (ad 11), .ref (ad 12), .ref (ad 13), .ref (ad 14), .ref (ad 15), .ref (ad 16)])), ((ad 8), .inl (cZ, 40, .inl (eB (fs lu k false)))), ((ad 9), .inl (cZ, 40, .inl (upd (eB wu) (nI k).toNatClampNeg (vp_nar .boolean (bI false)))))] H := hP
    have hD : va_D A [(h0, .inr (8, [.int (nI rc), .int (nI lc), .ref (ad 7), .ref (ad 8), .ref (ad 9), .ref (ad 10), .ref (ad 11), .ref (ad 12), .ref (ad 13), .ref (ad 14), .ref (ad 15), .ref (ad 16)])), ((ad 8), .inl (cZ, 40, .inl (eB (fs lu k false)))), ((ad 9), .inl (cZ, 40, .inl (upd (eB wu) (nI k).toNatClampNeg (vp_nar .boolean (bI false)))))] := hD
    rw [show (upd (eB wu) (nI k).toNatClampNeg (vp_nar .boolean (bI false))) = (eB (fs wu k false)) from stB (by omega)] at hP hD
    refine lv_iload_n hx hb dX8_switchLink_25 rfl (lv_at hl 0 rfl) ?_
    rw [show (fs wu k false) = (if false = true then wu else fs wu k false) from (by first | rfl | (simp [itr_s]; done))] at hP hD
    exact k_zret E hK hP hD hS () [0, 1, 2] (by decide) rfl (by first | rfl | (simp [bI, oI]; done) | (simp [bI, oI]; rfl)) (bI_01 _) (Nat.le_of_ble_eq_true rfl) (Nat.le_of_ble_eq_true rfl) dX8_switchLink_26

def O_switchRouter : List Cond := [.fieldLink RX8 9 "RoutingDomain$Topology" "isRouterUp" "[Z", .fieldLink RX8 31 "RoutingDomain$Topology" "portCount" "[I", .fieldLink RX8 18 "RoutingDomain$Topology" "wasUsable" "[Z", .methodLink RX8 60 yX8_portAt, .instanceMethod yX8_portAt, .selects RX8 yX8_portAt yX8_portAt, .initialized RX8]
def W_switchRouter : List Cond := .code yX8_switchRouter cX8_switchRouter 5 (some .boolean) :: (O_switchRouter ++ (wsX80 ++ W_portAt))
theorem m_switchRouter_O : ∀ w ∈ O_switchRouter, w ∈ W_switchRouter := fun _ h => List.mem_cons_of_mem _ (List.mem_append_left _ h)
theorem m_switchRouter_C8 : ∀ w ∈ wsX80, w ∈ W_switchRouter := fun _ h => List.mem_cons_of_mem _ (List.mem_append_right _ (List.mem_append_left _ h))
theorem m_switchRouter_WportAt : ∀ w ∈ W_portAt, w ∈ W_switchRouter := fun _ h => List.mem_cons_of_mem _ (List.mem_append_right _ (List.mem_append_right _ h))
theorem gdO_switchRouter : O_switchRouter.all goodWord = true := by decide +kernel
theorem gd_switchRouter : W_switchRouter.all goodWord = true := k_all_cons rfl (k_all_app gdO_switchRouter (k_all_app gdC_8 gd_portAt))
set_option maxHeartbeats 4000000 in
set_option maxRecDepth 100000 in
theorem c_switchRouter (l : Launch) (D : va_G) (cI cZ cJ : ClassId) (h0 : Nat) (ad : Nat → Nat) (rc : Nat) (lc : Nat) (ru : Nat → Bool) (wu : Nat → Bool) (pc : Nat → Nat) (po : Nat → Nat) (r : Nat) (b : Bool) (hr : r < 16) (hpc : pc r ≤ 40) (hpo : ∀ j, po j < 80) : kMi l yX8_switchRouter W_switchRouter { frames := 1, cells := 0, slots := 0, locals := 40 } 0 0 D (kT cI cZ cJ) [.ref h0, .int (nI r), .int (bI b)] [(h0, .inr (8, [.int (nI rc), .int (nI lc), .ref (ad 7), .ref (ad 8), .ref (ad 9), .ref (ad 10), .ref (ad 11), .ref (ad 12), .ref (ad 13), .ref (ad 14), .ref (ad 15), .ref (ad 16)])), ((ad 7), .inl (cZ, 16, .inl (eB ru))), ((ad 9), .inl (cZ, 40, .inl (eB wu))), ((ad 13), .inl (cI, 16, .inl (eN pc))), ((ad 15), .inl (cI, 640, .inl (eN po)))] (S := Unit) (fun res_ _ => res_ = (bI (ru r))) (fun _ => [(h0, .inr (8, [.int (nI rc), .int (nI lc), .ref (ad 7), .ref (ad 8), .ref (ad 9), .ref (ad 10), .ref (ad 11), .ref (ad 12), .ref (ad 13), .ref (ad 14), .ref (ad 15), .ref (ad 16)])), ((ad 7), .inl (cZ, 16, .inl (eB (fs ru r b)))), ((ad 9), .inl (cZ, 40, .inl (eB (if b = true then wu else itr (swB po r) (pc r) wu)))), ((ad 13), .inl (cI, 16, .inl (eN pc))), ((ad 15), .inl (cI, 640, .inl (eN po)))]) := by
  refine kMi_of (lv := [(0, .ref h0), (1, .int (nI r)), (2, .int (bI b))]) RX8 "switchRouter" (by decide +kernel) rfl rfl rfl (Nat.le_of_ble_eq_true rfl) rfl ?_
  intro p e s m below meth c A H locs ls E hA hK hP hD hS hl
  obtain ⟨hx, hb, hr_, hts, hown, hlocks, hml, hin, hN⟩ := id E
  refine lv_aload_n hx hb dX8_switchRouter_0 rfl (lv_at hl 0 rfl) ?_
  refine va_get (ci := 8) (v := .ref (ad 7)) (C := RX8) (T := TX8) (N := 12) hx hb hts m_switchRouter_C8 hown hK hP 0 rfl rfl 2 (by decide) (hts (.fieldLink RX8 9 "RoutingDomain$Topology" "isRouterUp" "[Z") (m_switchRouter_O _ (by decide +kernel))) (fun _ h9 => h9) rfl dX8_switchRouter_1 ?_
  refine lv_iload_n hx hb dX8_switchRouter_4 rfl (lv_at hl 1 rfl) ?_
  refine va_zald hx hb hK hP 1 1 rfl rfl (vp_in_nI (show r < 16 from by omega) (by decide)) dX8_switchRouter_5 ?_
  refine lv_topi (fun y ey => ?_)
  obtain rfl : y = (bI (ru r)) := ey.trans (ldB (f := ru) (j := r) (by omega))
  refine lv_istore_n (lv' := [(3, .int (bI (ru r))), (0, .ref h0), (1, .int (nI r)), (2, .int (bI b))]) hx hb dX8_switchRouter_6 rfl hl (by decide) rfl (fun ls hl => ?_)
  refine lv_aload_n hx hb dX8_switchRouter_7 rfl (lv_at hl 1 rfl) ?_
  refine va_get (ci := 8) (v := .ref (ad 7)) (C := RX8) (T := TX8) (N := 12) hx hb hts m_switchRouter_C8 hown hK hP 0 rfl rfl 2 (by decide) (hts (.fieldLink RX8 9 "RoutingDomain$Topology" "isRouterUp" "[Z") (m_switchRouter_O _ (by decide +kernel))) (fun _ h9 => h9) rfl dX8_switchRouter_8 ?_
  refine lv_iload_n hx hb dX8_switchRouter_11 rfl (lv_at hl 2 rfl) ?_
  refine lv_iload_n hx hb dX8_switchRouter_12 rfl (lv_at hl 3 rfl) ?_
  refine va_zast hx hb hK hP hD hS 1 1 rfl rfl (vp_in_nI (show r < 16 from by omega) (by decide)) dX8_switchRouter_13 (fun H locs hP hD hS => ?_)
  have hP : va_P D vwCl [(h0, .inr (8, [.int (nI rc), .int (nI lc), .ref (ad 7), .ref (ad 8), .ref (ad 9), .ref (ad 10), .ref (ad 11), .ref (ad 12), .ref (ad 13), .ref (ad 14), .ref (ad 15), .ref (ad 16)])), ((ad 7), .inl (cZ, 16, .inl (upd (eB ru) (nI r).toNatClampNeg (vp_nar .boolean (bI b))))), ((ad 9), .inl (cZ, 40, .inl (eB wu))), ((ad 13), .inl (cI, 16, .inl (eN pc))), ((ad 15), .inl (cI, 640, .inl (eN po)))] H := hP
  have hD : va_D A [(h0, .inr (8, [.int (nI rc), .int (nI lc), .ref (ad 7), .ref (ad 8), .ref (ad 9), .ref (ad 10), .ref (ad 11), .ref (ad 12), .ref (ad 13), .ref (ad 14), .ref (ad 15), .ref (ad 16)])), ((ad 7), .inl (cZ, 16, .inl (upd (eB ru) (nI r).toNatClampNeg (vp_nar .boolean (bI b))))), ((ad 9), .inl (cZ, 40, .inl (eB wu))), ((ad 13), .inl (cI, 16, .inl (eN pc))), ((ad 15), .inl (cI, 640, .inl (eN po)))] := hD
  rw [show (upd (eB ru) (nI r).toNatClampNeg (vp_nar .boolean (bI b))) = (eB (fs ru r b)) from stB (by omega)] at hP hD
  refine lv_iload_n hx hb dX8_switchRouter_14 rfl (lv_at hl 3 rfl) ?_
  refine lv_if_ne (tgt := 53) hx hb dX8_switchRouter_15 (by decide) (fun c_15 => ?_) (fun c_15 => ?_)
  · have n_15 : b = true := bI_1 c_15
    subst n_15
    refine lv_iload_n hx hb dX8_switchRouter_53 rfl (lv_at hl 0 rfl) ?_
    rw [show wu = (if true = true then wu else itr (swB po r) (pc r) wu) from (by first | rfl | (simp [itr_s]; done))] at hP hD
    exact k_zret E hK hP hD hS () [0, 1, 2, 3, 4] (by decide) rfl (by first | rfl | (simp [bI, oI]; done) | (simp [bI, oI]; rfl)) (bI_01 _) (Nat.le_of_ble_eq_true rfl) (Nat.le_of_ble_eq_true rfl) dX8_switchRouter_54
  · have n_15 : b = false := bI_0 c_15
    subst n_15
    refine lv_iconst (v := 0) hx hb dX8_switchRouter_18 (by decide) ?_
    refine lv_istore (lv' := [(4, .int 0), (3, .int (bI (ru r))), (0, .ref h0), (1, .int (nI r)), (2, .int (bI false))]) hx hb dX8_switchRouter_19 hl (by decide) rfl (fun ls hl => ?_)
    refine k_loop (Nat) 21 5 (fun u => u ≤ pc r) (fun u => pc r - u) (fun u => [(h0, .inr (8, [.int (nI rc), .int (nI lc), .ref (ad 7), .ref (ad 8), .ref (ad 9), .ref (ad 10), .ref (ad 11), .ref (ad 12), .ref (ad 13), .ref (ad 14), .ref (ad 15), .ref (ad 16)])), ((ad 7), .inl (cZ, 16, .inl (eB (fs ru r false)))), ((ad 9), .inl (cZ, 40, .inl (eB (itr (swB po r) u wu)))), ((ad 13), .inl (cI, 16, .inl (eN pc))), ((ad 15), .inl (cI, 640, .inl (eN po)))]) (fun u => [(0, .ref h0), (1, .int (nI r)), (2, .int (bI false)), (3, .int (bI (ru r))), (4, .int (nI u))]) ?_ (0) (Nat.zero_le _) (hP.sub [0, 1, 2, 3, 4] rfl) (hD.sub [0, 1, 2, 3, 4] (by decide) rfl) hS (lv_sub hl [2, 3, 4, 1, 0] rfl)
    intro i H locs ls hinv hP hD hS hl ih_21
    have hinv : i ≤ pc r := hinv
    have hP : va_P D vwCl [(h0, .inr (8, [.int (nI rc), .int (nI lc), .ref (ad 7), .ref (ad 8), .ref (ad 9), .ref (ad 10), .ref (ad 11), .ref (ad 12), .ref (ad 13), .ref (ad 14), .ref (ad 15), .ref (ad 16)])), ((ad 7), .inl (cZ, 16, .inl (eB (fs ru r false)))), ((ad 9), .inl (cZ, 40, .inl (eB (itr (swB po r) i wu)))), ((ad 13), .inl (cI, 16, .inl (eN pc))), ((ad 15), .inl (cI, 640, .inl (eN po)))] H := hP
    have hD : va_D A [(h0, .inr (8, [.int (nI rc), .int (nI lc), .ref (ad 7), .ref (ad 8), .ref (ad 9), .ref (ad 10), .ref (ad 11), .ref (ad 12), .ref (ad 13), .ref (ad 14), .ref (ad 15), .ref (ad 16)])), ((ad 7), .inl (cZ, 16, .inl (eB (fs ru r false)))), ((ad 9), .inl (cZ, 40, .inl (eB (itr (swB po r) i wu)))), ((ad 13), .inl (cI, 16, .inl (eN pc))), ((ad 15), .inl (cI, 640, .inl (eN po)))] := hD
    have hl : lv_has ls 5 [(0, .ref h0), (1, .int (nI r)), (2, .int (bI false)), (3, .int (bI (ru r))), (4, .int (nI i))] := hl
    refine lv_iload hx hb dX8_switchRouter_21 (lv_at hl 4 rfl) ?_
    refine lv_aload_n hx hb dX8_switchRouter_23 rfl (lv_at hl 0 rfl) ?_
    refine va_get (ci := 8) (v := .ref (ad 13)) (C := RX8) (T := TX8) (N := 12) hx hb hts m_switchRouter_C8 hown hK hP 0 rfl rfl 8 (by decide) (hts (.fieldLink RX8 31 "RoutingDomain$Topology" "portCount" "[I") (m_switchRouter_O _ (by decide +kernel))) (fun _ h9 => h9) rfl dX8_switchRouter_24 ?_
    refine lv_iload_n hx hb dX8_switchRouter_27 rfl (lv_at hl 1 rfl) ?_
    refine va_iald hx hb hK hP 3 0 rfl rfl (vp_in_nI (show r < 16 from by omega) (by decide)) dX8_switchRouter_28 ?_
    refine lv_topi (fun y ey => ?_)
    obtain rfl : y = (nI (pc r)) := ey.trans (ldN (f := pc) (j := r) (by omega))
    refine lv_icmp_ge (tgt := 53) hx hb dX8_switchRouter_29 (by decide) (fun c_29 => ?_) (fun c_29 => ?_)
    · have n_29 : (pc r) ≤ i := (nI_leI (a := (pc r)) (b := i) (by omega) (by omega)).mp c_29
      obtain rfl : i = pc r := by omega
      refine lv_iload_n hx hb dX8_switchRouter_53 rfl (lv_at hl 3 rfl) ?_
      rw [show (itr (swB po r) (pc r) wu) = (if false = true then wu else itr (swB po r) (pc r) wu) from (by first | rfl | (simp [itr_s, n_29]; done))] at hP hD
      exact k_zret E hK hP hD hS () [0, 1, 2, 3, 4] (by decide) rfl (by first | rfl | (simp [bI, oI, n_29]; done) | (simp [bI, oI, n_29]; rfl)) (bI_01 _) (Nat.le_of_ble_eq_true rfl) (Nat.le_of_ble_eq_true rfl) dX8_switchRouter_54
    · have n_29 : ¬ (pc r) ≤ i := fun h => c_29 ((nI_leI (a := (pc r)) (b := i) (by omega) (by omega)).mpr h)
      refine lv_aload_n hx hb dX8_switchRouter_32 rfl (lv_at hl 0 rfl) ?_
      refine va_get (ci := 8) (v := .ref (ad 9)) (C := RX8) (T := TX8) (N := 12) hx hb hts m_switchRouter_C8 hown hK hP 0 rfl rfl 4 (by decide) (hts (.fieldLink RX8 18 "RoutingDomain$Topology" "wasUsable" "[Z") (m_switchRouter_O _ (by decide +kernel))) (fun _ h9 => h9) rfl dX8_switchRouter_33 ?_
      have hq1 := hpo (r * 40 + i)
      refine lv_aload_n hx hb dX8_switchRouter_36 rfl (lv_at hl 0 rfl) ?_
      refine lv_iload_n hx hb dX8_switchRouter_37 rfl (lv_at hl 1 rfl) ?_
      refine lv_iload hx hb dX8_switchRouter_38 (lv_at hl 4 rfl) ?_
      refine kVi (As := [.int (nI r), .int (nI i)]) (rest := [.ref (ad 9)]) (wr := [((ad 7), .inl (cZ, 16, .inl (eB (fs ru r false)))), ((ad 9), .inl (cZ, 40, .inl (eB (itr (swB po r) i wu)))), ((ad 13), .inl (cI, 16, .inl (eN pc)))]) (w2 := fun _ => [(h0, .inr (8, [.int (nI rc), .int (nI lc), .ref (ad 7), .ref (ad 8), .ref (ad 9), .ref (ad 10), .ref (ad 11), .ref (ad 12), .ref (ad 13), .ref (ad 14), .ref (ad 15), .ref (ad 16)])), ((ad 7), .inl (cZ, 16, .inl (eB (fs ru r false)))), ((ad 9), .inl (cZ, 40, .inl (eB (itr (swB po r) i wu)))), ((ad 13), .inl (cI, 16, .inl (eN pc))), ((ad 15), .inl (cI, 640, .inl (eN po)))]) ⟨hx, hb, hml, hown, hts⟩ hN (c_portAt l D cI cZ cJ h0 ad rc lc po r i hr (by omega)) (cwV 2 hts (k_gV (fun w h => m_switchRouter_O w ((by decide +kernel : ∀ w ∈ ([.methodLink RX8 60 yX8_portAt, .instanceMethod yX8_portAt, .selects RX8 yX8_portAt yX8_portAt, .initialized RX8] : List Cond), w ∈ O_switchRouter) w h)) m_switchRouter_WportAt gd_portAt) rfl rfl rfl (by decide +kernel) ⟨Nat.le_of_ble_eq_true rfl, Nat.le_of_ble_eq_true rfl⟩) hK hP hD hS hA [0, 4] [1, 2, 3] [3, 0, 1, 2, 4] rfl rfl ⟨by decide, by decide, by decide⟩ (by decide) (fun _ => rfl) 8 0 rfl rfl rfl rfl hl.1 rfl (Nat.le_of_ble_eq_true rfl) dX8_switchRouter_40 ⟨Nat.le_of_ble_eq_true rfl, Nat.le_of_ble_eq_true rfl⟩ (fun res_ u H locs hw hP hD hS => ?_)
      have hP : va_P D vwCl [(h0, .inr (8, [.int (nI rc), .int (nI lc), .ref (ad 7), .ref (ad 8), .ref (ad 9), .ref (ad 10), .ref (ad 11), .ref (ad 12), .ref (ad 13), .ref (ad 14), .ref (ad 15), .ref (ad 16)])), ((ad 7), .inl (cZ, 16, .inl (eB (fs ru r false)))), ((ad 9), .inl (cZ, 40, .inl (eB (itr (swB po r) i wu)))), ((ad 13), .inl (cI, 16, .inl (eN pc))), ((ad 15), .inl (cI, 640, .inl (eN po)))] H := hP
      have hD : va_D A [(h0, .inr (8, [.int (nI rc), .int (nI lc), .ref (ad 7), .ref (ad 8), .ref (ad 9), .ref (ad 10), .ref (ad 11), .ref (ad 12), .ref (ad 13), .ref (ad 14), .ref (ad 15), .ref (ad 16)])), ((ad 7), .inl (cZ, 16, .inl (eB (fs ru r false)))), ((ad 9), .inl (cZ, 40, .inl (eB (itr (swB po r) i wu)))), ((ad 13), .inl (cI, 16, .inl (eN pc))), ((ad 15), .inl (cI, 640, .inl (eN po)))] := hD
      obtain rfl : res_ = (nI (po (r * 40 + i))) := hw
      refine lv_iconst (v := 1) hx hb dX8_switchRouter_43 (by decide) ?_
      refine lv_ishr hx hb dX8_switchRouter_44 ?_
      refine lv_topi (fun y ey => ?_)
      obtain rfl : y = (nI ((po (r * 40 + i)) / 2)) := ey.trans (k_shr (a := (po (r * 40 + i))) (by omega) 1 (by decide))
      refine lv_iconst (v := 0) hx hb dX8_switchRouter_45 (by decide) ?_
      refine va_zast hx hb hK hP hD hS 2 1 rfl rfl (vp_in_nI (show ((po (r * 40 + i)) / 2) < 40 from by omega) (by decide)) dX8_switchRouter_46 (fun H locs hP hD hS => ?_)
      have hP : va_P D vwCl [(h0, .inr (8, [.int (nI rc), .int (nI lc), .ref (ad 7), .ref (ad 8), .ref (ad 9), .ref (ad 10), .ref (ad 11), .ref (ad 12), .ref (ad 13), .ref (ad 14), .ref (ad 15), .ref (ad 16)])), ((ad 7), .inl (cZ, 16, .inl (eB (fs ru r false)))), ((ad 9), .inl (cZ, 40, .inl (upd (eB (itr (swB po r) i wu)) (nI ((po (r * 40 + i)) / 2)).toNatClampNeg (vp_nar .boolean (bI false))))), ((ad 13), .inl (cI, 16, .inl (eN pc))), ((ad 15), .inl (cI, 640, .inl (eN po)))] H := hP
      have hD : va_D A [(h0, .inr (8, [.int (nI rc), .int (nI lc), .ref (ad 7), .ref (ad 8), .ref (ad 9), .ref (ad 10), .ref (ad 11), .ref (ad 12), .ref (ad 13), .ref (ad 14), .ref (ad 15), .ref (ad 16)])), ((ad 7), .inl (cZ, 16, .inl (eB (fs ru r false)))), ((ad 9), .inl (cZ, 40, .inl (upd (eB (itr (swB po r) i wu)) (nI ((po (r * 40 + i)) / 2)).toNatClampNeg (vp_nar .boolean (bI false))))), ((ad 13), .inl (cI, 16, .inl (eN pc))), ((ad 15), .inl (cI, 640, .inl (eN po)))] := hD
      rw [show (upd (eB (itr (swB po r) i wu)) (nI ((po (r * 40 + i)) / 2)).toNatClampNeg (vp_nar .boolean (bI false))) = (eB (fs (itr (swB po r) i wu) ((po (r * 40 + i)) / 2) false)) from stB (by omega)] at hP hD
      refine lv_iinc (v := (nI (i + 1))) (lv' := [(4, .int (nI (i + 1))), (0, .ref h0), (1, .int (nI r)), (2, .int (bI false)), (3, .int (bI (ru r)))]) hx hb dX8_switchRouter_47 hl (k := 4) rfl (nI_add i 1) (by decide) rfl (fun ls hl => ?_)
      refine lv_goto (tgt := 21) hx hb dX8_switchRouter_50 (by decide) ?_
      rw [show (fs (itr (swB po r) i wu) ((po (r * 40 + i)) / 2) false) = (itr (swB po r) (i + 1) wu) from (by first | rfl | (simp [itr_s, n_29]; done))] at hP hD
      exact ih_21 (i + 1) H locs ls (by show i + 1 ≤ pc r; omega) (by show pc r - (i + 1) < pc r - i; omega) (hP.sub [0, 1, 2, 3, 4] rfl) (hD.sub [0, 1, 2, 3, 4] (by decide) rfl) hS (lv_sub hl [1, 2, 3, 4, 0] rfl)

def O_attach : List Cond := [.fieldLink RX8 25 "RoutingDomain$Topology" "routerOfPort" "[I", .fieldLink RX8 28 "RoutingDomain$Topology" "metricOfPort" "[I", .fieldLink RX8 37 "RoutingDomain$Topology" "ports" "[I", .fieldLink RX8 31 "RoutingDomain$Topology" "portCount" "[I", .fieldLink RX8 40 "RoutingDomain$Topology" "attached" "[Z"]
def W_attach : List Cond := .code yX8_attach cX8_attach 5 none :: (O_attach ++ wsX80)
theorem m_attach_O : ∀ w ∈ O_attach, w ∈ W_attach := fun _ h => List.mem_cons_of_mem _ (List.mem_append_left _ h)
theorem m_attach_C8 : ∀ w ∈ wsX80, w ∈ W_attach := fun _ h => List.mem_cons_of_mem _ (List.mem_append_right _ h)
theorem gdO_attach : O_attach.all goodWord = true := by decide +kernel
theorem gd_attach : W_attach.all goodWord = true := k_all_cons rfl (k_all_app gdO_attach gdC_8)
set_option maxHeartbeats 4000000 in
set_option maxRecDepth 100000 in
theorem c_attach (l : Launch) (D : va_G) (cI cZ cJ : ClassId) (h0 : Nat) (ad : Nat → Nat) (rc : Nat) (lc : Nat) (rp : Nat → Nat) (mp : Nat → Nat) (pc : Nat → Nat) (po : Nat → Nat) (at_ : Nat → Bool) (q : Nat) (r : Nat) (a : Nat) (me : Nat) (hq : q < 80) (hr : r < 16) (ha : a < 4) (hpc : pc r < 40) : kMv l yX8_attach W_attach { frames := 0, cells := 0, slots := 0, locals := 0 } 0 0 D (kT cI cZ cJ) [.ref h0, .int (nI q), .int (nI r), .int (nI a), .int (nI me)] [(h0, .inr (8, [.int (nI rc), .int (nI lc), .ref (ad 7), .ref (ad 8), .ref (ad 9), .ref (ad 10), .ref (ad 11), .ref (ad 12), .ref (ad 13), .ref (ad 14), .ref (ad 15), .ref (ad 16)])), ((ad 11), .inl (cI, 80, .inl (eN rp))), ((ad 12), .inl (cI, 80, .inl (eN mp))), ((ad 13), .inl (cI, 16, .inl (eN pc))), ((ad 15), .inl (cI, 640, .inl (eN po))), ((ad 16), .inl (cZ, 64, .inl (eB at_)))] (S := Unit) (fun _ => True) (fun _ => [(h0, .inr (8, [.int (nI rc), .int (nI lc), .ref (ad 7), .ref (ad 8), .ref (ad 9), .ref (ad 10), .ref (ad 11), .ref (ad 12), .ref (ad 13), .ref (ad 14), .ref (ad 15), .ref (ad 16)])), ((ad 11), .inl (cI, 80, .inl (eN (fs rp q r)))), ((ad 12), .inl (cI, 80, .inl (eN (fs mp q me)))), ((ad 13), .inl (cI, 16, .inl (eN (fs pc r (pc r + 1))))), ((ad 15), .inl (cI, 640, .inl (eN (fs po (r * 40 + pc r) q)))), ((ad 16), .inl (cZ, 64, .inl (eB (fs at_ (r * 4 + a) true))))]) := by
  refine kMv_of (lv := [(0, .ref h0), (1, .int (nI q)), (2, .int (nI r)), (3, .int (nI a)), (4, .int (nI me))]) RX8 "attach" (by decide +kernel) rfl rfl rfl (Nat.le_of_ble_eq_true rfl) rfl ?_
  intro p e s m below meth c A H locs ls E hA hK hP hD hS hl
  obtain ⟨hx, hb, hr_, hts, hown, hlocks, hml, hin, hN⟩ := id E
  refine lv_aload_n hx hb dX8_attach_0 rfl (lv_at hl 0 rfl) ?_
  refine va_get (ci := 8) (v := .ref (ad 11)) (C := RX8) (T := TX8) (N := 12) hx hb hts m_attach_C8 hown hK hP 0 rfl rfl 6 (by decide) (hts (.fieldLink RX8 25 "RoutingDomain$Topology" "routerOfPort" "[I") (m_attach_O _ (by decide +kernel))) (fun _ h9 => h9) rfl dX8_attach_1 ?_
  refine lv_iload_n hx hb dX8_attach_4 rfl (lv_at hl 1 rfl) ?_
  refine lv_iload_n hx hb dX8_attach_5 rfl (lv_at hl 2 rfl) ?_
  refine va_iast hx hb hK hP hD hS 1 0 rfl rfl (vp_in_nI (show q < 80 from by omega) (by decide)) dX8_attach_6 (fun H locs hP hD hS => ?_)
  have hP : va_P D vwCl [(h0, .inr (8, [.int (nI rc), .int (nI lc), .ref (ad 7), .ref (ad 8), .ref (ad 9), .ref (ad 10), .ref (ad 11), .ref (ad 12), .ref (ad 13), .ref (ad 14), .ref (ad 15), .ref (ad 16)])), ((ad 11), .inl (cI, 80, .inl (upd (eN rp) (nI q).toNatClampNeg (nI r)))), ((ad 12), .inl (cI, 80, .inl (eN mp))), ((ad 13), .inl (cI, 16, .inl (eN pc))), ((ad 15), .inl (cI, 640, .inl (eN po))), ((ad 16), .inl (cZ, 64, .inl (eB at_)))] H := hP
  have hD : va_D A [(h0, .inr (8, [.int (nI rc), .int (nI lc), .ref (ad 7), .ref (ad 8), .ref (ad 9), .ref (ad 10), .ref (ad 11), .ref (ad 12), .ref (ad 13), .ref (ad 14), .ref (ad 15), .ref (ad 16)])), ((ad 11), .inl (cI, 80, .inl (upd (eN rp) (nI q).toNatClampNeg (nI r)))), ((ad 12), .inl (cI, 80, .inl (eN mp))), ((ad 13), .inl (cI, 16, .inl (eN pc))), ((ad 15), .inl (cI, 640, .inl (eN po))), ((ad 16), .inl (cZ, 64, .inl (eB at_)))] := hD
  rw [show (upd (eN rp) (nI q).toNatClampNeg (nI r)) = (eN (fs rp q r)) from stN (by omega)] at hP hD
  refine lv_aload_n hx hb dX8_attach_7 rfl (lv_at hl 0 rfl) ?_
  refine va_get (ci := 8) (v := .ref (ad 12)) (C := RX8) (T := TX8) (N := 12) hx hb hts m_attach_C8 hown hK hP 0 rfl rfl 7 (by decide) (hts (.fieldLink RX8 28 "RoutingDomain$Topology" "metricOfPort" "[I") (m_attach_O _ (by decide +kernel))) (fun _ h9 => h9) rfl dX8_attach_8 ?_
  refine lv_iload_n hx hb dX8_attach_11 rfl (lv_at hl 1 rfl) ?_
  refine lv_iload hx hb dX8_attach_12 (lv_at hl 4 rfl) ?_
  refine va_iast hx hb hK hP hD hS 2 0 rfl rfl (vp_in_nI (show q < 80 from by omega) (by decide)) dX8_attach_14 (fun H locs hP hD hS => ?_)
  have hP : va_P D vwCl [(h0, .inr (8, [.int (nI rc), .int (nI lc), .ref (ad 7), .ref (ad 8), .ref (ad 9), .ref (ad 10), .ref (ad 11), .ref (ad 12), .ref (ad 13), .ref (ad 14), .ref (ad 15), .ref (ad 16)])), ((ad 11), .inl (cI, 80, .inl (eN (fs rp q r)))), ((ad 12), .inl (cI, 80, .inl (upd (eN mp) (nI q).toNatClampNeg (nI me)))), ((ad 13), .inl (cI, 16, .inl (eN pc))), ((ad 15), .inl (cI, 640, .inl (eN po))), ((ad 16), .inl (cZ, 64, .inl (eB at_)))] H := hP
  have hD : va_D A [(h0, .inr (8, [.int (nI rc), .int (nI lc), .ref (ad 7), .ref (ad 8), .ref (ad 9), .ref (ad 10), .ref (ad 11), .ref (ad 12), .ref (ad 13), .ref (ad 14), .ref (ad 15), .ref (ad 16)])), ((ad 11), .inl (cI, 80, .inl (eN (fs rp q r)))), ((ad 12), .inl (cI, 80, .inl (upd (eN mp) (nI q).toNatClampNeg (nI me)))), ((ad 13), .inl (cI, 16, .inl (eN pc))), ((ad 15), .inl (cI, 640, .inl (eN po))), ((ad 16), .inl (cZ, 64, .inl (eB at_)))] := hD
  rw [show (upd (eN mp) (nI q).toNatClampNeg (nI me)) = (eN (fs mp q me)) from stN (by omega)] at hP hD
  refine lv_aload_n hx hb dX8_attach_15 rfl (lv_at hl 0 rfl) ?_
  refine va_get (ci := 8) (v := .ref (ad 15)) (C := RX8) (T := TX8) (N := 12) hx hb hts m_attach_C8 hown hK hP 0 rfl rfl 10 (by decide) (hts (.fieldLink RX8 37 "RoutingDomain$Topology" "ports" "[I") (m_attach_O _ (by decide +kernel))) (fun _ h9 => h9) rfl dX8_attach_16 ?_
  refine lv_iload_n hx hb dX8_attach_19 rfl (lv_at hl 2 rfl) ?_
  refine lv_bipush (v := 40) hx hb dX8_attach_20 (by decide) ?_
  refine lv_imul hx hb dX8_attach_22 ?_
  refine lv_topi (fun y ey => ?_)
  obtain rfl : y = (nI (r * 40)) := ey.trans (pk_mul r 40)
  refine lv_aload_n hx hb dX8_attach_23 rfl (lv_at hl 0 rfl) ?_
  refine va_get (ci := 8) (v := .ref (ad 13)) (C := RX8) (T := TX8) (N := 12) hx hb hts m_attach_C8 hown hK hP 0 rfl rfl 8 (by decide) (hts (.fieldLink RX8 31 "RoutingDomain$Topology" "portCount" "[I") (m_attach_O _ (by decide +kernel))) (fun _ h9 => h9) rfl dX8_attach_24 ?_
  refine lv_iload_n hx hb dX8_attach_27 rfl (lv_at hl 2 rfl) ?_
  refine va_iald hx hb hK hP 3 0 rfl rfl (vp_in_nI (show r < 16 from by omega) (by decide)) dX8_attach_28 ?_
  refine lv_topi (fun y ey => ?_)
  obtain rfl : y = (nI (pc r)) := ey.trans (ldN (f := pc) (j := r) (by omega))
  refine lv_iadd hx hb dX8_attach_29 ?_
  refine lv_topi (fun y ey => ?_)
  obtain rfl : y = (nI ((r * 40) + (pc r))) := ey.trans (nI_add (r * 40) (pc r))
  refine lv_iload_n hx hb dX8_attach_30 rfl (lv_at hl 1 rfl) ?_
  refine va_iast hx hb hK hP hD hS 4 0 rfl rfl (vp_in_nI (show ((r * 40) + (pc r)) < 640 from by omega) (by decide)) dX8_attach_31 (fun H locs hP hD hS => ?_)
  have hP : va_P D vwCl [(h0, .inr (8, [.int (nI rc), .int (nI lc), .ref (ad 7), .ref (ad 8), .ref (ad 9), .ref (ad 10), .ref (ad 11), .ref (ad 12), .ref (ad 13), .ref (ad 14), .ref (ad 15), .ref (ad 16)])), ((ad 11), .inl (cI, 80, .inl (eN (fs rp q r)))), ((ad 12), .inl (cI, 80, .inl (eN (fs mp q me)))), ((ad 13), .inl (cI, 16, .inl (eN pc))), ((ad 15), .inl (cI, 640, .inl (upd (eN po) (nI ((r * 40) + (pc r))).toNatClampNeg (nI q)))), ((ad 16), .inl (cZ, 64, .inl (eB at_)))] H := hP
  have hD : va_D A [(h0, .inr (8, [.int (nI rc), .int (nI lc), .ref (ad 7), .ref (ad 8), .ref (ad 9), .ref (ad 10), .ref (ad 11), .ref (ad 12), .ref (ad 13), .ref (ad 14), .ref (ad 15), .ref (ad 16)])), ((ad 11), .inl (cI, 80, .inl (eN (fs rp q r)))), ((ad 12), .inl (cI, 80, .inl (eN (fs mp q me)))), ((ad 13), .inl (cI, 16, .inl (eN pc))), ((ad 15), .inl (cI, 640, .inl (upd (eN po) (nI ((r * 40) + (pc r))).toNatClampNeg (nI q)))), ((ad 16), .inl (cZ, 64, .inl (eB at_)))] := hD
  rw [show (upd (eN po) (nI ((r * 40) + (pc r))).toNatClampNeg (nI q)) = (eN (fs po ((r * 40) + (pc r)) q)) from stN (by omega)] at hP hD
  refine lv_aload_n hx hb dX8_attach_32 rfl (lv_at hl 0 rfl) ?_
  refine va_get (ci := 8) (v := .ref (ad 13)) (C := RX8) (T := TX8) (N := 12) hx hb hts m_attach_C8 hown hK hP 0 rfl rfl 8 (by decide) (hts (.fieldLink RX8 31 "RoutingDomain$Topology" "portCount" "[I") (m_attach_O _ (by decide +kernel))) (fun _ h9 => h9) rfl dX8_attach_33 ?_
  refine lv_iload_n hx hb dX8_attach_36 rfl (lv_at hl 2 rfl) ?_
  refine lv_dup2_11 hx hb dX8_attach_37 rfl rfl ?_
  refine va_iald hx hb hK hP 3 0 rfl rfl (vp_in_nI (show r < 16 from by omega) (by decide)) dX8_attach_38 ?_
  refine lv_topi (fun y ey => ?_)
  obtain rfl : y = (nI (pc r)) := ey.trans (ldN (f := pc) (j := r) (by omega))
  refine lv_iconst (v := 1) hx hb dX8_attach_39 (by decide) ?_
  refine lv_iadd hx hb dX8_attach_40 ?_
  refine lv_topi (fun y ey => ?_)
  obtain rfl : y = (nI ((pc r) + 1)) := ey.trans (nI_add (pc r) 1)
  refine va_iast hx hb hK hP hD hS 3 0 rfl rfl (vp_in_nI (show r < 16 from by omega) (by decide)) dX8_attach_41 (fun H locs hP hD hS => ?_)
  have hP : va_P D vwCl [(h0, .inr (8, [.int (nI rc), .int (nI lc), .ref (ad 7), .ref (ad 8), .ref (ad 9), .ref (ad 10), .ref (ad 11), .ref (ad 12), .ref (ad 13), .ref (ad 14), .ref (ad 15), .ref (ad 16)])), ((ad 11), .inl (cI, 80, .inl (eN (fs rp q r)))), ((ad 12), .inl (cI, 80, .inl (eN (fs mp q me)))), ((ad 13), .inl (cI, 16, .inl (upd (eN pc) (nI r).toNatClampNeg (nI ((pc r) + 1))))), ((ad 15), .inl (cI, 640, .inl (eN (fs po ((r * 40) + (pc r)) q)))), ((ad 16), .inl (cZ, 64, .inl (eB at_)))] H := hP
  have hD : va_D A [(h0, .inr (8, [.int (nI rc), .int (nI lc), .ref (ad 7), .ref (ad 8), .ref (ad 9), .ref (ad 10), .ref (ad 11), .ref (ad 12), .ref (ad 13), .ref (ad 14), .ref (ad 15), .ref (ad 16)])), ((ad 11), .inl (cI, 80, .inl (eN (fs rp q r)))), ((ad 12), .inl (cI, 80, .inl (eN (fs mp q me)))), ((ad 13), .inl (cI, 16, .inl (upd (eN pc) (nI r).toNatClampNeg (nI ((pc r) + 1))))), ((ad 15), .inl (cI, 640, .inl (eN (fs po ((r * 40) + (pc r)) q)))), ((ad 16), .inl (cZ, 64, .inl (eB at_)))] := hD
  rw [show (upd (eN pc) (nI r).toNatClampNeg (nI ((pc r) + 1))) = (eN (fs pc r ((pc r) + 1))) from stN (by omega)] at hP hD
  refine lv_aload_n hx hb dX8_attach_42 rfl (lv_at hl 0 rfl) ?_
  refine va_get (ci := 8) (v := .ref (ad 16)) (C := RX8) (T := TX8) (N := 12) hx hb hts m_attach_C8 hown hK hP 0 rfl rfl 11 (by decide) (hts (.fieldLink RX8 40 "RoutingDomain$Topology" "attached" "[Z") (m_attach_O _ (by decide +kernel))) (fun _ h9 => h9) rfl dX8_attach_43 ?_
  refine lv_iload_n hx hb dX8_attach_46 rfl (lv_at hl 2 rfl) ?_
  refine lv_iconst (v := 4) hx hb dX8_attach_47 (by decide) ?_
  refine lv_imul hx hb dX8_attach_48 ?_
  refine lv_topi (fun y ey => ?_)
  obtain rfl : y = (nI (r * 4)) := ey.trans (pk_mul r 4)
  refine lv_iload_n hx hb dX8_attach_49 rfl (lv_at hl 3 rfl) ?_
  refine lv_iadd hx hb dX8_attach_50 ?_
  refine lv_topi (fun y ey => ?_)
  obtain rfl : y = (nI ((r * 4) + a)) := ey.trans (nI_add (r * 4) a)
  refine lv_iconst (v := 1) hx hb dX8_attach_51 (by decide) ?_
  refine va_zast hx hb hK hP hD hS 5 1 rfl rfl (vp_in_nI (show ((r * 4) + a) < 64 from by omega) (by decide)) dX8_attach_52 (fun H locs hP hD hS => ?_)
  have hP : va_P D vwCl [(h0, .inr (8, [.int (nI rc), .int (nI lc), .ref (ad 7), .ref (ad 8), .ref (ad 9), .ref (ad 10), .ref (ad 11), .ref (ad 12), .ref (ad 13), .ref (ad 14), .ref (ad 15), .ref (ad 16)])), ((ad 11), .inl (cI, 80, .inl (eN (fs rp q r)))), ((ad 12), .inl (cI, 80, .inl (eN (fs mp q me)))), ((ad 13), .inl (cI, 16, .inl (eN (fs pc r ((pc r) + 1))))), ((ad 15), .inl (cI, 640, .inl (eN (fs po ((r * 40) + (pc r)) q)))), ((ad 16), .inl (cZ, 64, .inl (upd (eB at_) (nI ((r * 4) + a)).toNatClampNeg (vp_nar .boolean (bI true)))))] H := hP
  have hD : va_D A [(h0, .inr (8, [.int (nI rc), .int (nI lc), .ref (ad 7), .ref (ad 8), .ref (ad 9), .ref (ad 10), .ref (ad 11), .ref (ad 12), .ref (ad 13), .ref (ad 14), .ref (ad 15), .ref (ad 16)])), ((ad 11), .inl (cI, 80, .inl (eN (fs rp q r)))), ((ad 12), .inl (cI, 80, .inl (eN (fs mp q me)))), ((ad 13), .inl (cI, 16, .inl (eN (fs pc r ((pc r) + 1))))), ((ad 15), .inl (cI, 640, .inl (eN (fs po ((r * 40) + (pc r)) q)))), ((ad 16), .inl (cZ, 64, .inl (upd (eB at_) (nI ((r * 4) + a)).toNatClampNeg (vp_nar .boolean (bI true)))))] := hD
  rw [show (upd (eB at_) (nI ((r * 4) + a)).toNatClampNeg (vp_nar .boolean (bI true))) = (eB (fs at_ ((r * 4) + a) true)) from stB (by omega)] at hP hD
  rw [show (fs pc r ((pc r) + 1)) = (fs pc r (pc r + 1)) from (by first | rfl | (simp [itr_s]; done))] at hP hD
  rw [show (fs po ((r * 40) + (pc r)) q) = (fs po (r * 40 + pc r) q) from (by first | rfl | (simp [itr_s]; done))] at hP hD
  rw [show (fs at_ ((r * 4) + a) true) = (fs at_ (r * 4 + a) true) from (by first | rfl | (simp [itr_s]; done))] at hP hD
  exact k_vret E hK hP hD hS () [0, 1, 2, 3, 4, 5] (by decide) rfl trivial (Nat.le_of_ble_eq_true rfl) (Nat.le_of_ble_eq_true rfl) dX8_attach_53

def O_createLink : List Cond := [.fieldLink RX8 53 "RoutingDomain$Topology" "linkCount" "I", .fieldLink RX8 15 "RoutingDomain$Topology" "isLinkUp" "[Z", .fieldLink RX8 21 "RoutingDomain$Topology" "areaOfLink" "[I", .methodLink RX8 56 yX8_attach, .instanceMethod yX8_attach, .selects RX8 yX8_attach yX8_attach, .initialized RX8]
def W_createLink : List Cond := .code yX8_createLink cX8_createLink 7 (some .int) :: (O_createLink ++ (wsX80 ++ W_attach))
theorem m_createLink_O : ∀ w ∈ O_createLink, w ∈ W_createLink := fun _ h => List.mem_cons_of_mem _ (List.mem_append_left _ h)
theorem m_createLink_C8 : ∀ w ∈ wsX80, w ∈ W_createLink := fun _ h => List.mem_cons_of_mem _ (List.mem_append_right _ (List.mem_append_left _ h))
theorem m_createLink_Wattach : ∀ w ∈ W_attach, w ∈ W_createLink := fun _ h => List.mem_cons_of_mem _ (List.mem_append_right _ (List.mem_append_right _ h))
theorem gdO_createLink : O_createLink.all goodWord = true := by decide +kernel
theorem gd_createLink : W_createLink.all goodWord = true := k_all_cons rfl (k_all_app gdO_createLink (k_all_app gdC_8 gd_attach))
set_option maxHeartbeats 4000000 in
set_option maxRecDepth 100000 in
theorem c_createLink (l : Launch) (D : va_G) (cI cZ cJ : ClassId) (h0 : Nat) (ad : Nat → Nat) (rc : Nat) (lc : Nat) (lu : Nat → Bool) (al : Nat → Nat) (rp : Nat → Nat) (mp : Nat → Nat) (pc : Nat → Nat) (po : Nat → Nat) (at_ : Nat → Bool) (f : Nat) (g : Nat) (a : Nat) (m0 : Nat) (m1 : Nat) (hlc : lc < 40) (hf : f < 16) (hg : g < 16) (ha : a < 4) (hfg : g ≠ f) (hpf : pc f < 40) (hpg : pc g < 40) : kMi l yX8_createLink W_createLink { frames := 1, cells := 0, slots := 0, locals := 40 } 0 0 D (kT cI cZ cJ) [.ref h0, .int (nI f), .int (nI g), .int (nI a), .int (nI m0), .int (nI m1)] [(h0, .inr (8, [.int (nI rc), .int (nI lc), .ref (ad 7), .ref (ad 8), .ref (ad 9), .ref (ad 10), .ref (ad 11), .ref (ad 12), .ref (ad 13), .ref (ad 14), .ref (ad 15), .ref (ad 16)])), ((ad 8), .inl (cZ, 40, .inl (eB lu))), ((ad 10), .inl (cI, 40, .inl (eN al))), ((ad 11), .inl (cI, 80, .inl (eN rp))), ((ad 12), .inl (cI, 80, .inl (eN mp))), ((ad 13), .inl (cI, 16, .inl (eN pc))), ((ad 15), .inl (cI, 640, .inl (eN po))), ((ad 16), .inl (cZ, 64, .inl (eB at_)))] (S := Unit) (fun res_ _ => res_ = (nI lc)) (fun _ => [(h0, .inr (8, [.int (nI rc), .int (nI (lc + 1)), .ref (ad 7), .ref (ad 8), .ref (ad 9), .ref (ad 10), .ref (ad 11), .ref (ad 12), .ref (ad 13), .ref (ad 14), .ref (ad 15), .ref (ad 16)])), ((ad 8), .inl (cZ, 40, .inl (eB (fs lu lc true)))), ((ad 10), .inl (cI, 40, .inl (eN (fs al lc a)))), ((ad 11), .inl (cI, 80, .inl (eN (fs (fs rp (lc * 2) f) (lc * 2 + 1) g)))), ((ad 12), .inl (cI, 80, .inl (eN (fs (fs mp (lc * 2) m0) (lc * 2 + 1) m1)))), ((ad 13), .inl (cI, 16, .inl (eN (fs (fs pc f (pc f + 1)) g ((fs pc f (pc f + 1)) g + 1))))), ((ad 15), .inl (cI, 640, .inl (eN (fs (fs po (f * 40 + pc f) (lc * 2)) (g * 40 + (fs pc f (pc f + 1)) g) (lc * 2 + 1))))), ((ad 16), .inl (cZ, 64, .inl (eB (fs (fs at_ (f * 4 + a) true) (g * 4 + a) true))))]) := by
  refine kMi_of (lv := [(0, .ref h0), (1, .int (nI f)), (2, .int (nI g)), (3, .int (nI a)), (4, .int (nI m0)), (5, .int (nI m1))]) RX8 "createLink" (by decide +kernel) rfl rfl rfl (Nat.le_of_ble_eq_true rfl) rfl ?_
  intro p e s m below meth c A H locs ls E hA hK hP hD hS hl
  obtain ⟨hx, hb, hr_, hts, hown, hlocks, hml, hin, hN⟩ := id E
  refine lv_aload_n hx hb dX8_createLink_0 rfl (lv_at hl 0 rfl) ?_
  refine va_get (ci := 8) (v := .int (nI lc)) (C := RX8) (T := TX8) (N := 12) hx hb hts m_createLink_C8 hown hK hP 0 rfl rfl 1 (by decide) (hts (.fieldLink RX8 53 "RoutingDomain$Topology" "linkCount" "I") (m_createLink_O _ (by decide +kernel))) (fun _ h9 => h9) rfl dX8_createLink_1 ?_
  refine lv_istore (lv' := [(6, .int (nI lc)), (0, .ref h0), (1, .int (nI f)), (2, .int (nI g)), (3, .int (nI a)), (4, .int (nI m0)), (5, .int (nI m1))]) hx hb dX8_createLink_4 hl (by decide) rfl (fun ls hl => ?_)
  refine lv_aload_n hx hb dX8_createLink_6 rfl (lv_at hl 1 rfl) ?_
  refine va_get (ci := 8) (v := .ref (ad 8)) (C := RX8) (T := TX8) (N := 12) hx hb hts m_createLink_C8 hown hK hP 0 rfl rfl 3 (by decide) (hts (.fieldLink RX8 15 "RoutingDomain$Topology" "isLinkUp" "[Z") (m_createLink_O _ (by decide +kernel))) (fun _ h9 => h9) rfl dX8_createLink_7 ?_
  refine lv_iload hx hb dX8_createLink_10 (lv_at hl 0 rfl) ?_
  refine lv_iconst (v := 1) hx hb dX8_createLink_12 (by decide) ?_
  refine va_zast hx hb hK hP hD hS 1 1 rfl rfl (vp_in_nI (show lc < 40 from by omega) (by decide)) dX8_createLink_13 (fun H locs hP hD hS => ?_)
  have hP : va_P D vwCl [(h0, .inr (8, [.int (nI rc), .int (nI lc), .ref (ad 7), .ref (ad 8), .ref (ad 9), .ref (ad 10), .ref (ad 11), .ref (ad 12), .ref (ad 13), .ref (ad 14), .ref (ad 15), .ref (ad 16)])), ((ad 8), .inl (cZ, 40, .inl (upd (eB lu) (nI lc).toNatClampNeg (vp_nar .boolean (bI true))))), ((ad 10), .inl (cI, 40, .inl (eN al))), ((ad 11), .inl (cI, 80, .inl (eN rp))), ((ad 12), .inl (cI, 80, .inl (eN mp))), ((ad 13), .inl (cI, 16, .inl (eN pc))), ((ad 15), .inl (cI, 640, .inl (eN po))), ((ad 16), .inl (cZ, 64, .inl (eB at_)))] H := hP
  have hD : va_D A [(h0, .inr (8, [.int (nI rc), .int (nI lc), .ref (ad 7), .ref (ad 8), .ref (ad 9), .ref (ad 10), .ref (ad 11), .ref (ad 12), .ref (ad 13), .ref (ad 14), .ref (ad 15), .ref (ad 16)])), ((ad 8), .inl (cZ, 40, .inl (upd (eB lu) (nI lc).toNatClampNeg (vp_nar .boolean (bI true))))), ((ad 10), .inl (cI, 40, .inl (eN al))), ((ad 11), .inl (cI, 80, .inl (eN rp))), ((ad 12), .inl (cI, 80, .inl (eN mp))), ((ad 13), .inl (cI, 16, .inl (eN pc))), ((ad 15), .inl (cI, 640, .inl (eN po))), ((ad 16), .inl (cZ, 64, .inl (eB at_)))] := hD
  rw [show (upd (eB lu) (nI lc).toNatClampNeg (vp_nar .boolean (bI true))) = (eB (fs lu lc true)) from stB (by omega)] at hP hD
  refine lv_aload_n hx hb dX8_createLink_14 rfl (lv_at hl 1 rfl) ?_
  refine va_get (ci := 8) (v := .ref (ad 10)) (C := RX8) (T := TX8) (N := 12) hx hb hts m_createLink_C8 hown hK hP 0 rfl rfl 5 (by decide) (hts (.fieldLink RX8 21 "RoutingDomain$Topology" "areaOfLink" "[I") (m_createLink_O _ (by decide +kernel))) (fun _ h9 => h9) rfl dX8_createLink_15 ?_
  refine lv_iload hx hb dX8_createLink_18 (lv_at hl 0 rfl) ?_
  refine lv_iload_n hx hb dX8_createLink_20 rfl (lv_at hl 4 rfl) ?_
  refine va_iast hx hb hK hP hD hS 2 0 rfl rfl (vp_in_nI (show lc < 40 from by omega) (by decide)) dX8_createLink_21 (fun H locs hP hD hS => ?_)
  have hP : va_P D vwCl [(h0, .inr (8, [.int (nI rc), .int (nI lc), .ref (ad 7), .ref (ad 8), .ref (ad 9), .ref (ad 10), .ref (ad 11), .ref (ad 12), .ref (ad 13), .ref (ad 14), .ref (ad 15), .ref (ad 16)])), ((ad 8), .inl (cZ, 40, .inl (eB (fs lu lc true)))), ((ad 10), .inl (cI, 40, .inl (upd (eN al) (nI lc).toNatClampNeg (nI a)))), ((ad 11), .inl (cI, 80, .inl (eN rp))), ((ad 12), .inl (cI, 80, .inl (eN mp))), ((ad 13), .inl (cI, 16, .inl (eN pc))), ((ad 15), .inl (cI, 640, .inl (eN po))), ((ad 16), .inl (cZ, 64, .inl (eB at_)))] H := hP
  have hD : va_D A [(h0, .inr (8, [.int (nI rc), .int (nI lc), .ref (ad 7), .ref (ad 8), .ref (ad 9), .ref (ad 10), .ref (ad 11), .ref (ad 12), .ref (ad 13), .ref (ad 14), .ref (ad 15), .ref (ad 16)])), ((ad 8), .inl (cZ, 40, .inl (eB (fs lu lc true)))), ((ad 10), .inl (cI, 40, .inl (upd (eN al) (nI lc).toNatClampNeg (nI a)))), ((ad 11), .inl (cI, 80, .inl (eN rp))), ((ad 12), .inl (cI, 80, .inl (eN mp))), ((ad 13), .inl (cI, 16, .inl (eN pc))), ((ad 15), .inl (cI, 640, .inl (eN po))), ((ad 16), .inl (cZ, 64, .inl (eB at_)))] := hD
  rw [show (upd (eN al) (nI lc).toNatClampNeg (nI a)) = (eN (fs al lc a)) from stN (by omega)] at hP hD
  refine lv_aload_n hx hb dX8_createLink_22 rfl (lv_at hl 1 rfl) ?_
  refine lv_iload hx hb dX8_createLink_23 (lv_at hl 0 rfl) ?_
  refine lv_iconst (v := 2) hx hb dX8_createLink_25 (by decide) ?_
  refine lv_imul hx hb dX8_createLink_26 ?_
  refine lv_topi (fun y ey => ?_)
  obtain rfl : y = (nI (lc * 2)) := ey.trans (pk_mul lc 2)
  refine lv_iload_n hx hb dX8_createLink_27 rfl (lv_at hl 2 rfl) ?_
  refine lv_iload_n hx hb dX8_createLink_28 rfl (lv_at hl 4 rfl) ?_
  refine lv_iload hx hb dX8_createLink_29 (lv_at hl 5 rfl) ?_
  refine kVv (As := [.int (nI (lc * 2)), .int (nI f), .int (nI a), .int (nI m0)]) (rest := []) (wr := [((ad 8), .inl (cZ, 40, .inl (eB (fs lu lc true)))), ((ad 10), .inl (cI, 40, .inl (eN (fs al lc a))))]) (w2 := fun _ => [(h0, .inr (8, [.int (nI rc), .int (nI lc), .ref (ad 7), .ref (ad 8), .ref (ad 9), .ref (ad 10), .ref (ad 11), .ref (ad 12), .ref (ad 13), .ref (ad 14), .ref (ad 15), .ref (ad 16)])), ((ad 8), .inl (cZ, 40, .inl (eB (fs lu lc true)))), ((ad 10), .inl (cI, 40, .inl (eN (fs al lc a)))), ((ad 11), .inl (cI, 80, .inl (eN (fs rp (lc * 2) f)))), ((ad 12), .inl (cI, 80, .inl (eN (fs mp (lc * 2) m0)))), ((ad 13), .inl (cI, 16, .inl (eN (fs pc f (pc f + 1))))), ((ad 15), .inl (cI, 640, .inl (eN (fs po (f * 40 + pc f) (lc * 2))))), ((ad 16), .inl (cZ, 64, .inl (eB (fs at_ (f * 4 + a) true))))]) ⟨hx, hb, hml, hown, hts⟩ hN (c_attach l D cI cZ cJ h0 ad rc lc rp mp pc po at_ (lc * 2) f a m0 (by omega) hf ha hpf) (cwV 4 hts (k_gV (fun w h => m_createLink_O w ((by decide +kernel : ∀ w ∈ ([.methodLink RX8 56 yX8_attach, .instanceMethod yX8_attach, .selects RX8 yX8_attach yX8_attach, .initialized RX8] : List Cond), w ∈ O_createLink) w h)) m_createLink_Wattach gd_attach) rfl rfl rfl (by decide +kernel) ⟨Nat.le_of_ble_eq_true rfl, Nat.le_of_ble_eq_true rfl⟩) hK hP hD hS hA [0, 3, 4, 5, 6, 7] [1, 2] [2, 0, 1, 3, 4, 5, 6, 7] rfl rfl ⟨by decide, by decide, by decide⟩ (by decide) (fun _ => rfl) 8 0 rfl rfl rfl rfl hl.1 rfl (Nat.le_of_ble_eq_true rfl) dX8_createLink_31 ⟨Nat.le_of_ble_eq_true rfl, Nat.le_of_ble_eq_true rfl⟩ (fun u H locs hw hP hD hS => ?_)
  have hP : va_P D vwCl [(h0, .inr (8, [.int (nI rc), .int (nI lc), .ref (ad 7), .ref (ad 8), .ref (ad 9), .ref (ad 10), .ref (ad 11), .ref (ad 12), .ref (ad 13), .ref (ad 14), .ref (ad 15), .ref (ad 16)])), ((ad 8), .inl (cZ, 40, .inl (eB (fs lu lc true)))), ((ad 10), .inl (cI, 40, .inl (eN (fs al lc a)))), ((ad 11), .inl (cI, 80, .inl (eN (fs rp (lc * 2) f)))), ((ad 12), .inl (cI, 80, .inl (eN (fs mp (lc * 2) m0)))), ((ad 13), .inl (cI, 16, .inl (eN (fs pc f (pc f + 1))))), ((ad 15), .inl (cI, 640, .inl (eN (fs po (f * 40 + pc f) (lc * 2))))), ((ad 16), .inl (cZ, 64, .inl (eB (fs at_ (f * 4 + a) true))))] H := hP
  have hD : va_D A [(h0, .inr (8, [.int (nI rc), .int (nI lc), .ref (ad 7), .ref (ad 8), .ref (ad 9), .ref (ad 10), .ref (ad 11), .ref (ad 12), .ref (ad 13), .ref (ad 14), .ref (ad 15), .ref (ad 16)])), ((ad 8), .inl (cZ, 40, .inl (eB (fs lu lc true)))), ((ad 10), .inl (cI, 40, .inl (eN (fs al lc a)))), ((ad 11), .inl (cI, 80, .inl (eN (fs rp (lc * 2) f)))), ((ad 12), .inl (cI, 80, .inl (eN (fs mp (lc * 2) m0)))), ((ad 13), .inl (cI, 16, .inl (eN (fs pc f (pc f + 1))))), ((ad 15), .inl (cI, 640, .inl (eN (fs po (f * 40 + pc f) (lc * 2))))), ((ad 16), .inl (cZ, 64, .inl (eB (fs at_ (f * 4 + a) true))))] := hD
  refine lv_aload_n hx hb dX8_createLink_34 rfl (lv_at hl 1 rfl) ?_
  refine lv_iload hx hb dX8_createLink_35 (lv_at hl 0 rfl) ?_
  refine lv_iconst (v := 2) hx hb dX8_createLink_37 (by decide) ?_
  refine lv_imul hx hb dX8_createLink_38 ?_
  refine lv_topi (fun y ey => ?_)
  obtain rfl : y = (nI (lc * 2)) := ey.trans (pk_mul lc 2)
  refine lv_iconst (v := 1) hx hb dX8_createLink_39 (by decide) ?_
  refine lv_iadd hx hb dX8_createLink_40 ?_
  refine lv_topi (fun y ey => ?_)
  obtain rfl : y = (nI ((lc * 2) + 1)) := ey.trans (nI_add (lc * 2) 1)
  refine lv_iload_n hx hb dX8_createLink_41 rfl (lv_at hl 3 rfl) ?_
  refine lv_iload_n hx hb dX8_createLink_42 rfl (lv_at hl 4 rfl) ?_
  refine lv_iload hx hb dX8_createLink_43 (lv_at hl 6 rfl) ?_
  refine kVv (As := [.int (nI ((lc * 2) + 1)), .int (nI g), .int (nI a), .int (nI m1)]) (rest := []) (wr := [((ad 8), .inl (cZ, 40, .inl (eB (fs lu lc true)))), ((ad 10), .inl (cI, 40, .inl (eN (fs al lc a))))]) (w2 := fun _ => [(h0, .inr (8, [.int (nI rc), .int (nI lc), .ref (ad 7), .ref (ad 8), .ref (ad 9), .ref (ad 10), .ref (ad 11), .ref (ad 12), .ref (ad 13), .ref (ad 14), .ref (ad 15), .ref (ad 16)])), ((ad 8), .inl (cZ, 40, .inl (eB (fs lu lc true)))), ((ad 10), .inl (cI, 40, .inl (eN (fs al lc a)))), ((ad 11), .inl (cI, 80, .inl (eN (fs (fs rp (lc * 2) f) ((lc * 2) + 1) g)))), ((ad 12), .inl (cI, 80, .inl (eN (fs (fs mp (lc * 2) m0) ((lc * 2) + 1) m1)))), ((ad 13), .inl (cI, 16, .inl (eN (fs (fs pc f (pc f + 1)) g ((fs pc f (pc f + 1)) g + 1))))), ((ad 15), .inl (cI, 640, .inl (eN (fs (fs po (f * 40 + pc f) (lc * 2)) (g * 40 + (fs pc f (pc f + 1)) g) ((lc * 2) + 1))))), ((ad 16), .inl (cZ, 64, .inl (eB (fs (fs at_ (f * 4 + a) true) (g * 4 + a) true))))]) ⟨hx, hb, hml, hown, hts⟩ hN (c_attach l D cI cZ cJ h0 ad rc lc (fs rp (lc * 2) f) (fs mp (lc * 2) m0) (fs pc f (pc f + 1)) (fs po (f * 40 + pc f) (lc * 2)) (fs at_ (f * 4 + a) true) ((lc * 2) + 1) g a m1 (by omega) hg ha (by rw [fs_n hfg]; exact hpg)) (cwV 4 hts (k_gV (fun w h => m_createLink_O w ((by decide +kernel : ∀ w ∈ ([.methodLink RX8 56 yX8_attach, .instanceMethod yX8_attach, .selects RX8 yX8_attach yX8_attach, .initialized RX8] : List Cond), w ∈ O_createLink) w h)) m_createLink_Wattach gd_attach) rfl rfl rfl (by decide +kernel) ⟨Nat.le_of_ble_eq_true rfl, Nat.le_of_ble_eq_true rfl⟩) hK hP hD hS hA [0, 3, 4, 5, 6, 7] [1, 2] [2, 0, 1, 3, 4, 5, 6, 7] rfl rfl ⟨by decide, by decide, by decide⟩ (by decide) (fun _ => rfl) 8 0 rfl rfl rfl rfl hl.1 rfl (Nat.le_of_ble_eq_true rfl) dX8_createLink_45 ⟨Nat.le_of_ble_eq_true rfl, Nat.le_of_ble_eq_true rfl⟩ (fun u H locs hw hP hD hS => ?_)
  have hP : va_P D vwCl [(h0, .inr (8, [.int (nI rc), .int (nI lc), .ref (ad 7), .ref (ad 8), .ref (ad 9), .ref (ad 10), .ref (ad 11), .ref (ad 12), .ref (ad 13), .ref (ad 14), .ref (ad 15), .ref (ad 16)])), ((ad 8), .inl (cZ, 40, .inl (eB (fs lu lc true)))), ((ad 10), .inl (cI, 40, .inl (eN (fs al lc a)))), ((ad 11), .inl (cI, 80, .inl (eN (fs (fs rp (lc * 2) f) ((lc * 2) + 1) g)))), ((ad 12), .inl (cI, 80, .inl (eN (fs (fs mp (lc * 2) m0) ((lc * 2) + 1) m1)))), ((ad 13), .inl (cI, 16, .inl (eN (fs (fs pc f (pc f + 1)) g ((fs pc f (pc f + 1)) g + 1))))), ((ad 15), .inl (cI, 640, .inl (eN (fs (fs po (f * 40 + pc f) (lc * 2)) (g * 40 + (fs pc f (pc f + 1)) g) ((lc * 2) + 1))))), ((ad 16), .inl (cZ, 64, .inl (eB (fs (fs at_ (f * 4 + a) true) (g * 4 + a) true))))] H := hP
  have hD : va_D A [(h0, .inr (8, [.int (nI rc), .int (nI lc), .ref (ad 7), .ref (ad 8), .ref (ad 9), .ref (ad 10), .ref (ad 11), .ref (ad 12), .ref (ad 13), .ref (ad 14), .ref (ad 15), .ref (ad 16)])), ((ad 8), .inl (cZ, 40, .inl (eB (fs lu lc true)))), ((ad 10), .inl (cI, 40, .inl (eN (fs al lc a)))), ((ad 11), .inl (cI, 80, .inl (eN (fs (fs rp (lc * 2) f) ((lc * 2) + 1) g)))), ((ad 12), .inl (cI, 80, .inl (eN (fs (fs mp (lc * 2) m0) ((lc * 2) + 1) m1)))), ((ad 13), .inl (cI, 16, .inl (eN (fs (fs pc f (pc f + 1)) g ((fs pc f (pc f + 1)) g + 1))))), ((ad 15), .inl (cI, 640, .inl (eN (fs (fs po (f * 40 + pc f) (lc * 2)) (g * 40 + (fs pc f (pc f + 1)) g) ((lc * 2) + 1))))), ((ad 16), .inl (cZ, 64, .inl (eB (fs (fs at_ (f * 4 + a) true) (g * 4 + a) true))))] := hD
  refine lv_aload_n hx hb dX8_createLink_48 rfl (lv_at hl 1 rfl) ?_
  refine lv_dup hx hb dX8_createLink_49 rfl ?_
  refine va_get (ci := 8) (v := .int (nI lc)) (C := RX8) (T := TX8) (N := 12) hx hb hts m_createLink_C8 hown hK hP 0 rfl rfl 1 (by decide) (hts (.fieldLink RX8 53 "RoutingDomain$Topology" "linkCount" "I") (m_createLink_O _ (by decide +kernel))) (fun _ h9 => h9) rfl dX8_createLink_50 ?_
  refine lv_iconst (v := 1) hx hb dX8_createLink_53 (by decide) ?_
  refine lv_iadd hx hb dX8_createLink_54 ?_
  refine lv_topi (fun y ey => ?_)
  obtain rfl : y = (nI (lc + 1)) := ey.trans (nI_add lc 1)
  refine va_put (ci := 8) (v := .int (nI (lc + 1))) (ty := .int) (C := RX8) (T := TX8) (N := 12) hx hb hts m_createLink_C8 tyX8 tyX8_ok nmX8 hown hK hP hD hS 0 rfl rfl 1 (by decide) (hts (.fieldLink RX8 53 "RoutingDomain$Topology" "linkCount" "I") (m_createLink_O _ (by decide +kernel))) (fun _ h9 => h9) rfl (by decide +kernel) rfl rfl (Nat.le_of_ble_eq_true rfl) dX8_createLink_55 (fun H locs hP hD hS => ?_)
  have hP : va_P D vwCl [(h0, .inr (8, [.int (nI rc), .int (nI (lc + 1)), .ref (ad 7), .ref (ad 8), .ref (ad 9), .ref (ad 10), .ref (ad 11), .ref (ad 12), .ref (ad 13), .ref (ad 14), .ref (ad 15), .ref (ad 16)])), ((ad 8), .inl (cZ, 40, .inl (eB (fs lu lc true)))), ((ad 10), .inl (cI, 40, .inl (eN (fs al lc a)))), ((ad 11), .inl (cI, 80, .inl (eN (fs (fs rp (lc * 2) f) ((lc * 2) + 1) g)))), ((ad 12), .inl (cI, 80, .inl (eN (fs (fs mp (lc * 2) m0) ((lc * 2) + 1) m1)))), ((ad 13), .inl (cI, 16, .inl (eN (fs (fs pc f (pc f + 1)) g ((fs pc f (pc f + 1)) g + 1))))), ((ad 15), .inl (cI, 640, .inl (eN (fs (fs po (f * 40 + pc f) (lc * 2)) (g * 40 + (fs pc f (pc f + 1)) g) ((lc * 2) + 1))))), ((ad 16), .inl (cZ, 64, .inl (eB (fs (fs at_ (f * 4 + a) true) (g * 4 + a) true))))] H := hP
  have hD : va_D A [(h0, .inr (8, [.int (nI rc), .int (nI (lc + 1)), .ref (ad 7), .ref (ad 8), .ref (ad 9), .ref (ad 10), .ref (ad 11), .ref (ad 12), .ref (ad 13), .ref (ad 14), .ref (ad 15), .ref (ad 16)])), ((ad 8), .inl (cZ, 40, .inl (eB (fs lu lc true)))), ((ad 10), .inl (cI, 40, .inl (eN (fs al lc a)))), ((ad 11), .inl (cI, 80, .inl (eN (fs (fs rp (lc * 2) f) ((lc * 2) + 1) g)))), ((ad 12), .inl (cI, 80, .inl (eN (fs (fs mp (lc * 2) m0) ((lc * 2) + 1) m1)))), ((ad 13), .inl (cI, 16, .inl (eN (fs (fs pc f (pc f + 1)) g ((fs pc f (pc f + 1)) g + 1))))), ((ad 15), .inl (cI, 640, .inl (eN (fs (fs po (f * 40 + pc f) (lc * 2)) (g * 40 + (fs pc f (pc f + 1)) g) ((lc * 2) + 1))))), ((ad 16), .inl (cZ, 64, .inl (eB (fs (fs at_ (f * 4 + a) true) (g * 4 + a) true))))] := hD
  refine lv_iload hx hb dX8_createLink_58 (lv_at hl 0 rfl) ?_
  rw [show (fs (fs rp (lc * 2) f) ((lc * 2) + 1) g) = (fs (fs rp (lc * 2) f) (lc * 2 + 1) g) from (by first | rfl | (simp [itr_s]; done))] at hP hD
  rw [show (fs (fs mp (lc * 2) m0) ((lc * 2) + 1) m1) = (fs (fs mp (lc * 2) m0) (lc * 2 + 1) m1) from (by first | rfl | (simp [itr_s]; done))] at hP hD
  rw [show (fs (fs po (f * 40 + pc f) (lc * 2)) (g * 40 + (fs pc f (pc f + 1)) g) ((lc * 2) + 1)) = (fs (fs po (f * 40 + pc f) (lc * 2)) (g * 40 + (fs pc f (pc f + 1)) g) (lc * 2 + 1)) from (by first | rfl | (simp [itr_s]; done))] at hP hD
  exact k_iret E hK hP hD hS () [0, 1, 2, 3, 4, 5, 6, 7] (by decide) rfl (by first | rfl | (simp [bI, oI]; done) | (simp [bI, oI]; rfl)) (Nat.le_of_ble_eq_true rfl) (Nat.le_of_ble_eq_true rfl) dX8_createLink_60

def O_remember : List Cond := [.fieldLink RX8 53 "RoutingDomain$Topology" "linkCount" "I", .fieldLink RX8 18 "RoutingDomain$Topology" "wasUsable" "[Z", .methodLink RX8 68 yX8_canCarry, .instanceMethod yX8_canCarry, .selects RX8 yX8_canCarry yX8_canCarry, .initialized RX8]
def W_remember : List Cond := .code yX8_rememberUsableLinks cX8_rememberUsableLinks 2 none :: (O_remember ++ (wsX80 ++ W_canCarry))
theorem m_remember_O : ∀ w ∈ O_remember, w ∈ W_remember := fun _ h => List.mem_cons_of_mem _ (List.mem_append_left _ h)
theorem m_remember_C8 : ∀ w ∈ wsX80, w ∈ W_remember := fun _ h => List.mem_cons_of_mem _ (List.mem_append_right _ (List.mem_append_left _ h))
theorem m_remember_WcanCarry : ∀ w ∈ W_canCarry, w ∈ W_remember := fun _ h => List.mem_cons_of_mem _ (List.mem_append_right _ (List.mem_append_right _ h))
theorem gdO_remember : O_remember.all goodWord = true := by decide +kernel
theorem gd_remember : W_remember.all goodWord = true := k_all_cons rfl (k_all_app gdO_remember (k_all_app gdC_8 gd_canCarry))
set_option maxHeartbeats 4000000 in
set_option maxRecDepth 100000 in
theorem c_remember (l : Launch) (D : va_G) (cI cZ cJ : ClassId) (h0 : Nat) (ad : Nat → Nat) (rc : Nat) (lc : Nat) (ru : Nat → Bool) (lu : Nat → Bool) (wu : Nat → Bool) (rp : Nat → Nat) (hlc : lc ≤ 40) (hrp : ∀ j, rp j < 16) : kMv l yX8_rememberUsableLinks W_remember { frames := 1, cells := 0, slots := 0, locals := 40 } 0 0 D (kT cI cZ cJ) [.ref h0] [(h0, .inr (8, [.int (nI rc), .int (nI lc), .ref (ad 7), .ref (ad 8), .ref (ad 9), .ref (ad 10), .ref (ad 11), .ref (ad 12), .ref (ad 13), .ref (ad 14), .ref (ad 15), .ref (ad 16)])), ((ad 7), .inl (cZ, 16, .inl (eB ru))), ((ad 8), .inl (cZ, 40, .inl (eB lu))), ((ad 9), .inl (cZ, 40, .inl (eB wu))), ((ad 11), .inl (cI, 80, .inl (eN rp)))] (S := Unit) (fun _ => True) (fun _ => [(h0, .inr (8, [.int (nI rc), .int (nI lc), .ref (ad 7), .ref (ad 8), .ref (ad 9), .ref (ad 10), .ref (ad 11), .ref (ad 12), .ref (ad 13), .ref (ad 14), .ref (ad 15), .ref (ad 16)])), ((ad 7), .inl (cZ, 16, .inl (eB ru))), ((ad 8), .inl (cZ, 40, .inl (eB lu))), ((ad 9), .inl (cZ, 40, .inl (eB (itr (rmB ru lu rp) lc wu)))), ((ad 11), .inl (cI, 80, .inl (eN rp)))]) := by
  refine kMv_of (lv := [(0, .ref h0)]) RX8 "rememberUsableLinks" (by decide +kernel) rfl rfl rfl (Nat.le_of_ble_eq_true rfl) rfl ?_
  intro p e s m below meth c A H locs ls E hA hK hP hD hS hl
  obtain ⟨hx, hb, hr_, hts, hown, hlocks, hml, hin, hN⟩ := id E
  refine lv_iconst (v := 0) hx hb dX8_rememberUsableLinks_0 (by decide) ?_
  refine lv_istore_n (lv' := [(1, .int 0), (0, .ref h0)]) hx hb dX8_rememberUsableLinks_1 rfl hl (by decide) rfl (fun ls hl => ?_)
  refine k_loop (Nat) 2 2 (fun u => u ≤ lc) (fun u => lc - u) (fun u => [(h0, .inr (8, [.int (nI rc), .int (nI lc), .ref (ad 7), .ref (ad 8), .ref (ad 9), .ref (ad 10), .ref (ad 11), .ref (ad 12), .ref (ad 13), .ref (ad 14), .ref (ad 15), .ref (ad 16)])), ((ad 7), .inl (cZ, 16, .inl (eB ru))), ((ad 8), .inl (cZ, 40, .inl (eB lu))), ((ad 9), .inl (cZ, 40, .inl (eB (itr (rmB ru lu rp) u wu)))), ((ad 11), .inl (cI, 80, .inl (eN rp)))]) (fun u => [(0, .ref h0), (1, .int (nI u))]) ?_ (0) (Nat.zero_le _) (hP.sub [0, 1, 2, 3, 4] rfl) (hD.sub [0, 1, 2, 3, 4] (by decide) rfl) hS (lv_sub hl [1, 0] rfl)
  intro i H locs ls hinv hP hD hS hl ih_2
  have hinv : i ≤ lc := hinv
  have hP : va_P D vwCl [(h0, .inr (8, [.int (nI rc), .int (nI lc), .ref (ad 7), .ref (ad 8), .ref (ad 9), .ref (ad 10), .ref (ad 11), .ref (ad 12), .ref (ad 13), .ref (ad 14), .ref (ad 15), .ref (ad 16)])), ((ad 7), .inl (cZ, 16, .inl (eB ru))), ((ad 8), .inl (cZ, 40, .inl (eB lu))), ((ad 9), .inl (cZ, 40, .inl (eB (itr (rmB ru lu rp) i wu)))), ((ad 11), .inl (cI, 80, .inl (eN rp)))] H := hP
  have hD : va_D A [(h0, .inr (8, [.int (nI rc), .int (nI lc), .ref (ad 7), .ref (ad 8), .ref (ad 9), .ref (ad 10), .ref (ad 11), .ref (ad 12), .ref (ad 13), .ref (ad 14), .ref (ad 15), .ref (ad 16)])), ((ad 7), .inl (cZ, 16, .inl (eB ru))), ((ad 8), .inl (cZ, 40, .inl (eB lu))), ((ad 9), .inl (cZ, 40, .inl (eB (itr (rmB ru lu rp) i wu)))), ((ad 11), .inl (cI, 80, .inl (eN rp)))] := hD
  have hl : lv_has ls 2 [(0, .ref h0), (1, .int (nI i))] := hl
  refine lv_iload_n hx hb dX8_rememberUsableLinks_2 rfl (lv_at hl 1 rfl) ?_
  refine lv_aload_n hx hb dX8_rememberUsableLinks_3 rfl (lv_at hl 0 rfl) ?_
  refine va_get (ci := 8) (v := .int (nI lc)) (C := RX8) (T := TX8) (N := 12) hx hb hts m_remember_C8 hown hK hP 0 rfl rfl 1 (by decide) (hts (.fieldLink RX8 53 "RoutingDomain$Topology" "linkCount" "I") (m_remember_O _ (by decide +kernel))) (fun _ h9 => h9) rfl dX8_rememberUsableLinks_4 ?_
  refine lv_icmp_ge (tgt := 27) hx hb dX8_rememberUsableLinks_7 (by decide) (fun c_7 => ?_) (fun c_7 => ?_)
  · have n_7 : lc ≤ i := (nI_leI (a := lc) (b := i) (by omega) (by omega)).mp c_7
    obtain rfl : i = lc := by omega
    exact k_vret E hK hP hD hS () [0, 1, 2, 3, 4] (by decide) rfl trivial (Nat.le_of_ble_eq_true rfl) (Nat.le_of_ble_eq_true rfl) dX8_rememberUsableLinks_27
  · have n_7 : ¬ lc ≤ i := fun h => c_7 ((nI_leI (a := lc) (b := i) (by omega) (by omega)).mpr h)
    refine lv_aload_n hx hb dX8_rememberUsableLinks_10 rfl (lv_at hl 0 rfl) ?_
    refine va_get (ci := 8) (v := .ref (ad 9)) (C := RX8) (T := TX8) (N := 12) hx hb hts m_remember_C8 hown hK hP 0 rfl rfl 4 (by decide) (hts (.fieldLink RX8 18 "RoutingDomain$Topology" "wasUsable" "[Z") (m_remember_O _ (by decide +kernel))) (fun _ h9 => h9) rfl dX8_rememberUsableLinks_11 ?_
    refine lv_iload_n hx hb dX8_rememberUsableLinks_14 rfl (lv_at hl 1 rfl) ?_
    refine lv_aload_n hx hb dX8_rememberUsableLinks_15 rfl (lv_at hl 0 rfl) ?_
    refine lv_iload_n hx hb dX8_rememberUsableLinks_16 rfl (lv_at hl 1 rfl) ?_
    refine kVi (As := [.int (nI i)]) (rest := [.int (nI i), .ref (ad 9)]) (wr := [((ad 9), .inl (cZ, 40, .inl (eB (itr (rmB ru lu rp) i wu))))]) (w2 := fun _ => [(h0, .inr (8, [.int (nI rc), .int (nI lc), .ref (ad 7), .ref (ad 8), .ref (ad 9), .ref (ad 10), .ref (ad 11), .ref (ad 12), .ref (ad 13), .ref (ad 14), .ref (ad 15), .ref (ad 16)])), ((ad 7), .inl (cZ, 16, .inl (eB ru))), ((ad 8), .inl (cZ, 40, .inl (eB lu))), ((ad 9), .inl (cZ, 40, .inl (eB (itr (rmB ru lu rp) i wu)))), ((ad 11), .inl (cI, 80, .inl (eN rp)))]) ⟨hx, hb, hml, hown, hts⟩ hN (c_canCarry l D cI cZ cJ h0 ad rc lc ru lu rp i (by omega) hrp) (cwV 1 hts (k_gV (fun w h => m_remember_O w ((by decide +kernel : ∀ w ∈ ([.methodLink RX8 68 yX8_canCarry, .instanceMethod yX8_canCarry, .selects RX8 yX8_canCarry yX8_canCarry, .initialized RX8] : List Cond), w ∈ O_remember) w h)) m_remember_WcanCarry gd_canCarry) rfl rfl rfl (by decide +kernel) ⟨Nat.le_of_ble_eq_true rfl, Nat.le_of_ble_eq_true rfl⟩) hK hP hD hS hA [0, 1, 2, 4] [3] [1, 2, 3, 0, 4] rfl rfl ⟨by decide, by decide, by decide⟩ (by decide) (fun _ => rfl) 8 0 rfl rfl rfl rfl hl.1 rfl (Nat.le_of_ble_eq_true rfl) dX8_rememberUsableLinks_17 ⟨Nat.le_of_ble_eq_true rfl, Nat.le_of_ble_eq_true rfl⟩ (fun res_ u H locs hw hP hD hS => ?_)
    have hP : va_P D vwCl [(h0, .inr (8, [.int (nI rc), .int (nI lc), .ref (ad 7), .ref (ad 8), .ref (ad 9), .ref (ad 10), .ref (ad 11), .ref (ad 12), .ref (ad 13), .ref (ad 14), .ref (ad 15), .ref (ad 16)])), ((ad 7), .inl (cZ, 16, .inl (eB ru))), ((ad 8), .inl (cZ, 40, .inl (eB lu))), ((ad 9), .inl (cZ, 40, .inl (eB (itr (rmB ru lu rp) i wu)))), ((ad 11), .inl (cI, 80, .inl (eN rp)))] H := hP
    have hD : va_D A [(h0, .inr (8, [.int (nI rc), .int (nI lc), .ref (ad 7), .ref (ad 8), .ref (ad 9), .ref (ad 10), .ref (ad 11), .ref (ad 12), .ref (ad 13), .ref (ad 14), .ref (ad 15), .ref (ad 16)])), ((ad 7), .inl (cZ, 16, .inl (eB ru))), ((ad 8), .inl (cZ, 40, .inl (eB lu))), ((ad 9), .inl (cZ, 40, .inl (eB (itr (rmB ru lu rp) i wu)))), ((ad 11), .inl (cI, 80, .inl (eN rp)))] := hD
    obtain rfl : res_ = (bI (cc ru lu rp i)) := hw
    refine va_zast hx hb hK hP hD hS 3 1 rfl rfl (vp_in_nI (show i < 40 from by omega) (by decide)) dX8_rememberUsableLinks_20 (fun H locs hP hD hS => ?_)
    have hP : va_P D vwCl [(h0, .inr (8, [.int (nI rc), .int (nI lc), .ref (ad 7), .ref (ad 8), .ref (ad 9), .ref (ad 10), .ref (ad 11), .ref (ad 12), .ref (ad 13), .ref (ad 14), .ref (ad 15), .ref (ad 16)])), ((ad 7), .inl (cZ, 16, .inl (eB ru))), ((ad 8), .inl (cZ, 40, .inl (eB lu))), ((ad 9), .inl (cZ, 40, .inl (upd (eB (itr (rmB ru lu rp) i wu)) (nI i).toNatClampNeg (vp_nar .boolean (bI (cc ru lu rp i)))))), ((ad 11), .inl (cI, 80, .inl (eN rp)))] H := hP
    have hD : va_D A [(h0, .inr (8, [.int (nI rc), .int (nI lc), .ref (ad 7), .ref (ad 8), .ref (ad 9), .ref (ad 10), .ref (ad 11), .ref (ad 12), .ref (ad 13), .ref (ad 14), .ref (ad 15), .ref (ad 16)])), ((ad 7), .inl (cZ, 16, .inl (eB ru))), ((ad 8), .inl (cZ, 40, .inl (eB lu))), ((ad 9), .inl (cZ, 40, .inl (upd (eB (itr (rmB ru lu rp) i wu)) (nI i).toNatClampNeg (vp_nar .boolean (bI (cc ru lu rp i)))))), ((ad 11), .inl (cI, 80, .inl (eN rp)))] := hD
    rw [show (upd (eB (itr (rmB ru lu rp) i wu)) (nI i).toNatClampNeg (vp_nar .boolean (bI (cc ru lu rp i)))) = (eB (fs (itr (rmB ru lu rp) i wu) i (cc ru lu rp i))) from stB (by omega)] at hP hD
    refine lv_iinc (v := (nI (i + 1))) (lv' := [(1, .int (nI (i + 1))), (0, .ref h0)]) hx hb dX8_rememberUsableLinks_21 hl (k := 1) rfl (nI_add i 1) (by decide) rfl (fun ls hl => ?_)
    refine lv_goto (tgt := 2) hx hb dX8_rememberUsableLinks_24 (by decide) ?_
    rw [show (fs (itr (rmB ru lu rp) i wu) i (cc ru lu rp i)) = (itr (rmB ru lu rp) (i + 1) wu) from (by first | rfl | (simp [itr_s, n_7]; done))] at hP hD
    exact ih_2 (i + 1) H locs ls (by show i + 1 ≤ lc; omega) (by show lc - (i + 1) < lc - i; omega) (hP.sub [0, 1, 2, 3, 4] rfl) (hD.sub [0, 1, 2, 3, 4] (by decide) rfl) hS (lv_sub hl [1, 0] rfl)

