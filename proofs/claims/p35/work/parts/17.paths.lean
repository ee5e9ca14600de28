theorem dX5_nearestOpen_0 : decode cX5_nearestOpen 0 = .ok (.iconst (-1), 1) := by decide +kernel
theorem dX5_nearestOpen_1 : decode cX5_nearestOpen 1 = .ok (.istore_n 3, 1) := by decide +kernel
theorem dX5_nearestOpen_2 : decode cX5_nearestOpen 2 = .ok (.iconst 0, 1) := by decide +kernel
theorem dX5_nearestOpen_3 : decode cX5_nearestOpen 3 = .ok (.istore 4, 2) := by decide +kernel
theorem dX5_nearestOpen_5 : decode cX5_nearestOpen 5 = .ok (.iload 4, 2) := by decide +kernel
theorem dX5_nearestOpen_7 : decode cX5_nearestOpen 7 = .ok (.aload_n 0, 1) := by decide +kernel
theorem dX5_nearestOpen_8 : decode cX5_nearestOpen 8 = .ok (.getfield 19, 3) := by decide +kernel
theorem dX5_nearestOpen_11 : decode cX5_nearestOpen 11 = .ok (.getfield 61, 3) := by decide +kernel
theorem dX5_nearestOpen_14 : decode cX5_nearestOpen 14 = .ok (.if_icmp .ge 56, 3) := by decide +kernel
theorem dX5_nearestOpen_17 : decode cX5_nearestOpen 17 = .ok (.aload_n 0, 1) := by decide +kernel
theorem dX5_nearestOpen_18 : decode cX5_nearestOpen 18 = .ok (.getfield 9, 3) := by decide +kernel
theorem dX5_nearestOpen_21 : decode cX5_nearestOpen 21 = .ok (.iload_n 1, 1) := by decide +kernel
theorem dX5_nearestOpen_22 : decode cX5_nearestOpen 22 = .ok (.iload 4, 2) := by decide +kernel
theorem dX5_nearestOpen_24 : decode cX5_nearestOpen 24 = .ok (.iadd, 1) := by decide +kernel
theorem dX5_nearestOpen_25 : decode cX5_nearestOpen 25 = .ok (.iaload, 1) := by decide +kernel
theorem dX5_nearestOpen_26 : decode cX5_nearestOpen 26 = .ok (.istore 5, 2) := by decide +kernel
theorem dX5_nearestOpen_28 : decode cX5_nearestOpen 28 = .ok (.iload 5, 2) := by decide +kernel
theorem dX5_nearestOpen_30 : decode cX5_nearestOpen 30 = .ok (.iconst (-1), 1) := by decide +kernel
theorem dX5_nearestOpen_31 : decode cX5_nearestOpen 31 = .ok (.if_icmp .eq 33, 3) := by decide +kernel
theorem dX5_nearestOpen_34 : decode cX5_nearestOpen 34 = .ok (.iload_n 2, 1) := by decide +kernel
theorem dX5_nearestOpen_35 : decode cX5_nearestOpen 35 = .ok (.iload 4, 2) := by decide +kernel
theorem dX5_nearestOpen_37 : decode cX5_nearestOpen 37 = .ok (.ishr, 1) := by decide +kernel
theorem dX5_nearestOpen_38 : decode cX5_nearestOpen 38 = .ok (.iconst 1, 1) := by decide +kernel
theorem dX5_nearestOpen_39 : decode cX5_nearestOpen 39 = .ok (.iand, 1) := by decide +kernel
theorem dX5_nearestOpen_40 : decode cX5_nearestOpen 40 = .ok (.ifCond .ne 24, 3) := by decide +kernel
theorem dX5_nearestOpen_43 : decode cX5_nearestOpen 43 = .ok (.iload_n 3, 1) := by decide +kernel
theorem dX5_nearestOpen_44 : decode cX5_nearestOpen 44 = .ok (.iconst (-1), 1) := by decide +kernel
theorem dX5_nearestOpen_45 : decode cX5_nearestOpen 45 = .ok (.if_icmp .eq 16, 3) := by decide +kernel
theorem dX5_nearestOpen_48 : decode cX5_nearestOpen 48 = .ok (.iload 5, 2) := by decide +kernel
theorem dX5_nearestOpen_50 : decode cX5_nearestOpen 50 = .ok (.aload_n 0, 1) := by decide +kernel
theorem dX5_nearestOpen_51 : decode cX5_nearestOpen 51 = .ok (.getfield 9, 3) := by decide +kernel
theorem dX5_nearestOpen_54 : decode cX5_nearestOpen 54 = .ok (.iload_n 1, 1) := by decide +kernel
theorem dX5_nearestOpen_55 : decode cX5_nearestOpen 55 = .ok (.iload_n 3, 1) := by decide +kernel
theorem dX5_nearestOpen_56 : decode cX5_nearestOpen 56 = .ok (.iadd, 1) := by decide +kernel
theorem dX5_nearestOpen_57 : decode cX5_nearestOpen 57 = .ok (.iaload, 1) := by decide +kernel
theorem dX5_nearestOpen_58 : decode cX5_nearestOpen 58 = .ok (.if_icmp .ge 6, 3) := by decide +kernel
theorem dX5_nearestOpen_61 : decode cX5_nearestOpen 61 = .ok (.iload 4, 2) := by decide +kernel
theorem dX5_nearestOpen_63 : decode cX5_nearestOpen 63 = .ok (.istore_n 3, 1) := by decide +kernel
theorem dX5_nearestOpen_64 : decode cX5_nearestOpen 64 = .ok (.iinc 4 1, 3) := by decide +kernel
theorem dX5_nearestOpen_67 : decode cX5_nearestOpen 67 = .ok (.goto (-62), 3) := by decide +kernel
theorem dX5_nearestOpen_70 : decode cX5_nearestOpen 70 = .ok (.iload_n 3, 1) := by decide +kernel
theorem dX5_nearestOpen_71 : decode cX5_nearestOpen 71 = .ok (.ireturn, 1) := by decide +kernel
theorem dX5_goOnFrom_0 : decode cX5_goOnFrom 0 = .ok (.iload_n 2, 1) := by decide +kernel
theorem dX5_goOnFrom_1 : decode cX5_goOnFrom 1 = .ok (.iload_n 3, 1) := by decide +kernel
theorem dX5_goOnFrom_2 : decode cX5_goOnFrom 2 = .ok (.invokestatic 37, 3) := by decide +kernel
theorem dX5_goOnFrom_5 : decode cX5_goOnFrom 5 = .ok (.istore 4, 2) := by decide +kernel
theorem dX5_goOnFrom_7 : decode cX5_goOnFrom 7 = .ok (.iconst 0, 1) := by decide +kernel
theorem dX5_goOnFrom_8 : decode cX5_goOnFrom 8 = .ok (.istore 5, 2) := by decide +kernel
theorem dX5_goOnFrom_10 : decode cX5_goOnFrom 10 = .ok (.iload 5, 2) := by decide +kernel
theorem dX5_goOnFrom_12 : decode cX5_goOnFrom 12 = .ok (.aload_n 0, 1) := by decide +kernel
theorem dX5_goOnFrom_13 : decode cX5_goOnFrom 13 = .ok (.getfield 19, 3) := by decide +kernel
theorem dX5_goOnFrom_16 : decode cX5_goOnFrom 16 = .ok (.getfield 72, 3) := by decide +kernel
theorem dX5_goOnFrom_19 : decode cX5_goOnFrom 19 = .ok (.iload_n 1, 1) := by decide +kernel
theorem dX5_goOnFrom_20 : decode cX5_goOnFrom 20 = .ok (.iaload, 1) := by decide +kernel
theorem dX5_goOnFrom_21 : decode cX5_goOnFrom 21 = .ok (.if_icmp .ge 114, 3) := by decide +kernel
theorem dX5_goOnFrom_24 : decode cX5_goOnFrom 24 = .ok (.aload_n 0, 1) := by decide +kernel
theorem dX5_goOnFrom_25 : decode cX5_goOnFrom 25 = .ok (.getfield 19, 3) := by decide +kernel
theorem dX5_goOnFrom_28 : decode cX5_goOnFrom 28 = .ok (.iload_n 1, 1) := by decide +kernel
theorem dX5_goOnFrom_29 : decode cX5_goOnFrom 29 = .ok (.iload 5, 2) := by decide +kernel
theorem dX5_goOnFrom_31 : decode cX5_goOnFrom 31 = .ok (.invokevirtual 75, 3) := by decide +kernel
theorem dX5_goOnFrom_34 : decode cX5_goOnFrom 34 = .ok (.istore 6, 2) := by decide +kernel
theorem dX5_goOnFrom_36 : decode cX5_goOnFrom 36 = .ok (.aload_n 0, 1) := by decide +kernel
theorem dX5_goOnFrom_37 : decode cX5_goOnFrom 37 = .ok (.getfield 19, 3) := by decide +kernel
theorem dX5_goOnFrom_40 : decode cX5_goOnFrom 40 = .ok (.getfield 78, 3) := by decide +kernel
theorem dX5_goOnFrom_43 : decode cX5_goOnFrom 43 = .ok (.iload 6, 2) := by decide +kernel
theorem dX5_goOnFrom_45 : decode cX5_goOnFrom 45 = .ok (.iconst 1, 1) := by decide +kernel
theorem dX5_goOnFrom_46 : decode cX5_goOnFrom 46 = .ok (.ishr, 1) := by decide +kernel
theorem dX5_goOnFrom_47 : decode cX5_goOnFrom 47 = .ok (.iaload, 1) := by decide +kernel
theorem dX5_goOnFrom_48 : decode cX5_goOnFrom 48 = .ok (.iload_n 3, 1) := by decide +kernel
theorem dX5_goOnFrom_49 : decode cX5_goOnFrom 49 = .ok (.if_icmp .ne 14, 3) := by decide +kernel
theorem dX5_goOnFrom_52 : decode cX5_goOnFrom 52 = .ok (.aload_n 0, 1) := by decide +kernel
theorem dX5_goOnFrom_53 : decode cX5_goOnFrom 53 = .ok (.iload 6, 2) := by decide +kernel
theorem dX5_goOnFrom_55 : decode cX5_goOnFrom 55 = .ok (.iload_n 2, 1) := by decide +kernel
theorem dX5_goOnFrom_56 : decode cX5_goOnFrom 56 = .ok (.iload_n 3, 1) := by decide +kernel
theorem dX5_goOnFrom_57 : decode cX5_goOnFrom 57 = .ok (.invokevirtual 81, 3) := by decide +kernel
theorem dX5_goOnFrom_60 : decode cX5_goOnFrom 60 = .ok (.goto 4, 3) := by decide +kernel
theorem dX5_goOnFrom_64 : decode cX5_goOnFrom 64 = .ok (.istore 7, 2) := by decide +kernel
theorem dX5_goOnFrom_66 : decode cX5_goOnFrom 66 = .ok (.iload 7, 2) := by decide +kernel
theorem dX5_goOnFrom_68 : decode cX5_goOnFrom 68 = .ok (.ifCond .eq 61, 3) := by decide +kernel
theorem dX5_goOnFrom_71 : decode cX5_goOnFrom 71 = .ok (.iload_n 1, 1) := by decide +kernel
theorem dX5_goOnFrom_72 : decode cX5_goOnFrom 72 = .ok (.iload_n 2, 1) := by decide +kernel
theorem dX5_goOnFrom_73 : decode cX5_goOnFrom 73 = .ok (.if_icmp .ne 12, 3) := by decide +kernel
theorem dX5_goOnFrom_76 : decode cX5_goOnFrom 76 = .ok (.lconst 1, 1) := by decide +kernel
theorem dX5_goOnFrom_77 : decode cX5_goOnFrom 77 = .ok (.iload 6, 2) := by decide +kernel
theorem dX5_goOnFrom_79 : decode cX5_goOnFrom 79 = .ok (.iconst 1, 1) := by decide +kernel
theorem dX5_goOnFrom_80 : decode cX5_goOnFrom 80 = .ok (.ishr, 1) := by decide +kernel
theorem dX5_goOnFrom_81 : decode cX5_goOnFrom 81 = .ok (.lshl, 1) := by decide +kernel
theorem dX5_goOnFrom_82 : decode cX5_goOnFrom 82 = .ok (.goto 12, 3) := by decide +kernel
theorem dX5_goOnFrom_85 : decode cX5_goOnFrom 85 = .ok (.aload_n 0, 1) := by decide +kernel
theorem dX5_goOnFrom_86 : decode cX5_goOnFrom 86 = .ok (.getfield 15, 3) := by decide +kernel
theorem dX5_goOnFrom_89 : decode cX5_goOnFrom 89 = .ok (.iload 4, 2) := by decide +kernel
theorem dX5_goOnFrom_91 : decode cX5_goOnFrom 91 = .ok (.iload_n 1, 1) := by decide +kernel
theorem dX5_goOnFrom_92 : decode cX5_goOnFrom 92 = .ok (.iadd, 1) := by decide +kernel
theorem dX5_goOnFrom_93 : decode cX5_goOnFrom 93 = .ok (.laload, 1) := by decide +kernel
theorem dX5_goOnFrom_94 : decode cX5_goOnFrom 94 = .ok (.lstore 8, 2) := by decide +kernel
theorem dX5_goOnFrom_96 : decode cX5_goOnFrom 96 = .ok (.aload_n 0, 1) := by decide +kernel
theorem dX5_goOnFrom_97 : decode cX5_goOnFrom 97 = .ok (.iload 4, 2) := by decide +kernel
theorem dX5_goOnFrom_99 : decode cX5_goOnFrom 99 = .ok (.aload_n 0, 1) := by decide +kernel
theorem dX5_goOnFrom_100 : decode cX5_goOnFrom 100 = .ok (.getfield 19, 3) := by decide +kernel
theorem dX5_goOnFrom_103 : decode cX5_goOnFrom 103 = .ok (.getfield 85, 3) := by decide +kernel
theorem dX5_goOnFrom_106 : decode cX5_goOnFrom 106 = .ok (.iload 6, 2) := by decide +kernel
theorem dX5_goOnFrom_108 : decode cX5_goOnFrom 108 = .ok (.iconst 1, 1) := by decide +kernel
theorem dX5_goOnFrom_109 : decode cX5_goOnFrom 109 = .ok (.ixor, 1) := by decide +kernel
theorem dX5_goOnFrom_110 : decode cX5_goOnFrom 110 = .ok (.iaload, 1) := by decide +kernel
theorem dX5_goOnFrom_111 : decode cX5_goOnFrom 111 = .ok (.iadd, 1) := by decide +kernel
theorem dX5_goOnFrom_112 : decode cX5_goOnFrom 112 = .ok (.aload_n 0, 1) := by decide +kernel
theorem dX5_goOnFrom_113 : decode cX5_goOnFrom 113 = .ok (.getfield 9, 3) := by decide +kernel
theorem dX5_goOnFrom_116 : decode cX5_goOnFrom 116 = .ok (.iload 4, 2) := by decide +kernel
theorem dX5_goOnFrom_118 : decode cX5_goOnFrom 118 = .ok (.iload_n 1, 1) := by decide +kernel
theorem dX5_goOnFrom_119 : decode cX5_goOnFrom 119 = .ok (.iadd, 1) := by decide +kernel
theorem dX5_goOnFrom_120 : decode cX5_goOnFrom 120 = .ok (.iaload, 1) := by decide +kernel
theorem dX5_goOnFrom_121 : decode cX5_goOnFrom 121 = .ok (.iload 7, 2) := by decide +kernel
theorem dX5_goOnFrom_123 : decode cX5_goOnFrom 123 = .ok (.iadd, 1) := by decide +kernel
theorem dX5_goOnFrom_124 : decode cX5_goOnFrom 124 = .ok (.lload 8, 2) := by decide +kernel
theorem dX5_goOnFrom_126 : decode cX5_goOnFrom 126 = .ok (.invokevirtual 88, 3) := by decide +kernel
theorem dX5_goOnFrom_129 : decode cX5_goOnFrom 129 = .ok (.iinc 5 1, 3) := by decide +kernel
theorem dX5_goOnFrom_132 : decode cX5_goOnFrom 132 = .ok (.goto (-122), 3) := by decide +kernel
theorem dX5_goOnFrom_135 : decode cX5_goOnFrom 135 = .ok (.return_, 1) := by decide +kernel
theorem dX5_knownMetric_0 : decode cX5_knownMetric 0 = .ok (.aload_n 0, 1) := by decide +kernel
theorem dX5_knownMetric_1 : decode cX5_knownMetric 1 = .ok (.getfield 27, 3) := by decide +kernel
theorem dX5_knownMetric_4 : decode cX5_knownMetric 4 = .ok (.iload_n 2, 1) := by decide +kernel
theorem dX5_knownMetric_5 : decode cX5_knownMetric 5 = .ok (.iload_n 3, 1) := by decide +kernel
theorem dX5_knownMetric_6 : decode cX5_knownMetric 6 = .ok (.aload_n 0, 1) := by decide +kernel
theorem dX5_knownMetric_7 : decode cX5_knownMetric 7 = .ok (.getfield 19, 3) := by decide +kernel
theorem dX5_knownMetric_10 : decode cX5_knownMetric 10 = .ok (.getfield 85, 3) := by decide +kernel
theorem dX5_knownMetric_13 : decode cX5_knownMetric 13 = .ok (.iload_n 1, 1) := by decide +kernel
theorem dX5_knownMetric_14 : decode cX5_knownMetric 14 = .ok (.iaload, 1) := by decide +kernel
theorem dX5_knownMetric_15 : decode cX5_knownMetric 15 = .ok (.invokestatic 92, 3) := by decide +kernel
theorem dX5_knownMetric_18 : decode cX5_knownMetric 18 = .ok (.invokevirtual 95, 3) := by decide +kernel
theorem dX5_knownMetric_21 : decode cX5_knownMetric 21 = .ok (.istore 4, 2) := by decide +kernel
theorem dX5_knownMetric_23 : decode cX5_knownMetric 23 = .ok (.aload_n 0, 1) := by decide +kernel
theorem dX5_knownMetric_24 : decode cX5_knownMetric 24 = .ok (.getfield 27, 3) := by decide +kernel
theorem dX5_knownMetric_27 : decode cX5_knownMetric 27 = .ok (.iload_n 2, 1) := by decide +kernel
theorem dX5_knownMetric_28 : decode cX5_knownMetric 28 = .ok (.iload_n 3, 1) := by decide +kernel
theorem dX5_knownMetric_29 : decode cX5_knownMetric 29 = .ok (.aload_n 0, 1) := by decide +kernel
theorem dX5_knownMetric_30 : decode cX5_knownMetric 30 = .ok (.getfield 19, 3) := by decide +kernel
theorem dX5_knownMetric_33 : decode cX5_knownMetric 33 = .ok (.getfield 85, 3) := by decide +kernel
theorem dX5_knownMetric_36 : decode cX5_knownMetric 36 = .ok (.iload_n 1, 1) := by decide +kernel
theorem dX5_knownMetric_37 : decode cX5_knownMetric 37 = .ok (.iconst 1, 1) := by decide +kernel
theorem dX5_knownMetric_38 : decode cX5_knownMetric 38 = .ok (.ixor, 1) := by decide +kernel
theorem dX5_knownMetric_39 : decode cX5_knownMetric 39 = .ok (.iaload, 1) := by decide +kernel
theorem dX5_knownMetric_40 : decode cX5_knownMetric 40 = .ok (.invokestatic 92, 3) := by decide +kernel
theorem dX5_knownMetric_43 : decode cX5_knownMetric 43 = .ok (.invokevirtual 95, 3) := by decide +kernel
theorem dX5_knownMetric_46 : decode cX5_knownMetric 46 = .ok (.istore 5, 2) := by decide +kernel
theorem dX5_knownMetric_48 : decode cX5_knownMetric 48 = .ok (.iload 4, 2) := by decide +kernel
theorem dX5_knownMetric_50 : decode cX5_knownMetric 50 = .ok (.iconst (-1), 1) := by decide +kernel
theorem dX5_knownMetric_51 : decode cX5_knownMetric 51 = .ok (.if_icmp .eq 24, 3) := by decide +kernel
theorem dX5_knownMetric_54 : decode cX5_knownMetric 54 = .ok (.iload 5, 2) := by decide +kernel
theorem dX5_knownMetric_56 : decode cX5_knownMetric 56 = .ok (.iconst (-1), 1) := by decide +kernel
theorem dX5_knownMetric_57 : decode cX5_knownMetric 57 = .ok (.if_icmp .eq 18, 3) := by decide +kernel
theorem dX5_knownMetric_60 : decode cX5_knownMetric 60 = .ok (.aload_n 0, 1) := by decide +kernel
theorem dX5_knownMetric_61 : decode cX5_knownMetric 61 = .ok (.getfield 23, 3) := by decide +kernel
theorem dX5_knownMetric_64 : decode cX5_knownMetric 64 = .ok (.iload 5, 2) := by decide +kernel
theorem dX5_knownMetric_66 : decode cX5_knownMetric 66 = .ok (.iload_n 1, 1) := by decide +kernel
theorem dX5_knownMetric_67 : decode cX5_knownMetric 67 = .ok (.iconst 1, 1) := by decide +kernel
theorem dX5_knownMetric_68 : decode cX5_knownMetric 68 = .ok (.ixor, 1) := by decide +kernel
theorem dX5_knownMetric_69 : decode cX5_knownMetric 69 = .ok (.invokevirtual 98, 3) := by decide +kernel
theorem dX5_knownMetric_72 : decode cX5_knownMetric 72 = .ok (.ifCond .ne 5, 3) := by decide +kernel
theorem dX5_knownMetric_75 : decode cX5_knownMetric 75 = .ok (.iconst 0, 1) := by decide +kernel
theorem dX5_knownMetric_76 : decode cX5_knownMetric 76 = .ok (.ireturn, 1) := by decide +kernel
theorem dX5_knownMetric_77 : decode cX5_knownMetric 77 = .ok (.aload_n 0, 1) := by decide +kernel
theorem dX5_knownMetric_78 : decode cX5_knownMetric 78 = .ok (.getfield 23, 3) := by decide +kernel
theorem dX5_knownMetric_81 : decode cX5_knownMetric 81 = .ok (.iload 4, 2) := by decide +kernel
theorem dX5_knownMetric_83 : decode cX5_knownMetric 83 = .ok (.iload_n 1, 1) := by decide +kernel
theorem dX5_knownMetric_84 : decode cX5_knownMetric 84 = .ok (.invokevirtual 98, 3) := by decide +kernel
theorem dX5_knownMetric_87 : decode cX5_knownMetric 87 = .ok (.ireturn, 1) := by decide +kernel
def O_knownMetric : List Cond := [.fieldLink RX5 27 "RoutingDomain$Paths" "databases" "LRoutingDomain$Databases;", .fieldLink RX5 19 "RoutingDomain$Paths" "topology" "LRoutingDomain$Topology;", .fieldLink RX5 85 "RoutingDomain$Topology" "routerOfPort" "[I", .initialized RX9, .static yX9_routerKey, .methodLink RX5 95 yX2_versionHeld, .instanceMethod yX2_versionHeld, .selects RX2 yX2_versionHeld yX2_versionHeld, .initialized RX2, .fieldLink RX5 23 "RoutingDomain$Paths" "advertisements" "LRoutingDomain$Advertisements;", .methodLink RX5 98 yX0_metricListed, .instanceMethod yX0_metricListed, .selects RX0 yX0_metricListed yX0_metricListed, .initialized RX0]
def W_knownMetric : List Cond := .code yX5_knownMetric cX5_knownMetric 6 (some .int) :: (O_knownMetric ++ (wsX50 ++ (wsX80 ++ (W_routerKey ++ (W_versionHeld ++ W_metricListed)))))
theorem m_knownMetric_O : ∀ w ∈ O_knownMetric, w ∈ W_knownMetric := fun _ h => List.mem_cons_of_mem _ (List.mem_append_left _ h)
theorem m_knownMetric_C5 : ∀ w ∈ wsX50, w ∈ W_knownMetric := fun _ h => List.mem_cons_of_mem _ (List.mem_append_right _ (List.mem_append_left _ h))
theorem m_knownMetric_C8 : ∀ w ∈ wsX80, w ∈ W_knownMetric := fun _ h => List.mem_cons_of_mem _ (List.mem_append_right _ (List.mem_append_right _ (List.mem_append_left _ h)))
theorem m_knownMetric_WrouterKey : ∀ w ∈ W_routerKey, w ∈ W_knownMetric := fun _ h => List.mem_cons_of_mem _ (List.mem_append_right _ (List.mem_append_right _ (List.mem_append_right _ (List.mem_append_left _ h))))
theorem m_knownMetric_WversionHeld : ∀ w ∈ W_versionHeld, w ∈ W_knownMetric := fun _ h => List.mem_cons_of_mem _ (List.mem_append_right _ (List.mem_append_right _ (List.mem_append_right _ (List.mem_append_right _ (List.mem_append_left _ h)))))
theorem m_knownMetric_WmetricListed : ∀ w ∈ W_metricListed, w ∈ W_knownMetric := fun _ h => List.mem_cons_of_mem _ (List.mem_append_right _ (List.mem_append_right _ (List.mem_append_right _ (List.mem_append_right _ (List.mem_append_right _ h)))))
theorem gdO_knownMetric : O_knownMetric.all goodWord = true := by decide +kernel
theorem gd_knownMetric : W_knownMetric.all goodWord = true := k_all_cons rfl (k_all_app gdO_knownMetric (k_all_app gdC_5 (k_all_app gdC_8 (k_all_app gd_routerKey (k_all_app gd_versionHeld gd_metricListed)))))
set_option maxHeartbeats 4000000 in
set_option maxRecDepth 100000 in
theorem c_knownMetric (l : Launch) (D : va_G) (cI cZ cJ : ClassId) (h0 : Nat) (ad : Nat → Nat) (t : TP) (lc : Nat) (now : Nat) (lm : Nat → Nat) (hd : Nat → Option Nat) (q : Nat) (r : Nat) (a : Nat) (hq : q < 80) (hr : r < 16) (ha : a = 1) (hlm : ∀ j, lm j ≤ 1000) (hhd : ∀ j w, hd j = some w → w < 69632) (hT : TOK t) : kMi l yX5_knownMetric W_knownMetric { frames := 1, cells := 0, slots := 0, locals := 22 } 0 0 D (kT cI cZ cJ) [.ref h0, .int (nI q), .int (nI r), .int (nI a)] [(h0, .inr (5, [.ref (ad 26), .ref (ad 27), .ref (ad 0), .ref (ad 1), .ref (ad 2)])), ((ad 0), .inr (8, [.int (nI (tRc t)), .int (nI lc), .ref (ad 7), .ref (ad 8), .ref (ad 9), .ref (ad 10), .ref (ad 11), .ref (ad 12), .ref (ad 13), .ref (ad 14), .ref (ad 15), .ref (ad 16)])), ((ad 11), .inl (cI, 80, .inl (eN (tRp t)))), ((ad 1), .inr (0, [.int (nI now), .ref (ad 17), .ref (ad 18), .ref (ad 19), .ref (ad 20), .ref (ad 0)])), ((ad 19), .inl (cI, 5120, .inl (eN lm))), ((ad 2), .inr (2, [.ref (ad 21), .ref (ad 22), .ref (ad 23), .ref (ad 24), .ref (ad 25)])), ((ad 24), .inl (cI, 17408, .inl (eO hd)))] (S := Unit) (fun res_ _ => res_ = (nI (km t hd lm r q))) (fun _ => [(h0, .inr (5, [.ref (ad 26), .ref (ad 27), .ref (ad 0), .ref (ad 1), .ref (ad 2)])), ((ad 0), .inr (8, [.int (nI (tRc t)), .int (nI lc), .ref (ad 7), .ref (ad 8), .ref (ad 9), .ref (ad 10), .ref (ad 11), .ref (ad 12), .ref (ad 13), .ref (ad 14), .ref (ad 15), .ref (ad 16)])), ((ad 11), .inl (cI, 80, .inl (eN (tRp t)))), ((ad 1), .inr (0, [.int (nI now), .ref (ad 17), .ref (ad 18), .ref (ad 19), .ref (ad 20), .ref (ad 0)])), ((ad 19), .inl (cI, 5120, .inl (eN lm))), ((ad 2), .inr (2, [.ref (ad 21), .ref (ad 22), .ref (ad 23), .ref (ad 24), .ref (ad 25)])), ((ad 24), .inl (cI, 17408, .inl (eO hd)))]) := by
  refine kMi_of (lv := [(0, .ref h0), (1, .int (nI q)), (2, .int (nI r)), (3, .int (nI a))]) RX5 "knownMetric" (by decide +kernel) rfl rfl rfl (Nat.le_of_ble_eq_true rfl) rfl ?_
  intro p e s m below meth c A H locs ls E hA hK hP hD hS hl
  obtain ⟨hx, hb, hr_, hts, hown, hlocks, hml, hin, hN⟩ := id E
  subst ha
  obtain ⟨hrc, hrp, hpo, hpc, hal, hmp, han⟩ := id hT
  have hq1 := hrp q
  have hq2 := hrp (ot q)
  have hq3 := ot_lt80 hq
  refine lv_aload_n hx hb dX5_knownMetric_0 rfl (lv_at hl 0 rfl) ?_
  refine va_get (ci := 5) (v := .ref (ad 2)) (C := RX5) (T := TX5) (N := 5) hx hb hts m_knownMetric_C5 hown hK hP 0 rfl rfl 4 (by decide) (hts (.fieldLink RX5 27 "RoutingDomain$Paths" "databases" "LRoutingDomain$Databases;") (m_knownMetric_O _ (by decide +kernel))) (fun _ h9 => h9) rfl dX5_knownMetric_1 ?_
  refine lv_iload_n hx hb dX5_knownMetric_4 rfl (lv_at hl 2 rfl) ?_
  refine lv_iload_n hx hb dX5_knownMetric_5 rfl (lv_at hl 3 rfl) ?_
  refine lv_aload_n hx hb dX5_knownMetric_6 rfl (lv_at hl 0 rfl) ?_
  refine va_get (ci := 5) (v := .ref (ad 0)) (C := RX5) (T := TX5) (N := 5) hx hb hts m_knownMetric_C5 hown hK hP 0 rfl rfl 2 (by decide) (hts (.fieldLink RX5 19 "RoutingDomain$Paths" "topology" "LRoutingDomain$Topology;") (m_knownMetric_O _ (by decide +kernel))) (fun _ h9 => h9) rfl dX5_knownMetric_7 ?_
  refine va_get (ci := 8) (v := .ref (ad 11)) (C := RX8) (T := TX8) (N := 12) hx hb hts m_knownMetric_C8 hown hK hP 1 rfl rfl 6 (by decide) (hts (.fieldLink RX5 85 "RoutingDomain$Topology" "routerOfPort" "[I") (m_knownMetric_O _ (by decide +kernel))) (fun _ h9 => h9) rfl dX5_knownMetric_10 ?_
  refine lv_iload_n hx hb dX5_knownMetric_13 rfl (lv_at hl 1 rfl) ?_
  refine va_iald hx hb hK hP 2 0 rfl rfl (vp_in_nI (show q < 80 from by omega) (by decide)) dX5_knownMetric_14 ?_
  refine lv_topi (fun y ey => ?_)
  obtain rfl : y = (nI ((tRp t) q)) := ey.trans (ldN (f := (tRp t)) (j := q) (by omega))
  refine kSNi (As := [.int (nI 1), .int (nI ((tRp t) q))]) (rest := [.int (nI r), .ref (ad 2)]) (wr := [(h0, .inr (5, [.ref (ad 26), .ref (ad 27), .ref (ad 0), .ref (ad 1), .ref (ad 2)])), ((ad 0), .inr (8, [.int (nI (tRc t)), .int (nI lc), .ref (ad 7), .ref (ad 8), .ref (ad 9), .ref (ad 10), .ref (ad 11), .ref (ad 12), .ref (ad 13), .ref (ad 14), .ref (ad 15), .ref (ad 16)])), ((ad 11), .inl (cI, 80, .inl (eN (tRp t)))), ((ad 1), .inr (0, [.int (nI now), .ref (ad 17), .ref (ad 18), .ref (ad 19), .ref (ad 20), .ref (ad 0)])), ((ad 19), .inl (cI, 5120, .inl (eN lm))), ((ad 2), .inr (2, [.ref (ad 21), .ref (ad 22), .ref (ad 23), .ref (ad 24), .ref (ad 25)])), ((ad 24), .inl (cI, 17408, .inl (eO hd)))]) (w2 := fun _ => [(h0, .inr (5, [.ref (ad 26), .ref (ad 27), .ref (ad 0), .ref (ad 1), .ref (ad 2)])), ((ad 0), .inr (8, [.int (nI (tRc t)), .int (nI lc), .ref (ad 7), .ref (ad 8), .ref (ad 9), .ref (ad 10), .ref (ad 11), .ref (ad 12), .ref (ad 13), .ref (ad 14), .ref (ad 15), .ref (ad 16)])), ((ad 11), .inl (cI, 80, .inl (eN (tRp t)))), ((ad 1), .inr (0, [.int (nI now), .ref (ad 17), .ref (ad 18), .ref (ad 19), .ref (ad 20), .ref (ad 0)])), ((ad 19), .inl (cI, 5120, .inl (eN lm))), ((ad 2), .inr (2, [.ref (ad 21), .ref (ad 22), .ref (ad 23), .ref (ad 24), .ref (ad 25)])), ((ad 24), .inl (cI, 17408, .inl (eO hd)))]) ⟨hx, hb, hml, hown, hts⟩ hN (c_routerKey l D cI cZ cJ 1 ((tRp t) q)) ⟨va_cnB (host := "RoutingDomain") 2 hts (goodIn_sub m_knownMetric_WrouterKey gd_routerKey) rfl rfl rfl (hN (_, 92, _, _) (by decide +kernel) : va_Nw (.methodLinkNest RX5 92 yX9_routerKey "RoutingDomain") s) (hts (.initialized RX9) (m_knownMetric_O _ (by decide +kernel))) (by decide +kernel) ⟨Nat.le_of_ble_eq_true rfl, Nat.le_of_ble_eq_true rfl⟩, (hts (.static yX9_routerKey) (m_knownMetric_O _ (by decide +kernel))), trivial⟩ hK hP hD hS hA [] [0, 1, 2, 3, 4, 5, 6] [0, 1, 2, 3, 4, 5, 6] rfl rfl ⟨by decide, by decide, by decide⟩ (by decide) (fun _ => rfl) rfl hl.1 rfl (Nat.le_of_ble_eq_true rfl) dX5_knownMetric_15 ⟨Nat.le_of_ble_eq_true rfl, Nat.le_of_ble_eq_true rfl⟩ (fun res_ u H locs hw hP hD hS => ?_)
  have hP : va_P D vwCl [(h0, .inr (5, [.ref (ad 26), .ref (ad 27), .ref (ad 0), .ref (ad 1), .ref (ad 2)])), ((ad 0), .inr (8, [.int (nI (tRc t)), .int (nI lc), .ref (ad 7), .ref (ad 8), .ref (ad 9), .ref (ad 10), .ref (ad 11), .ref (ad 12), .ref (ad 13), .ref (ad 14), .ref (ad 15), .ref (ad 16)])), ((ad 11), .inl (cI, 80, .inl (eN (tRp t)))), ((ad 1), .inr (0, [.int (nI now), .ref (ad 17), .ref (ad 18), .ref (ad 19), .ref (ad 20), .ref (ad 0)])), ((ad 19), .inl (cI, 5120, .inl (eN lm))), ((ad 2), .inr (2, [.ref (ad 21), .ref (ad 22), .ref (ad 23), .ref (ad 24), .ref (ad 25)])), ((ad 24), .inl (cI, 17408, .inl (eO hd)))] H := hP
  have hD : va_D A [(h0, .inr (5, [.ref (ad 26), .ref (ad 27), .ref (ad 0), .ref (ad 1), .ref (ad 2)])), ((ad 0), .inr (8, [.int (nI (tRc t)), .int (nI lc), .ref (ad 7), .ref (ad 8), .ref (ad 9), .ref (ad 10), .ref (ad 11), .ref (ad 12), .ref (ad 13), .ref (ad 14), .ref (ad 15), .ref (ad 16)])), ((ad 11), .inl (cI, 80, .inl (eN (tRp t)))), ((ad 1), .inr (0, [.int (nI now), .ref (ad 17), .ref (ad 18), .ref (ad 19), .ref (ad 20), .ref (ad 0)])), ((ad 19), .inl (cI, 5120, .inl (eN lm))), ((ad 2), .inr (2, [.ref (ad 21), .ref (ad 22), .ref (ad 23), .ref (ad 24), .ref (ad 25)])), ((ad 24), .inl (cI, 17408, .inl (eO hd)))] := hD
  obtain rfl : res_ = (nI (1 * 272 + ((tRp t) q))) := hw
  refine kVi (As := [.int (nI r), .int (nI (1 * 272 + ((tRp t) q)))]) (rest := []) (wr := [(h0, .inr (5, [.ref (ad 26), .ref (ad 27), .ref (ad 0), .ref (ad 1), .ref (ad 2)])), ((ad 0), .inr (8, [.int (nI (tRc t)), .int (nI lc), .ref (ad 7), .ref (ad 8), .ref (ad 9), .ref (ad 10), .ref (ad 11), .ref (ad 12), .ref (ad 13), .ref (ad 14), .ref (ad 15), .ref (ad 16)])), ((ad 11), .inl (cI, 80, .inl (eN (tRp t)))), ((ad 1), .inr (0, [.int (nI now), .ref (ad 17), .ref (ad 18), .ref (ad 19), .ref (ad 20), .ref (ad 0)])), ((ad 19), .inl (cI, 5120, .inl (eN lm)))]) (w2 := fun _ => [(h0, .inr (5, [.ref (ad 26), .ref (ad 27), .ref (ad 0), .ref (ad 1), .ref (ad 2)])), ((ad 0), .inr (8, [.int (nI (tRc t)), .int (nI lc), .ref (ad 7), .ref (ad 8), .ref (ad 9), .ref (ad 10), .ref (ad 11), .ref (ad 12), .ref (ad 13), .ref (ad 14), .ref (ad 15), .ref (ad 16)])), ((ad 11), .inl (cI, 80, .inl (eN (tRp t)))), ((ad 1), .inr (0, [.int (nI now), .ref (ad 17), .ref (ad 18), .ref (ad 19), .ref (ad 20), .ref (ad 0)])), ((ad 19), .inl (cI, 5120, .inl (eN lm))), ((ad 2), .inr (2, [.ref (ad 21), .ref (ad 22), .ref (ad 23), .ref (ad 24), .ref (ad 25)])), ((ad 24), .inl (cI, 17408, .inl (eO hd)))]) ⟨hx, hb, hml, hown, hts⟩ hN (c_versionHeld l D cI cZ cJ (ad 2) ad hd r (1 * 272 + ((tRp t) q)) hr (by omega)) (cwV 2 hts (k_gV (fun w h => m_knownMetric_O w ((by decide +kernel : ∀ w ∈ ([.methodLink RX5 95 yX2_versionHeld, .instanceMethod yX2_versionHeld, .selects RX2 yX2_versionHeld yX2_versionHeld, .initialized RX2] : List Cond), w ∈ O_knownMetric) w h)) m_knownMetric_WversionHeld gd_versionHeld) rfl rfl rfl (by decide +kernel) ⟨Nat.le_of_ble_eq_true rfl, Nat.le_of_ble_eq_true rfl⟩) hK hP hD hS hA [5, 6] [0, 1, 2, 3, 4] [0, 1, 2, 3, 4, 5, 6] rfl rfl ⟨by decide, by decide, by decide⟩ (by decide) (fun _ => rfl) 2 0 rfl rfl rfl rfl hl.1 rfl (Nat.le_of_ble_eq_true rfl) dX5_knownMetric_18 ⟨Nat.le_of_ble_eq_true rfl, Nat.le_of_ble_eq_true rfl⟩ (fun res_ u H locs hw hP hD hS => ?_)
  have hP : va_P D vwCl [(h0, .inr (5, [.ref (ad 26), .ref (ad 27), .ref (ad 0), .ref (ad 1), .ref (ad 2)])), ((ad 0), .inr (8, [.int (nI (tRc t)), .int (nI lc), .ref (ad 7), .ref (ad 8), .ref (ad 9), .ref (ad 10), .ref (ad 11), .ref (ad 12), .ref (ad 13), .ref (ad 14), .ref (ad 15), .ref (ad 16)])), ((ad 11), .inl (cI, 80, .inl (eN (tRp t)))), ((ad 1), .inr (0, [.int (nI now), .ref (ad 17), .ref (ad 18), .ref (ad 19), .ref (ad 20), .ref (ad 0)])), ((ad 19), .inl (cI, 5120, .inl (eN lm))), ((ad 2), .inr (2, [.ref (ad 21), .ref (ad 22), .ref (ad 23), .ref (ad 24), .ref (ad 25)])), ((ad 24), .inl (cI, 17408, .inl (eO hd)))] H := hP
  have hD : va_D A [(h0, .inr (5, [.ref (ad 26), .ref (ad 27), .ref (ad 0), .ref (ad 1), .ref (ad 2)])), ((ad 0), .inr (8, [.int (nI (tRc t)), .int (nI lc), .ref (ad 7), .ref (ad 8), .ref (ad 9), .ref (ad 10), .ref (ad 11), .ref (ad 12), .ref (ad 13), .ref (ad 14), .ref (ad 15), .ref (ad 16)])), ((ad 11), .inl (cI, 80, .inl (eN (tRp t)))), ((ad 1), .inr (0, [.int (nI now), .ref (ad 17), .ref (ad 18), .ref (ad 19), .ref (ad 20), .ref (ad 0)])), ((ad 19), .inl (cI, 5120, .inl (eN lm))), ((ad 2), .inr (2, [.ref (ad 21), .ref (ad 22), .ref (ad 23), .ref (ad 24), .ref (ad 25)])), ((ad 24), .inl (cI, 17408, .inl (eO hd)))] := hD
  obtain rfl : res_ = (oI (hd (r * 1088 + (1 * 272 + ((tRp t) q))))) := hw
  rcases hv_18 : (hd (r * 1088 + (1 * 272 + ((tRp t) q)))) with _ | v_18
  · refine lv_topi (fun y ey => ?_)
    obtain rfl : y = (-1) := ey
    refine lv_istore (lv' := [(4, .int (-1)), (0, .ref h0), (1, .int (nI q)), (2, .int (nI r)), (3, .int (nI 1))]) hx hb dX5_knownMetric_21 hl (by decide) rfl (fun ls hl => ?_)
    refine lv_aload_n hx hb dX5_knownMetric_23 rfl (lv_at hl 1 rfl) ?_
    refine va_get (ci := 5) (v := .ref (ad 2)) (C := RX5) (T := TX5) (N := 5) hx hb hts m_knownMetric_C5 hown hK hP 0 rfl rfl 4 (by decide) (hts (.fieldLink RX5 27 "RoutingDomain$Paths" "databases" "LRoutingDomain$Databases;") (m_knownMetric_O _ (by decide +kernel))) (fun _ h9 => h9) rfl dX5_knownMetric_24 ?_
    refine lv_iload_n hx hb dX5_knownMetric_27 rfl (lv_at hl 3 rfl) ?_
    refine lv_iload_n hx hb dX5_knownMetric_28 rfl (lv_at hl 4 rfl) ?_
    refine lv_aload_n hx hb dX5_knownMetric_29 rfl (lv_at hl 1 rfl) ?_
    refine va_get (ci := 5) (v := .ref (ad 0)) (C := RX5) (T := TX5) (N := 5) hx hb hts m_knownMetric_C5 hown hK hP 0 rfl rfl 2 (by decide) (hts (.fieldLink RX5 19 "RoutingDomain$Paths" "topology" "LRoutingDomain$Topology;") (m_knownMetric_O _ (by decide +kernel))) (fun _ h9 => h9) rfl dX5_knownMetric_30 ?_
    refine va_get (ci := 8) (v := .ref (ad 11)) (C := RX8) (T := TX8) (N := 12) hx hb hts m_knownMetric_C8 hown hK hP 1 rfl rfl 6 (by decide) (hts (.fieldLink RX5 85 "RoutingDomain$Topology" "routerOfPort" "[I") (m_knownMetric_O _ (by decide +kernel))) (fun _ h9 => h9) rfl dX5_knownMetric_33 ?_
    refine lv_iload_n hx hb dX5_knownMetric_36 rfl (lv_at hl 2 rfl) ?_
    refine lv_iconst (v := 1) hx hb dX5_knownMetric_37 (by decide) ?_
    refine lv_ixor hx hb dX5_knownMetric_38 ?_
    refine lv_topi (fun y ey => ?_)
    obtain rfl : y = (nI (ot q)) := ey.trans (k_xor1 q)
    refine va_iald hx hb hK hP 2 0 rfl rfl (vp_in_nI (show (ot q) < 80 from by omega) (by decide)) dX5_knownMetric_39 ?_
    refine lv_topi (fun y ey => ?_)
    obtain rfl : y = (nI ((tRp t) (ot q))) := ey.trans (ldN (f := (tRp t)) (j := (ot q)) (by omega))
    refine kSNi (As := [.int (nI 1), .int (nI ((tRp t) (ot q)))]) (rest := [.int (nI r), .ref (ad 2)]) (wr := [(h0, .inr (5, [.ref (ad 26), .ref (ad 27), .ref (ad 0), .ref (ad 1), .ref (ad 2)])), ((ad 0), .inr (8, [.int (nI (tRc t)), .int (nI lc), .ref (ad 7), .ref (ad 8), .ref (ad 9), .ref (ad 10), .ref (ad 11), .ref (ad 12), .ref (ad 13), .ref (ad 14), .ref (ad 15), .ref (ad 16)])), ((ad 11), .inl (cI, 80, .inl (eN (tRp t)))), ((ad 1), .inr (0, [.int (nI now), .ref (ad 17), .ref (ad 18), .ref (ad 19), .ref (ad 20), .ref (ad 0)])), ((ad 19), .inl (cI, 5120, .inl (eN lm))), ((ad 2), .inr (2, [.ref (ad 21), .ref (ad 22), .ref (ad 23), .ref (ad 24), .ref (ad 25)])), ((ad 24), .inl (cI, 17408, .inl (eO hd)))]) (w2 := fun _ => [(h0, .inr (5, [.ref (ad 26), .ref (ad 27), .ref (ad 0), .ref (ad 1), .ref (ad 2)])), ((ad 0), .inr (8, [.int (nI (tRc t)), .int (nI lc), .ref (ad 7), .ref (ad 8), .ref (ad 9), .ref (ad 10), .ref (ad 11), .ref (ad 12), .ref (ad 13), .ref (ad 14), .ref (ad 15), .ref (ad 16)])), ((ad 11), .inl (cI, 80, .inl (eN (tRp t)))), ((ad 1), .inr (0, [.int (nI now), .ref (ad 17), .ref (ad 18), .ref (ad 19), .ref (ad 20), .ref (ad 0)])), ((ad 19), .inl (cI, 5120, .inl (eN lm))), ((ad 2), .inr (2, [.ref (ad 21), .ref (ad 22), .ref (ad 23), .ref (ad 24), .ref (ad 25)])), ((ad 24), .inl (cI, 17408, .inl (eO hd)))]) ⟨hx, hb, hml, hown, hts⟩ hN (c_routerKey l D cI cZ cJ 1 ((tRp t) (ot q))) ⟨va_cnB (host := "RoutingDomain") 2 hts (goodIn_sub m_knownMetric_WrouterKey gd_routerKey) rfl rfl rfl (hN (_, 92, _, _) (by decide +kernel) : va_Nw (.methodLinkNest RX5 92 yX9_routerKey "RoutingDomain") s) (hts (.initialized RX9) (m_knownMetric_O _ (by decide +kernel))) (by decide +kernel) ⟨Nat.le_of_ble_eq_true rfl, Nat.le_of_ble_eq_true rfl⟩, (hts (.static yX9_routerKey) (m_knownMetric_O _ (by decide +kernel))), trivial⟩ hK hP hD hS hA [] [0, 1, 2, 3, 4, 5, 6] [0, 1, 2, 3, 4, 5, 6] rfl rfl ⟨by decide, by decide, by decide⟩ (by decide) (fun _ => rfl) rfl hl.1 rfl (Nat.le_of_ble_eq_true rfl) dX5_knownMetric_40 ⟨Nat.le_of_ble_eq_true rfl, Nat.le_of_ble_eq_true rfl⟩ (fun res_ u H locs hw hP hD hS => ?_)
    have hP : va_P D vwCl [(h0, .inr (5, [.ref (ad 26), .ref (ad 27), .ref (ad 0), .ref (ad 1), .ref (ad 2)])), ((ad 0), .inr (8, [.int (nI (tRc t)), .int (nI lc), .ref (ad 7), .ref (ad 8), .ref (ad 9), .ref (ad 10), .ref (ad 11), .ref (ad 12), .ref (ad 13), .ref (ad 14), .ref (ad 15), .ref (ad 16)])), ((ad 11), .inl (cI, 80, .inl (eN (tRp t)))), ((ad 1), .inr (0, [.int (nI now), .ref (ad 17), .ref (ad 18), .ref (ad 19), .ref (ad 20), .ref (ad 0)])), ((ad 19), .inl (cI, 5120, .inl (eN lm))), ((ad 2), .inr (2, [.ref (ad 21), .ref (ad 22), .ref (ad 23), .ref (ad 24), .ref (ad 25)])), ((ad 24), .inl (cI, 17408, .inl (eO hd)))] H := hP
    have hD : va_D A [(h0, .inr (5, [.ref (ad 26), .ref (ad 27), .ref (ad 0), .ref (ad 1), .ref (ad 2)])), ((ad 0), .inr (8, [.int (nI (tRc t)), .int (nI lc), .ref (ad 7), .ref (ad 8), .ref (ad 9), .ref (ad 10), .ref (ad 11), .ref (ad 12), .ref (ad 13), .ref (ad 14), .ref (ad 15), .ref (ad 16)])), ((ad 11), .inl (cI, 80, .inl (eN (tRp t)))), ((ad 1), .inr (0, [.int (nI now), .ref (ad 17), .ref (ad 18), .ref (ad 19), .ref (ad 20), .ref (ad 0)])), ((ad 19), .inl (cI, 5120, .inl (eN lm))), ((ad 2), .inr (2, [.ref (ad 21), .ref (ad 22), .ref (ad 23), .ref (ad 24), .ref (ad 25)])), ((ad 24), .inl (cI, 17408, .inl (eO hd)))] := hD
    obtain rfl : res_ = (nI (1 * 272 + ((tRp t) (ot q)))) := hw
    refine kVi (As := [.int (nI r), .int (nI (1 * 272 + ((tRp t) (ot q))))]) (rest := []) (wr := [(h0, .inr (5, [.ref (ad 26), .ref (ad 27), .ref (ad 0), .ref (ad 1), .ref (ad 2)])), ((ad 0), .inr (8, [.int (nI (tRc t)), .int (nI lc), .ref (ad 7), .ref (ad 8), .ref (ad 9), .ref (ad 10), .ref (ad 11), .ref (ad 12), .ref (ad 13), .ref (ad 14), .ref (ad 15), .ref (ad 16)])), ((ad 11), .inl (cI, 80, .inl (eN (tRp t)))), ((ad 1), .inr (0, [.int (nI now), .ref (ad 17), .ref (ad 18), .ref (ad 19), .ref (ad 20), .ref (ad 0)])), ((ad 19), .inl (cI, 5120, .inl (eN lm)))]) (w2 := fun _ => [(h0, .inr (5, [.ref (ad 26), .ref (ad 27), .ref (ad 0), .ref (ad 1), .ref (ad 2)])), ((ad 0), .inr (8, [.int (nI (tRc t)), .int (nI lc), .ref (ad 7), .ref (ad 8), .ref (ad 9), .ref (ad 10), .ref (ad 11), .ref (ad 12), .ref (ad 13), .ref (ad 14), .ref (ad 15), .ref (ad 16)])), ((ad 11), .inl (cI, 80, .inl (eN (tRp t)))), ((ad 1), .inr (0, [.int (nI now), .ref (ad 17), .ref (ad 18), .ref (ad 19), .ref (ad 20), .ref (ad 0)])), ((ad 19), .inl (cI, 5120, .inl (eN lm))), ((ad 2), .inr (2, [.ref (ad 21), .ref (ad 22), .ref (ad 23), .ref (ad 24), .ref (ad 25)])), ((ad 24), .inl (cI, 17408, .inl (eO hd)))]) ⟨hx, hb, hml, hown, hts⟩ hN (c_versionHeld l D cI cZ cJ (ad 2) ad hd r (1 * 272 + ((tRp t) (ot q))) hr (by omega)) (cwV 2 hts (k_gV (fun w h => m_knownMetric_O w ((by decide +kernel : ∀ w ∈ ([.methodLink RX5 95 yX2_versionHeld, .instanceMethod yX2_versionHeld, .selects RX2 yX2_versionHeld yX2_versionHeld, .initialized RX2] : List Cond), w ∈ O_knownMetric) w h)) m_knownMetric_WversionHeld gd_versionHeld) rfl rfl rfl (by decide +kernel) ⟨Nat.le_of_ble_eq_true rfl, Nat.le_of_ble_eq_true rfl⟩) hK hP hD hS hA [5, 6] [0, 1, 2, 3, 4] [0, 1, 2, 3, 4, 5, 6] rfl rfl ⟨by decide, by decide, by decide⟩ (by decide) (fun _ => rfl) 2 0 rfl rfl rfl rfl hl.1 rfl (Nat.le_of_ble_eq_true rfl) dX5_knownMetric_43 ⟨Nat.le_of_ble_eq_true rfl, Nat.le_of_ble_eq_true rfl⟩ (fun res_ u H locs hw hP hD hS => ?_)
    have hP : va_P D vwCl [(h0, .inr (5, [.ref (ad 26), .ref (ad 27), .ref (ad 0), .ref (ad 1), .ref (ad 2)])), ((ad 0), .inr (8, [.int (nI (tRc t)), .int (nI lc), .ref (ad 7), .ref (ad 8), .ref (ad 9), .ref (ad 10), .ref (ad 11), .ref (ad 12), .ref (ad 13), .ref (ad 14), .ref (ad 15), .ref (ad 16)])), ((ad 11), .inl (cI, 80, .inl (eN (tRp t)))), ((ad 1), .inr (0, [.int (nI now), .ref (ad 17), .ref (ad 18), .ref (ad 19), .ref (ad 20), .ref (ad 0)])), ((ad 19), .inl (cI, 5120, .inl (eN lm))), ((ad 2), .inr (2, [.ref (ad 21), .ref (ad 22), .ref (ad 23), .ref (ad 24), .ref (ad 25)])), ((ad 24), .inl (cI, 17408, .inl (eO hd)))] H := hP
    have hD : va_D A [(h0, .inr (5, [.ref (ad 26), .ref (ad 27), .ref (ad 0), .ref (ad 1), .ref (ad 2)])), ((ad 0), .inr (8, [.int (nI (tRc t)), .int (nI lc), .ref (ad 7), .ref (ad 8), .ref (ad 9), .ref (ad 10), .ref (ad 11), .ref (ad 12), .ref (ad 13), .ref (ad 14), .ref (ad 15), .ref (ad 16)])), ((ad 11), .inl (cI, 80, .inl (eN (tRp t)))), ((ad 1), .inr (0, [.int (nI now), .ref (ad 17), .ref (ad 18), .ref (ad 19), .ref (ad 20), .ref (ad 0)])), ((ad 19), .inl (cI, 5120, .inl (eN lm))), ((ad 2), .inr (2, [.ref (ad 21), .ref (ad 22), .ref (ad 23), .ref (ad 24), .ref (ad 25)])), ((ad 24), .inl (cI, 17408, .inl (eO hd)))] := hD
    obtain rfl : res_ = (oI (hd (r * 1088 + (1 * 272 + ((tRp t) (ot q)))))) := hw
    rcases hv_43 : (hd (r * 1088 + (1 * 272 + ((tRp t) (ot q))))) with _ | v_43
    · refine lv_topi (fun y ey => ?_)
      obtain rfl : y = (-1) := ey
      refine lv_istore (lv' := [(5, .int (-1)), (4, .int (-1)), (0, .ref h0), (1, .int (nI q)), (2, .int (nI r)), (3, .int (nI 1))]) hx hb dX5_knownMetric_46 hl (by decide) rfl (fun ls hl => ?_)
      refine lv_iload hx hb dX5_knownMetric_48 (lv_at hl 1 rfl) ?_
      refine lv_iconst (v := (-1)) hx hb dX5_knownMetric_50 (by decide) ?_
      refine lv_icmp_eq (tgt := 75) hx hb dX5_knownMetric_51 (by decide) (fun _ => ?_) (fun c => absurd (by decide) c)
      refine lv_iconst (v := 0) hx hb dX5_knownMetric_75 (by decide) ?_
      exact k_iret E hK hP hD hS () [0, 1, 2, 3, 4, 5, 6] (by decide) rfl (show _ = nI (km t hd lm r q) from by rw [show km t hd lm r q = 0 from by simp [km, hv_18, hv_43]]; try rfl) (Nat.le_of_ble_eq_true rfl) (Nat.le_of_ble_eq_true rfl) dX5_knownMetric_76
    · refine lv_topi (fun y ey => ?_)
      obtain rfl : y = (nI v_43) := ey
      have hf2 := hhd _ _ hv_43
      refine lv_istore (lv' := [(5, .int (nI v_43)), (4, .int (-1)), (0, .ref h0), (1, .int (nI q)), (2, .int (nI r)), (3, .int (nI 1))]) hx hb dX5_knownMetric_46 hl (by decide) rfl (fun ls hl => ?_)
      refine lv_iload hx hb dX5_knownMetric_48 (lv_at hl 1 rfl) ?_
      refine lv_iconst (v := (-1)) hx hb dX5_knownMetric_50 (by decide) ?_
      refine lv_icmp_eq (tgt := 75) hx hb dX5_knownMetric_51 (by decide) (fun _ => ?_) (fun c => absurd (by decide) c)
      refine lv_iconst (v := 0) hx hb dX5_knownMetric_75 (by decide) ?_
      exact k_iret E hK hP hD hS () [0, 1, 2, 3, 4, 5, 6] (by decide) rfl (show _ = nI (km t hd lm r q) from by rw [show km t hd lm r q = 0 from by simp [km, hv_18, hv_43]]; try rfl) (Nat.le_of_ble_eq_true rfl) (Nat.le_of_ble_eq_true rfl) dX5_knownMetric_76
  · refine lv_topi (fun y ey => ?_)
    obtain rfl : y = (nI v_18) := ey
    have hf1 := hhd _ _ hv_18
    refine lv_istore (lv' := [(4, .int (nI v_18)), (0, .ref h0), (1, .int (nI q)), (2, .int (nI r)), (3, .int (nI 1))]) hx hb dX5_knownMetric_21 hl (by decide) rfl (fun ls hl => ?_)
    refine lv_aload_n hx hb dX5_knownMetric_23 rfl (lv_at hl 1 rfl) ?_
    refine va_get (ci := 5) (v := .ref (ad 2)) (C := RX5) (T := TX5) (N := 5) hx hb hts m_knownMetric_C5 hown hK hP 0 rfl rfl 4 (by decide) (hts (.fieldLink RX5 27 "RoutingDomain$Paths" "databases" "LRoutingDomain$Databases;") (m_knownMetric_O _ (by decide +kernel))) (fun _ h9 => h9) rfl dX5_knownMetric_24 ?_
    refine lv_iload_n hx hb dX5_knownMetric_27 rfl (lv_at hl 3 rfl) ?_
    refine lv_iload_n hx hb dX5_knownMetric_28 rfl (lv_at hl 4 rfl) ?_
    refine lv_aload_n hx hb dX5_knownMetric_29 rfl (lv_at hl 1 rfl) ?_
    refine va_get (ci := 5) (v := .ref (ad 0)) (C := RX5) (T := TX5) (N := 5) hx hb hts m_knownMetric_C5 hown hK hP 0 rfl rfl 2 (by decide) (hts (.fieldLink RX5 19 "RoutingDomain$Paths" "topology" "LRoutingDomain$Topology;") (m_knownMetric_O _ (by decide +kernel))) (fun _ h9 => h9) rfl dX5_knownMetric_30 ?_
    refine va_get (ci := 8) (v := .ref (ad 11)) (C := RX8) (T := TX8) (N := 12) hx hb hts m_knownMetric_C8 hown hK hP 1 rfl rfl 6 (by decide) (hts (.fieldLink RX5 85 "RoutingDomain$Topology" "routerOfPort" "[I") (m_knownMetric_O _ (by decide +kernel))) (fun _ h9 => h9) rfl dX5_knownMetric_33 ?_
    refine lv_iload_n hx hb dX5_knownMetric_36 rfl (lv_at hl 2 rfl) ?_
    refine lv_iconst (v := 1) hx hb dX5_knownMetric_37 (by decide) ?_
    refine lv_ixor hx hb dX5_knownMetric_38 ?_
    refine lv_topi (fun y ey => ?_)
    obtain rfl : y = (nI (ot q)) := ey.trans (k_xor1 q)
    refine va_iald hx hb hK hP 2 0 rfl rfl (vp_in_nI (show (ot q) < 80 from by omega) (by decide)) dX5_knownMetric_39 ?_
    refine lv_topi (fun y ey => ?_)
    obtain rfl : y = (nI ((tRp t) (ot q))) := ey.trans (ldN (f := (tRp t)) (j := (ot q)) (by omega))
    refine kSNi (As := [.int (nI 1), .int (nI ((tRp t) (ot q)))]) (rest := [.int (nI r), .ref (ad 2)]) (wr := [(h0, .inr (5, [.ref (ad 26), .ref (ad 27), .ref (ad 0), .ref (ad 1), .ref (ad 2)])), ((ad 0), .inr (8, [.int (nI (tRc t)), .int (nI lc), .ref (ad 7), .ref (ad 8), .ref (ad 9), .ref (ad 10), .ref (ad 11), .ref (ad 12), .ref (ad 13), .ref (ad 14), .ref (ad 15), .ref (ad 16)])), ((ad 11), .inl (cI, 80, .inl (eN (tRp t)))), ((ad 1), .inr (0, [.int (nI now), .ref (ad 17), .ref (ad 18), .ref (ad 19), .ref (ad 20), .ref (ad 0)])), ((ad 19), .inl (cI, 5120, .inl (eN lm))), ((ad 2), .inr (2, [.ref (ad 21), .ref (ad 22), .ref (ad 23), .ref (ad 24), .ref (ad 25)])), ((ad 24), .inl (cI, 17408, .inl (eO hd)))]) (w2 := fun _ => [(h0, .inr (5, [.ref (ad 26), .ref (ad 27), .ref (ad 0), .ref (ad 1), .ref (ad 2)])), ((ad 0), .inr (8, [.int (nI (tRc t)), .int (nI lc), .ref (ad 7), .ref (ad 8), .ref (ad 9), .ref (ad 10), .ref (ad 11), .ref (ad 12), .ref (ad 13), .ref (ad 14), .ref (ad 15), .ref (ad 16)])), ((ad 11), .inl (cI, 80, .inl (eN (tRp t)))), ((ad 1), .inr (0, [.int (nI now), .ref (ad 17), .ref (ad 18), .ref (ad 19), .ref (ad 20), .ref (ad 0)])), ((ad 19), .inl (cI, 5120, .inl (eN lm))), ((ad 2), .inr (2, [.ref (ad 21), .ref (ad 22), .ref (ad 23), .ref (ad 24), .ref (ad 25)])), ((ad 24), .inl (cI, 17408, .inl (eO hd)))]) ⟨hx, hb, hml, hown, hts⟩ hN (c_routerKey l D cI cZ cJ 1 ((tRp t) (ot q))) ⟨va_cnB (host := "RoutingDomain") 2 hts (goodIn_sub m_knownMetric_WrouterKey gd_routerKey) rfl rfl rfl (hN (_, 92, _, _) (by decide +kernel) : va_Nw (.methodLinkNest RX5 92 yX9_routerKey "RoutingDomain") s) (hts (.initialized RX9) (m_knownMetric_O _ (by decide +kernel))) (by decide +kernel) ⟨Nat.le_of_ble_eq_true rfl, Nat.le_of_ble_eq_true rfl⟩, (hts (.static yX9_routerKey) (m_knownMetric_O _ (by decide +kernel))), trivial⟩ hK hP hD hS hA [] [0, 1, 2, 3, 4, 5, 6] [0, 1, 2, 3, 4, 5, 6] rfl rfl ⟨by decide, by decide, by decide⟩ (by decide) (fun _ => rfl) rfl hl.1 rfl (Nat.le_of_ble_eq_true rfl) dX5_knownMetric_40 ⟨Nat.le_of_ble_eq_true rfl, Nat.le_of_ble_eq_true rfl⟩ (fun res_ u H locs hw hP hD hS => ?_)
    have hP : va_P D vwCl [(h0, .inr (5, [.ref (ad 26), .ref (ad 27), .ref (ad 0), .ref (ad 1), .ref (ad 2)])), ((ad 0), .inr (8, [.int (nI (tRc t)), .int (nI lc), .ref (ad 7), .ref (ad 8), .ref (ad 9), .ref (ad 10), .ref (ad 11), .ref (ad 12), .ref (ad 13), .ref (ad 14), .ref (ad 15), .ref (ad 16)])), ((ad 11), .inl (cI, 80, .inl (eN (tRp t)))), ((ad 1), .inr (0, [.int (nI now), .ref (ad 17), .ref (ad 18), .ref (ad 19), .ref (ad 20), .ref (ad 0)])), ((ad 19), .inl (cI, 5120, .inl (eN lm))), ((ad 2), .inr (2, [.ref (ad 21), .ref (ad 22), .ref (ad 23), .ref (ad 24), .ref (ad 25)])), ((ad 24), .inl (cI, 17408, .inl (eO hd)))] H := hP
    have hD : va_D A [(h0, .inr (5, [.ref (ad 26), .ref (ad 27), .ref (ad 0), .ref (ad 1), .ref (ad 2)])), ((ad 0), .inr (8, [.int (nI (tRc t)), .int (nI lc), .ref (ad 7), .ref (ad 8), .ref (ad 9), .ref (ad 10), .ref (ad 11), .ref (ad 12), .ref (ad 13), .ref (ad 14), .ref (ad 15), .ref (ad 16)])), ((ad 11), .inl (cI, 80, .inl (eN (tRp t)))), ((ad 1), .inr (0, [.int (nI now), .ref (ad 17), .ref (ad 18), .ref (ad 19), .ref (ad 20), .ref (ad 0)])), ((ad 19), .inl (cI, 5120, .inl (eN lm))), ((ad 2), .inr (2, [.ref (ad 21), .ref (ad 22), .ref (ad 23), .ref (ad 24), .ref (ad 25)])), ((ad 24), .inl (cI, 17408, .inl (eO hd)))] := hD
    obtain rfl : res_ = (nI (1 * 272 + ((tRp t) (ot q)))) := hw
    refine kVi (As := [.int (nI r), .int (nI (1 * 272 + ((tRp t) (ot q))))]) (rest := []) (wr := [(h0, .inr (5, [.ref (ad 26), .ref (ad 27), .ref (ad 0), .ref (ad 1), .ref (ad 2)])), ((ad 0), .inr (8, [.int (nI (tRc t)), .int (nI lc), .ref (ad 7), .ref (ad 8), .ref (ad 9), .ref (ad 10), .ref (ad 11), .ref (ad 12), .ref (ad 13), .ref (ad 14), .ref (ad 15), .ref (ad 16)])), ((ad 11), .inl (cI, 80, .inl (eN (tRp t)))), ((ad 1), .inr (0, [.int (nI now), .ref (ad 17), .ref (ad 18), .ref (ad 19), .ref (ad 20), .ref (ad 0)])), ((ad 19), .inl (cI, 5120, .inl (eN lm)))]) (w2 := fun _ => [(h0, .inr (5, [.ref (ad 26), .ref (ad 27), .ref (ad 0), .ref (ad 1), .ref (ad 2)])), ((ad 0), .inr (8, [.int (nI (tRc t)), .int (nI lc), .ref (ad 7), .ref (ad 8), .ref (ad 9), .ref (ad 10), .ref (ad 11), .ref (ad 12), .ref (ad 13), .ref (ad 14), .ref (ad 15), .ref (ad 16)])), ((ad 11), .inl (cI, 80, .inl (eN (tRp t)))), ((ad 1), .inr (0, [.int (nI now), .ref (ad 17), .ref (ad 18), .ref (ad 19), .ref (ad 20), .ref (ad 0)])), ((ad 19), .inl (cI, 5120, .inl (eN lm))), ((ad 2), .inr (2, [.ref (ad 21), .ref (ad 22), .ref (ad 23), .ref (ad 24), .ref (ad 25)])), ((ad 24), .inl (cI, 17408, .inl (eO hd)))]) ⟨hx, hb, hml, hown, hts⟩ hN (c_versionHeld l D cI cZ cJ (ad 2) ad hd r (1 * 272 + ((tRp t) (ot q))) hr (by omega)) (cwV 2 hts (k_gV (fun w h => m_knownMetric_O w ((by decide +kernel : ∀ w ∈ ([.methodLink RX5 95 yX2_versionHeld, .instanceMethod yX2_versionHeld, .selects RX2 yX2_versionHeld yX2_versionHeld, .initialized RX2] : List Cond), w ∈ O_knownMetric) w h)) m_knownMetric_WversionHeld gd_versionHeld) rfl rfl rfl (by decide +kernel) ⟨Nat.le_of_ble_eq_true rfl, Nat.le_of_ble_eq_true rfl⟩) hK hP hD hS hA [5, 6] [0, 1, 2, 3, 4] [0, 1, 2, 3, 4, 5, 6] rfl rfl ⟨by decide, by decide, by decide⟩ (by decide) (fun _ => rfl) 2 0 rfl rfl rfl rfl hl.1 rfl (Nat.le_of_ble_eq_true rfl) dX5_knownMetric_43 ⟨Nat.le_of_ble_eq_true rfl, Nat.le_of_ble_eq_true rfl⟩ (fun res_ u H locs hw hP hD hS => ?_)
    have hP : va_P D vwCl [(h0, .inr (5, [.ref (ad 26), .ref (ad 27), .ref (ad 0), .ref (ad 1), .ref (ad 2)])), ((ad 0), .inr (8, [.int (nI (tRc t)), .int (nI lc), .ref (ad 7), .ref (ad 8), .ref (ad 9), .ref (ad 10), .ref (ad 11), .ref (ad 12), .ref (ad 13), .ref (ad 14), .ref (ad 15), .ref (ad 16)])), ((ad 11), .inl (cI, 80, .inl (eN (tRp t)))), ((ad 1), .inr (0, [.int (nI now), .ref (ad 17), .ref (ad 18), .ref (ad 19), .ref (ad 20), .ref (ad 0)])), ((ad 19), .inl (cI, 5120, .inl (eN lm))), ((ad 2), .inr (2, [.ref (ad 21), .ref (ad 22), .ref (ad 23), .ref (ad 24), .ref (ad 25)])), ((ad 24), .inl (cI, 17408, .inl (eO hd)))] H := hP
    have hD : va_D A [(h0, .inr (5, [.ref (ad 26), .ref (ad 27), .ref (ad 0), .ref (ad 1), .ref (ad 2)])), ((ad 0), .inr (8, [.int (nI (tRc t)), .int (nI lc), .ref (ad 7), .ref (ad 8), .ref (ad 9), .ref (ad 10), .ref (ad 11), .ref (ad 12), .ref (ad 13), .ref (ad 14), .ref (ad 15), .ref (ad 16)])), ((ad 11), .inl (cI, 80, .inl (eN (tRp t)))), ((ad 1), .inr (0, [.int (nI now), .ref (ad 17), .ref (ad 18), .ref (ad 19), .ref (ad 20), .ref (ad 0)])), ((ad 19), .inl (cI, 5120, .inl (eN lm))), ((ad 2), .inr (2, [.ref (ad 21), .ref (ad 22), .ref (ad 23), .ref (ad 24), .ref (ad 25)])), ((ad 24), .inl (cI, 17408, .inl (eO hd)))] := hD
    obtain rfl : res_ = (oI (hd (r * 1088 + (1 * 272 + ((tRp t) (ot q)))))) := hw
    rcases hv_43 : (hd (r * 1088 + (1 * 272 + ((tRp t) (ot q))))) with _ | v_43
    · refine lv_topi (fun y ey => ?_)
      obtain rfl : y = (-1) := ey
      refine lv_istore (lv' := [(5, .int (-1)), (4, .int (nI v_18)), (0, .ref h0), (1, .int (nI q)), (2, .int (nI r)), (3, .int (nI 1))]) hx hb dX5_knownMetric_46 hl (by decide) rfl (fun ls hl => ?_)
      refine lv_iload hx hb dX5_knownMetric_48 (lv_at hl 1 rfl) ?_
      refine lv_iconst (v := (-1)) hx hb dX5_knownMetric_50 (by decide) ?_
      refine lv_icmp_eq (tgt := 75) hx hb dX5_knownMetric_51 (by decide) (fun c => absurd c (nI_m1 (v := v_18) (by omega))) (fun _ => ?_)
      refine lv_iload hx hb dX5_knownMetric_54 (lv_at hl 0 rfl) ?_
      refine lv_iconst (v := (-1)) hx hb dX5_knownMetric_56 (by decide) ?_
      refine lv_icmp_eq (tgt := 75) hx hb dX5_knownMetric_57 (by decide) (fun _ => ?_) (fun c => absurd (by decide) c)
      refine lv_iconst (v := 0) hx hb dX5_knownMetric_75 (by decide) ?_
      exact k_iret E hK hP hD hS () [0, 1, 2, 3, 4, 5, 6] (by decide) rfl (show _ = nI (km t hd lm r q) from by rw [show km t hd lm r q = 0 from by simp [km, hv_18, hv_43]]; try rfl) (Nat.le_of_ble_eq_true rfl) (Nat.le_of_ble_eq_true rfl) dX5_knownMetric_76
    · refine lv_topi (fun y ey => ?_)
      obtain rfl : y = (nI v_43) := ey
      have hf2 := hhd _ _ hv_43
      refine lv_istore (lv' := [(5, .int (nI v_43)), (4, .int (nI v_18)), (0, .ref h0), (1, .int (nI q)), (2, .int (nI r)), (3, .int (nI 1))]) hx hb dX5_knownMetric_46 hl (by decide) rfl (fun ls hl => ?_)
      refine lv_iload hx hb dX5_knownMetric_48 (lv_at hl 1 rfl) ?_
      refine lv_iconst (v := (-1)) hx hb dX5_knownMetric_50 (by decide) ?_
      refine lv_icmp_eq (tgt := 75) hx hb dX5_knownMetric_51 (by decide) (fun c => absurd c (nI_m1 (v := v_18) (by omega))) (fun _ => ?_)
      refine lv_iload hx hb dX5_knownMetric_54 (lv_at hl 0 rfl) ?_
      refine lv_iconst (v := (-1)) hx hb dX5_knownMetric_56 (by decide) ?_
      refine lv_icmp_eq (tgt := 75) hx hb dX5_knownMetric_57 (by decide) (fun c => absurd c (nI_m1 (v := v_43) (by omega))) (fun _ => ?_)
      have hf3 := hlm (ot q * 64 + v_43 % 64)
      have hf4 := hlm (q * 64 + v_18 % 64)
      refine lv_aload_n hx hb dX5_knownMetric_60 rfl (lv_at hl 2 rfl) ?_
      refine va_get (ci := 5) (v := .ref (ad 1)) (C := RX5) (T := TX5) (N := 5) hx hb hts m_knownMetric_C5 hown hK hP 0 rfl rfl 3 (by decide) (hts (.fieldLink RX5 23 "RoutingDomain$Paths" "advertisements" "LRoutingDomain$Advertisements;") (m_knownMetric_O _ (by decide +kernel))) (fun _ h9 => h9) rfl dX5_knownMetric_61 ?_
      refine lv_iload hx hb dX5_knownMetric_64 (lv_at hl 0 rfl) ?_
      refine lv_iload_n hx hb dX5_knownMetric_66 rfl (lv_at hl 3 rfl) ?_
      refine lv_iconst (v := 1) hx hb dX5_knownMetric_67 (by decide) ?_
      refine lv_ixor hx hb dX5_knownMetric_68 ?_
      refine lv_topi (fun y ey => ?_)
      obtain rfl : y = (nI (ot q)) := ey.trans (k_xor1 q)
      refine kVi (As := [.int (nI v_43), .int (nI (ot q))]) (rest := []) (wr := [(h0, .inr (5, [.ref (ad 26), .ref (ad 27), .ref (ad 0), .ref (ad 1), .ref (ad 2)])), ((ad 0), .inr (8, [.int (nI (tRc t)), .int (nI lc), .ref (ad 7), .ref (ad 8), .ref (ad 9), .ref (ad 10), .ref (ad 11), .ref (ad 12), .ref (ad 13), .ref (ad 14), .ref (ad 15), .ref (ad 16)])), ((ad 11), .inl (cI, 80, .inl (eN (tRp t)))), ((ad 2), .inr (2, [.ref (ad 21), .ref (ad 22), .ref (ad 23), .ref (ad 24), .ref (ad 25)])), ((ad 24), .inl (cI, 17408, .inl (eO hd)))]) (w2 := fun _ => [(h0, .inr (5, [.ref (ad 26), .ref (ad 27), .ref (ad 0), .ref (ad 1), .ref (ad 2)])), ((ad 0), .inr (8, [.int (nI (tRc t)), .int (nI lc), .ref (ad 7), .ref (ad 8), .ref (ad 9), .ref (ad 10), .ref (ad 11), .ref (ad 12), .ref (ad 13), .ref (ad 14), .ref (ad 15), .ref (ad 16)])), ((ad 11), .inl (cI, 80, .inl (eN (tRp t)))), ((ad 1), .inr (0, [.int (nI now), .ref (ad 17), .ref (ad 18), .ref (ad 19), .ref (ad 20), .ref (ad 0)])), ((ad 19), .inl (cI, 5120, .inl (eN lm))), ((ad 2), .inr (2, [.ref (ad 21), .ref (ad 22), .ref (ad 23), .ref (ad 24), .ref (ad 25)])), ((ad 24), .inl (cI, 17408, .inl (eO hd)))]) ⟨hx, hb, hml, hown, hts⟩ hN (c_metricListed l D cI cZ cJ (ad 1) ad now lm v_43 (ot q) hq3) (cwV 2 hts (k_gV (fun w h => m_knownMetric_O w ((by decide +kernel : ∀ w ∈ ([.methodLink RX5 98 yX0_metricListed, .instanceMethod yX0_metricListed, .selects RX0 yX0_metricListed yX0_metricListed, .initialized RX0] : List Cond), w ∈ O_knownMetric) w h)) m_knownMetric_WmetricListed gd_metricListed) rfl rfl rfl (by decide +kernel) ⟨Nat.le_of_ble_eq_true rfl, Nat.le_of_ble_eq_true rfl⟩) hK hP hD hS hA [3, 4] [0, 1, 2, 5, 6] [0, 1, 2, 5, 6, 3, 4] rfl rfl ⟨by decide, by decide, by decide⟩ (by decide) (fun _ => rfl) 0 0 rfl rfl rfl rfl hl.1 rfl (Nat.le_of_ble_eq_true rfl) dX5_knownMetric_69 ⟨Nat.le_of_ble_eq_true rfl, Nat.le_of_ble_eq_true rfl⟩ (fun res_ u H locs hw hP hD hS => ?_)
      have hP : va_P D vwCl [(h0, .inr (5, [.ref (ad 26), .ref (ad 27), .ref (ad 0), .ref (ad 1), .ref (ad 2)])), ((ad 0), .inr (8, [.int (nI (tRc t)), .int (nI lc), .ref (ad 7), .ref (ad 8), .ref (ad 9), .ref (ad 10), .ref (ad 11), .ref (ad 12), .ref (ad 13), .ref (ad 14), .ref (ad 15), .ref (ad 16)])), ((ad 11), .inl (cI, 80, .inl (eN (tRp t)))), ((ad 1), .inr (0, [.int (nI now), .ref (ad 17), .ref (ad 18), .ref (ad 19), .ref (ad 20), .ref (ad 0)])), ((ad 19), .inl (cI, 5120, .inl (eN lm))), ((ad 2), .inr (2, [.ref (ad 21), .ref (ad 22), .ref (ad 23), .ref (ad 24), .ref (ad 25)])), ((ad 24), .inl (cI, 17408, .inl (eO hd)))] H := hP
      have hD : va_D A [(h0, .inr (5, [.ref (ad 26), .ref (ad 27), .ref (ad 0), .ref (ad 1), .ref (ad 2)])), ((ad 0), .inr (8, [.int (nI (tRc t)), .int (nI lc), .ref (ad 7), .ref (ad 8), .ref (ad 9), .ref (ad 10), .ref (ad 11), .ref (ad 12), .ref (ad 13), .ref (ad 14), .ref (ad 15), .ref (ad 16)])), ((ad 11), .inl (cI, 80, .inl (eN (tRp t)))), ((ad 1), .inr (0, [.int (nI now), .ref (ad 17), .ref (ad 18), .ref (ad 19), .ref (ad 20), .ref (ad 0)])), ((ad 19), .inl (cI, 5120, .inl (eN lm))), ((ad 2), .inr (2, [.ref (ad 21), .ref (ad 22), .ref (ad 23), .ref (ad 24), .ref (ad 25)])), ((ad 24), .inl (cI, 17408, .inl (eO hd)))] := hD
      obtain rfl : res_ = (nI (lm ((ot q) * 64 + v_43 % 64))) := hw
      refine lv_if_ne (tgt := 77) hx hb dX5_knownMetric_72 (by decide) (fun c_72 => ?_) (fun c_72 => ?_)
      · have n_72 : ¬ (lm ((ot q) * 64 + v_43 % 64)) = 0 := fun h => c_72 ((nI_eq (a := (lm ((ot q) * 64 + v_43 % 64))) (b := 0) (by omega) (by omega)).mpr h)
        refine lv_aload_n hx hb dX5_knownMetric_77 rfl (lv_at hl 2 rfl) ?_
        refine va_get (ci := 5) (v := .ref (ad 1)) (C := RX5) (T := TX5) (N := 5) hx hb hts m_knownMetric_C5 hown hK hP 0 rfl rfl 3 (by decide) (hts (.fieldLink RX5 23 "RoutingDomain$Paths" "advertisements" "LRoutingDomain$Advertisements;") (m_knownMetric_O _ (by decide +kernel))) (fun _ h9 => h9) rfl dX5_knownMetric_78 ?_
        refine lv_iload hx hb dX5_knownMetric_81 (lv_at hl 1 rfl) ?_
        refine lv_iload_n hx hb dX5_knownMetric_83 rfl (lv_at hl 3 rfl) ?_
        refine kVi (As := [.int (nI v_18), .int (nI q)]) (rest := []) (wr := [(h0, .inr (5, [.ref (ad 26), .ref (ad 27), .ref (ad 0), .ref (ad 1), .ref (ad 2)])), ((ad 0), .inr (8, [.int (nI (tRc t)), .int (nI lc), .ref (ad 7), .ref (ad 8), .ref (ad 9), .ref (ad 10), .ref (ad 11), .ref (ad 12), .ref (ad 13), .ref (ad 14), .ref (ad 15), .ref (ad 16)])), ((ad 11), .inl (cI, 80, .inl (eN (tRp t)))), ((ad 2), .inr (2, [.ref (ad 21), .ref (ad 22), .ref (ad 23), .ref (ad 24), .ref (ad 25)])), ((ad 24), .inl (cI, 17408, .inl (eO hd)))]) (w2 := fun _ => [(h0, .inr (5, [.ref (ad 26), .ref (ad 27), .ref (ad 0), .ref (ad 1), .ref (ad 2)])), ((ad 0), .inr (8, [.int (nI (tRc t)), .int (nI lc), .ref (ad 7), .ref (ad 8), .ref (ad 9), .ref (ad 10), .ref (ad 11), .ref (ad 12), .ref (ad 13), .ref (ad 14), .ref (ad 15), .ref (ad 16)])), ((ad 11), .inl (cI, 80, .inl (eN (tRp t)))), ((ad 1), .inr (0, [.int (nI now), .ref (ad 17), .ref (ad 18), .ref (ad 19), .ref (ad 20), .ref (ad 0)])), ((ad 19), .inl (cI, 5120, .inl (eN lm))), ((ad 2), .inr (2, [.ref (ad 21), .ref (ad 22), .ref (ad 23), .ref (ad 24), .ref (ad 25)])), ((ad 24), .inl (cI, 17408, .inl (eO hd)))]) ⟨hx, hb, hml, hown, hts⟩ hN (c_metricListed l D cI cZ cJ (ad 1) ad now lm v_18 q hq) (cwV 2 hts (k_gV (fun w h => m_knownMetric_O w ((by decide +kernel : ∀ w ∈ ([.methodLink RX5 98 yX0_metricListed, .instanceMethod yX0_metricListed, .selects RX0 yX0_metricListed yX0_metricListed, .initialized RX0] : List Cond), w ∈ O_knownMetric) w h)) m_knownMetric_WmetricListed gd_metricListed) rfl rfl rfl (by decide +kernel) ⟨Nat.le_of_ble_eq_true rfl, Nat.le_of_ble_eq_true rfl⟩) hK hP hD hS hA [3, 4] [0, 1, 2, 5, 6] [0, 1, 2, 5, 6, 3, 4] rfl rfl ⟨by decide, by decide, by decide⟩ (by decide) (fun _ => rfl) 0 0 rfl rfl rfl rfl hl.1 rfl (Nat.le_of_ble_eq_true rfl) dX5_knownMetric_84 ⟨Nat.le_of_ble_eq_true rfl, Nat.le_of_ble_eq_true rfl⟩ (fun res_ u H locs hw hP hD hS => ?_)
        have hP : va_P D vwCl [(h0, .inr (5, [.ref (ad 26), .ref (ad 27), .ref (ad 0), .ref (ad 1), .ref (ad 2)])), ((ad 0), .inr (8, [.int (nI (tRc t)), .int (nI lc), .ref (ad 7), .ref (ad 8), .ref (ad 9), .ref (ad 10), .ref (ad 11), .ref (ad 12), .ref (ad 13), .ref (ad 14), .ref (ad 15), .ref (ad 16)])), ((ad 11), .inl (cI, 80, .inl (eN (tRp t)))), ((ad 1), .inr (0, [.int (nI now), .ref (ad 17), .ref (ad 18), .ref (ad 19), .ref (ad 20), .ref (ad 0)])), ((ad 19), .inl (cI, 5120, .inl (eN lm))), ((ad 2), .inr (2, [.ref (ad 21), .ref (ad 22), .ref (ad 23), .ref (ad 24), .ref (ad 25)])), ((ad 24), .inl (cI, 17408, .inl (eO hd)))] H := hP
        have hD : va_D A [(h0, .inr (5, [.ref (ad 26), .ref (ad 27), .ref (ad 0), .ref (ad 1), .ref (ad 2)])), ((ad 0), .inr (8, [.int (nI (tRc t)), .int (nI lc), .ref (ad 7), .ref (ad 8), .ref (ad 9), .ref (ad 10), .ref (ad 11), .ref (ad 12), .ref (ad 13), .ref (ad 14), .ref (ad 15), .ref (ad 16)])), ((ad 11), .inl (cI, 80, .inl (eN (tRp t)))), ((ad 1), .inr (0, [.int (nI now), .ref (ad 17), .ref (ad 18), .ref (ad 19), .ref (ad 20), .ref (ad 0)])), ((ad 19), .inl (cI, 5120, .inl (eN lm))), ((ad 2), .inr (2, [.ref (ad 21), .ref (ad 22), .ref (ad 23), .ref (ad 24), .ref (ad 25)])), ((ad 24), .inl (cI, 17408, .inl (eO hd)))] := hD
        obtain rfl : res_ = (nI (lm (q * 64 + v_18 % 64))) := hw
        exact k_iret E hK hP hD hS () [0, 1, 2, 3, 4, 5, 6] (by decide) rfl (show _ = nI (km t hd lm r q) from by rw [show km t hd lm r q = (lm (q * 64 + v_18 % 64)) from by simp [km, hv_18, hv_43, n_72]]; try rfl) (Nat.le_of_ble_eq_true rfl) (Nat.le_of_ble_eq_true rfl) dX5_knownMetric_87
      · have n_72 : (lm ((ot q) * 64 + v_43 % 64)) = 0 := (nI_eq (a := (lm ((ot q) * 64 + v_43 % 64))) (b := 0) (by omega) (by omega)).mp c_72
        refine lv_iconst (v := 0) hx hb dX5_knownMetric_75 (by decide) ?_
        exact k_iret E hK hP hD hS () [0, 1, 2, 3, 4, 5, 6] (by decide) rfl (show _ = nI (km t hd lm r q) from by rw [show km t hd lm r q = 0 from by simp [km, hv_18, hv_43, n_72]]; try rfl) (Nat.le_of_ble_eq_true rfl) (Nat.le_of_ble_eq_true rfl) dX5_knownMetric_76

def O_nearestOpen : List Cond := [.fieldLink RX5 19 "RoutingDomain$Paths" "topology" "LRoutingDomain$Topology;", .fieldLink RX5 61 "RoutingDomain$Topology" "routerCount" "I", .fieldLink RX5 9 "RoutingDomain$Paths" "distances" "[I"]
def W_nearestOpen : List Cond := .code yX5_nearestOpen cX5_nearestOpen 6 (some .int) :: (O_nearestOpen ++ (wsX50 ++ wsX80))
theorem m_nearestOpen_O : ∀ w ∈ O_nearestOpen, w ∈ W_nearestOpen := fun _ h => List.mem_cons_of_mem _ (List.mem_append_left _ h)
theorem m_nearestOpen_C5 : ∀ w ∈ wsX50, w ∈ W_nearestOpen := fun _ h => List.mem_cons_of_mem _ (List.mem_append_right _ (List.mem_append_left _ h))
theorem m_nearestOpen_C8 : ∀ w ∈ wsX80, w ∈ W_nearestOpen := fun _ h => List.mem_cons_of_mem _ (List.mem_append_right _ (List.mem_append_right _ h))
theorem gdO_nearestOpen : O_nearestOpen.all goodWord = true := by decide +kernel
theorem gd_nearestOpen : W_nearestOpen.all goodWord = true := k_all_cons rfl (k_all_app gdO_nearestOpen (k_all_app gdC_5 gdC_8))
set_option maxHeartbeats 4000000 in
set_option maxRecDepth 100000 in
theorem c_nearestOpen (l : Launch) (D : va_G) (cI cZ cJ : ClassId) (h0 : Nat) (ad : Nat → Nat) (t : TP) (lc : Nat) (ds : Nat → Option Nat) (w : Nat) (z : Nat) (hw_ : w ≤ 1008) (hz_ : z < 2 ^ 16) (hds : ∀ j w, ds j = some w → w < 2 ^ 20) (hT : TOK t) : kMi l yX5_nearestOpen W_nearestOpen { frames := 0, cells := 0, slots := 0, locals := 0 } 0 0 D (kT cI cZ cJ) [.ref h0, .int (nI w), .int (nI z)] [(h0, .inr (5, [.ref (ad 26), .ref (ad 27), .ref (ad 0), .ref (ad 1), .ref (ad 2)])), ((ad 0), .inr (8, [.int (nI (tRc t)), .int (nI lc), .ref (ad 7), .ref (ad 8), .ref (ad 9), .ref (ad 10), .ref (ad 11), .ref (ad 12), .ref (ad 13), .ref (ad 14), .ref (ad 15), .ref (ad 16)])), ((ad 26), .inl (cI, 1024, .inl (eO ds)))] (S := Unit) (fun res_ _ => res_ = (oI (itr (nr1 ds w z) (tRc t) none))) (fun _ => [(h0, .inr (5, [.ref (ad 26), .ref (ad 27), .ref (ad 0), .ref (ad 1), .ref (ad 2)])), ((ad 0), .inr (8, [.int (nI (tRc t)), .int (nI lc), .ref (ad 7), .ref (ad 8), .ref (ad 9), .ref (ad 10), .ref (ad 11), .ref (ad 12), .ref (ad 13), .ref (ad 14), .ref (ad 15), .ref (ad 16)])), ((ad 26), .inl (cI, 1024, .inl (eO ds)))]) := by
  refine kMi_of (lv := [(0, .ref h0), (1, .int (nI w)), (2, .int (nI z))]) RX5 "nearestOpen" (by decide +kernel) rfl rfl rfl (Nat.le_of_ble_eq_true rfl) rfl ?_
  intro p e s m below meth c A H locs ls E hA hK hP hD hS hl
  obtain ⟨hx, hb, hr_, hts, hown, hlocks, hml, hin, hN⟩ := id E
  obtain ⟨hrc, hrp, hpo, hpc, hal, hmp, han⟩ := id hT
  refine lv_iconst (v := (-1)) hx hb dX5_nearestOpen_0 (by decide) ?_
  refine lv_istore_n (lv' := [(3, .int (-1)), (0, .ref h0), (1, .int (nI w)), (2, .int (nI z))]) hx hb dX5_nearestOpen_1 rfl hl (by decide) rfl (fun ls hl => ?_)
  refine lv_iconst (v := 0) hx hb dX5_nearestOpen_2 (by decide) ?_
  refine lv_istore (lv' := [(4, .int 0), (3, .int (-1)), (0, .ref h0), (1, .int (nI w)), (2, .int (nI z))]) hx hb dX5_nearestOpen_3 hl (by decide) rfl (fun ls hl => ?_)
  refine k_loop (Nat × (Option Nat)) 5 6 (fun u => u.1 ≤ tRc t ∧ u.2 = itr (nr1 ds w z) u.1 none ∧ ∀ y9, u.2 = some y9 → y9 < u.1) (fun u => tRc t - u.1) (fun u => [(h0, .inr (5, [.ref (ad 26), .ref (ad 27), .ref (ad 0), .ref (ad 1), .ref (ad 2)])), ((ad 0), .inr (8, [.int (nI (tRc t)), .int (nI lc), .ref (ad 7), .ref (ad 8), .ref (ad 9), .ref (ad 10), .ref (ad 11), .ref (ad 12), .ref (ad 13), .ref (ad 14), .ref (ad 15), .ref (ad 16)])), ((ad 26), .inl (cI, 1024, .inl (eO ds)))]) (fun u => [(0, .ref h0), (1, .int (nI w)), (2, .int (nI z)), (3, .int (oI u.2)), (4, .int (nI u.1))]) ?_ (0, none) (⟨Nat.zero_le _, rfl, fun _ e => by cases e⟩) (hP.sub [0, 1, 2] rfl) (hD.sub [0, 1, 2] (by decide) rfl) hS (lv_sub hl [2, 3, 4, 1, 0] rfl)
  intro ⟨i, y⟩ H locs ls hinv hP hD hS hl ih_5
  have hinv : i ≤ tRc t ∧ y = itr (nr1 ds w z) i none ∧ ∀ y9, y = some y9 → y9 < i := hinv
  have hP : va_P D vwCl [(h0, .inr (5, [.ref (ad 26), .ref (ad 27), .ref (ad 0), .ref (ad 1), .ref (ad 2)])), ((ad 0), .inr (8, [.int (nI (tRc t)), .int (nI lc), .ref (ad 7), .ref (ad 8), .ref (ad 9), .ref (ad 10), .ref (ad 11), .ref (ad 12), .ref (ad 13), .ref (ad 14), .ref (ad 15), .ref (ad 16)])), ((ad 26), .inl (cI, 1024, .inl (eO ds)))] H := hP
  have hD : va_D A [(h0, .inr (5, [.ref (ad 26), .ref (ad 27), .ref (ad 0), .ref (ad 1), .ref (ad 2)])), ((ad 0), .inr (8, [.int (nI (tRc t)), .int (nI lc), .ref (ad 7), .ref (ad 8), .ref (ad 9), .ref (ad 10), .ref (ad 11), .ref (ad 12), .ref (ad 13), .ref (ad 14), .ref (ad 15), .ref (ad 16)])), ((ad 26), .inl (cI, 1024, .inl (eO ds)))] := hD
  have hl : lv_has ls 6 [(0, .ref h0), (1, .int (nI w)), (2, .int (nI z)), (3, .int (oI y)), (4, .int (nI i))] := hl
  obtain ⟨hi1, hy1, hy2⟩ := hinv
  refine lv_iload hx hb dX5_nearestOpen_5 (lv_at hl 4 rfl) ?_
  refine lv_aload_n hx hb dX5_nearestOpen_7 rfl (lv_at hl 0 rfl) ?_
  refine va_get (ci := 5) (v := .ref (ad 0)) (C := RX5) (T := TX5) (N := 5) hx hb hts m_nearestOpen_C5 hown hK hP 0 rfl rfl 2 (by decide) (hts (.fieldLink RX5 19 "RoutingDomain$Paths" "topology" "LRoutingDomain$Topology;") (m_nearestOpen_O _ (by decide +kernel))) (fun _ h9 => h9) rfl dX5_nearestOpen_8 ?_
  refine va_get (ci := 8) (v := .int (nI (tRc t))) (C := RX8) (T := TX8) (N := 12) hx hb hts m_nearestOpen_C8 hown hK hP 1 rfl rfl 0 (by decide) (hts (.fieldLink RX5 61 "RoutingDomain$Topology" "routerCount" "I") (m_nearestOpen_O _ (by decide +kernel))) (fun _ h9 => h9) rfl dX5_nearestOpen_11 ?_
  refine lv_icmp_ge (tgt := 70) hx hb dX5_nearestOpen_14 (by decide) (fun c_14 => ?_) (fun c_14 => ?_)
  · have n_14 : (tRc t) ≤ i := (nI_leI (a := (tRc t)) (b := i) (by omega) (by omega)).mp c_14
    have hie : i = tRc t := by omega
    subst hie
    refine lv_iload_n hx hb dX5_nearestOpen_70 rfl (lv_at hl 3 rfl) ?_
    exact k_iret E hK hP hD hS () [0, 1, 2] (by decide) rfl (by rw [hy1]) (Nat.le_of_ble_eq_true rfl) (Nat.le_of_ble_eq_true rfl) dX5_nearestOpen_71
  · have n_14 : ¬ (tRc t) ≤ i := fun h => c_14 ((nI_leI (a := (tRc t)) (b := i) (by omega) (by omega)).mpr h)
    have hi2 : i < tRc t := by omega
    refine lv_aload_n hx hb dX5_nearestOpen_17 rfl (lv_at hl 0 rfl) ?_
    refine va_get (ci := 5) (v := .ref (ad 26)) (C := RX5) (T := TX5) (N := 5) hx hb hts m_nearestOpen_C5 hown hK hP 0 rfl rfl 0 (by decide) (hts (.fieldLink RX5 9 "RoutingDomain$Paths" "distances" "[I") (m_nearestOpen_O _ (by decide +kernel))) (fun _ h9 => h9) rfl dX5_nearestOpen_18 ?_
    refine lv_iload_n hx hb dX5_nearestOpen_21 rfl (lv_at hl 1 rfl) ?_
    refine lv_iload hx hb dX5_nearestOpen_22 (lv_at hl 4 rfl) ?_
    refine lv_iadd hx hb dX5_nearestOpen_24 ?_
    refine lv_topi (fun y ey => ?_)
    obtain rfl : y = (nI (w + i)) := ey.trans (nI_add w i)
    refine va_iald hx hb hK hP 2 0 rfl rfl (vp_in_nI (show (w + i) < 1024 from by omega) (by decide)) dX5_nearestOpen_25 ?_
    refine lv_topi (fun y ey => ?_)
    obtain rfl : y = (oI (ds (w + i))) := ey.trans (ldO (f := ds) (j := (w + i)) (by omega))
    rcases hv_25 : (ds (w + i)) with _ | v_25
    · refine lv_topi (fun y ey => ?_)
      obtain rfl : y = (-1) := ey
      refine lv_istore (lv' := [(5, .int (-1)), (0, .ref h0), (1, .int (nI w)), (2, .int (nI z)), (3, .int (oI y)), (4, .int (nI i))]) hx hb dX5_nearestOpen_26 hl (by decide) rfl (fun ls hl => ?_)
      refine lv_iload hx hb dX5_nearestOpen_28 (lv_at hl 0 rfl) ?_
      refine lv_iconst (v := (-1)) hx hb dX5_nearestOpen_30 (by decide) ?_
      refine lv_icmp_eq (tgt := 64) hx hb dX5_nearestOpen_31 (by decide) (fun _ => ?_) (fun c => absurd (by decide) c)
      refine lv_iinc (v := (nI (i + 1))) (lv' := [(4, .int (nI (i + 1))), (5, .int (-1)), (0, .ref h0), (1, .int (nI w)), (2, .int (nI z)), (3, .int (oI y))]) hx hb dX5_nearestOpen_64 hl (k := 5) rfl (nI_add i 1) (by decide) rfl (fun ls hl => ?_)
      refine lv_goto (tgt := 5) hx hb dX5_nearestOpen_67 (by decide) ?_
      have hl : lv_has ls 6 [(4, .int (nI (i + 1))), (5, .int (-1)), (0, .ref h0), (1, .int (nI w)), (2, .int (nI z)), (3, .int (oI y))] := hl
      exact ih_5 (i + 1, y) H locs ls (⟨by show i + 1 ≤ tRc t; omega, (by rw [itr_s, ← hy1]; first | (simp [nr1, n_14, hv_25]; done) | (simp [nr1, n_14, hv_25]; omega)), (fun y9 e9 => Nat.lt_succ_of_lt (hy2 y9 e9))⟩) (by show tRc t - (i + 1) < tRc t - i; omega) (hP.sub [0, 1, 2] rfl) (hD.sub [0, 1, 2] (by decide) rfl) hS (lv_sub hl [2, 3, 4, 5, 0] rfl)
    · refine lv_topi (fun y ey => ?_)
      obtain rfl : y = (nI v_25) := ey
      have hf1 := hds _ _ hv_25
      refine lv_istore (lv' := [(5, .int (nI v_25)), (0, .ref h0), (1, .int (nI w)), (2, .int (nI z)), (3, .int (oI y)), (4, .int (nI i))]) hx hb dX5_nearestOpen_26 hl (by decide) rfl (fun ls hl => ?_)
      refine lv_iload hx hb dX5_nearestOpen_28 (lv_at hl 0 rfl) ?_
      refine lv_iconst (v := (-1)) hx hb dX5_nearestOpen_30 (by decide) ?_
      refine lv_icmp_eq (tgt := 64) hx hb dX5_nearestOpen_31 (by decide) (fun c => absurd c (nI_m1 (v := v_25) (by omega))) (fun _ => ?_)
      refine lv_iload_n hx hb dX5_nearestOpen_34 rfl (lv_at hl 3 rfl) ?_
      refine lv_iload hx hb dX5_nearestOpen_35 (lv_at hl 5 rfl) ?_
      refine lv_ishr hx hb dX5_nearestOpen_37 ?_
      refine lv_topi (fun y ey => ?_)
      obtain rfl : y = (nI (z / 2 ^ i)) := ey.trans (k_shr (a := z) (by omega) i (by omega))
      refine lv_iconst (v := 1) hx hb dX5_nearestOpen_38 (by decide) ?_
      refine lv_iand hx hb dX5_nearestOpen_39 ?_
      refine lv_topi (fun y ey => ?_)
      obtain rfl : y = (nI ((z / 2 ^ i) % 2)) := ey.trans (k_andN (z / 2 ^ i) 1)
      refine lv_if_ne (tgt := 64) hx hb dX5_nearestOpen_40 (by decide) (fun c_40 => ?_) (fun c_40 => ?_)
      · have n_40 : ¬ ((z / 2 ^ i) % 2) = 0 := fun h => c_40 ((nI_eq (a := ((z / 2 ^ i) % 2)) (b := 0) (by omega) (by omega)).mpr h)
        refine lv_iinc (v := (nI (i + 1))) (lv' := [(4, .int (nI (i + 1))), (5, .int (nI v_25)), (0, .ref h0), (1, .int (nI w)), (2, .int (nI z)), (3, .int (oI y))]) hx hb dX5_nearestOpen_64 hl (k := 5) rfl (nI_add i 1) (by decide) rfl (fun ls hl => ?_)
        refine lv_goto (tgt := 5) hx hb dX5_nearestOpen_67 (by decide) ?_
        have hl : lv_has ls 6 [(4, .int (nI (i + 1))), (5, .int (nI v_25)), (0, .ref h0), (1, .int (nI w)), (2, .int (nI z)), (3, .int (oI y))] := hl
        exact ih_5 (i + 1, y) H locs ls (⟨by show i + 1 ≤ tRc t; omega, (by rw [itr_s, ← hy1]; first | (simp [nr1, n_14, hv_25, n_40]; done) | (simp [nr1, n_14, hv_25, n_40]; omega)), (fun y9 e9 => Nat.lt_succ_of_lt (hy2 y9 e9))⟩) (by show tRc t - (i + 1) < tRc t - i; omega) (hP.sub [0, 1, 2] rfl) (hD.sub [0, 1, 2] (by decide) rfl) hS (lv_sub hl [2, 3, 4, 5, 0] rfl)
      · have n_40 : ((z / 2 ^ i) % 2) = 0 := (nI_eq (a := ((z / 2 ^ i) % 2)) (b := 0) (by omega) (by omega)).mp c_40
        rcases y with _ | y0
        · have hP : va_P D vwCl [(h0, .inr (5, [.ref (ad 26), .ref (ad 27), .ref (ad 0), .ref (ad 1), .ref (ad 2)])), ((ad 0), .inr (8, [.int (nI (tRc t)), .int (nI lc), .ref (ad 7), .ref (ad 8), .ref (ad 9), .ref (ad 10), .ref (ad 11), .ref (ad 12), .ref (ad 13), .ref (ad 14), .ref (ad 15), .ref (ad 16)])), ((ad 26), .inl (cI, 1024, .inl (eO ds)))] H := hP
          have hD : va_D A [(h0, .inr (5, [.ref (ad 26), .ref (ad 27), .ref (ad 0), .ref (ad 1), .ref (ad 2)])), ((ad 0), .inr (8, [.int (nI (tRc t)), .int (nI lc), .ref (ad 7), .ref (ad 8), .ref (ad 9), .ref (ad 10), .ref (ad 11), .ref (ad 12), .ref (ad 13), .ref (ad 14), .ref (ad 15), .ref (ad 16)])), ((ad 26), .inl (cI, 1024, .inl (eO ds)))] := hD
          have hl : lv_has ls 6 [(5, .int (nI v_25)), (0, .ref h0), (1, .int (nI w)), (2, .int (nI z)), (3, .int (-1)), (4, .int (nI i))] := hl
          refine lv_iload_n hx hb dX5_nearestOpen_43 rfl (lv_at hl 4 rfl) ?_
          refine lv_iconst (v := (-1)) hx hb dX5_nearestOpen_44 (by decide) ?_
          refine lv_icmp_eq (tgt := 61) hx hb dX5_nearestOpen_45 (by decide) (fun _ => ?_) (fun c => absurd (by decide) c)
          refine lv_iload hx hb dX5_nearestOpen_61 (lv_at hl 5 rfl) ?_
          refine lv_istore_n (lv' := [(3, .int (nI i)), (5, .int (nI v_25)), (0, .ref h0), (1, .int (nI w)), (2, .int (nI z)), (4, .int (nI i))]) hx hb dX5_nearestOpen_63 rfl hl (by decide) rfl (fun ls hl => ?_)
          refine lv_iinc (v := (nI (i + 1))) (lv' := [(4, .int (nI (i + 1))), (3, .int (nI i)), (5, .int (nI v_25)), (0, .ref h0), (1, .int (nI w)), (2, .int (nI z))]) hx hb dX5_nearestOpen_64 hl (k := 5) rfl (nI_add i 1) (by decide) rfl (fun ls hl => ?_)
          refine lv_goto (tgt := 5) hx hb dX5_nearestOpen_67 (by decide) ?_
          have hl : lv_has ls 6 [(4, .int (nI (i + 1))), (3, .int (oI (some i))), (5, .int (nI v_25)), (0, .ref h0), (1, .int (nI w)), (2, .int (nI z))] := hl
          exact ih_5 (i + 1, (some i)) H locs ls (⟨by show i + 1 ≤ tRc t; omega, (by rw [itr_s, ← hy1]; first | (simp [nr1, n_14, hv_25, n_40]; done) | (simp [nr1, n_14, hv_25, n_40]; omega)), (fun y9 e9 => by obtain rfl := Option.some.inj e9; omega)⟩) (by show tRc t - (i + 1) < tRc t - i; omega) (hP.sub [0, 1, 2] rfl) (hD.sub [0, 1, 2] (by decide) rfl) hS (lv_sub hl [3, 4, 5, 1, 0] rfl)
        · have hP : va_P D vwCl [(h0, .inr (5, [.ref (ad 26), .ref (ad 27), .ref (ad 0), .ref (ad 1), .ref (ad 2)])), ((ad 0), .inr (8, [.int (nI (tRc t)), .int (nI lc), .ref (ad 7), .ref (ad 8), .ref (ad 9), .ref (ad 10), .ref (ad 11), .ref (ad 12), .ref (ad 13), .ref (ad 14), .ref (ad 15), .ref (ad 16)])), ((ad 26), .inl (cI, 1024, .inl (eO ds)))] H := hP
          have hD : va_D A [(h0, .inr (5, [.ref (ad 26), .ref (ad 27), .ref (ad 0), .ref (ad 1), .ref (ad 2)])), ((ad 0), .inr (8, [.int (nI (tRc t)), .int (nI lc), .ref (ad 7), .ref (ad 8), .ref (ad 9), .ref (ad 10), .ref (ad 11), .ref (ad 12), .ref (ad 13), .ref (ad 14), .ref (ad 15), .ref (ad 16)])), ((ad 26), .inl (cI, 1024, .inl (eO ds)))] := hD
          have hl : lv_has ls 6 [(5, .int (nI v_25)), (0, .ref h0), (1, .int (nI w)), (2, .int (nI z)), (3, .int (nI y0)), (4, .int (nI i))] := hl
          have hy3 := hy2 _ rfl
          refine lv_iload_n hx hb dX5_nearestOpen_43 rfl (lv_at hl 4 rfl) ?_
          refine lv_iconst (v := (-1)) hx hb dX5_nearestOpen_44 (by decide) ?_
          refine lv_icmp_eq (tgt := 61) hx hb dX5_nearestOpen_45 (by decide) (fun c => absurd c (nI_m1 (v := y0) (by omega))) (fun _ => ?_)
          refine lv_iload hx hb dX5_nearestOpen_48 (lv_at hl 0 rfl) ?_
          refine lv_aload_n hx hb dX5_nearestOpen_50 rfl (lv_at hl 1 rfl) ?_
          refine va_get (ci := 5) (v := .ref (ad 26)) (C := RX5) (T := TX5) (N := 5) hx hb hts m_nearestOpen_C5 hown hK hP 0 rfl rfl 0 (by decide) (hts (.fieldLink RX5 9 "RoutingDomain$Paths" "distances" "[I") (m_nearestOpen_O _ (by decide +kernel))) (fun _ h9 => h9) rfl dX5_nearestOpen_51 ?_
          refine lv_iload_n hx hb dX5_nearestOpen_54 rfl (lv_at hl 2 rfl) ?_
          refine lv_iload_n hx hb dX5_nearestOpen_55 rfl (lv_at hl 4 rfl) ?_
          refine lv_iadd hx hb dX5_nearestOpen_56 ?_
          refine lv_topi (fun y ey => ?_)
          obtain rfl : y = (nI (w + y0)) := ey.trans (nI_add w y0)
          refine va_iald hx hb hK hP 2 0 rfl rfl (vp_in_nI (show (w + y0) < 1024 from by omega) (by decide)) dX5_nearestOpen_57 ?_
          refine lv_topi (fun y ey => ?_)
          obtain rfl : y = (oI (ds (w + y0))) := ey.trans (ldO (f := ds) (j := (w + y0)) (by omega))
          rcases hv_57 : (ds (w + y0)) with _ | v_57
          · refine lv_topi (fun y ey => ?_)
            obtain rfl : y = (-1) := ey
            refine lv_icmp_ge (tgt := 64) hx hb dX5_nearestOpen_58 (by decide) (fun _ => ?_) (fun c => absurd (m1_le (v := v_25) (by omega)) c)
            refine lv_iinc (v := (nI (i + 1))) (lv' := [(4, .int (nI (i + 1))), (5, .int (nI v_25)), (0, .ref h0), (1, .int (nI w)), (2, .int (nI z)), (3, .int (nI y0))]) hx hb dX5_nearestOpen_64 hl (k := 5) rfl (nI_add i 1) (by decide) rfl (fun ls hl => ?_)
            refine lv_goto (tgt := 5) hx hb dX5_nearestOpen_67 (by decide) ?_
            have hl : lv_has ls 6 [(4, .int (nI (i + 1))), (5, .int (nI v_25)), (0, .ref h0), (1, .int (nI w)), (2, .int (nI z)), (3, .int (oI (some y0)))] := hl
            exact ih_5 (i + 1, (some y0)) H locs ls (⟨by show i + 1 ≤ tRc t; omega, (by rw [itr_s, ← hy1]; first | (simp [nr1, n_14, hv_25, n_40, hv_57]; done) | (simp [nr1, n_14, hv_25, n_40, hv_57]; omega)), (fun y9 e9 => by obtain rfl := Option.some.inj e9; have := hy2 _ rfl; omega)⟩) (by show tRc t - (i + 1) < tRc t - i; omega) (hP.sub [0, 1, 2] rfl) (hD.sub [0, 1, 2] (by decide) rfl) hS (lv_sub hl [2, 3, 4, 5, 0] rfl)
          · refine lv_topi (fun y ey => ?_)
            obtain rfl : y = (nI v_57) := ey
            have hf2 := hds _ _ hv_57
            refine lv_icmp_ge (tgt := 64) hx hb dX5_nearestOpen_58 (by decide) (fun c_58 => ?_) (fun c_58 => ?_)
            · have n_58 : v_57 ≤ v_25 := (nI_leI (a := v_57) (b := v_25) (by omega) (by omega)).mp c_58
              refine lv_iinc (v := (nI (i + 1))) (lv' := [(4, .int (nI (i + 1))), (5, .int (nI v_25)), (0, .ref h0), (1, .int (nI w)), (2, .int (nI z)), (3, .int (nI y0))]) hx hb dX5_nearestOpen_64 hl (k := 5) rfl (nI_add i 1) (by decide) rfl (fun ls hl => ?_)
              refine lv_goto (tgt := 5) hx hb dX5_nearestOpen_67 (by decide) ?_
              have hl : lv_has ls 6 [(4, .int (nI (i + 1))), (5, .int (nI v_25)), (0, .ref h0), (1, .int (nI w)), (2, .int (nI z)), (3, .int (oI (some y0)))] := hl
              exact ih_5 (i + 1, (some y0)) H locs ls (⟨by show i + 1 ≤ tRc t; omega, (by rw [itr_s, ← hy1]; first | (simp [nr1, n_14, hv_25, n_40, hv_57, n_58]; done) | (simp [nr1, n_14, hv_25, n_40, hv_57, n_58]; omega)), (fun y9 e9 => by obtain rfl := Option.some.inj e9; have := hy2 _ rfl; omega)⟩) (by show tRc t - (i + 1) < tRc t - i; omega) (hP.sub [0, 1, 2] rfl) (hD.sub [0, 1, 2] (by decide) rfl) hS (lv_sub hl [2, 3, 4, 5, 0] rfl)
            · have n_58 : ¬ v_57 ≤ v_25 := fun h => c_58 ((nI_leI (a := v_57) (b := v_25) (by omega) (by omega)).mpr h)
              refine lv_iload hx hb dX5_nearestOpen_61 (lv_at hl 5 rfl) ?_
              refine lv_istore_n (lv' := [(3, .int (nI i)), (5, .int (nI v_25)), (0, .ref h0), (1, .int (nI w)), (2, .int (nI z)), (4, .int (nI i))]) hx hb dX5_nearestOpen_63 rfl hl (by decide) rfl (fun ls hl => ?_)
              refine lv_iinc (v := (nI (i + 1))) (lv' := [(4, .int (nI (i + 1))), (3, .int (nI i)), (5, .int (nI v_25)), (0, .ref h0), (1, .int (nI w)), (2, .int (nI z))]) hx hb dX5_nearestOpen_64 hl (k := 5) rfl (nI_add i 1) (by decide) rfl (fun ls hl => ?_)
              refine lv_goto (tgt := 5) hx hb dX5_nearestOpen_67 (by decide) ?_
              have hl : lv_has ls 6 [(4, .int (nI (i + 1))), (3, .int (oI (some i))), (5, .int (nI v_25)), (0, .ref h0), (1, .int (nI w)), (2, .int (nI z))] := hl
              exact ih_5 (i + 1, (some i)) H locs ls (⟨by show i + 1 ≤ tRc t; omega, (by rw [itr_s, ← hy1]; first | (simp [nr1, n_14, hv_25, n_40, hv_57, n_58]; done) | (simp [nr1, n_14, hv_25, n_40, hv_57, n_58]; omega)), (fun y9 e9 => by obtain rfl := Option.some.inj e9; omega)⟩) (by show tRc t - (i + 1) < tRc t - i; omega) (hP.sub [0, 1, 2] rfl) (hD.sub [0, 1, 2] (by decide) rfl) hS (lv_sub hl [3, 4, 5, 1, 0] rfl)

def O_goOnFrom : List Cond := [.initialized RX9, .static yX9_rowOfPaths, .fieldLink RX5 19 "RoutingDomain$Paths" "topology" "LRoutingDomain$Topology;", .fieldLink RX5 72 "RoutingDomain$Topology" "portCount" "[I", .methodLink RX5 75 yX8_portAt, .instanceMethod yX8_portAt, .selects RX8 yX8_portAt yX8_portAt, .initialized RX8, .fieldLink RX5 78 "RoutingDomain$Topology" "areaOfLink" "[I", .methodLink RX5 81 yX5_knownMetric, .instanceMethod yX5_knownMetric, .selects RX5 yX5_knownMetric yX5_knownMetric, .initialized RX5, .fieldLink RX5 15 "RoutingDomain$Paths" "firstLinks" "[J", .fieldLink RX5 85 "RoutingDomain$Topology" "routerOfPort" "[I", .fieldLink RX5 9 "RoutingDomain$Paths" "distances" "[I", .methodLink RX5 88 yX5_offer, .instanceMethod yX5_offer, .selects RX5 yX5_offer yX5_offer]
def W_goOnFrom : List Cond := .code yX5_goOnFrom cX5_goOnFrom 10 none :: (O_goOnFrom ++ (W_rowOfPaths ++ (wsX50 ++ (wsX80 ++ (W_portAt ++ (W_knownMetric ++ W_pathsOffer))))))
theorem m_goOnFrom_O : ∀ w ∈ O_goOnFrom, w ∈ W_goOnFrom := fun _ h => List.mem_cons_of_mem _ (List.mem_append_left _ h)
theorem m_goOnFrom_WrowOfPaths : ∀ w ∈ W_rowOfPaths, w ∈ W_goOnFrom := fun _ h => List.mem_cons_of_mem _ (List.mem_append_right _ (List.mem_append_left _ h))
theorem m_goOnFrom_C5 : ∀ w ∈ wsX50, w ∈ W_goOnFrom := fun _ h => List.mem_cons_of_mem _ (List.mem_append_right _ (List.mem_append_right _ (List.mem_append_left _ h)))
theorem m_goOnFrom_C8 : ∀ w ∈ wsX80, w ∈ W_goOnFrom := fun _ h => List.mem_cons_of_mem _ (List.mem_append_right _ (List.mem_append_right _ (List.mem_append_right _ (List.mem_append_left _ h))))
theorem m_goOnFrom_WportAt : ∀ w ∈ W_portAt, w ∈ W_goOnFrom := fun _ h => List.mem_cons_of_mem _ (List.mem_append_right _ (List.mem_append_right _ (List.mem_append_right _ (List.mem_append_right _ (List.mem_append_left _ h)))))
theorem m_goOnFrom_WknownMetric : ∀ w ∈ W_knownMetric, w ∈ W_goOnFrom := fun _ h => List.mem_cons_of_mem _ (List.mem_append_right _ (List.mem_append_right _ (List.mem_append_right _ (List.mem_append_right _ (List.mem_append_right _ (List.mem_append_left _ h))))))
theorem m_goOnFrom_WpathsOffer : ∀ w ∈ W_pathsOffer, w ∈ W_goOnFrom := fun _ h => List.mem_cons_of_mem _ (List.mem_append_right _ (List.mem_append_right _ (List.mem_append_right _ (List.mem_append_right _ (List.mem_append_right _ (List.mem_append_right _ h))))))
theorem gdO_goOnFrom : O_goOnFrom.all goodWord = true := by decide +kernel
theorem gd_goOnFrom : W_goOnFrom.all goodWord = true := k_all_cons rfl (k_all_app gdO_goOnFrom (k_all_app gd_rowOfPaths (k_all_app gdC_5 (k_all_app gdC_8 (k_all_app gd_portAt (k_all_app gd_knownMetric gd_pathsOffer))))))
set_option maxHeartbeats 4000000 in
set_option maxRecDepth 100000 in
theorem c_goOnFrom (l : Launch) (D : va_G) (cI cZ cJ : ClassId) (h0 : Nat) (ad : Nat → Nat) (t : TP) (lc : Nat) (now : Nat) (lm : Nat → Nat) (hd : Nat → Option Nat) (ds : Nat → Option Nat) (fk : Nat → Nat) (x : Nat) (r : Nat) (a : Nat) (dx : Nat) (gx : Nat) (k : Nat) (hx_ : x < 16) (hr : r < 16) (ha : a = 1) (hk : k < 16) (hdx : ds ((r * 4 + 1) * 16 + x) = some dx) (hgx : fk ((r * 4 + 1) * 16 + x) = gx) (hdk : dx ≤ 1000 * k) (hbd : bnd ((r * 4 + 1) * 16) k ds) (hne : ∀ i, i < tPc t x → tRp t (ot (tPo t (x * 40 + i))) ≠ x) (hal1 : ∀ i, i < tPc t x → tAl t (tPo t (x * 40 + i) / 2) = 1) (hlm : ∀ j, lm j ≤ 1000) (hhd : ∀ j w, hd j = some w → w < 69632) (hT : TOK t) : kMv l yX5_goOnFrom W_goOnFrom { frames := 2, cells := 0, slots := 0, locals := 47 } 0 0 D (kT cI cZ cJ) [.ref h0, .int (nI x), .int (nI r), .int (nI a)] [(h0, .inr (5, [.ref (ad 26), .ref (ad 27), .ref (ad 0), .ref (ad 1), .ref (ad 2)])), ((ad 26), .inl (cI, 1024, .inl (eO ds))), ((ad 27), .inl (cJ, 1024, .inr (.inl (eL fk)))), ((ad 0), .inr (8, [.int (nI (tRc t)), .int (nI lc), .ref (ad 7), .ref (ad 8), .ref (ad 9), .ref (ad 10), .ref (ad 11), .ref (ad 12), .ref (ad 13), .ref (ad 14), .ref (ad 15), .ref (ad 16)])), ((ad 10), .inl (cI, 40, .inl (eN (tAl t)))), ((ad 11), .inl (cI, 80, .inl (eN (tRp t)))), ((ad 13), .inl (cI, 16, .inl (eN (tPc t)))), ((ad 15), .inl (cI, 640, .inl (eN (tPo t)))), ((ad 1), .inr (0, [.int (nI now), .ref (ad 17), .ref (ad 18), .ref (ad 19), .ref (ad 20), .ref (ad 0)])), ((ad 19), .inl (cI, 5120, .inl (eN lm))), ((ad 2), .inr (2, [.ref (ad 21), .ref (ad 22), .ref (ad 23), .ref (ad 24), .ref (ad 25)])), ((ad 24), .inl (cI, 17408, .inl (eO hd)))] (S := (Nat → Option Nat) × (Nat → Nat)) (fun u => (u.1, u.2) = itr (go1 t hd lm r ((r * 4 + 1) * 16) x dx gx) (tPc t x) (ds, fk)) (fun u => [(h0, .inr (5, [.ref (ad 26), .ref (ad 27), .ref (ad 0), .ref (ad 1), .ref (ad 2)])), ((ad 26), .inl (cI, 1024, .inl (eO u.1))), ((ad 27), .inl (cJ, 1024, .inr (.inl (eL u.2)))), ((ad 0), .inr (8, [.int (nI (tRc t)), .int (nI lc), .ref (ad 7), .ref (ad 8), .ref (ad 9), .ref (ad 10), .ref (ad 11), .ref (ad 12), .ref (ad 13), .ref (ad 14), .ref (ad 15), .ref (ad 16)])), ((ad 10), .inl (cI, 40, .inl (eN (tAl t)))), ((ad 11), .inl (cI, 80, .inl (eN (tRp t)))), ((ad 13), .inl (cI, 16, .inl (eN (tPc t)))), ((ad 15), .inl (cI, 640, .inl (eN (tPo t)))), ((ad 1), .inr (0, [.int (nI now), .ref (ad 17), .ref (ad 18), .ref (ad 19), .ref (ad 20), .ref (ad 0)])), ((ad 19), .inl (cI, 5120, .inl (eN lm))), ((ad 2), .inr (2, [.ref (ad 21), .ref (ad 22), .ref (ad 23), .ref (ad 24), .ref (ad 25)])), ((ad 24), .inl (cI, 17408, .inl (eO hd)))]) := by
  refine kMv_of (lv := [(0, .ref h0), (1, .int (nI x)), (2, .int (nI r)), (3, .int (nI a))]) RX5 "goOnFrom" (by decide +kernel) rfl rfl rfl (Nat.le_of_ble_eq_true rfl) rfl ?_
  intro p e s m below meth c A H locs ls E hA hK hP hD hS hl
  obtain ⟨hx, hb, hr_, hts, hown, hlocks, hml, hin, hN⟩ := id E
  subst ha
  obtain ⟨hrc, hrp, hpo, hpc, hal, hmp, han⟩ := id hT
  have hpx := hpc x
  refine lv_iload_n hx hb dX5_goOnFrom_0 rfl (lv_at hl 2 rfl) ?_
  refine lv_iload_n hx hb dX5_goOnFrom_1 rfl (lv_at hl 3 rfl) ?_
  refine kSNi (As := [.int (nI r), .int (nI 1)]) (rest := []) (wr := [(h0, .inr (5, [.ref (ad 26), .ref (ad 27), .ref (ad 0), .ref (ad 1), .ref (ad 2)])), ((ad 26), .inl (cI, 1024, .inl (eO ds))), ((ad 27), .inl (cJ, 1024, .inr (.inl (eL fk)))), ((ad 0), .inr (8, [.int (nI (tRc t)), .int (nI lc), .ref (ad 7), .ref (ad 8), .ref (ad 9), .ref (ad 10), .ref (ad 11), .ref (ad 12), .ref (ad 13), .ref (ad 14), .ref (ad 15), .ref (ad 16)])), ((ad 10), .inl (cI, 40, .inl (eN (tAl t)))), ((ad 11), .inl (cI, 80, .inl (eN (tRp t)))), ((ad 13), .inl (cI, 16, .inl (eN (tPc t)))), ((ad 15), .inl (cI, 640, .inl (eN (tPo t)))), ((ad 1), .inr (0, [.int (nI now), .ref (ad 17), .ref (ad 18), .ref (ad 19), .ref (ad 20), .ref (ad 0)])), ((ad 19), .inl (cI, 5120, .inl (eN lm))), ((ad 2), .inr (2, [.ref (ad 21), .ref (ad 22), .ref (ad 23), .ref (ad 24), .ref (ad 25)])), ((ad 24), .inl (cI, 17408, .inl (eO hd)))]) (w2 := fun _ => [(h0, .inr (5, [.ref (ad 26), .ref (ad 27), .ref (ad 0), .ref (ad 1), .ref (ad 2)])), ((ad 26), .inl (cI, 1024, .inl (eO ds))), ((ad 27), .inl (cJ, 1024, .inr (.inl (eL fk)))), ((ad 0), .inr (8, [.int (nI (tRc t)), .int (nI lc), .ref (ad 7), .ref (ad 8), .ref (ad 9), .ref (ad 10), .ref (ad 11), .ref (ad 12), .ref (ad 13), .ref (ad 14), .ref (ad 15), .ref (ad 16)])), ((ad 10), .inl (cI, 40, .inl (eN (tAl t)))), ((ad 11), .inl (cI, 80, .inl (eN (tRp t)))), ((ad 13), .inl (cI, 16, .inl (eN (tPc t)))), ((ad 15), .inl (cI, 640, .inl (eN (tPo t)))), ((ad 1), .inr (0, [.int (nI now), .ref (ad 17), .ref (ad 18), .ref (ad 19), .ref (ad 20), .ref (ad 0)])), ((ad 19), .inl (cI, 5120, .inl (eN lm))), ((ad 2), .inr (2, [.ref (ad 21), .ref (ad 22), .ref (ad 23), .ref (ad 24), .ref (ad 25)])), ((ad 24), .inl (cI, 17408, .inl (eO hd)))]) ⟨hx, hb, hml, hown, hts⟩ hN (c_rowOfPaths l D cI cZ cJ r 1 hr (by decide)) ⟨va_cnB (host := "RoutingDomain") 2 hts (goodIn_sub m_goOnFrom_WrowOfPaths gd_rowOfPaths) rfl rfl rfl (hN (_, 37, _, _) (by decide +kernel) : va_Nw (.methodLinkNest RX5 37 yX9_rowOfPaths "RoutingDomain") s) (hts (.initialized RX9) (m_goOnFrom_O _ (by decide +kernel))) (by decide +kernel) ⟨Nat.le_of_ble_eq_true rfl, Nat.le_of_ble_eq_true rfl⟩, (hts (.static yX9_rowOfPaths) (m_goOnFrom_O _ (by decide +kernel))), trivial⟩ hK hP hD hS hA [] [0, 1, 2, 3, 4, 5, 6, 7, 8, 9, 10, 11] [0, 1, 2, 3, 4, 5, 6, 7, 8, 9, 10, 11] rfl rfl ⟨by decide, by decide, by decide⟩ (by decide) (fun _ => rfl) rfl hl.1 rfl (Nat.le_of_ble_eq_true rfl) dX5_goOnFrom_2 ⟨Nat.le_of_ble_eq_true rfl, Nat.le_of_ble_eq_true rfl⟩ (fun res_ u H locs hw hP hD hS => ?_)
  have hP : va_P D vwCl [(h0, .inr (5, [.ref (ad 26), .ref (ad 27), .ref (ad 0), .ref (ad 1), .ref (ad 2)])), ((ad 26), .inl (cI, 1024, .inl (eO ds))), ((ad 27), .inl (cJ, 1024, .inr (.inl (eL fk)))), ((ad 0), .inr (8, [.int (nI (tRc t)), .int (nI lc), .ref (ad 7), .ref (ad 8), .ref (ad 9), .ref (ad 10), .ref (ad 11), .ref (ad 12), .ref (ad 13), .ref (ad 14), .ref (ad 15), .ref (ad 16)])), ((ad 10), .inl (cI, 40, .inl (eN (tAl t)))), ((ad 11), .inl (cI, 80, .inl (eN (tRp t)))), ((ad 13), .inl (cI, 16, .inl (eN (tPc t)))), ((ad 15), .inl (cI, 640, .inl (eN (tPo t)))), ((ad 1), .inr (0, [.int (nI now), .ref (ad 17), .ref (ad 18), .ref (ad 19), .ref (ad 20), .ref (ad 0)])), ((ad 19), .inl (cI, 5120, .inl (eN lm))), ((ad 2), .inr (2, [.ref (ad 21), .ref (ad 22), .ref (ad 23), .ref (ad 24), .ref (ad 25)])), ((ad 24), .inl (cI, 17408, .inl (eO hd)))] H := hP
  have hD : va_D A [(h0, .inr (5, [.ref (ad 26), .ref (ad 27), .ref (ad 0), .ref (ad 1), .ref (ad 2)])), ((ad 26), .inl (cI, 1024, .inl (eO ds))), ((ad 27), .inl (cJ, 1024, .inr (.inl (eL fk)))), ((ad 0), .inr (8, [.int (nI (tRc t)), .int (nI lc), .ref (ad 7), .ref (ad 8), .ref (ad 9), .ref (ad 10), .ref (ad 11), .ref (ad 12), .ref (ad 13), .ref (ad 14), .ref (ad 15), .ref (ad 16)])), ((ad 10), .inl (cI, 40, .inl (eN (tAl t)))), ((ad 11), .inl (cI, 80, .inl (eN (tRp t)))), ((ad 13), .inl (cI, 16, .inl (eN (tPc t)))), ((ad 15), .inl (cI, 640, .inl (eN (tPo t)))), ((ad 1), .inr (0, [.int (nI now), .ref (ad 17), .ref (ad 18), .ref (ad 19), .ref (ad 20), .ref (ad 0)])), ((ad 19), .inl (cI, 5120, .inl (eN lm))), ((ad 2), .inr (2, [.ref (ad 21), .ref (ad 22), .ref (ad 23), .ref (ad 24), .ref (ad 25)])), ((ad 24), .inl (cI, 17408, .inl (eO hd)))] := hD
  obtain rfl : res_ = (nI ((r * 4 + 1) * 16)) := hw
  refine lv_istore (lv' := [(4, .int (nI ((r * 4 + 1) * 16))), (0, .ref h0), (1, .int (nI x)), (2, .int (nI r)), (3, .int (nI 1))]) hx hb dX5_goOnFrom_5 hl (by decide) rfl (fun ls hl => ?_)
  refine lv_iconst (v := 0) hx hb dX5_goOnFrom_7 (by decide) ?_
  refine lv_istore (lv' := [(5, .int 0), (4, .int (nI ((r * 4 + 1) * 16))), (0, .ref h0), (1, .int (nI x)), (2, .int (nI r)), (3, .int (nI 1))]) hx hb dX5_goOnFrom_8 hl (by decide) rfl (fun ls hl => ?_)
  refine k_loop (Nat × (Nat → Option Nat) × (Nat → Nat)) 10 10 (fun u => u.1 ≤ tPc t x ∧ (u.2.1, u.2.2) = itr (go1 t hd lm r ((r * 4 + 1) * 16) x dx gx) u.1 (ds, fk)) (fun u => tPc t x - u.1) (fun u => [(h0, .inr (5, [.ref (ad 26), .ref (ad 27), .ref (ad 0), .ref (ad 1), .ref (ad 2)])), ((ad 26), .inl (cI, 1024, .inl (eO u.2.1))), ((ad 27), .inl (cJ, 1024, .inr (.inl (eL u.2.2)))), ((ad 0), .inr (8, [.int (nI (tRc t)), .int (nI lc), .ref (ad 7), .ref (ad 8), .ref (ad 9), .ref (ad 10), .ref (ad 11), .ref (ad 12), .ref (ad 13), .ref (ad 14), .ref (ad 15), .ref (ad 16)])), ((ad 10), .inl (cI, 40, .inl (eN (tAl t)))), ((ad 11), .inl (cI, 80, .inl (eN (tRp t)))), ((ad 13), .inl (cI, 16, .inl (eN (tPc t)))), ((ad 15), .inl (cI, 640, .inl (eN (tPo t)))), ((ad 1), .inr (0, [.int (nI now), .ref (ad 17), .ref (ad 18), .ref (ad 19), .ref (ad 20), .ref (ad 0)])), ((ad 19), .inl (cI, 5120, .inl (eN lm))), ((ad 2), .inr (2, [.ref (ad 21), .ref (ad 22), .ref (ad 23), .ref (ad 24), .ref (ad 25)])), ((ad 24), .inl (cI, 17408, .inl (eO hd)))]) (fun u => [(0, .ref h0), (1, .int (nI x)), (2, .int (nI r)), (3, .int (nI 1)), (4, .int (nI ((r * 4 + 1) * 16))), (5, .int (nI u.1))]) ?_ (0, ds, fk) (⟨Nat.zero_le _, rfl⟩) (hP.sub [0, 1, 2, 3, 4, 5, 6, 7, 8, 9, 10, 11] rfl) (hD.sub [0, 1, 2, 3, 4, 5, 6, 7, 8, 9, 10, 11] (by decide) rfl) hS (lv_sub hl [2, 3, 4, 5, 1, 0] rfl)
  intro ⟨i, ds2, fk2⟩ H locs ls hinv hP hD hS hl ih_10
  have hinv : i ≤ tPc t x ∧ (ds2, fk2) = itr (go1 t hd lm r ((r * 4 + 1) * 16) x dx gx) i (ds, fk) := hinv
  have hP : va_P D vwCl [(h0, .inr (5, [.ref (ad 26), .ref (ad 27), .ref (ad 0), .ref (ad 1), .ref (ad 2)])), ((ad 26), .inl (cI, 1024, .inl (eO ds2))), ((ad 27), .inl (cJ, 1024, .inr (.inl (eL fk2)))), ((ad 0), .inr (8, [.int (nI (tRc t)), .int (nI lc), .ref (ad 7), .ref (ad 8), .ref (ad 9), .ref (ad 10), .ref (ad 11), .ref (ad 12), .ref (ad 13), .ref (ad 14), .ref (ad 15), .ref (ad 16)])), ((ad 10), .inl (cI, 40, .inl (eN (tAl t)))), ((ad 11), .inl (cI, 80, .inl (eN (tRp t)))), ((ad 13), .inl (cI, 16, .inl (eN (tPc t)))), ((ad 15), .inl (cI, 640, .inl (eN (tPo t)))), ((ad 1), .inr (0, [.int (nI now), .ref (ad 17), .ref (ad 18), .ref (ad 19), .ref (ad 20), .ref (ad 0)])), ((ad 19), .inl (cI, 5120, .inl (eN lm))), ((ad 2), .inr (2, [.ref (ad 21), .ref (ad 22), .ref (ad 23), .ref (ad 24), .ref (ad 25)])), ((ad 24), .inl (cI, 17408, .inl (eO hd)))] H := hP
  have hD : va_D A [(h0, .inr (5, [.ref (ad 26), .ref (ad 27), .ref (ad 0), .ref (ad 1), .ref (ad 2)])), ((ad 26), .inl (cI, 1024, .inl (eO ds2))), ((ad 27), .inl (cJ, 1024, .inr (.inl (eL fk2)))), ((ad 0), .inr (8, [.int (nI (tRc t)), .int (nI lc), .ref (ad 7), .ref (ad 8), .ref (ad 9), .ref (ad 10), .ref (ad 11), .ref (ad 12), .ref (ad 13), .ref (ad 14), .ref (ad 15), .ref (ad 16)])), ((ad 10), .inl (cI, 40, .inl (eN (tAl t)))), ((ad 11), .inl (cI, 80, .inl (eN (tRp t)))), ((ad 13), .inl (cI, 16, .inl (eN (tPc t)))), ((ad 15), .inl (cI, 640, .inl (eN (tPo t)))), ((ad 1), .inr (0, [.int (nI now), .ref (ad 17), .ref (ad 18), .ref (ad 19), .ref (ad 20), .ref (ad 0)])), ((ad 19), .inl (cI, 5120, .inl (eN lm))), ((ad 2), .inr (2, [.ref (ad 21), .ref (ad 22), .ref (ad 23), .ref (ad 24), .ref (ad 25)])), ((ad 24), .inl (cI, 17408, .inl (eO hd)))] := hD
  have hl : lv_has ls 10 [(0, .ref h0), (1, .int (nI x)), (2, .int (nI r)), (3, .int (nI 1)), (4, .int (nI ((r * 4 + 1) * 16))), (5, .int (nI i))] := hl
  obtain ⟨hi1, heq⟩ := hinv
  have hq := go1_i (t := t) (hd := hd) (lm := lm) (r := r) (w := ((r * 4 + 1) * 16)) (x := x) (d := dx) (g := gx) (k := k) hlm hdk hk hne (y := (ds, fk)) hbd hdx hgx i hi1
  rw [← heq] at hq
  obtain ⟨b1, b2, b3⟩ := hq
  refine lv_iload hx hb dX5_goOnFrom_10 (lv_at hl 5 rfl) ?_
  refine lv_aload_n hx hb dX5_goOnFrom_12 rfl (lv_at hl 0 rfl) ?_
  refine va_get (ci := 5) (v := .ref (ad 0)) (C := RX5) (T := TX5) (N := 5) hx hb hts m_goOnFrom_C5 hown hK hP 0 rfl rfl 2 (by decide) (hts (.fieldLink RX5 19 "RoutingDomain$Paths" "topology" "LRoutingDomain$Topology;") (m_goOnFrom_O _ (by decide +kernel))) (fun _ h9 => h9) rfl dX5_goOnFrom_13 ?_
  refine va_get (ci := 8) (v := .ref (ad 13)) (C := RX8) (T := TX8) (N := 12) hx hb hts m_goOnFrom_C8 hown hK hP 3 rfl rfl 8 (by decide) (hts (.fieldLink RX5 72 "RoutingDomain$Topology" "portCount" "[I") (m_goOnFrom_O _ (by decide +kernel))) (fun _ h9 => h9) rfl dX5_goOnFrom_16 ?_
  refine lv_iload_n hx hb dX5_goOnFrom_19 rfl (lv_at hl 1 rfl) ?_
  refine va_iald hx hb hK hP 6 0 rfl rfl (vp_in_nI (show x < 16 from by omega) (by decide)) dX5_goOnFrom_20 ?_
  refine lv_topi (fun y ey => ?_)
  obtain rfl : y = (nI ((tPc t) x)) := ey.trans (ldN (f := (tPc t)) (j := x) (by omega))
  refine lv_icmp_ge (tgt := 135) hx hb dX5_goOnFrom_21 (by decide) (fun c_21 => ?_) (fun c_21 => ?_)
  · have n_21 : ((tPc t) x) ≤ i := (nI_leI (a := ((tPc t) x)) (b := i) (by omega) (by omega)).mp c_21
    have hie : i = tPc t x := by omega
    subst hie
    exact k_vret E hK hP hD hS (ds2, fk2) [0, 1, 2, 3, 4, 5, 6, 7, 8, 9, 10, 11] (by decide) rfl heq (Nat.le_of_ble_eq_true rfl) (Nat.le_of_ble_eq_true rfl) dX5_goOnFrom_135
  · have n_21 : ¬ ((tPc t) x) ≤ i := fun h => c_21 ((nI_leI (a := ((tPc t) x)) (b := i) (by omega) (by omega)).mpr h)
    have hi2 : i < tPc t x := by omega
    have hq1 := hpo (x * 40 + i)
    have hq2 := hal1 i hi2
    have hq3 := hal (tPo t (x * 40 + i) / 2)
    have hq4 := km_le (t := t) (hd := hd) hlm r (tPo t (x * 40 + i))
    have hq5 := hrp (ot (tPo t (x * 40 + i)))
    have hq6 := ot_lt80 hq1
    refine lv_aload_n hx hb dX5_goOnFrom_24 rfl (lv_at hl 0 rfl) ?_
    refine va_get (ci := 5) (v := .ref (ad 0)) (C := RX5) (T := TX5) (N := 5) hx hb hts m_goOnFrom_C5 hown hK hP 0 rfl rfl 2 (by decide) (hts (.fieldLink RX5 19 "RoutingDomain$Paths" "topology" "LRoutingDomain$Topology;") (m_goOnFrom_O _ (by decide +kernel))) (fun _ h9 => h9) rfl dX5_goOnFrom_25 ?_
    refine lv_iload_n hx hb dX5_goOnFrom_28 rfl (lv_at hl 1 rfl) ?_
    refine lv_iload hx hb dX5_goOnFrom_29 (lv_at hl 5 rfl) ?_
    refine kVi (As := [.int (nI x), .int (nI i)]) (rest := []) (wr := [(h0, .inr (5, [.ref (ad 26), .ref (ad 27), .ref (ad 0), .ref (ad 1), .ref (ad 2)])), ((ad 26), .inl (cI, 1024, .inl (eO ds2))), ((ad 27), .inl (cJ, 1024, .inr (.inl (eL fk2)))), ((ad 10), .inl (cI, 40, .inl (eN (tAl t)))), ((ad 11), .inl (cI, 80, .inl (eN (tRp t)))), ((ad 13), .inl (cI, 16, .inl (eN (tPc t)))), ((ad 1), .inr (0, [.int (nI now), .ref (ad 17), .ref (ad 18), .ref (ad 19), .ref (ad 20), .ref (ad 0)])), ((ad 19), .inl (cI, 5120, .inl (eN lm))), ((ad 2), .inr (2, [.ref (ad 21), .ref (ad 22), .ref (ad 23), .ref (ad 24), .ref (ad 25)])), ((ad 24), .inl (cI, 17408, .inl (eO hd)))]) (w2 := fun _ => [(h0, .inr (5, [.ref (ad 26), .ref (ad 27), .ref (ad 0), .ref (ad 1), .ref (ad 2)])), ((ad 26), .inl (cI, 1024, .inl (eO ds2))), ((ad 27), .inl (cJ, 1024, .inr (.inl (eL fk2)))), ((ad 0), .inr (8, [.int (nI (tRc t)), .int (nI lc), .ref (ad 7), .ref (ad 8), .ref (ad 9), .ref (ad 10), .ref (ad 11), .ref (ad 12), .ref (ad 13), .ref (ad 14), .ref (ad 15), .ref (ad 16)])), ((ad 10), .inl (cI, 40, .inl (eN (tAl t)))), ((ad 11), .inl (cI, 80, .inl (eN (tRp t)))), ((ad 13), .inl (cI, 16, .inl (eN (tPc t)))), ((ad 15), .inl (cI, 640, .inl (eN (tPo t)))), ((ad 1), .inr (0, [.int (nI now), .ref (ad 17), .ref (ad 18), .ref (ad 19), .ref (ad 20), .ref (ad 0)])), ((ad 19), .inl (cI, 5120, .inl (eN lm))), ((ad 2), .inr (2, [.ref (ad 21), .ref (ad 22), .ref (ad 23), .ref (ad 24), .ref (ad 25)])), ((ad 24), .inl (cI, 17408, .inl (eO hd)))]) ⟨hx, hb, hml, hown, hts⟩ hN (c_portAt l D cI cZ cJ (ad 0) ad (tRc t) lc (tPo t) x i (by omega) (by omega)) (cwV 2 hts (k_gV (fun w h => m_goOnFrom_O w ((by decide +kernel : ∀ w ∈ ([.methodLink RX5 75 yX8_portAt, .instanceMethod yX8_portAt, .selects RX8 yX8_portAt yX8_portAt, .initialized RX8] : List Cond), w ∈ O_goOnFrom) w h)) m_goOnFrom_WportAt gd_portAt) rfl rfl rfl (by decide +kernel) ⟨Nat.le_of_ble_eq_true rfl, Nat.le_of_ble_eq_true rfl⟩) hK hP hD hS hA [3, 7] [0, 1, 2, 4, 5, 6, 8, 9, 10, 11] [0, 1, 2, 10, 3, 4, 5, 11, 6, 7, 8, 9] rfl rfl ⟨by decide, by decide, by decide⟩ (by decide) (fun _ => rfl) 8 0 rfl rfl rfl rfl hl.1 rfl (Nat.le_of_ble_eq_true rfl) dX5_goOnFrom_31 ⟨Nat.le_of_ble_eq_true rfl, Nat.le_of_ble_eq_true rfl⟩ (fun res_ u H locs hw hP hD hS => ?_)
    have hP : va_P D vwCl [(h0, .inr (5, [.ref (ad 26), .ref (ad 27), .ref (ad 0), .ref (ad 1), .ref (ad 2)])), ((ad 26), .inl (cI, 1024, .inl (eO ds2))), ((ad 27), .inl (cJ, 1024, .inr (.inl (eL fk2)))), ((ad 0), .inr (8, [.int (nI (tRc t)), .int (nI lc), .ref (ad 7), .ref (ad 8), .ref (ad 9), .ref (ad 10), .ref (ad 11), .ref (ad 12), .ref (ad 13), .ref (ad 14), .ref (ad 15), .ref (ad 16)])), ((ad 10), .inl (cI, 40, .inl (eN (tAl t)))), ((ad 11), .inl (cI, 80, .inl (eN (tRp t)))), ((ad 13), .inl (cI, 16, .inl (eN (tPc t)))), ((ad 15), .inl (cI, 640, .inl (eN (tPo t)))), ((ad 1), .inr (0, [.int (nI now), .ref (ad 17), .ref (ad 18), .ref (ad 19), .ref (ad 20), .ref (ad 0)])), ((ad 19), .inl (cI, 5120, .inl (eN lm))), ((ad 2), .inr (2, [.ref (ad 21), .ref (ad 22), .ref (ad 23), .ref (ad 24), .ref (ad 25)])), ((ad 24), .inl (cI, 17408, .inl (eO hd)))] H := hP
    have hD : va_D A [(h0, .inr (5, [.ref (ad 26), .ref (ad 27), .ref (ad 0), .ref (ad 1), .ref (ad 2)])), ((ad 26), .inl (cI, 1024, .inl (eO ds2))), ((ad 27), .inl (cJ, 1024, .inr (.inl (eL fk2)))), ((ad 0), .inr (8, [.int (nI (tRc t)), .int (nI lc), .ref (ad 7), .ref (ad 8), .ref (ad 9), .ref (ad 10), .ref (ad 11), .ref (ad 12), .ref (ad 13), .ref (ad 14), .ref (ad 15), .ref (ad 16)])), ((ad 10), .inl (cI, 40, .inl (eN (tAl t)))), ((ad 11), .inl (cI, 80, .inl (eN (tRp t)))), ((ad 13), .inl (cI, 16, .inl (eN (tPc t)))), ((ad 15), .inl (cI, 640, .inl (eN (tPo t)))), ((ad 1), .inr (0, [.int (nI now), .ref (ad 17), .ref (ad 18), .ref (ad 19), .ref (ad 20), .ref (ad 0)])), ((ad 19), .inl (cI, 5120, .inl (eN lm))), ((ad 2), .inr (2, [.ref (ad 21), .ref (ad 22), .ref (ad 23), .ref (ad 24), .ref (ad 25)])), ((ad 24), .inl (cI, 17408, .inl (eO hd)))] := hD
    obtain rfl : res_ = (nI ((tPo t) (x * 40 + i))) := hw
    refine lv_istore (lv' := [(6, .int (nI ((tPo t) (x * 40 + i)))), (0, .ref h0), (1, .int (nI x)), (2, .int (nI r)), (3, .int (nI 1)), (4, .int (nI ((r * 4 + 1) * 16))), (5, .int (nI i))]) hx hb dX5_goOnFrom_34 hl (by decide) rfl (fun ls hl => ?_)
    refine lv_aload_n hx hb dX5_goOnFrom_36 rfl (lv_at hl 1 rfl) ?_
    refine va_get (ci := 5) (v := .ref (ad 0)) (C := RX5) (T := TX5) (N := 5) hx hb hts m_goOnFrom_C5 hown hK hP 0 rfl rfl 2 (by decide) (hts (.fieldLink RX5 19 "RoutingDomain$Paths" "topology" "LRoutingDomain$Topology;") (m_goOnFrom_O _ (by decide +kernel))) (fun _ h9 => h9) rfl dX5_goOnFrom_37 ?_
    refine va_get (ci := 8) (v := .ref (ad 10)) (C := RX8) (T := TX8) (N := 12) hx hb hts m_goOnFrom_C8 hown hK hP 3 rfl rfl 5 (by decide) (hts (.fieldLink RX5 78 "RoutingDomain$Topology" "areaOfLink" "[I") (m_goOnFrom_O _ (by decide +kernel))) (fun _ h9 => h9) rfl dX5_goOnFrom_40 ?_
    refine lv_iload hx hb dX5_goOnFrom_43 (lv_at hl 0 rfl) ?_
    refine lv_iconst (v := 1) hx hb dX5_goOnFrom_45 (by decide) ?_
    refine lv_ishr hx hb dX5_goOnFrom_46 ?_
    refine lv_topi (fun y ey => ?_)
    obtain rfl : y = (nI (((tPo t) (x * 40 + i)) / 2)) := ey.trans (k_shr (a := ((tPo t) (x * 40 + i))) (by omega) 1 (by decide))
    refine va_iald hx hb hK hP 4 0 rfl rfl (vp_in_nI (show (((tPo t) (x * 40 + i)) / 2) < 40 from by omega) (by decide)) dX5_goOnFrom_47 ?_
    refine lv_topi (fun y ey => ?_)
    obtain rfl : y = (nI ((tAl t) (((tPo t) (x * 40 + i)) / 2))) := ey.trans (ldN (f := (tAl t)) (j := (((tPo t) (x * 40 + i)) / 2)) (by omega))
    refine lv_iload_n hx hb dX5_goOnFrom_48 rfl (lv_at hl 4 rfl) ?_
    refine lv_icmp_ne (tgt := 63) hx hb dX5_goOnFrom_49 (by decide) (fun c_49 => False.elim (by have n_49 : ¬ ((tAl t) (((tPo t) (x * 40 + i)) / 2)) = 1 := fun h => c_49 ((nI_eq (a := ((tAl t) (((tPo t) (x * 40 + i)) / 2))) (b := 1) (by omega) (by omega)).mpr h); exact n_49 hq2)) (fun c_49 => ?_)
    have n_49 : ((tAl t) (((tPo t) (x * 40 + i)) / 2)) = 1 := (nI_eq (a := ((tAl t) (((tPo t) (x * 40 + i)) / 2))) (b := 1) (by omega) (by omega)).mp c_49
    refine lv_aload_n hx hb dX5_goOnFrom_52 rfl (lv_at hl 1 rfl) ?_
    refine lv_iload hx hb dX5_goOnFrom_53 (lv_at hl 0 rfl) ?_
    refine lv_iload_n hx hb dX5_goOnFrom_55 rfl (lv_at hl 3 rfl) ?_
    refine lv_iload_n hx hb dX5_goOnFrom_56 rfl (lv_at hl 4 rfl) ?_
    refine kVi (As := [.int (nI ((tPo t) (x * 40 + i))), .int (nI r), .int (nI 1)]) (rest := []) (wr := [((ad 26), .inl (cI, 1024, .inl (eO ds2))), ((ad 27), .inl (cJ, 1024, .inr (.inl (eL fk2)))), ((ad 10), .inl (cI, 40, .inl (eN (tAl t)))), ((ad 13), .inl (cI, 16, .inl (eN (tPc t)))), ((ad 15), .inl (cI, 640, .inl (eN (tPo t))))]) (w2 := fun _ => [(h0, .inr (5, [.ref (ad 26), .ref (ad 27), .ref (ad 0), .ref (ad 1), .ref (ad 2)])), ((ad 26), .inl (cI, 1024, .inl (eO ds2))), ((ad 27), .inl (cJ, 1024, .inr (.inl (eL fk2)))), ((ad 0), .inr (8, [.int (nI (tRc t)), .int (nI lc), .ref (ad 7), .ref (ad 8), .ref (ad 9), .ref (ad 10), .ref (ad 11), .ref (ad 12), .ref (ad 13), .ref (ad 14), .ref (ad 15), .ref (ad 16)])), ((ad 10), .inl (cI, 40, .inl (eN (tAl t)))), ((ad 11), .inl (cI, 80, .inl (eN (tRp t)))), ((ad 13), .inl (cI, 16, .inl (eN (tPc t)))), ((ad 15), .inl (cI, 640, .inl (eN (tPo t)))), ((ad 1), .inr (0, [.int (nI now), .ref (ad 17), .ref (ad 18), .ref (ad 19), .ref (ad 20), .ref (ad 0)])), ((ad 19), .inl (cI, 5120, .inl (eN lm))), ((ad 2), .inr (2, [.ref (ad 21), .ref (ad 22), .ref (ad 23), .ref (ad 24), .ref (ad 25)])), ((ad 24), .inl (cI, 17408, .inl (eO hd)))]) ⟨hx, hb, hml, hown, hts⟩ hN (c_knownMetric l D cI cZ cJ h0 ad t lc now lm hd ((tPo t) (x * 40 + i)) r 1 hq1 hr rfl hlm hhd hT) (cwV 3 hts (k_gV (fun w h => m_goOnFrom_O w ((by decide +kernel : ∀ w ∈ ([.methodLink RX5 81 yX5_knownMetric, .instanceMethod yX5_knownMetric, .selects RX5 yX5_knownMetric yX5_knownMetric, .initialized RX5] : List Cond), w ∈ O_goOnFrom) w h)) m_goOnFrom_WknownMetric gd_knownMetric) rfl rfl rfl (by decide +kernel) ⟨Nat.le_of_ble_eq_true rfl, Nat.le_of_ble_eq_true rfl⟩) hK hP hD hS hA [0, 3, 5, 8, 9, 10, 11] [1, 2, 4, 6, 7] [5, 0, 1, 6, 2, 7, 3, 4, 8, 9, 10, 11] rfl rfl ⟨by decide, by decide, by decide⟩ (by decide) (fun _ => rfl) 5 0 rfl rfl rfl rfl hl.1 rfl (Nat.le_of_ble_eq_true rfl) dX5_goOnFrom_57 ⟨Nat.le_of_ble_eq_true rfl, Nat.le_of_ble_eq_true rfl⟩ (fun res_ u H locs hw hP hD hS => ?_)
    have hP : va_P D vwCl [(h0, .inr (5, [.ref (ad 26), .ref (ad 27), .ref (ad 0), .ref (ad 1), .ref (ad 2)])), ((ad 26), .inl (cI, 1024, .inl (eO ds2))), ((ad 27), .inl (cJ, 1024, .inr (.inl (eL fk2)))), ((ad 0), .inr (8, [.int (nI (tRc t)), .int (nI lc), .ref (ad 7), .ref (ad 8), .ref (ad 9), .ref (ad 10), .ref (ad 11), .ref (ad 12), .ref (ad 13), .ref (ad 14), .ref (ad 15), .ref (ad 16)])), ((ad 10), .inl (cI, 40, .inl (eN (tAl t)))), ((ad 11), .inl (cI, 80, .inl (eN (tRp t)))), ((ad 13), .inl (cI, 16, .inl (eN (tPc t)))), ((ad 15), .inl (cI, 640, .inl (eN (tPo t)))), ((ad 1), .inr (0, [.int (nI now), .ref (ad 17), .ref (ad 18), .ref (ad 19), .ref (ad 20), .ref (ad 0)])), ((ad 19), .inl (cI, 5120, .inl (eN lm))), ((ad 2), .inr (2, [.ref (ad 21), .ref (ad 22), .ref (ad 23), .ref (ad 24), .ref (ad 25)])), ((ad 24), .inl (cI, 17408, .inl (eO hd)))] H := hP
    have hD : va_D A [(h0, .inr (5, [.ref (ad 26), .ref (ad 27), .ref (ad 0), .ref (ad 1), .ref (ad 2)])), ((ad 26), .inl (cI, 1024, .inl (eO ds2))), ((ad 27), .inl (cJ, 1024, .inr (.inl (eL fk2)))), ((ad 0), .inr (8, [.int (nI (tRc t)), .int (nI lc), .ref (ad 7), .ref (ad 8), .ref (ad 9), .ref (ad 10), .ref (ad 11), .ref (ad 12), .ref (ad 13), .ref (ad 14), .ref (ad 15), .ref (ad 16)])), ((ad 10), .inl (cI, 40, .inl (eN (tAl t)))), ((ad 11), .inl (cI, 80, .inl (eN (tRp t)))), ((ad 13), .inl (cI, 16, .inl (eN (tPc t)))), ((ad 15), .inl (cI, 640, .inl (eN (tPo t)))), ((ad 1), .inr (0, [.int (nI now), .ref (ad 17), .ref (ad 18), .ref (ad 19), .ref (ad 20), .ref (ad 0)])), ((ad 19), .inl (cI, 5120, .inl (eN lm))), ((ad 2), .inr (2, [.ref (ad 21), .ref (ad 22), .ref (ad 23), .ref (ad 24), .ref (ad 25)])), ((ad 24), .inl (cI, 17408, .inl (eO hd)))] := hD
    obtain rfl : res_ = (nI (km t hd lm r ((tPo t) (x * 40 + i)))) := hw
    refine lv_goto (tgt := 64) hx hb dX5_goOnFrom_60 (by decide) ?_
    refine lv_istore (lv' := [(7, .int (nI (km t hd lm r ((tPo t) (x * 40 + i))))), (6, .int (nI ((tPo t) (x * 40 + i)))), (0, .ref h0), (1, .int (nI x)), (2, .int (nI r)), (3, .int (nI 1)), (4, .int (nI ((r * 4 + 1) * 16))), (5, .int (nI i))]) hx hb dX5_goOnFrom_64 hl (by decide) rfl (fun ls hl => ?_)
    refine lv_iload hx hb dX5_goOnFrom_66 (lv_at hl 0 rfl) ?_
    refine lv_if_eq (tgt := 129) hx hb dX5_goOnFrom_68 (by decide) (fun c_68 => ?_) (fun c_68 => ?_)
    · have n_68 : (km t hd lm r ((tPo t) (x * 40 + i))) = 0 := (nI_eq (a := (km t hd lm r ((tPo t) (x * 40 + i)))) (b := 0) (by omega) (by omega)).mp c_68
      refine lv_iinc (v := (nI (i + 1))) (lv' := [(5, .int (nI (i + 1))), (7, .int (nI (km t hd lm r ((tPo t) (x * 40 + i))))), (6, .int (nI ((tPo t) (x * 40 + i)))), (0, .ref h0), (1, .int (nI x)), (2, .int (nI r)), (3, .int (nI 1)), (4, .int (nI ((r * 4 + 1) * 16)))]) hx hb dX5_goOnFrom_129 hl (k := 7) rfl (nI_add i 1) (by decide) rfl (fun ls hl => ?_)
      refine lv_goto (tgt := 10) hx hb dX5_goOnFrom_132 (by decide) ?_
      exact ih_10 (i + 1, ds2, fk2) H locs ls (⟨by show i + 1 ≤ tPc t x; omega, by rw [itr_s, ← heq]; simp [go1, n_21, n_49, n_68]⟩) (by show tPc t x - (i + 1) < tPc t x - i; omega) (hP.sub [0, 1, 2, 3, 4, 5, 6, 7, 8, 9, 10, 11] rfl) (hD.sub [0, 1, 2, 3, 4, 5, 6, 7, 8, 9, 10, 11] (by decide) rfl) hS (lv_sub hl [3, 4, 5, 6, 7, 0] rfl)
    · have n_68 : ¬ (km t hd lm r ((tPo t) (x * 40 + i))) = 0 := fun h => c_68 ((nI_eq (a := (km t hd lm r ((tPo t) (x * 40 + i)))) (b := 0) (by omega) (by omega)).mpr h)
      refine lv_iload_n hx hb dX5_goOnFrom_71 rfl (lv_at hl 3 rfl) ?_
      refine lv_iload_n hx hb dX5_goOnFrom_72 rfl (lv_at hl 4 rfl) ?_
      refine lv_icmp_ne (tgt := 85) hx hb dX5_goOnFrom_73 (by decide) (fun c_73 => ?_) (fun c_73 => ?_)
      · have n_73 : ¬ x = r := fun h => c_73 ((nI_eq (a := x) (b := r) (by omega) (by omega)).mpr h)
        refine lv_aload_n hx hb dX5_goOnFrom_85 rfl (lv_at hl 2 rfl) ?_
        refine va_get (ci := 5) (v := .ref (ad 27)) (C := RX5) (T := TX5) (N := 5) hx hb hts m_goOnFrom_C5 hown hK hP 0 rfl rfl 1 (by decide) (hts (.fieldLink RX5 15 "RoutingDomain$Paths" "firstLinks" "[J") (m_goOnFrom_O _ (by decide +kernel))) (fun _ h9 => h9) rfl dX5_goOnFrom_86 ?_
        refine lv_iload hx hb dX5_goOnFrom_89 (lv_at hl 6 rfl) ?_
        refine lv_iload_n hx hb dX5_goOnFrom_91 rfl (lv_at hl 3 rfl) ?_
        refine lv_iadd hx hb dX5_goOnFrom_92 ?_
        refine lv_topi (fun y ey => ?_)
        obtain rfl : y = (nI (((r * 4 + 1) * 16) + x)) := ey.trans (nI_add ((r * 4 + 1) * 16) x)
        refine va_lald hx hb hK hP 2 2 rfl rfl (vp_in_nI (show (((r * 4 + 1) * 16) + x) < 1024 from by omega) (by decide)) dX5_goOnFrom_93 ?_
        refine lv_topl (fun y ey => ?_)
        obtain rfl : y = (lN (fk2 (((r * 4 + 1) * 16) + x))) := ey.trans (ldL (f := fk2) (j := (((r * 4 + 1) * 16) + x)) (by omega))
        refine lv_topl (fun y ey => ?_)
        obtain rfl : y = lN gx := ey.trans (congrArg lN b3)
        refine lv_lstore (lv' := [(8, .long (lN gx)), (7, .int (nI (km t hd lm r ((tPo t) (x * 40 + i))))), (6, .int (nI ((tPo t) (x * 40 + i)))), (0, .ref h0), (1, .int (nI x)), (2, .int (nI r)), (3, .int (nI 1)), (4, .int (nI ((r * 4 + 1) * 16))), (5, .int (nI i))]) hx hb dX5_goOnFrom_94 hl (by decide) rfl (fun ls hl => ?_)
        refine lv_aload_n hx hb dX5_goOnFrom_96 rfl (lv_at hl 3 rfl) ?_
        refine lv_iload hx hb dX5_goOnFrom_97 (lv_at hl 7 rfl) ?_
        refine lv_aload_n hx hb dX5_goOnFrom_99 rfl (lv_at hl 3 rfl) ?_
        refine va_get (ci := 5) (v := .ref (ad 0)) (C := RX5) (T := TX5) (N := 5) hx hb hts m_goOnFrom_C5 hown hK hP 0 rfl rfl 2 (by decide) (hts (.fieldLink RX5 19 "RoutingDomain$Paths" "topology" "LRoutingDomain$Topology;") (m_goOnFrom_O _ (by decide +kernel))) (fun _ h9 => h9) rfl dX5_goOnFrom_100 ?_
        refine va_get (ci := 8) (v := .ref (ad 11)) (C := RX8) (T := TX8) (N := 12) hx hb hts m_goOnFrom_C8 hown hK hP 3 rfl rfl 6 (by decide) (hts (.fieldLink RX5 85 "RoutingDomain$Topology" "routerOfPort" "[I") (m_goOnFrom_O _ (by decide +kernel))) (fun _ h9 => h9) rfl dX5_goOnFrom_103 ?_
        refine lv_iload hx hb dX5_goOnFrom_106 (lv_at hl 2 rfl) ?_
        refine lv_iconst (v := 1) hx hb dX5_goOnFrom_108 (by decide) ?_
        refine lv_ixor hx hb dX5_goOnFrom_109 ?_
        refine lv_topi (fun y ey => ?_)
        obtain rfl : y = (nI (ot ((tPo t) (x * 40 + i)))) := ey.trans (k_xor1 ((tPo t) (x * 40 + i)))
        refine va_iald hx hb hK hP 5 0 rfl rfl (vp_in_nI (show (ot ((tPo t) (x * 40 + i))) < 80 from by omega) (by decide)) dX5_goOnFrom_110 ?_
        refine lv_topi (fun y ey => ?_)
        obtain rfl : y = (nI ((tRp t) (ot ((tPo t) (x * 40 + i))))) := ey.trans (ldN (f := (tRp t)) (j := (ot ((tPo t) (x * 40 + i)))) (by omega))
        refine lv_iadd hx hb dX5_goOnFrom_111 ?_
        refine lv_topi (fun y ey => ?_)
        obtain rfl : y = (nI (((r * 4 + 1) * 16) + ((tRp t) (ot ((tPo t) (x * 40 + i)))))) := ey.trans (nI_add ((r * 4 + 1) * 16) ((tRp t) (ot ((tPo t) (x * 40 + i)))))
        refine lv_aload_n hx hb dX5_goOnFrom_112 rfl (lv_at hl 3 rfl) ?_
        refine va_get (ci := 5) (v := .ref (ad 26)) (C := RX5) (T := TX5) (N := 5) hx hb hts m_goOnFrom_C5 hown hK hP 0 rfl rfl 0 (by decide) (hts (.fieldLink RX5 9 "RoutingDomain$Paths" "distances" "[I") (m_goOnFrom_O _ (by decide +kernel))) (fun _ h9 => h9) rfl dX5_goOnFrom_113 ?_
        refine lv_iload hx hb dX5_goOnFrom_116 (lv_at hl 7 rfl) ?_
        refine lv_iload_n hx hb dX5_goOnFrom_118 rfl (lv_at hl 4 rfl) ?_
        refine lv_iadd hx hb dX5_goOnFrom_119 ?_
        refine lv_topi (fun y ey => ?_)
        obtain rfl : y = (nI (((r * 4 + 1) * 16) + x)) := ey.trans (nI_add ((r * 4 + 1) * 16) x)
        refine va_iald hx hb hK hP 1 0 rfl rfl (vp_in_nI (show (((r * 4 + 1) * 16) + x) < 1024 from by omega) (by decide)) dX5_goOnFrom_120 ?_
        refine lv_topi (fun y ey => ?_)
        obtain rfl : y = (oI (ds2 (((r * 4 + 1) * 16) + x))) := ey.trans (ldO (f := ds2) (j := (((r * 4 + 1) * 16) + x)) (by omega))
        refine lv_topi (fun y ey => ?_)
        obtain rfl : y = nI dx := ey.trans (congrArg oI b2)
        refine lv_iload hx hb dX5_goOnFrom_121 (lv_at hl 1 rfl) ?_
        refine lv_iadd hx hb dX5_goOnFrom_123 ?_
        refine lv_topi (fun y ey => ?_)
        obtain rfl : y = (nI (dx + (km t hd lm r ((tPo t) (x * 40 + i))))) := ey.trans (nI_add dx (km t hd lm r ((tPo t) (x * 40 + i))))
        refine lv_lload hx hb dX5_goOnFrom_124 (lv_at hl 0 rfl) ?_
        refine kVv (As := [.int (nI (((r * 4 + 1) * 16) + ((tRp t) (ot ((tPo t) (x * 40 + i)))))), .int (nI (dx + (km t hd lm r ((tPo t) (x * 40 + i))))), .long (lN gx)]) (rest := []) (wr := [((ad 0), .inr (8, [.int (nI (tRc t)), .int (nI lc), .ref (ad 7), .ref (ad 8), .ref (ad 9), .ref (ad 10), .ref (ad 11), .ref (ad 12), .ref (ad 13), .ref (ad 14), .ref (ad 15), .ref (ad 16)])), ((ad 10), .inl (cI, 40, .inl (eN (tAl t)))), ((ad 11), .inl (cI, 80, .inl (eN (tRp t)))), ((ad 13), .inl (cI, 16, .inl (eN (tPc t)))), ((ad 15), .inl (cI, 640, .inl (eN (tPo t)))), ((ad 1), .inr (0, [.int (nI now), .ref (ad 17), .ref (ad 18), .ref (ad 19), .ref (ad 20), .ref (ad 0)])), ((ad 19), .inl (cI, 5120, .inl (eN lm))), ((ad 2), .inr (2, [.ref (ad 21), .ref (ad 22), .ref (ad 23), .ref (ad 24), .ref (ad 25)])), ((ad 24), .inl (cI, 17408, .inl (eO hd)))]) (w2 := fun _ => [(h0, .inr (5, [.ref (ad 26), .ref (ad 27), .ref (ad 0), .ref (ad 1), .ref (ad 2)])), ((ad 26), .inl (cI, 1024, .inl (eO (ofD ds2 (((r * 4 + 1) * 16) + ((tRp t) (ot ((tPo t) (x * 40 + i))))) (dx + (km t hd lm r ((tPo t) (x * 40 + i)))))))), ((ad 27), .inl (cJ, 1024, .inr (.inl (eL (ofF ds2 fk2 (((r * 4 + 1) * 16) + ((tRp t) (ot ((tPo t) (x * 40 + i))))) (dx + (km t hd lm r ((tPo t) (x * 40 + i)))) gx))))), ((ad 0), .inr (8, [.int (nI (tRc t)), .int (nI lc), .ref (ad 7), .ref (ad 8), .ref (ad 9), .ref (ad 10), .ref (ad 11), .ref (ad 12), .ref (ad 13), .ref (ad 14), .ref (ad 15), .ref (ad 16)])), ((ad 10), .inl (cI, 40, .inl (eN (tAl t)))), ((ad 11), .inl (cI, 80, .inl (eN (tRp t)))), ((ad 13), .inl (cI, 16, .inl (eN (tPc t)))), ((ad 15), .inl (cI, 640, .inl (eN (tPo t)))), ((ad 1), .inr (0, [.int (nI now), .ref (ad 17), .ref (ad 18), .ref (ad 19), .ref (ad 20), .ref (ad 0)])), ((ad 19), .inl (cI, 5120, .inl (eN lm))), ((ad 2), .inr (2, [.ref (ad 21), .ref (ad 22), .ref (ad 23), .ref (ad 24), .ref (ad 25)])), ((ad 24), .inl (cI, 17408, .inl (eO hd)))]) ⟨hx, hb, hml, hown, hts⟩ hN (c_pathsOffer l D cI cZ cJ h0 ad ds2 fk2 (((r * 4 + 1) * 16) + ((tRp t) (ot ((tPo t) (x * 40 + i))))) (dx + (km t hd lm r ((tPo t) (x * 40 + i)))) gx (by omega) (by omega) (fun j w9 e9 => by have := (b1 j w9 e9).1; omega)) (cwV 3 hts (k_gV (fun w h => m_goOnFrom_O w ((by decide +kernel : ∀ w ∈ ([.methodLink RX5 88 yX5_offer, .instanceMethod yX5_offer, .selects RX5 yX5_offer yX5_offer, .initialized RX5] : List Cond), w ∈ O_goOnFrom) w h)) m_goOnFrom_WpathsOffer gd_pathsOffer) rfl rfl rfl (by decide +kernel) ⟨Nat.le_of_ble_eq_true rfl, Nat.le_of_ble_eq_true rfl⟩) hK hP hD hS hA [0, 1, 2] [3, 4, 5, 6, 7, 8, 9, 10, 11] [9, 10, 11, 0, 1, 2, 3, 4, 5, 6, 7, 8] rfl rfl ⟨by decide, by decide, by decide⟩ (by decide) (fun _ => rfl) 5 0 rfl rfl rfl rfl hl.1 rfl (Nat.le_of_ble_eq_true rfl) dX5_goOnFrom_126 ⟨Nat.le_of_ble_eq_true rfl, Nat.le_of_ble_eq_true rfl⟩ (fun u H locs hw hP hD hS => ?_)
        have hP : va_P D vwCl [(h0, .inr (5, [.ref (ad 26), .ref (ad 27), .ref (ad 0), .ref (ad 1), .ref (ad 2)])), ((ad 26), .inl (cI, 1024, .inl (eO (ofD ds2 (((r * 4 + 1) * 16) + ((tRp t) (ot ((tPo t) (x * 40 + i))))) (dx + (km t hd lm r ((tPo t) (x * 40 + i)))))))), ((ad 27), .inl (cJ, 1024, .inr (.inl (eL (ofF ds2 fk2 (((r * 4 + 1) * 16) + ((tRp t) (ot ((tPo t) (x * 40 + i))))) (dx + (km t hd lm r ((tPo t) (x * 40 + i)))) gx))))), ((ad 0), .inr (8, [.int (nI (tRc t)), .int (nI lc), .ref (ad 7), .ref (ad 8), .ref (ad 9), .ref (ad 10), .ref (ad 11), .ref (ad 12), .ref (ad 13), .ref (ad 14), .ref (ad 15), .ref (ad 16)])), ((ad 10), .inl (cI, 40, .inl (eN (tAl t)))), ((ad 11), .inl (cI, 80, .inl (eN (tRp t)))), ((ad 13), .inl (cI, 16, .inl (eN (tPc t)))), ((ad 15), .inl (cI, 640, .inl (eN (tPo t)))), ((ad 1), .inr (0, [.int (nI now), .ref (ad 17), .ref (ad 18), .ref (ad 19), .ref (ad 20), .ref (ad 0)])), ((ad 19), .inl (cI, 5120, .inl (eN lm))), ((ad 2), .inr (2, [.ref (ad 21), .ref (ad 22), .ref (ad 23), .ref (ad 24), .ref (ad 25)])), ((ad 24), .inl (cI, 17408, .inl (eO hd)))] H := hP
        have hD : va_D A [(h0, .inr (5, [.ref (ad 26), .ref (ad 27), .ref (ad 0), .ref (ad 1), .ref (ad 2)])), ((ad 26), .inl (cI, 1024, .inl (eO (ofD ds2 (((r * 4 + 1) * 16) + ((tRp t) (ot ((tPo t) (x * 40 + i))))) (dx + (km t hd lm r ((tPo t) (x * 40 + i)))))))), ((ad 27), .inl (cJ, 1024, .inr (.inl (eL (ofF ds2 fk2 (((r * 4 + 1) * 16) + ((tRp t) (ot ((tPo t) (x * 40 + i))))) (dx + (km t hd lm r ((tPo t) (x * 40 + i)))) gx))))), ((ad 0), .inr (8, [.int (nI (tRc t)), .int (nI lc), .ref (ad 7), .ref (ad 8), .ref (ad 9), .ref (ad 10), .ref (ad 11), .ref (ad 12), .ref (ad 13), .ref (ad 14), .ref (ad 15), .ref (ad 16)])), ((ad 10), .inl (cI, 40, .inl (eN (tAl t)))), ((ad 11), .inl (cI, 80, .inl (eN (tRp t)))), ((ad 13), .inl (cI, 16, .inl (eN (tPc t)))), ((ad 15), .inl (cI, 640, .inl (eN (tPo t)))), ((ad 1), .inr (0, [.int (nI now), .ref (ad 17), .ref (ad 18), .ref (ad 19), .ref (ad 20), .ref (ad 0)])), ((ad 19), .inl (cI, 5120, .inl (eN lm))), ((ad 2), .inr (2, [.ref (ad 21), .ref (ad 22), .ref (ad 23), .ref (ad 24), .ref (ad 25)])), ((ad 24), .inl (cI, 17408, .inl (eO hd)))] := hD
        refine lv_iinc (v := (nI (i + 1))) (lv' := [(5, .int (nI (i + 1))), (8, .long (lN gx)), (7, .int (nI (km t hd lm r ((tPo t) (x * 40 + i))))), (6, .int (nI ((tPo t) (x * 40 + i)))), (0, .ref h0), (1, .int (nI x)), (2, .int (nI r)), (3, .int (nI 1)), (4, .int (nI ((r * 4 + 1) * 16)))]) hx hb dX5_goOnFrom_129 hl (k := 8) rfl (nI_add i 1) (by decide) rfl (fun ls hl => ?_)
        refine lv_goto (tgt := 10) hx hb dX5_goOnFrom_132 (by decide) ?_
        exact ih_10 (i + 1, (ofD ds2 (((r * 4 + 1) * 16) + ((tRp t) (ot ((tPo t) (x * 40 + i))))) (dx + (km t hd lm r ((tPo t) (x * 40 + i))))), (ofF ds2 fk2 (((r * 4 + 1) * 16) + ((tRp t) (ot ((tPo t) (x * 40 + i))))) (dx + (km t hd lm r ((tPo t) (x * 40 + i)))) gx)) H locs ls (⟨by show i + 1 ≤ tPc t x; omega, by rw [itr_s, ← heq]; unfold go1; rw [if_neg n_68, if_neg n_73]⟩) (by show tPc t x - (i + 1) < tPc t x - i; omega) (hP.sub [0, 1, 2, 3, 4, 5, 6, 7, 8, 9, 10, 11] rfl) (hD.sub [0, 1, 2, 3, 4, 5, 6, 7, 8, 9, 10, 11] (by decide) rfl) hS (lv_sub hl [4, 5, 6, 7, 8, 0] rfl)
      · have n_73 : x = r := (nI_eq (a := x) (b := r) (by omega) (by omega)).mp c_73
        refine lv_lconst (v := 1) hx hb dX5_goOnFrom_76 (by decide) ?_
        refine lv_iload hx hb dX5_goOnFrom_77 (lv_at hl 1 rfl) ?_
        refine lv_iconst (v := 1) hx hb dX5_goOnFrom_79 (by decide) ?_
        refine lv_ishr hx hb dX5_goOnFrom_80 ?_
        refine lv_topi (fun y ey => ?_)
        obtain rfl : y = (nI (((tPo t) (x * 40 + i)) / 2)) := ey.trans (k_shr (a := ((tPo t) (x * 40 + i))) (by omega) 1 (by decide))
        refine lv_lshl (v := (lN (2 ^ (((tPo t) (x * 40 + i)) / 2)))) hx hb dX5_goOnFrom_81 ((k_shlL 1 (((tPo t) (x * 40 + i)) / 2) (by omega)).trans (by rw [Nat.one_mul])) ?_
        refine lv_goto (tgt := 94) hx hb dX5_goOnFrom_82 (by decide) ?_
        refine lv_lstore (lv' := [(8, .long (lN (2 ^ (((tPo t) (x * 40 + i)) / 2)))), (7, .int (nI (km t hd lm r ((tPo t) (x * 40 + i))))), (6, .int (nI ((tPo t) (x * 40 + i)))), (0, .ref h0), (1, .int (nI x)), (2, .int (nI r)), (3, .int (nI 1)), (4, .int (nI ((r * 4 + 1) * 16))), (5, .int (nI i))]) hx hb dX5_goOnFrom_94 hl (by decide) rfl (fun ls hl => ?_)
        refine lv_aload_n hx hb dX5_goOnFrom_96 rfl (lv_at hl 3 rfl) ?_
        refine lv_iload hx hb dX5_goOnFrom_97 (lv_at hl 7 rfl) ?_
        refine lv_aload_n hx hb dX5_goOnFrom_99 rfl (lv_at hl 3 rfl) ?_
        refine va_get (ci := 5) (v := .ref (ad 0)) (C := RX5) (T := TX5) (N := 5) hx hb hts m_goOnFrom_C5 hown hK hP 0 rfl rfl 2 (by decide) (hts (.fieldLink RX5 19 "RoutingDomain$Paths" "topology" "LRoutingDomain$Topology;") (m_goOnFrom_O _ (by decide +kernel))) (fun _ h9 => h9) rfl dX5_goOnFrom_100 ?_
        refine va_get (ci := 8) (v := .ref (ad 11)) (C := RX8) (T := TX8) (N := 12) hx hb hts m_goOnFrom_C8 hown hK hP 3 rfl rfl 6 (by decide) (hts (.fieldLink RX5 85 "RoutingDomain$Topology" "routerOfPort" "[I") (m_goOnFrom_O _ (by decide +kernel))) (fun _ h9 => h9) rfl dX5_goOnFrom_103 ?_
        refine lv_iload hx hb dX5_goOnFrom_106 (lv_at hl 2 rfl) ?_
        refine lv_iconst (v := 1) hx hb dX5_goOnFrom_108 (by decide) ?_
        refine lv_ixor hx hb dX5_goOnFrom_109 ?_
        refine lv_topi (fun y ey => ?_)
        obtain rfl : y = (nI (ot ((tPo t) (x * 40 + i)))) := ey.trans (k_xor1 ((tPo t) (x * 40 + i)))
        refine va_iald hx hb hK hP 5 0 rfl rfl (vp_in_nI (show (ot ((tPo t) (x * 40 + i))) < 80 from by omega) (by decide)) dX5_goOnFrom_110 ?_
        refine lv_topi (fun y ey => ?_)
        obtain rfl : y = (nI ((tRp t) (ot ((tPo t) (x * 40 + i))))) := ey.trans (ldN (f := (tRp t)) (j := (ot ((tPo t) (x * 40 + i)))) (by omega))
        refine lv_iadd hx hb dX5_goOnFrom_111 ?_
        refine lv_topi (fun y ey => ?_)
        obtain rfl : y = (nI (((r * 4 + 1) * 16) + ((tRp t) (ot ((tPo t) (x * 40 + i)))))) := ey.trans (nI_add ((r * 4 + 1) * 16) ((tRp t) (ot ((tPo t) (x * 40 + i)))))
        refine lv_aload_n hx hb dX5_goOnFrom_112 rfl (lv_at hl 3 rfl) ?_
        refine va_get (ci := 5) (v := .ref (ad 26)) (C := RX5) (T := TX5) (N := 5) hx hb hts m_goOnFrom_C5 hown hK hP 0 rfl rfl 0 (by decide) (hts (.fieldLink RX5 9 "RoutingDomain$Paths" "distances" "[I") (m_goOnFrom_O _ (by decide +kernel))) (fun _ h9 => h9) rfl dX5_goOnFrom_113 ?_
        refine lv_iload hx hb dX5_goOnFrom_116 (lv_at hl 7 rfl) ?_
        refine lv_iload_n hx hb dX5_goOnFrom_118 rfl (lv_at hl 4 rfl) ?_
        refine lv_iadd hx hb dX5_goOnFrom_119 ?_
        refine lv_topi (fun y ey => ?_)
        obtain rfl : y = (nI (((r * 4 + 1) * 16) + x)) := ey.trans (nI_add ((r * 4 + 1) * 16) x)
        refine va_iald hx hb hK hP 1 0 rfl rfl (vp_in_nI (show (((r * 4 + 1) * 16) + x) < 1024 from by omega) (by decide)) dX5_goOnFrom_120 ?_
        refine lv_topi (fun y ey => ?_)
        obtain rfl : y = (oI (ds2 (((r * 4 + 1) * 16) + x))) := ey.trans (ldO (f := ds2) (j := (((r * 4 + 1) * 16) + x)) (by omega))
        refine lv_topi (fun y ey => ?_)
        obtain rfl : y = nI dx := ey.trans (congrArg oI b2)
        refine lv_iload hx hb dX5_goOnFrom_121 (lv_at hl 1 rfl) ?_
        refine lv_iadd hx hb dX5_goOnFrom_123 ?_
        refine lv_topi (fun y ey => ?_)
        obtain rfl : y = (nI (dx + (km t hd lm r ((tPo t) (x * 40 + i))))) := ey.trans (nI_add dx (km t hd lm r ((tPo t) (x * 40 + i))))
        refine lv_lload hx hb dX5_goOnFrom_124 (lv_at hl 0 rfl) ?_
        refine kVv (As := [.int (nI (((r * 4 + 1) * 16) + ((tRp t) (ot ((tPo t) (x * 40 + i)))))), .int (nI (dx + (km t hd lm r ((tPo t) (x * 40 + i))))), .long (lN (2 ^ (((tPo t) (x * 40 + i)) / 2)))]) (rest := []) (wr := [((ad 0), .inr (8, [.int (nI (tRc t)), .int (nI lc), .ref (ad 7), .ref (ad 8), .ref (ad 9), .ref (ad 10), .ref (ad 11), .ref (ad 12), .ref (ad 13), .ref (ad 14), .ref (ad 15), .ref (ad 16)])), ((ad 10), .inl (cI, 40, .inl (eN (tAl t)))), ((ad 11), .inl (cI, 80, .inl (eN (tRp t)))), ((ad 13), .inl (cI, 16, .inl (eN (tPc t)))), ((ad 15), .inl (cI, 640, .inl (eN (tPo t)))), ((ad 1), .inr (0, [.int (nI now), .ref (ad 17), .ref (ad 18), .ref (ad 19), .ref (ad 20), .ref (ad 0)])), ((ad 19), .inl (cI, 5120, .inl (eN lm))), ((ad 2), .inr (2, [.ref (ad 21), .ref (ad 22), .ref (ad 23), .ref (ad 24), .ref (ad 25)])), ((ad 24), .inl (cI, 17408, .inl (eO hd)))]) (w2 := fun _ => [(h0, .inr (5, [.ref (ad 26), .ref (ad 27), .ref (ad 0), .ref (ad 1), .ref (ad 2)])), ((ad 26), .inl (cI, 1024, .inl (eO (ofD ds2 (((r * 4 + 1) * 16) + ((tRp t) (ot ((tPo t) (x * 40 + i))))) (dx + (km t hd lm r ((tPo t) (x * 40 + i)))))))), ((ad 27), .inl (cJ, 1024, .inr (.inl (eL (ofF ds2 fk2 (((r * 4 + 1) * 16) + ((tRp t) (ot ((tPo t) (x * 40 + i))))) (dx + (km t hd lm r ((tPo t) (x * 40 + i)))) (2 ^ (((tPo t) (x * 40 + i)) / 2))))))), ((ad 0), .inr (8, [.int (nI (tRc t)), .int (nI lc), .ref (ad 7), .ref (ad 8), .ref (ad 9), .ref (ad 10), .ref (ad 11), .ref (ad 12), .ref (ad 13), .ref (ad 14), .ref (ad 15), .ref (ad 16)])), ((ad 10), .inl (cI, 40, .inl (eN (tAl t)))), ((ad 11), .inl (cI, 80, .inl (eN (tRp t)))), ((ad 13), .inl (cI, 16, .inl (eN (tPc t)))), ((ad 15), .inl (cI, 640, .inl (eN (tPo t)))), ((ad 1), .inr (0, [.int (nI now), .ref (ad 17), .ref (ad 18), .ref (ad 19), .ref (ad 20), .ref (ad 0)])), ((ad 19), .inl (cI, 5120, .inl (eN lm))), ((ad 2), .inr (2, [.ref (ad 21), .ref (ad 22), .ref (ad 23), .ref (ad 24), .ref (ad 25)])), ((ad 24), .inl (cI, 17408, .inl (eO hd)))]) ⟨hx, hb, hml, hown, hts⟩ hN (c_pathsOffer l D cI cZ cJ h0 ad ds2 fk2 (((r * 4 + 1) * 16) + ((tRp t) (ot ((tPo t) (x * 40 + i))))) (dx + (km t hd lm r ((tPo t) (x * 40 + i)))) (2 ^ (((tPo t) (x * 40 + i)) / 2)) (by omega) (by omega) (fun j w9 e9 => by have := (b1 j w9 e9).1; omega)) (cwV 3 hts (k_gV (fun w h => m_goOnFrom_O w ((by decide +kernel : ∀ w ∈ ([.methodLink RX5 88 yX5_offer, .instanceMethod yX5_offer, .selects RX5 yX5_offer yX5_offer, .initialized RX5] : List Cond), w ∈ O_goOnFrom) w h)) m_goOnFrom_WpathsOffer gd_pathsOffer) rfl rfl rfl (by decide +kernel) ⟨Nat.le_of_ble_eq_true rfl, Nat.le_of_ble_eq_true rfl⟩) hK hP hD hS hA [0, 1, 2] [3, 4, 5, 6, 7, 8, 9, 10, 11] [9, 10, 11, 0, 1, 2, 3, 4, 5, 6, 7, 8] rfl rfl ⟨by decide, by decide, by decide⟩ (by decide) (fun _ => rfl) 5 0 rfl rfl rfl rfl hl.1 rfl (Nat.le_of_ble_eq_true rfl) dX5_goOnFrom_126 ⟨Nat.le_of_ble_eq_true rfl, Nat.le_of_ble_eq_true rfl⟩ (fun u H locs hw hP hD hS => ?_)
        have hP : va_P D vwCl [(h0, .inr (5, [.ref (ad 26), .ref (ad 27), .ref (ad 0), .ref (ad 1), .ref (ad 2)])), ((ad 26), .inl (cI, 1024, .inl (eO (ofD ds2 (((r * 4 + 1) * 16) + ((tRp t) (ot ((tPo t) (x * 40 + i))))) (dx + (km t hd lm r ((tPo t) (x * 40 + i)))))))), ((ad 27), .inl (cJ, 1024, .inr (.inl (eL (ofF ds2 fk2 (((r * 4 + 1) * 16) + ((tRp t) (ot ((tPo t) (x * 40 + i))))) (dx + (km t hd lm r ((tPo t) (x * 40 + i)))) (2 ^ (((tPo t) (x * 40 + i)) / 2))))))), ((ad 0), .inr (8, [.int (nI (tRc t)), .int (nI lc), .ref (ad 7), .ref (ad 8), .ref (ad 9), .ref (ad 10), .ref (ad 11), .ref (ad 12), .ref (ad 13), .ref (ad 14), .ref (ad 15), .ref (ad 16)])), ((ad 10), .inl (cI, 40, .inl (eN (tAl t)))), ((ad 11), .inl (cI, 80, .inl (eN (tRp t)))), ((ad 13), .inl (cI, 16, .inl (eN (tPc t)))), ((ad 15), .inl (cI, 640, .inl (eN (tPo t)))), ((ad 1), .inr (0, [.int (nI now), .ref (ad 17), .ref (ad 18), .ref (ad 19), .ref (ad 20), .ref (ad 0)])), ((ad 19), .inl (cI, 5120, .inl (eN lm))), ((ad 2), .inr (2, [.ref (ad 21), .ref (ad 22), .ref (ad 23), .ref (ad 24), .ref (ad 25)])), ((ad 24), .inl (cI, 17408, .inl (eO hd)))] H := hP
        have hD : va_D A [(h0, .inr (5, [.ref (ad 26), .ref (ad 27), .ref (ad 0), .ref (ad 1), .ref (ad 2)])), ((ad 26), .inl (cI, 1024, .inl (eO (ofD ds2 (((r * 4 + 1) * 16) + ((tRp t) (ot ((tPo t) (x * 40 + i))))) (dx + (km t hd lm r ((tPo t) (x * 40 + i)))))))), ((ad 27), .inl (cJ, 1024, .inr (.inl (eL (ofF ds2 fk2 (((r * 4 + 1) * 16) + ((tRp t) (ot ((tPo t) (x * 40 + i))))) (dx + (km t hd lm r ((tPo t) (x * 40 + i)))) (2 ^ (((tPo t) (x * 40 + i)) / 2))))))), ((ad 0), .inr (8, [.int (nI (tRc t)), .int (nI lc), .ref (ad 7), .ref (ad 8), .ref (ad 9), .ref (ad 10), .ref (ad 11), .ref (ad 12), .ref (ad 13), .ref (ad 14), .ref (ad 15), .ref (ad 16)])), ((ad 10), .inl (cI, 40, .inl (eN (tAl t)))), ((ad 11), .inl (cI, 80, .inl (eN (tRp t)))), ((ad 13), .inl (cI, 16, .inl (eN (tPc t)))), ((ad 15), .inl (cI, 640, .inl (eN (tPo t)))), ((ad 1), .inr (0, [.int (nI now), .ref (ad 17), .ref (ad 18), .ref (ad 19), .ref (ad 20), .ref (ad 0)])), ((ad 19), .inl (cI, 5120, .inl (eN lm))), ((ad 2), .inr (2, [.ref (ad 21), .ref (ad 22), .ref (ad 23), .ref (ad 24), .ref (ad 25)])), ((ad 24), .inl (cI, 17408, .inl (eO hd)))] := hD
        refine lv_iinc (v := (nI (i + 1))) (lv' := [(5, .int (nI (i + 1))), (8, .long (lN (2 ^ (((tPo t) (x * 40 + i)) / 2)))), (7, .int (nI (km t hd lm r ((tPo t) (x * 40 + i))))), (6, .int (nI ((tPo t) (x * 40 + i)))), (0, .ref h0), (1, .int (nI x)), (2, .int (nI r)), (3, .int (nI 1)), (4, .int (nI ((r * 4 + 1) * 16)))]) hx hb dX5_goOnFrom_129 hl (k := 8) rfl (nI_add i 1) (by decide) rfl (fun ls hl => ?_)
        refine lv_goto (tgt := 10) hx hb dX5_goOnFrom_132 (by decide) ?_
        exact ih_10 (i + 1, (ofD ds2 (((r * 4 + 1) * 16) + ((tRp t) (ot ((tPo t) (x * 40 + i))))) (dx + (km t hd lm r ((tPo t) (x * 40 + i))))), (ofF ds2 fk2 (((r * 4 + 1) * 16) + ((tRp t) (ot ((tPo t) (x * 40 + i))))) (dx + (km t hd lm r ((tPo t) (x * 40 + i)))) (2 ^ (((tPo t) (x * 40 + i)) / 2)))) H locs ls (⟨by show i + 1 ≤ tPc t x; omega, by rw [itr_s, ← heq]; unfold go1; rw [if_neg n_68, if_pos n_73]⟩) (by show tPc t x - (i + 1) < tPc t x - i; omega) (hP.sub [0, 1, 2, 3, 4, 5, 6, 7, 8, 9, 10, 11] rfl) (hD.sub [0, 1, 2, 3, 4, 5, 6, 7, 8, 9, 10, 11] (by decide) rfl) hS (lv_sub hl [4, 5, 6, 7, 8, 0] rfl)

