theorem dX0_versionMadeNow_0 : decode cX0_versionMadeNow 0 = .ok (.iload_n 1, 1) := by decide +kernel
theorem dX0_versionMadeNow_1 : decode cX0_versionMadeNow 1 = .ok (.bipush 6, 2) := by decide +kernel
theorem dX0_versionMadeNow_3 : decode cX0_versionMadeNow 3 = .ok (.ishl, 1) := by decide +kernel
theorem dX0_versionMadeNow_4 : decode cX0_versionMadeNow 4 = .ok (.aload_n 0, 1) := by decide +kernel
theorem dX0_versionMadeNow_5 : decode cX0_versionMadeNow 5 = .ok (.getfield 30, 3) := by decide +kernel
theorem dX0_versionMadeNow_8 : decode cX0_versionMadeNow 8 = .ok (.bipush 63, 2) := by decide +kernel
theorem dX0_versionMadeNow_10 : decode cX0_versionMadeNow 10 = .ok (.iand, 1) := by decide +kernel
theorem dX0_versionMadeNow_11 : decode cX0_versionMadeNow 11 = .ok (.iadd, 1) := by decide +kernel
theorem dX0_versionMadeNow_12 : decode cX0_versionMadeNow 12 = .ok (.ireturn, 1) := by decide +kernel
theorem dX0_ageOf_0 : decode cX0_ageOf 0 = .ok (.aload_n 0, 1) := by decide +kernel
theorem dX0_ageOf_1 : decode cX0_ageOf 1 = .ok (.getfield 30, 3) := by decide +kernel
theorem dX0_ageOf_4 : decode cX0_ageOf 4 = .ok (.iload_n 1, 1) := by decide +kernel
theorem dX0_ageOf_5 : decode cX0_ageOf 5 = .ok (.isub, 1) := by decide +kernel
theorem dX0_ageOf_6 : decode cX0_ageOf 6 = .ok (.bipush 63, 2) := by decide +kernel
theorem dX0_ageOf_8 : decode cX0_ageOf 8 = .ok (.iand, 1) := by decide +kernel
theorem dX0_ageOf_9 : decode cX0_ageOf 9 = .ok (.ireturn, 1) := by decide +kernel
theorem dX0_isNewer_0 : decode cX0_isNewer 0 = .ok (.aload_n 0, 1) := by decide +kernel
theorem dX0_isNewer_1 : decode cX0_isNewer 1 = .ok (.getfield 10, 3) := by decide +kernel
theorem dX0_isNewer_4 : decode cX0_isNewer 4 = .ok (.iload_n 1, 1) := by decide +kernel
theorem dX0_isNewer_5 : decode cX0_isNewer 5 = .ok (.iaload, 1) := by decide +kernel
theorem dX0_isNewer_6 : decode cX0_isNewer 6 = .ok (.aload_n 0, 1) := by decide +kernel
theorem dX0_isNewer_7 : decode cX0_isNewer 7 = .ok (.getfield 10, 3) := by decide +kernel
theorem dX0_isNewer_10 : decode cX0_isNewer 10 = .ok (.iload_n 2, 1) := by decide +kernel
theorem dX0_isNewer_11 : decode cX0_isNewer 11 = .ok (.iaload, 1) := by decide +kernel
theorem dX0_isNewer_12 : decode cX0_isNewer 12 = .ok (.if_icmp .eq 24, 3) := by decide +kernel
theorem dX0_isNewer_15 : decode cX0_isNewer 15 = .ok (.aload_n 0, 1) := by decide +kernel
theorem dX0_isNewer_16 : decode cX0_isNewer 16 = .ok (.getfield 10, 3) := by decide +kernel
theorem dX0_isNewer_19 : decode cX0_isNewer 19 = .ok (.iload_n 1, 1) := by decide +kernel
theorem dX0_isNewer_20 : decode cX0_isNewer 20 = .ok (.iaload, 1) := by decide +kernel
theorem dX0_isNewer_21 : decode cX0_isNewer 21 = .ok (.aload_n 0, 1) := by decide +kernel
theorem dX0_isNewer_22 : decode cX0_isNewer 22 = .ok (.getfield 10, 3) := by decide +kernel
theorem dX0_isNewer_25 : decode cX0_isNewer 25 = .ok (.iload_n 2, 1) := by decide +kernel
theorem dX0_isNewer_26 : decode cX0_isNewer 26 = .ok (.iaload, 1) := by decide +kernel
theorem dX0_isNewer_27 : decode cX0_isNewer 27 = .ok (.if_icmp .le 7, 3) := by decide +kernel
theorem dX0_isNewer_30 : decode cX0_isNewer 30 = .ok (.iconst 1, 1) := by decide +kernel
theorem dX0_isNewer_31 : decode cX0_isNewer 31 = .ok (.goto 4, 3) := by decide +kernel
theorem dX0_isNewer_34 : decode cX0_isNewer 34 = .ok (.iconst 0, 1) := by decide +kernel
theorem dX0_isNewer_35 : decode cX0_isNewer 35 = .ok (.ireturn, 1) := by decide +kernel
theorem dX0_isNewer_36 : decode cX0_isNewer 36 = .ok (.aload_n 0, 1) := by decide +kernel
theorem dX0_isNewer_37 : decode cX0_isNewer 37 = .ok (.iload_n 1, 1) := by decide +kernel
theorem dX0_isNewer_38 : decode cX0_isNewer 38 = .ok (.invokevirtual 34, 3) := by decide +kernel
theorem dX0_isNewer_41 : decode cX0_isNewer 41 = .ok (.aload_n 0, 1) := by decide +kernel
theorem dX0_isNewer_42 : decode cX0_isNewer 42 = .ok (.iload_n 2, 1) := by decide +kernel
theorem dX0_isNewer_43 : decode cX0_isNewer 43 = .ok (.invokevirtual 34, 3) := by decide +kernel
theorem dX0_isNewer_46 : decode cX0_isNewer 46 = .ok (.if_icmp .ge 7, 3) := by decide +kernel
theorem dX0_isNewer_49 : decode cX0_isNewer 49 = .ok (.iconst 1, 1) := by decide +kernel
theorem dX0_isNewer_50 : decode cX0_isNewer 50 = .ok (.goto 4, 3) := by decide +kernel
theorem dX0_isNewer_53 : decode cX0_isNewer 53 = .ok (.iconst 0, 1) := by decide +kernel
theorem dX0_isNewer_54 : decode cX0_isNewer 54 = .ok (.ireturn, 1) := by decide +kernel
theorem dX0_metricListed_0 : decode cX0_metricListed 0 = .ok (.aload_n 0, 1) := by decide +kernel
theorem dX0_metricListed_1 : decode cX0_metricListed 1 = .ok (.getfield 19, 3) := by decide +kernel
theorem dX0_metricListed_4 : decode cX0_metricListed 4 = .ok (.iload_n 2, 1) := by decide +kernel
theorem dX0_metricListed_5 : decode cX0_metricListed 5 = .ok (.bipush 6, 2) := by decide +kernel
theorem dX0_metricListed_7 : decode cX0_metricListed 7 = .ok (.ishl, 1) := by decide +kernel
theorem dX0_metricListed_8 : decode cX0_metricListed 8 = .ok (.iload_n 1, 1) := by decide +kernel
theorem dX0_metricListed_9 : decode cX0_metricListed 9 = .ok (.bipush 63, 2) := by decide +kernel
theorem dX0_metricListed_11 : decode cX0_metricListed 11 = .ok (.iand, 1) := by decide +kernel
theorem dX0_metricListed_12 : decode cX0_metricListed 12 = .ok (.iadd, 1) := by decide +kernel
theorem dX0_metricListed_13 : decode cX0_metricListed 13 = .ok (.iaload, 1) := by decide +kernel
theorem dX0_metricListed_14 : decode cX0_metricListed 14 = .ok (.ireturn, 1) := by decide +kernel
theorem dX0_costListed_0 : decode cX0_costListed 0 = .ok (.aload_n 0, 1) := by decide +kernel
theorem dX0_costListed_1 : decode cX0_costListed 1 = .ok (.getfield 23, 3) := by decide +kernel
theorem dX0_costListed_4 : decode cX0_costListed 4 = .ok (.iload_n 2, 1) := by decide +kernel
theorem dX0_costListed_5 : decode cX0_costListed 5 = .ok (.bipush 6, 2) := by decide +kernel
theorem dX0_costListed_7 : decode cX0_costListed 7 = .ok (.ishl, 1) := by decide +kernel
theorem dX0_costListed_8 : decode cX0_costListed 8 = .ok (.iload_n 1, 1) := by decide +kernel
theorem dX0_costListed_9 : decode cX0_costListed 9 = .ok (.bipush 63, 2) := by decide +kernel
theorem dX0_costListed_11 : decode cX0_costListed 11 = .ok (.iand, 1) := by decide +kernel
theorem dX0_costListed_12 : decode cX0_costListed 12 = .ok (.iadd, 1) := by decide +kernel
theorem dX0_costListed_13 : decode cX0_costListed 13 = .ok (.iaload, 1) := by decide +kernel
theorem dX0_costListed_14 : decode cX0_costListed 14 = .ok (.ireturn, 1) := by decide +kernel
theorem dX0_isUpToDate_0 : decode cX0_isUpToDate 0 = .ok (.iconst 0, 1) := by decide +kernel
theorem dX0_isUpToDate_1 : decode cX0_isUpToDate 1 = .ok (.istore 4, 2) := by decide +kernel
theorem dX0_isUpToDate_3 : decode cX0_isUpToDate 3 = .ok (.iload 4, 2) := by decide +kernel
theorem dX0_isUpToDate_5 : decode cX0_isUpToDate 5 = .ok (.aload_n 0, 1) := by decide +kernel
theorem dX0_isUpToDate_6 : decode cX0_isUpToDate 6 = .ok (.getfield 26, 3) := by decide +kernel
theorem dX0_isUpToDate_9 : decode cX0_isUpToDate 9 = .ok (.getfield 38, 3) := by decide +kernel
theorem dX0_isUpToDate_12 : decode cX0_isUpToDate 12 = .ok (.iload_n 2, 1) := by decide +kernel
theorem dX0_isUpToDate_13 : decode cX0_isUpToDate 13 = .ok (.iaload, 1) := by decide +kernel
theorem dX0_isUpToDate_14 : decode cX0_isUpToDate 14 = .ok (.if_icmp .ge 58, 3) := by decide +kernel
theorem dX0_isUpToDate_17 : decode cX0_isUpToDate 17 = .ok (.aload_n 0, 1) := by decide +kernel
theorem dX0_isUpToDate_18 : decode cX0_isUpToDate 18 = .ok (.getfield 26, 3) := by decide +kernel
theorem dX0_isUpToDate_21 : decode cX0_isUpToDate 21 = .ok (.iload_n 2, 1) := by decide +kernel
theorem dX0_isUpToDate_22 : decode cX0_isUpToDate 22 = .ok (.iload 4, 2) := by decide +kernel
theorem dX0_isUpToDate_24 : decode cX0_isUpToDate 24 = .ok (.invokevirtual 43, 3) := by decide +kernel
theorem dX0_isUpToDate_27 : decode cX0_isUpToDate 27 = .ok (.istore 5, 2) := by decide +kernel
theorem dX0_isUpToDate_29 : decode cX0_isUpToDate 29 = .ok (.aload_n 0, 1) := by decide +kernel
theorem dX0_isUpToDate_30 : decode cX0_isUpToDate 30 = .ok (.getfield 26, 3) := by decide +kernel
theorem dX0_isUpToDate_33 : decode cX0_isUpToDate 33 = .ok (.getfield 47, 3) := by decide +kernel
theorem dX0_isUpToDate_36 : decode cX0_isUpToDate 36 = .ok (.iload 5, 2) := by decide +kernel
theorem dX0_isUpToDate_38 : decode cX0_isUpToDate 38 = .ok (.iconst 1, 1) := by decide +kernel
theorem dX0_isUpToDate_39 : decode cX0_isUpToDate 39 = .ok (.ishr, 1) := by decide +kernel
theorem dX0_isUpToDate_40 : decode cX0_isUpToDate 40 = .ok (.iaload, 1) := by decide +kernel
theorem dX0_isUpToDate_41 : decode cX0_isUpToDate 41 = .ok (.iload_n 3, 1) := by decide +kernel
theorem dX0_isUpToDate_42 : decode cX0_isUpToDate 42 = .ok (.if_icmp .ne 24, 3) := by decide +kernel
theorem dX0_isUpToDate_45 : decode cX0_isUpToDate 45 = .ok (.aload_n 0, 1) := by decide +kernel
theorem dX0_isUpToDate_46 : decode cX0_isUpToDate 46 = .ok (.iload_n 1, 1) := by decide +kernel
theorem dX0_isUpToDate_47 : decode cX0_isUpToDate 47 = .ok (.iload 5, 2) := by decide +kernel
theorem dX0_isUpToDate_49 : decode cX0_isUpToDate 49 = .ok (.invokevirtual 50, 3) := by decide +kernel
theorem dX0_isUpToDate_52 : decode cX0_isUpToDate 52 = .ok (.aload_n 0, 1) := by decide +kernel
theorem dX0_isUpToDate_53 : decode cX0_isUpToDate 53 = .ok (.getfield 26, 3) := by decide +kernel
theorem dX0_isUpToDate_56 : decode cX0_isUpToDate 56 = .ok (.iload 5, 2) := by decide +kernel
theorem dX0_isUpToDate_58 : decode cX0_isUpToDate 58 = .ok (.invokevirtual 53, 3) := by decide +kernel
theorem dX0_isUpToDate_61 : decode cX0_isUpToDate 61 = .ok (.if_icmp .eq 5, 3) := by decide +kernel
theorem dX0_isUpToDate_64 : decode cX0_isUpToDate 64 = .ok (.iconst 0, 1) := by decide +kernel
theorem dX0_isUpToDate_65 : decode cX0_isUpToDate 65 = .ok (.ireturn, 1) := by decide +kernel
theorem dX0_isUpToDate_66 : decode cX0_isUpToDate 66 = .ok (.iinc 4 1, 3) := by decide +kernel
theorem dX0_isUpToDate_69 : decode cX0_isUpToDate 69 = .ok (.goto (-66), 3) := by decide +kernel
theorem dX0_isUpToDate_72 : decode cX0_isUpToDate 72 = .ok (.aload_n 0, 1) := by decide +kernel
theorem dX0_isUpToDate_73 : decode cX0_isUpToDate 73 = .ok (.getfield 26, 3) := by decide +kernel
theorem dX0_isUpToDate_76 : decode cX0_isUpToDate 76 = .ok (.iload_n 2, 1) := by decide +kernel
theorem dX0_isUpToDate_77 : decode cX0_isUpToDate 77 = .ok (.iload_n 3, 1) := by decide +kernel
theorem dX0_isUpToDate_78 : decode cX0_isUpToDate 78 = .ok (.iconst 0, 1) := by decide +kernel
theorem dX0_isUpToDate_79 : decode cX0_isUpToDate 79 = .ok (.invokevirtual 56, 3) := by decide +kernel
theorem dX0_isUpToDate_82 : decode cX0_isUpToDate 82 = .ok (.istore 4, 2) := by decide +kernel
theorem dX0_isUpToDate_84 : decode cX0_isUpToDate 84 = .ok (.iload 4, 2) := by decide +kernel
theorem dX0_isUpToDate_86 : decode cX0_isUpToDate 86 = .ok (.istore 5, 2) := by decide +kernel
theorem dX0_isUpToDate_88 : decode cX0_isUpToDate 88 = .ok (.iload 5, 2) := by decide +kernel
theorem dX0_isUpToDate_90 : decode cX0_isUpToDate 90 = .ok (.iload 4, 2) := by decide +kernel
theorem dX0_isUpToDate_92 : decode cX0_isUpToDate 92 = .ok (.bipush 16, 2) := by decide +kernel
theorem dX0_isUpToDate_94 : decode cX0_isUpToDate 94 = .ok (.iadd, 1) := by decide +kernel
theorem dX0_isUpToDate_95 : decode cX0_isUpToDate 95 = .ok (.if_icmp .ge 31, 3) := by decide +kernel
theorem dX0_isUpToDate_98 : decode cX0_isUpToDate 98 = .ok (.aload_n 0, 1) := by decide +kernel
theorem dX0_isUpToDate_99 : decode cX0_isUpToDate 99 = .ok (.iload_n 1, 1) := by decide +kernel
theorem dX0_isUpToDate_100 : decode cX0_isUpToDate 100 = .ok (.iload 5, 2) := by decide +kernel
theorem dX0_isUpToDate_102 : decode cX0_isUpToDate 102 = .ok (.invokevirtual 60, 3) := by decide +kernel
theorem dX0_isUpToDate_105 : decode cX0_isUpToDate 105 = .ok (.aload_n 0, 1) := by decide +kernel
theorem dX0_isUpToDate_106 : decode cX0_isUpToDate 106 = .ok (.getfield 26, 3) := by decide +kernel
theorem dX0_isUpToDate_109 : decode cX0_isUpToDate 109 = .ok (.getfield 63, 3) := by decide +kernel
theorem dX0_isUpToDate_112 : decode cX0_isUpToDate 112 = .ok (.iload 5, 2) := by decide +kernel
theorem dX0_isUpToDate_114 : decode cX0_isUpToDate 114 = .ok (.iaload, 1) := by decide +kernel
theorem dX0_isUpToDate_115 : decode cX0_isUpToDate 115 = .ok (.if_icmp .eq 5, 3) := by decide +kernel
theorem dX0_isUpToDate_118 : decode cX0_isUpToDate 118 = .ok (.iconst 0, 1) := by decide +kernel
theorem dX0_isUpToDate_119 : decode cX0_isUpToDate 119 = .ok (.ireturn, 1) := by decide +kernel
theorem dX0_isUpToDate_120 : decode cX0_isUpToDate 120 = .ok (.iinc 5 1, 3) := by decide +kernel
theorem dX0_isUpToDate_123 : decode cX0_isUpToDate 123 = .ok (.goto (-35), 3) := by decide +kernel
theorem dX0_isUpToDate_126 : decode cX0_isUpToDate 126 = .ok (.iconst 1, 1) := by decide +kernel
theorem dX0_isUpToDate_127 : decode cX0_isUpToDate 127 = .ok (.ireturn, 1) := by decide +kernel
theorem dX0_describe_0 : decode cX0_describe 0 = .ok (.iload_n 1, 1) := by decide +kernel
theorem dX0_describe_1 : decode cX0_describe 1 = .ok (.bipush 63, 2) := by decide +kernel
theorem dX0_describe_3 : decode cX0_describe 3 = .ok (.iand, 1) := by decide +kernel
theorem dX0_describe_4 : decode cX0_describe 4 = .ok (.istore 4, 2) := by decide +kernel
theorem dX0_describe_6 : decode cX0_describe 6 = .ok (.iconst 0, 1) := by decide +kernel
theorem dX0_describe_7 : decode cX0_describe 7 = .ok (.istore 5, 2) := by decide +kernel
theorem dX0_describe_9 : decode cX0_describe 9 = .ok (.iload 5, 2) := by decide +kernel
theorem dX0_describe_11 : decode cX0_describe 11 = .ok (.aload_n 0, 1) := by decide +kernel
theorem dX0_describe_12 : decode cX0_describe 12 = .ok (.getfield 26, 3) := by decide +kernel
theorem dX0_describe_15 : decode cX0_describe 15 = .ok (.getfield 38, 3) := by decide +kernel
theorem dX0_describe_18 : decode cX0_describe 18 = .ok (.iload_n 2, 1) := by decide +kernel
theorem dX0_describe_19 : decode cX0_describe 19 = .ok (.iaload, 1) := by decide +kernel
theorem dX0_describe_20 : decode cX0_describe 20 = .ok (.if_icmp .ge 59, 3) := by decide +kernel
theorem dX0_describe_23 : decode cX0_describe 23 = .ok (.aload_n 0, 1) := by decide +kernel
theorem dX0_describe_24 : decode cX0_describe 24 = .ok (.getfield 26, 3) := by decide +kernel
theorem dX0_describe_27 : decode cX0_describe 27 = .ok (.iload_n 2, 1) := by decide +kernel
theorem dX0_describe_28 : decode cX0_describe 28 = .ok (.iload 5, 2) := by decide +kernel
theorem dX0_describe_30 : decode cX0_describe 30 = .ok (.invokevirtual 43, 3) := by decide +kernel
theorem dX0_describe_33 : decode cX0_describe 33 = .ok (.istore 6, 2) := by decide +kernel
theorem dX0_describe_35 : decode cX0_describe 35 = .ok (.aload_n 0, 1) := by decide +kernel
theorem dX0_describe_36 : decode cX0_describe 36 = .ok (.getfield 26, 3) := by decide +kernel
theorem dX0_describe_39 : decode cX0_describe 39 = .ok (.getfield 47, 3) := by decide +kernel
theorem dX0_describe_42 : decode cX0_describe 42 = .ok (.iload 6, 2) := by decide +kernel
theorem dX0_describe_44 : decode cX0_describe 44 = .ok (.iconst 1, 1) := by decide +kernel
theorem dX0_describe_45 : decode cX0_describe 45 = .ok (.ishr, 1) := by decide +kernel
theorem dX0_describe_46 : decode cX0_describe 46 = .ok (.iaload, 1) := by decide +kernel
theorem dX0_describe_47 : decode cX0_describe 47 = .ok (.iload_n 3, 1) := by decide +kernel
theorem dX0_describe_48 : decode cX0_describe 48 = .ok (.if_icmp .ne 25, 3) := by decide +kernel
theorem dX0_describe_51 : decode cX0_describe 51 = .ok (.aload_n 0, 1) := by decide +kernel
theorem dX0_describe_52 : decode cX0_describe 52 = .ok (.getfield 19, 3) := by decide +kernel
theorem dX0_describe_55 : decode cX0_describe 55 = .ok (.iload 6, 2) := by decide +kernel
theorem dX0_describe_57 : decode cX0_describe 57 = .ok (.bipush 6, 2) := by decide +kernel
theorem dX0_describe_59 : decode cX0_describe 59 = .ok (.ishl, 1) := by decide +kernel
theorem dX0_describe_60 : decode cX0_describe 60 = .ok (.iload 4, 2) := by decide +kernel
theorem dX0_describe_62 : decode cX0_describe 62 = .ok (.iadd, 1) := by decide +kernel
theorem dX0_describe_63 : decode cX0_describe 63 = .ok (.aload_n 0, 1) := by decide +kernel
theorem dX0_describe_64 : decode cX0_describe 64 = .ok (.getfield 26, 3) := by decide +kernel
theorem dX0_describe_67 : decode cX0_describe 67 = .ok (.iload 6, 2) := by decide +kernel
theorem dX0_describe_69 : decode cX0_describe 69 = .ok (.invokevirtual 53, 3) := by decide +kernel
theorem dX0_describe_72 : decode cX0_describe 72 = .ok (.iastore, 1) := by decide +kernel
theorem dX0_describe_73 : decode cX0_describe 73 = .ok (.iinc 5 1, 3) := by decide +kernel
theorem dX0_describe_76 : decode cX0_describe 76 = .ok (.goto (-67), 3) := by decide +kernel
theorem dX0_describe_79 : decode cX0_describe 79 = .ok (.aload_n 0, 1) := by decide +kernel
theorem dX0_describe_80 : decode cX0_describe 80 = .ok (.getfield 26, 3) := by decide +kernel
theorem dX0_describe_83 : decode cX0_describe 83 = .ok (.iload_n 2, 1) := by decide +kernel
theorem dX0_describe_84 : decode cX0_describe 84 = .ok (.iload_n 3, 1) := by decide +kernel
theorem dX0_describe_85 : decode cX0_describe 85 = .ok (.iconst 0, 1) := by decide +kernel
theorem dX0_describe_86 : decode cX0_describe 86 = .ok (.invokevirtual 56, 3) := by decide +kernel
theorem dX0_describe_89 : decode cX0_describe 89 = .ok (.istore 5, 2) := by decide +kernel
theorem dX0_describe_91 : decode cX0_describe 91 = .ok (.iload 5, 2) := by decide +kernel
theorem dX0_describe_93 : decode cX0_describe 93 = .ok (.istore 6, 2) := by decide +kernel
theorem dX0_describe_95 : decode cX0_describe 95 = .ok (.iload 6, 2) := by decide +kernel
theorem dX0_describe_97 : decode cX0_describe 97 = .ok (.iload 5, 2) := by decide +kernel
theorem dX0_describe_99 : decode cX0_describe 99 = .ok (.bipush 16, 2) := by decide +kernel
theorem dX0_describe_101 : decode cX0_describe 101 = .ok (.iadd, 1) := by decide +kernel
theorem dX0_describe_102 : decode cX0_describe 102 = .ok (.if_icmp .ge 32, 3) := by decide +kernel
theorem dX0_describe_105 : decode cX0_describe 105 = .ok (.aload_n 0, 1) := by decide +kernel
theorem dX0_describe_106 : decode cX0_describe 106 = .ok (.getfield 23, 3) := by decide +kernel
theorem dX0_describe_109 : decode cX0_describe 109 = .ok (.iload 6, 2) := by decide +kernel
theorem dX0_describe_111 : decode cX0_describe 111 = .ok (.bipush 6, 2) := by decide +kernel
theorem dX0_describe_113 : decode cX0_describe 113 = .ok (.ishl, 1) := by decide +kernel
theorem dX0_describe_114 : decode cX0_describe 114 = .ok (.iload 4, 2) := by decide +kernel
theorem dX0_describe_116 : decode cX0_describe 116 = .ok (.iadd, 1) := by decide +kernel
theorem dX0_describe_117 : decode cX0_describe 117 = .ok (.aload_n 0, 1) := by decide +kernel
theorem dX0_describe_118 : decode cX0_describe 118 = .ok (.getfield 26, 3) := by decide +kernel
theorem dX0_describe_121 : decode cX0_describe 121 = .ok (.getfield 63, 3) := by decide +kernel
theorem dX0_describe_124 : decode cX0_describe 124 = .ok (.iload 6, 2) := by decide +kernel
theorem dX0_describe_126 : decode cX0_describe 126 = .ok (.iaload, 1) := by decide +kernel
theorem dX0_describe_127 : decode cX0_describe 127 = .ok (.iastore, 1) := by decide +kernel
theorem dX0_describe_128 : decode cX0_describe 128 = .ok (.iinc 6 1, 3) := by decide +kernel
theorem dX0_describe_131 : decode cX0_describe 131 = .ok (.goto (-36), 3) := by decide +kernel
theorem dX0_describe_134 : decode cX0_describe 134 = .ok (.return_, 1) := by decide +kernel
/-- how old a version is, out of its number -/
def ag (now v : Nat) : Nat := (now + 64 - v % 64) % 64
theorem ag_sub (now v : Nat) (h1 : now < 2 ^ 20) (h2 : v < 2 ^ 20) : (nI now - nI v) &&& nI 63 = nI (ag now v) := by
  have e : nI now - nI v = nI (now + (2 ^ 32 - v)) := by
    apply Int32.toBitVec_inj.1
    show BitVec.ofNat 32 now - BitVec.ofNat 32 v = BitVec.ofNat 32 (now + (2 ^ 32 - v))
    apply BitVec.eq_of_toNat_eq
    rw [BitVec.toNat_sub, BitVec.toNat_ofNat, BitVec.toNat_ofNat, BitVec.toNat_ofNat]
    omega
  rw [e]
  refine (k_andN _ 6).trans ?_
  unfold ag
  congr 1
  omega
def O_ageOf : List Cond := [.fieldLink RX0 30 "RoutingDomain$Advertisements" "now" "I"]
def W_ageOf : List Cond := .code yX0_ageOf cX0_ageOf 2 (some .int) :: (O_ageOf ++ wsX00)
theorem m_ageOf_O : ∀ w ∈ O_ageOf, w ∈ W_ageOf := fun _ h => List.mem_cons_of_mem _ (List.mem_append_left _ h)
theorem m_ageOf_C0 : ∀ w ∈ wsX00, w ∈ W_ageOf := fun _ h => List.mem_cons_of_mem _ (List.mem_append_right _ h)
theorem gdO_ageOf : O_ageOf.all goodWord = true := by decide +kernel
theorem gd_ageOf : W_ageOf.all goodWord = true := k_all_cons rfl (k_all_app gdO_ageOf gdC_0)
set_option maxHeartbeats 4000000 in
set_option maxRecDepth 100000 in
theorem c_ageOf (l : Launch) (D : va_G) (cI cZ cJ : ClassId) (h0 : Nat) (ad : Nat → Nat) (now : Nat) (v : Nat) (hnow : now < 2 ^ 20) (hv : v < 2 ^ 20) : kMi l yX0_ageOf W_ageOf { frames := 0, cells := 0, slots := 0, locals := 0 } 0 0 D (kT cI cZ cJ) [.ref h0, .int (nI v)] [(h0, .inr (0, [.int (nI now), .ref (ad 17), .ref (ad 18), .ref (ad 19), .ref (ad 20), .ref (ad 0)]))] (S := Unit) (fun res_ _ => res_ = (nI (ag now v))) (fun _ => [(h0, .inr (0, [.int (nI now), .ref (ad 17), .ref (ad 18), .ref (ad 19), .ref (ad 20), .ref (ad 0)]))]) := by
  refine kMi_of (lv := [(0, .ref h0), (1, .int (nI v))]) RX0 "ageOf" (by decide +kernel) rfl rfl rfl (Nat.le_of_ble_eq_true rfl) rfl ?_
  intro p e s m below meth c A H locs ls E hA hK hP hD hS hl
  obtain ⟨hx, hb, hr_, hts, hown, hlocks, hml, hin, hN⟩ := id E
  refine lv_aload_n hx hb dX0_ageOf_0 rfl (lv_at hl 0 rfl) ?_
  refine va_get (ci := 0) (v := .int (nI now)) (C := RX0) (T := TX0) (N := 6) hx hb hts m_ageOf_C0 hown hK hP 0 rfl rfl 0 (by decide) (hts (.fieldLink RX0 30 "RoutingDomain$Advertisements" "now" "I") (m_ageOf_O _ (by decide +kernel))) (fun _ h9 => h9) rfl dX0_ageOf_1 ?_
  refine lv_iload_n hx hb dX0_ageOf_4 rfl (lv_at hl 1 rfl) ?_
  refine lv_isub hx hb dX0_ageOf_5 ?_
  refine lv_topi (fun y ey => ?_)
  obtain rfl : y = (nI now - nI v) := ey.trans rfl
  refine lv_bipush (v := 63) hx hb dX0_ageOf_6 (by decide) ?_
  refine lv_iand hx hb dX0_ageOf_8 ?_
  refine lv_topi (fun y ey => ?_)
  obtain rfl : y = (nI (ag now v)) := ey.trans (ag_sub now v hnow hv)
  exact k_iret E hK hP hD hS () [0] (by decide) rfl (by first | rfl | (simp [bI, oI]; done) | (simp [bI, oI]; rfl)) (Nat.le_of_ble_eq_true rfl) (Nat.le_of_ble_eq_true rfl) dX0_ageOf_9

def O_versionMadeNow : List Cond := [.fieldLink RX0 30 "RoutingDomain$Advertisements" "now" "I"]
def W_versionMadeNow : List Cond := .code yX0_versionMadeNow cX0_versionMadeNow 2 (some .int) :: (O_versionMadeNow ++ wsX00)
theorem m_versionMadeNow_O : ∀ w ∈ O_versionMadeNow, w ∈ W_versionMadeNow := fun _ h => List.mem_cons_of_mem _ (List.mem_append_left _ h)
theorem m_versionMadeNow_C0 : ∀ w ∈ wsX00, w ∈ W_versionMadeNow := fun _ h => List.mem_cons_of_mem _ (List.mem_append_right _ h)
theorem gdO_versionMadeNow : O_versionMadeNow.all goodWord = true := by decide +kernel
theorem gd_versionMadeNow : W_versionMadeNow.all goodWord = true := k_all_cons rfl (k_all_app gdO_versionMadeNow gdC_0)
set_option maxHeartbeats 4000000 in
set_option maxRecDepth 100000 in
theorem c_versionMadeNow (l : Launch) (D : va_G) (cI cZ cJ : ClassId) (h0 : Nat) (ad : Nat → Nat) (now : Nat) (ky : Nat) : kMi l yX0_versionMadeNow W_versionMadeNow { frames := 0, cells := 0, slots := 0, locals := 0 } 0 0 D (kT cI cZ cJ) [.ref h0, .int (nI ky)] [(h0, .inr (0, [.int (nI now), .ref (ad 17), .ref (ad 18), .ref (ad 19), .ref (ad 20), .ref (ad 0)]))] (S := Unit) (fun res_ _ => res_ = (nI (ky * 64 + now % 64))) (fun _ => [(h0, .inr (0, [.int (nI now), .ref (ad 17), .ref (ad 18), .ref (ad 19), .ref (ad 20), .ref (ad 0)]))]) := by
  refine kMi_of (lv := [(0, .ref h0), (1, .int (nI ky))]) RX0 "versionMadeNow" (by decide +kernel) rfl rfl rfl (Nat.le_of_ble_eq_true rfl) rfl ?_
  intro p e s m below meth c A H locs ls E hA hK hP hD hS hl
  obtain ⟨hx, hb, hr_, hts, hown, hlocks, hml, hin, hN⟩ := id E
  refine lv_iload_n hx hb dX0_versionMadeNow_0 rfl (lv_at hl 1 rfl) ?_
  refine lv_bipush (v := 6) hx hb dX0_versionMadeNow_1 (by decide) ?_
  refine lv_ishl hx hb dX0_versionMadeNow_3 ?_
  refine lv_topi (fun y ey => ?_)
  obtain rfl : y = (nI (ky * 64)) := ey.trans (k_shl ky 6 (by decide))
  refine lv_aload_n hx hb dX0_versionMadeNow_4 rfl (lv_at hl 0 rfl) ?_
  refine va_get (ci := 0) (v := .int (nI now)) (C := RX0) (T := TX0) (N := 6) hx hb hts m_versionMadeNow_C0 hown hK hP 0 rfl rfl 0 (by decide) (hts (.fieldLink RX0 30 "RoutingDomain$Advertisements" "now" "I") (m_versionMadeNow_O _ (by decide +kernel))) (fun _ h9 => h9) rfl dX0_versionMadeNow_5 ?_
  refine lv_bipush (v := 63) hx hb dX0_versionMadeNow_8 (by decide) ?_
  refine lv_iand hx hb dX0_versionMadeNow_10 ?_
  refine lv_topi (fun y ey => ?_)
  obtain rfl : y = (nI (now % 64)) := ey.trans (k_andN now 6)
  refine lv_iadd hx hb dX0_versionMadeNow_11 ?_
  refine lv_topi (fun y ey => ?_)
  obtain rfl : y = (nI ((ky * 64) + (now % 64))) := ey.trans (nI_add (ky * 64) (now % 64))
  exact k_iret E hK hP hD hS () [0] (by decide) rfl (by first | rfl | (simp [bI, oI]; done) | (simp [bI, oI]; rfl)) (Nat.le_of_ble_eq_true rfl) (Nat.le_of_ble_eq_true rfl) dX0_versionMadeNow_12

def O_metricListed : List Cond := [.fieldLink RX0 19 "RoutingDomain$Advertisements" "listedMetrics" "[I"]
def W_metricListed : List Cond := .code yX0_metricListed cX0_metricListed 3 (some .int) :: (O_metricListed ++ wsX00)
theorem m_metricListed_O : ∀ w ∈ O_metricListed, w ∈ W_metricListed := fun _ h => List.mem_cons_of_mem _ (List.mem_append_left _ h)
theorem m_metricListed_C0 : ∀ w ∈ wsX00, w ∈ W_metricListed := fun _ h => List.mem_cons_of_mem _ (List.mem_append_right _ h)
theorem gdO_metricListed : O_metricListed.all goodWord = true := by decide +kernel
theorem gd_metricListed : W_metricListed.all goodWord = true := k_all_cons rfl (k_all_app gdO_metricListed gdC_0)
set_option maxHeartbeats 4000000 in
set_option maxRecDepth 100000 in
theorem c_metricListed (l : Launch) (D : va_G) (cI cZ cJ : ClassId) (h0 : Nat) (ad : Nat → Nat) (now : Nat) (lm : Nat → Nat) (v : Nat) (q : Nat) (hq : q < 80) : kMi l yX0_metricListed W_metricListed { frames := 0, cells := 0, slots := 0, locals := 0 } 0 0 D (kT cI cZ cJ) [.ref h0, .int (nI v), .int (nI q)] [(h0, .inr (0, [.int (nI now), .ref (ad 17), .ref (ad 18), .ref (ad 19), .ref (ad 20), .ref (ad 0)])), ((ad 19), .inl (cI, 5120, .inl (eN lm)))] (S := Unit) (fun res_ _ => res_ = (nI (lm (q * 64 + v % 64)))) (fun _ => [(h0, .inr (0, [.int (nI now), .ref (ad 17), .ref (ad 18), .ref (ad 19), .ref (ad 20), .ref (ad 0)])), ((ad 19), .inl (cI, 5120, .inl (eN lm)))]) := by
  refine kMi_of (lv := [(0, .ref h0), (1, .int (nI v)), (2, .int (nI q))]) RX0 "metricListed" (by decide +kernel) rfl rfl rfl (Nat.le_of_ble_eq_true rfl) rfl ?_
  intro p e s m below meth c A H locs ls E hA hK hP hD hS hl
  obtain ⟨hx, hb, hr_, hts, hown, hlocks, hml, hin, hN⟩ := id E
  refine lv_aload_n hx hb dX0_metricListed_0 rfl (lv_at hl 0 rfl) ?_
  refine va_get (ci := 0) (v := .ref (ad 19)) (C := RX0) (T := TX0) (N := 6) hx hb hts m_metricListed_C0 hown hK hP 0 rfl rfl 3 (by decide) (hts (.fieldLink RX0 19 "RoutingDomain$Advertisements" "listedMetrics" "[I") (m_metricListed_O _ (by decide +kernel))) (fun _ h9 => h9) rfl dX0_metricListed_1 ?_
  refine lv_iload_n hx hb dX0_metricListed_4 rfl (lv_at hl 2 rfl) ?_
  refine lv_bipush (v := 6) hx hb dX0_metricListed_5 (by decide) ?_
  refine lv_ishl hx hb dX0_metricListed_7 ?_
  refine lv_topi (fun y ey => ?_)
  obtain rfl : y = (nI (q * 64)) := ey.trans (k_shl q 6 (by decide))
  refine lv_iload_n hx hb dX0_metricListed_8 rfl (lv_at hl 1 rfl) ?_
  refine lv_bipush (v := 63) hx hb dX0_metricListed_9 (by decide) ?_
  refine lv_iand hx hb dX0_metricListed_11 ?_
  refine lv_topi (fun y ey => ?_)
  obtain rfl : y = (nI (v % 64)) := ey.trans (k_andN v 6)
  refine lv_iadd hx hb dX0_metricListed_12 ?_
  refine lv_topi (fun y ey => ?_)
  obtain rfl : y = (nI ((q * 64) + (v % 64))) := ey.trans (nI_add (q * 64) (v % 64))
  refine va_iald hx hb hK hP 1 0 rfl rfl (vp_in_nI (show ((q * 64) + (v % 64)) < 5120 from by omega) (by decide)) dX0_metricListed_13 ?_
  refine lv_topi (fun y ey => ?_)
  obtain rfl : y = (nI (lm ((q * 64) + (v % 64)))) := ey.trans (ldN (f := lm) (j := ((q * 64) + (v % 64))) (by omega))
  exact k_iret E hK hP hD hS () [0, 1] (by decide) rfl (by first | rfl | (simp [bI, oI]; done) | (simp [bI, oI]; rfl)) (Nat.le_of_ble_eq_true rfl) (Nat.le_of_ble_eq_true rfl) dX0_metricListed_14

def O_costListed : List Cond := [.fieldLink RX0 23 "RoutingDomain$Advertisements" "listedCosts" "[I"]
def W_costListed : List Cond := .code yX0_costListed cX0_costListed 3 (some .int) :: (O_costListed ++ wsX00)
theorem m_costListed_O : ∀ w ∈ O_costListed, w ∈ W_costListed := fun _ h => List.mem_cons_of_mem _ (List.mem_append_left _ h)
theorem m_costListed_C0 : ∀ w ∈ wsX00, w ∈ W_costListed := fun _ h => List.mem_cons_of_mem _ (List.mem_append_right _ h)
theorem gdO_costListed : O_costListed.all goodWord = true := by decide +kernel
theorem gd_costListed : W_costListed.all goodWord = true := k_all_cons rfl (k_all_app gdO_costListed gdC_0)
set_option maxHeartbeats 4000000 in
set_option maxRecDepth 100000 in
theorem c_costListed (l : Launch) (D : va_G) (cI cZ cJ : ClassId) (h0 : Nat) (ad : Nat → Nat) (now : Nat) (lo : Nat → Option Nat) (v : Nat) (n : Nat) (hn : n < 1024) : kMi l yX0_costListed W_costListed { frames := 0, cells := 0, slots := 0, locals := 0 } 0 0 D (kT cI cZ cJ) [.ref h0, .int (nI v), .int (nI n)] [(h0, .inr (0, [.int (nI now), .ref (ad 17), .ref (ad 18), .ref (ad 19), .ref (ad 20), .ref (ad 0)])), ((ad 20), .inl (cI, 65536, .inl (eO lo)))] (S := Unit) (fun res_ _ => res_ = (oI (lo (n * 64 + v % 64)))) (fun _ => [(h0, .inr (0, [.int (nI now), .ref (ad 17), .ref (ad 18), .ref (ad 19), .ref (ad 20), .ref (ad 0)])), ((ad 20), .inl (cI, 65536, .inl (eO lo)))]) := by
  refine kMi_of (lv := [(0, .ref h0), (1, .int (nI v)), (2, .int (nI n))]) RX0 "costListed" (by decide +kernel) rfl rfl rfl (Nat.le_of_ble_eq_true rfl) rfl ?_
  intro p e s m below meth c A H locs ls E hA hK hP hD hS hl
  obtain ⟨hx, hb, hr_, hts, hown, hlocks, hml, hin, hN⟩ := id E
  refine lv_aload_n hx hb dX0_costListed_0 rfl (lv_at hl 0 rfl) ?_
  refine va_get (ci := 0) (v := .ref (ad 20)) (C := RX0) (T := TX0) (N := 6) hx hb hts m_costListed_C0 hown hK hP 0 rfl rfl 4 (by decide) (hts (.fieldLink RX0 23 "RoutingDomain$Advertisements" "listedCosts" "[I") (m_costListed_O _ (by decide +kernel))) (fun _ h9 => h9) rfl dX0_costListed_1 ?_
  refine lv_iload_n hx hb dX0_costListed_4 rfl (lv_at hl 2 rfl) ?_
  refine lv_bipush (v := 6) hx hb dX0_costListed_5 (by decide) ?_
  refine lv_ishl hx hb dX0_costListed_7 ?_
  refine lv_topi (fun y ey => ?_)
  obtain rfl : y = (nI (n * 64)) := ey.trans (k_shl n 6 (by decide))
  refine lv_iload_n hx hb dX0_costListed_8 rfl (lv_at hl 1 rfl) ?_
  refine lv_bipush (v := 63) hx hb dX0_costListed_9 (by decide) ?_
  refine lv_iand hx hb dX0_costListed_11 ?_
  refine lv_topi (fun y ey => ?_)
  obtain rfl : y = (nI (v % 64)) := ey.trans (k_andN v 6)
  refine lv_iadd hx hb dX0_costListed_12 ?_
  refine lv_topi (fun y ey => ?_)
  obtain rfl : y = (nI ((n * 64) + (v % 64))) := ey.trans (nI_add (n * 64) (v % 64))
  refine va_iald hx hb hK hP 1 0 rfl rfl (vp_in_nI (show ((n * 64) + (v % 64)) < 65536 from by omega) (by decide)) dX0_costListed_13 ?_
  refine lv_topi (fun y ey => ?_)
  obtain rfl : y = (oI (lo ((n * 64) + (v % 64)))) := ey.trans (ldO (f := lo) (j := ((n * 64) + (v % 64))) (by omega))
  exact k_iret E hK hP hD hS () [0, 1] (by decide) rfl (by first | rfl | (simp [bI, oI]; done) | (simp [bI, oI]; rfl)) (Nat.le_of_ble_eq_true rfl) (Nat.le_of_ble_eq_true rfl) dX0_costListed_14

def nwr (sq : Nat → Nat) (now v w : Nat) : Bool := if sq v = sq w then decide (ag now v < ag now w) else decide (sq w < sq v)
def O_isNewer : List Cond := [.fieldLink RX0 10 "RoutingDomain$Advertisements" "sequences" "[I", .methodLink RX0 34 yX0_ageOf, .instanceMethod yX0_ageOf, .selects RX0 yX0_ageOf yX0_ageOf, .initialized RX0]
def W_isNewer : List Cond := .code yX0_isNewer cX0_isNewer 3 (some .boolean) :: (O_isNewer ++ (wsX00 ++ W_ageOf))
theorem m_isNewer_O : ∀ w ∈ O_isNewer, w ∈ W_isNewer := fun _ h => List.mem_cons_of_mem _ (List.mem_append_left _ h)
theorem m_isNewer_C0 : ∀ w ∈ wsX00, w ∈ W_isNewer := fun _ h => List.mem_cons_of_mem _ (List.mem_append_right _ (List.mem_append_left _ h))
theorem m_isNewer_WageOf : ∀ w ∈ W_ageOf, w ∈ W_isNewer := fun _ h => List.mem_cons_of_mem _ (List.mem_append_right _ (List.mem_append_right _ h))
theorem gdO_isNewer : O_isNewer.all goodWord = true := by decide +kernel
theorem gd_isNewer : W_isNewer.all goodWord = true := k_all_cons rfl (k_all_app gdO_isNewer (k_all_app gdC_0 gd_ageOf))
set_option maxHeartbeats 4000000 in
set_option maxRecDepth 100000 in
theorem c_isNewer (l : Launch) (D : va_G) (cI cZ cJ : ClassId) (h0 : Nat) (ad : Nat → Nat) (now : Nat) (sq : Nat → Nat) (v : Nat) (w : Nat) (hnow : now < 2 ^ 20) (hv : v < 69632) (hw : w < 69632) (hsq : ∀ j, sq j < 2 ^ 20) : kMi l yX0_isNewer W_isNewer { frames := 1, cells := 0, slots := 0, locals := 30 } 0 0 D (kT cI cZ cJ) [.ref h0, .int (nI v), .int (nI w)] [(h0, .inr (0, [.int (nI now), .ref (ad 17), .ref (ad 18), .ref (ad 19), .ref (ad 20), .ref (ad 0)])), ((ad 17), .inl (cI, 69632, .inl (eN sq)))] (S := Unit) (fun res_ _ => res_ = (bI (nwr sq now v w))) (fun _ => [(h0, .inr (0, [.int (nI now), .ref (ad 17), .ref (ad 18), .ref (ad 19), .ref (ad 20), .ref (ad 0)])), ((ad 17), .inl (cI, 69632, .inl (eN sq)))]) := by
  refine kMi_of (lv := [(0, .ref h0), (1, .int (nI v)), (2, .int (nI w))]) RX0 "isNewer" (by decide +kernel) rfl rfl rfl (Nat.le_of_ble_eq_true rfl) rfl ?_
  intro p e s m below meth c A H locs ls E hA hK hP hD hS hl
  obtain ⟨hx, hb, hr_, hts, hown, hlocks, hml, hin, hN⟩ := id E
  have hs1 := hsq v
  have hs2 := hsq w
  have ha1 : ag now v < 64 := Nat.mod_lt _ (by decide)
  have ha2 : ag now w < 64 := Nat.mod_lt _ (by decide)
  refine lv_aload_n hx hb dX0_isNewer_0 rfl (lv_at hl 0 rfl) ?_
  refine va_get (ci := 0) (v := .ref (ad 17)) (C := RX0) (T := TX0) (N := 6) hx hb hts m_isNewer_C0 hown hK hP 0 rfl rfl 1 (by decide) (hts (.fieldLink RX0 10 "RoutingDomain$Advertisements" "sequences" "[I") (m_isNewer_O _ (by decide +kernel))) (fun _ h9 => h9) rfl dX0_isNewer_1 ?_
  refine lv_iload_n hx hb dX0_isNewer_4 rfl (lv_at hl 1 rfl) ?_
  refine va_iald hx hb hK hP 1 0 rfl rfl (vp_in_nI (show v < 69632 from by omega) (by decide)) dX0_isNewer_5 ?_
  refine lv_topi (fun y ey => ?_)
  obtain rfl : y = (nI (sq v)) := ey.trans (ldN (f := sq) (j := v) (by omega))
  refine lv_aload_n hx hb dX0_isNewer_6 rfl (lv_at hl 0 rfl) ?_
  refine va_get (ci := 0) (v := .ref (ad 17)) (C := RX0) (T := TX0) (N := 6) hx hb hts m_isNewer_C0 hown hK hP 0 rfl rfl 1 (by decide) (hts (.fieldLink RX0 10 "RoutingDomain$Advertisements" "sequences" "[I") (m_isNewer_O _ (by decide +kernel))) (fun _ h9 => h9) rfl dX0_isNewer_7 ?_
  refine lv_iload_n hx hb dX0_isNewer_10 rfl (lv_at hl 2 rfl) ?_
  refine va_iald hx hb hK hP 1 0 rfl rfl (vp_in_nI (show w < 69632 from by omega) (by decide)) dX0_isNewer_11 ?_
  refine lv_topi (fun y ey => ?_)
  obtain rfl : y = (nI (sq w)) := ey.trans (ldN (f := sq) (j := w) (by omega))
  refine lv_icmp_eq (tgt := 36) hx hb dX0_isNewer_12 (by decide) (fun c_12 => ?_) (fun c_12 => ?_)
  · have n_12 : (sq v) = (sq w) := (nI_eq (a := (sq v)) (b := (sq w)) (by omega) (by omega)).mp c_12
    refine lv_aload_n hx hb dX0_isNewer_36 rfl (lv_at hl 0 rfl) ?_
    refine lv_iload_n hx hb dX0_isNewer_37 rfl (lv_at hl 1 rfl) ?_
    refine kVi (As := [.int (nI v)]) (rest := []) (wr := [((ad 17), .inl (cI, 69632, .inl (eN sq)))]) (w2 := fun _ => [(h0, .inr (0, [.int (nI now), .ref (ad 17), .ref (ad 18), .ref (ad 19), .ref (ad 20), .ref (ad 0)])), ((ad 17), .inl (cI, 69632, .inl (eN sq)))]) ⟨hx, hb, hml, hown, hts⟩ hN (c_ageOf l D cI cZ cJ h0 ad now v hnow (by omega)) (cwV 1 hts (k_gV (fun w h => m_isNewer_O w ((by decide +kernel : ∀ w ∈ ([.methodLink RX0 34 yX0_ageOf, .instanceMethod yX0_ageOf, .selects RX0 yX0_ageOf yX0_ageOf, .initialized RX0] : List Cond), w ∈ O_isNewer) w h)) m_isNewer_WageOf gd_ageOf) rfl rfl rfl (by decide +kernel) ⟨Nat.le_of_ble_eq_true rfl, Nat.le_of_ble_eq_true rfl⟩) hK hP hD hS hA [0] [1] [1, 0] rfl rfl ⟨by decide, by decide, by decide⟩ (by decide) (fun _ => rfl) 0 0 rfl rfl rfl rfl hl.1 rfl (Nat.le_of_ble_eq_true rfl) dX0_isNewer_38 ⟨Nat.le_of_ble_eq_true rfl, Nat.le_of_ble_eq_true rfl⟩ (fun res_ u H locs hw hP hD hS => ?_)
    have hP : va_P D vwCl [(h0, .inr (0, [.int (nI now), .ref (ad 17), .ref (ad 18), .ref (ad 19), .ref (ad 20), .ref (ad 0)])), ((ad 17), .inl (cI, 69632, .inl (eN sq)))] H := hP
    have hD : va_D A [(h0, .inr (0, [.int (nI now), .ref (ad 17), .ref (ad 18), .ref (ad 19), .ref (ad 20), .ref (ad 0)])), ((ad 17), .inl (cI, 69632, .inl (eN sq)))] := hD
    obtain rfl : res_ = (nI (ag now v)) := hw
    refine lv_aload_n hx hb dX0_isNewer_41 rfl (lv_at hl 0 rfl) ?_
    refine lv_iload_n hx hb dX0_isNewer_42 rfl (lv_at hl 2 rfl) ?_
    refine kVi (As := [.int (nI w)]) (rest := [.int (nI (ag now v))]) (wr := [((ad 17), .inl (cI, 69632, .inl (eN sq)))]) (w2 := fun _ => [(h0, .inr (0, [.int (nI now), .ref (ad 17), .ref (ad 18), .ref (ad 19), .ref (ad 20), .ref (ad 0)])), ((ad 17), .inl (cI, 69632, .inl (eN sq)))]) ⟨hx, hb, hml, hown, hts⟩ hN (c_ageOf l D cI cZ cJ h0 ad now w hnow (by omega)) (cwV 1 hts (k_gV (fun w h => m_isNewer_O w ((by decide +kernel : ∀ w ∈ ([.methodLink RX0 34 yX0_ageOf, .instanceMethod yX0_ageOf, .selects RX0 yX0_ageOf yX0_ageOf, .initialized RX0] : List Cond), w ∈ O_isNewer) w h)) m_isNewer_WageOf gd_ageOf) rfl rfl rfl (by decide +kernel) ⟨Nat.le_of_ble_eq_true rfl, Nat.le_of_ble_eq_true rfl⟩) hK hP hD hS hA [0] [1] [1, 0] rfl rfl ⟨by decide, by decide, by decide⟩ (by decide) (fun _ => rfl) 0 0 rfl rfl rfl rfl hl.1 rfl (Nat.le_of_ble_eq_true rfl) dX0_isNewer_43 ⟨Nat.le_of_ble_eq_true rfl, Nat.le_of_ble_eq_true rfl⟩ (fun res_ u H locs hw hP hD hS => ?_)
    have hP : va_P D vwCl [(h0, .inr (0, [.int (nI now), .ref (ad 17), .ref (ad 18), .ref (ad 19), .ref (ad 20), .ref (ad 0)])), ((ad 17), .inl (cI, 69632, .inl (eN sq)))] H := hP
    have hD : va_D A [(h0, .inr (0, [.int (nI now), .ref (ad 17), .ref (ad 18), .ref (ad 19), .ref (ad 20), .ref (ad 0)])), ((ad 17), .inl (cI, 69632, .inl (eN sq)))] := hD
    obtain rfl : res_ = (nI (ag now w)) := hw
    refine lv_icmp_ge (tgt := 53) hx hb dX0_isNewer_46 (by decide) (fun c_46 => ?_) (fun c_46 => ?_)
    · have n_46 : (ag now w) ≤ (ag now v) := (nI_leI (a := (ag now w)) (b := (ag now v)) (by omega) (by omega)).mp c_46
      refine lv_iconst (v := 0) hx hb dX0_isNewer_53 (by decide) ?_
      exact k_zret E hK hP hD hS () [0, 1] (by decide) rfl (by first | rfl | (simp [nwr, bI, oI, n_12, n_46]; done) | (simp [nwr, bI, oI, n_12, n_46]; rfl)) (by decide) (Nat.le_of_ble_eq_true rfl) (Nat.le_of_ble_eq_true rfl) dX0_isNewer_54
    · have n_46 : ¬ (ag now w) ≤ (ag now v) := fun h => c_46 ((nI_leI (a := (ag now w)) (b := (ag now v)) (by omega) (by omega)).mpr h)
      refine lv_iconst (v := 1) hx hb dX0_isNewer_49 (by decide) ?_
      refine lv_goto (tgt := 54) hx hb dX0_isNewer_50 (by decide) ?_
      exact k_zret E hK hP hD hS () [0, 1] (by decide) rfl (by first | rfl | (simp [nwr, bI, oI, n_12, n_46]; done) | (simp [nwr, bI, oI, n_12, n_46]; rfl)) (by decide) (Nat.le_of_ble_eq_true rfl) (Nat.le_of_ble_eq_true rfl) dX0_isNewer_54
  · have n_12 : ¬ (sq v) = (sq w) := fun h => c_12 ((nI_eq (a := (sq v)) (b := (sq w)) (by omega) (by omega)).mpr h)
    refine lv_aload_n hx hb dX0_isNewer_15 rfl (lv_at hl 0 rfl) ?_
    refine va_get (ci := 0) (v := .ref (ad 17)) (C := RX0) (T := TX0) (N := 6) hx hb hts m_isNewer_C0 hown hK hP 0 rfl rfl 1 (by decide) (hts (.fieldLink RX0 10 "RoutingDomain$Advertisements" "sequences" "[I") (m_isNewer_O _ (by decide +kernel))) (fun _ h9 => h9) rfl dX0_isNewer_16 ?_
    refine lv_iload_n hx hb dX0_isNewer_19 rfl (lv_at hl 1 rfl) ?_
    refine va_iald hx hb hK hP 1 0 rfl rfl (vp_in_nI (show v < 69632 from by omega) (by decide)) dX0_isNewer_20 ?_
    refine lv_topi (fun y ey => ?_)
    obtain rfl : y = (nI (sq v)) := ey.trans (ldN (f := sq) (j := v) (by omega))
    refine lv_aload_n hx hb dX0_isNewer_21 rfl (lv_at hl 0 rfl) ?_
    refine va_get (ci := 0) (v := .ref (ad 17)) (C := RX0) (T := TX0) (N := 6) hx hb hts m_isNewer_C0 hown hK hP 0 rfl rfl 1 (by decide) (hts (.fieldLink RX0 10 "RoutingDomain$Advertisements" "sequences" "[I") (m_isNewer_O _ (by decide +kernel))) (fun _ h9 => h9) rfl dX0_isNewer_22 ?_
    refine lv_iload_n hx hb dX0_isNewer_25 rfl (lv_at hl 2 rfl) ?_
    refine va_iald hx hb hK hP 1 0 rfl rfl (vp_in_nI (show w < 69632 from by omega) (by decide)) dX0_isNewer_26 ?_
    refine lv_topi (fun y ey => ?_)
    obtain rfl : y = (nI (sq w)) := ey.trans (ldN (f := sq) (j := w) (by omega))
    refine lv_icmp_le (tgt := 34) hx hb dX0_isNewer_27 (by decide) (fun c_27 => ?_) (fun c_27 => ?_)
    · have n_27 : (sq v) ≤ (sq w) := (nI_leI (a := (sq v)) (b := (sq w)) (by omega) (by omega)).mp c_27
      refine lv_iconst (v := 0) hx hb dX0_isNewer_34 (by decide) ?_
      exact k_zret E hK hP hD hS () [0, 1] (by decide) rfl (by first | rfl | (simp [nwr, bI, oI, n_12, n_27]; done) | (simp [nwr, bI, oI, n_12, n_27]; rfl)) (by decide) (Nat.le_of_ble_eq_true rfl) (Nat.le_of_ble_eq_true rfl) dX0_isNewer_35
    · have n_27 : ¬ (sq v) ≤ (sq w) := fun h => c_27 ((nI_leI (a := (sq v)) (b := (sq w)) (by omega) (by omega)).mpr h)
      refine lv_iconst (v := 1) hx hb dX0_isNewer_30 (by decide) ?_
      refine lv_goto (tgt := 35) hx hb dX0_isNewer_31 (by decide) ?_
      exact k_zret E hK hP hD hS () [0, 1] (by decide) rfl (by first | rfl | (simp [nwr, bI, oI, n_12, n_27]; done) | (simp [nwr, bI, oI, n_12, n_27]; rfl)) (by decide) (Nat.le_of_ble_eq_true rfl) (Nat.le_of_ble_eq_true rfl) dX0_isNewer_35

/-- the advertisement v of router r in area a says what r would say now -/
def utd1 (ru lu : Nat → Bool) (al rp mp pc po lm : Nat → Nat) (v r a n : Nat) : Prop := ∀ i, i < n → al (po (r * 40 + i) / 2) = a → lm (po (r * 40 + i) * 64 + v % 64) = mtl ru lu rp mp (po (r * 40 + i))
def utd2 (an lo : Nat → Option Nat) (v r a n : Nat) : Prop := ∀ j, j < n → lo (((r * 4 + a) * 16 + j) * 64 + v % 64) = an ((r * 4 + a) * 16 + j)
theorem utd1_s {ru lu : Nat → Bool} {al rp mp pc po lm : Nat → Nat} {v r a n : Nat} (h : utd1 ru lu al rp mp pc po lm v r a n) (h2 : al (po (r * 40 + n) / 2) = a → lm (po (r * 40 + n) * 64 + v % 64) = mtl ru lu rp mp (po (r * 40 + n))) : utd1 ru lu al rp mp pc po lm v r a (n + 1) := fun i hi => by
  rcases Nat.lt_or_ge i n with q | q
  · exact h i q
  · obtain rfl : i = n := by omega
    exact h2
theorem utd2_s {an lo : Nat → Option Nat} {v r a n : Nat} (h : utd2 an lo v r a n) (h2 : lo (((r * 4 + a) * 16 + n) * 64 + v % 64) = an ((r * 4 + a) * 16 + n)) : utd2 an lo v r a (n + 1) := fun i hi => by
  rcases Nat.lt_or_ge i n with q | q
  · exact h i q
  · obtain rfl : i = n := by omega
    exact h2
theorem oI_inj {x y : Option Nat} (hx : ∀ v, x = some v → v < 2 ^ 31) (hy : ∀ v, y = some v → v < 2 ^ 31) : oI x = oI y ↔ x = y := by
  refine ⟨fun h => ?_, fun h => by rw [h]⟩
  cases x with
  | none => cases y with
    | none => rfl
    | some w => exact absurd h.symm (nI_m1 (hy w rfl))
  | some v => cases y with
    | none => exact absurd h (nI_m1 (hx v rfl))
    | some w => rw [(nI_eq (hx v rfl) (hy w rfl)).mp h]
def O_isUpToDate : List Cond := [.fieldLink RX0 26 "RoutingDomain$Advertisements" "topology" "LRoutingDomain$Topology;", .fieldLink RX0 38 "RoutingDomain$Topology" "portCount" "[I", .methodLink RX0 56 yX8_announcementAt, .instanceMethod yX8_announcementAt, .selects RX8 yX8_announcementAt yX8_announcementAt, .initialized RX8, .methodLink RX0 60 yX0_costListed, .instanceMethod yX0_costListed, .selects RX0 yX0_costListed yX0_costListed, .initialized RX0, .fieldLink RX0 63 "RoutingDomain$Topology" "announced" "[I", .methodLink RX0 43 yX8_portAt, .instanceMethod yX8_portAt, .selects RX8 yX8_portAt yX8_portAt, .fieldLink RX0 47 "RoutingDomain$Topology" "areaOfLink" "[I", .methodLink RX0 50 yX0_metricListed, .instanceMethod yX0_metricListed, .selects RX0 yX0_metricListed yX0_metricListed, .methodLink RX0 53 yX8_metricToList, .instanceMethod yX8_metricToList, .selects RX8 yX8_metricToList yX8_metricToList]
def W_isUpToDate : List Cond := .code yX0_isUpToDate cX0_isUpToDate 6 (some .boolean) :: (O_isUpToDate ++ (wsX00 ++ (wsX80 ++ (W_announcementAt ++ (W_costListed ++ (W_portAt ++ (W_metricListed ++ W_metricToList)))))))
theorem m_isUpToDate_O : ∀ w ∈ O_isUpToDate, w ∈ W_isUpToDate := fun _ h => List.mem_cons_of_mem _ (List.mem_append_left _ h)
theorem m_isUpToDate_C0 : ∀ w ∈ wsX00, w ∈ W_isUpToDate := fun _ h => List.mem_cons_of_mem _ (List.mem_append_right _ (List.mem_append_left _ h))
theorem m_isUpToDate_C8 : ∀ w ∈ wsX80, w ∈ W_isUpToDate := fun _ h => List.mem_cons_of_mem _ (List.mem_append_right _ (List.mem_append_right _ (List.mem_append_left _ h)))
theorem m_isUpToDate_WannouncementAt : ∀ w ∈ W_announcementAt, w ∈ W_isUpToDate := fun _ h => List.mem_cons_of_mem _ (List.mem_append_right _ (List.mem_append_right _ (List.mem_append_right _ (List.mem_append_left _ h))))
theorem m_isUpToDate_WcostListed : ∀ w ∈ W_costListed, w ∈ W_isUpToDate := fun _ h => List.mem_cons_of_mem _ (List.mem_append_right _ (List.mem_append_right _ (List.mem_append_right _ (List.mem_append_right _ (List.mem_append_left _ h)))))
theorem m_isUpToDate_WportAt : ∀ w ∈ W_portAt, w ∈ W_isUpToDate := fun _ h => List.mem_cons_of_mem _ (List.mem_append_right _ (List.mem_append_right _ (List.mem_append_right _ (List.mem_append_right _ (List.mem_append_right _ (List.mem_append_left _ h))))))
theorem m_isUpToDate_WmetricListed : ∀ w ∈ W_metricListed, w ∈ W_isUpToDate := fun _ h => List.mem_cons_of_mem _ (List.mem_append_right _ (List.mem_append_right _ (List.mem_append_right _ (List.mem_append_right _ (List.mem_append_right _ (List.mem_append_right _ (List.mem_append_left _ h)))))))
theorem m_isUpToDate_WmetricToList : ∀ w ∈ W_metricToList, w ∈ W_isUpToDate := fun _ h => List.mem_cons_of_mem _ (List.mem_append_right _ (List.mem_append_right _ (List.mem_append_right _ (List.mem_append_right _ (List.mem_append_right _ (List.mem_append_right _ (List.mem_append_right _ h)))))))
theorem gdO_isUpToDate : O_isUpToDate.all goodWord = true := by decide +kernel
theorem gd_isUpToDate : W_isUpToDate.all goodWord = true := k_all_cons rfl (k_all_app gdO_isUpToDate (k_all_app gdC_0 (k_all_app gdC_8 (k_all_app gd_announcementAt (k_all_app gd_costListed (k_all_app gd_portAt (k_all_app gd_metricListed gd_metricToList)))))))
set_option maxHeartbeats 4000000 in
set_option maxRecDepth 100000 in
theorem c_isUpToDate (l : Launch) (D : va_G) (cI cZ cJ : ClassId) (h0 : Nat) (ad : Nat → Nat) (now : Nat) (rc : Nat) (lc : Nat) (ru : Nat → Bool) (lu : Nat → Bool) (al : Nat → Nat) (rp : Nat → Nat) (mp : Nat → Nat) (pc : Nat → Nat) (an : Nat → Option Nat) (po : Nat → Nat) (lm : Nat → Nat) (lo : Nat → Option Nat) (v : Nat) (r : Nat) (a : Nat) (hv : v < 69632) (hr : r < 16) (ha : a < 4) (hpc : pc r ≤ 40) (hpo : ∀ j, po j < 80) (hrp : ∀ j, rp j < 16) (hal : ∀ j, al j < 4) (hmp : ∀ j, mp j < 2 ^ 20) (hlm : ∀ j, lm j < 2 ^ 20) (hlo : ∀ j w, lo j = some w → w < 2 ^ 20) (han : ∀ j w, an j = some w → w < 2 ^ 20) : kMi l yX0_isUpToDate W_isUpToDate { frames := 3, cells := 0, slots := 0, locals := 90 } 0 0 D (kT cI cZ cJ) [.ref h0, .int (nI v), .int (nI r), .int (nI a)] [(h0, .inr (0, [.int (nI now), .ref (ad 17), .ref (ad 18), .ref (ad 19), .ref (ad 20), .ref (ad 0)])), ((ad 0), .inr (8, [.int (nI rc), .int (nI lc), .ref (ad 7), .ref (ad 8), .ref (ad 9), .ref (ad 10), .ref (ad 11), .ref (ad 12), .ref (ad 13), .ref (ad 14), .ref (ad 15), .ref (ad 16)])), ((ad 7), .inl (cZ, 16, .inl (eB ru))), ((ad 8), .inl (cZ, 40, .inl (eB lu))), ((ad 10), .inl (cI, 40, .inl (eN al))), ((ad 11), .inl (cI, 80, .inl (eN rp))), ((ad 12), .inl (cI, 80, .inl (eN mp))), ((ad 13), .inl (cI, 16, .inl (eN pc))), ((ad 14), .inl (cI, 1024, .inl (eO an))), ((ad 15), .inl (cI, 640, .inl (eN po))), ((ad 19), .inl (cI, 5120, .inl (eN lm))), ((ad 20), .inl (cI, 65536, .inl (eO lo)))] (S := Bool) (fun res_ u => res_ = bI u ∧ (u = true ↔ (utd1 ru lu al rp mp pc po lm v r a (pc r) ∧ utd2 an lo v r a 16))) (fun u => [(h0, .inr (0, [.int (nI now), .ref (ad 17), .ref (ad 18), .ref (ad 19), .ref (ad 20), .ref (ad 0)])), ((ad 0), .inr (8, [.int (nI rc), .int (nI lc), .ref (ad 7), .ref (ad 8), .ref (ad 9), .ref (ad 10), .ref (ad 11), .ref (ad 12), .ref (ad 13), .ref (ad 14), .ref (ad 15), .ref (ad 16)])), ((ad 7), .inl (cZ, 16, .inl (eB ru))), ((ad 8), .inl (cZ, 40, .inl (eB lu))), ((ad 10), .inl (cI, 40, .inl (eN al))), ((ad 11), .inl (cI, 80, .inl (eN rp))), ((ad 12), .inl (cI, 80, .inl (eN mp))), ((ad 13), .inl (cI, 16, .inl (eN pc))), ((ad 14), .inl (cI, 1024, .inl (eO an))), ((ad 15), .inl (cI, 640, .inl (eN po))), ((ad 19), .inl (cI, 5120, .inl (eN lm))), ((ad 20), .inl (cI, 65536, .inl (eO lo)))]) := by
  refine kMi_of (lv := [(0, .ref h0), (1, .int (nI v)), (2, .int (nI r)), (3, .int (nI a))]) RX0 "isUpToDate" (by decide +kernel) rfl rfl rfl (Nat.le_of_ble_eq_true rfl) rfl ?_
  intro p e s m below meth c A H locs ls E hA hK hP hD hS hl
  obtain ⟨hx, hb, hr_, hts, hown, hlocks, hml, hin, hN⟩ := id E
  refine lv_iconst (v := 0) hx hb dX0_isUpToDate_0 (by decide) ?_
  refine lv_istore (lv' := [(4, .int 0), (0, .ref h0), (1, .int (nI v)), (2, .int (nI r)), (3, .int (nI a))]) hx hb dX0_isUpToDate_1 hl (by decide) rfl (fun ls hl => ?_)
  refine k_loop (Nat) 3 6 (fun u => u ≤ pc r ∧ utd1 ru lu al rp mp pc po lm v r a u) (fun u => pc r - u) (fun u => [(h0, .inr (0, [.int (nI now), .ref (ad 17), .ref (ad 18), .ref (ad 19), .ref (ad 20), .ref (ad 0)])), ((ad 0), .inr (8, [.int (nI rc), .int (nI lc), .ref (ad 7), .ref (ad 8), .ref (ad 9), .ref (ad 10), .ref (ad 11), .ref (ad 12), .ref (ad 13), .ref (ad 14), .ref (ad 15), .ref (ad 16)])), ((ad 7), .inl (cZ, 16, .inl (eB ru))), ((ad 8), .inl (cZ, 40, .inl (eB lu))), ((ad 10), .inl (cI, 40, .inl (eN al))), ((ad 11), .inl (cI, 80, .inl (eN rp))), ((ad 12), .inl (cI, 80, .inl (eN mp))), ((ad 13), .inl (cI, 16, .inl (eN pc))), ((ad 14), .inl (cI, 1024, .inl (eO an))), ((ad 15), .inl (cI, 640, .inl (eN po))), ((ad 19), .inl (cI, 5120, .inl (eN lm))), ((ad 20), .inl (cI, 65536, .inl (eO lo)))]) (fun u => [(0, .ref h0), (1, .int (nI v)), (2, .int (nI r)), (3, .int (nI a)), (4, .int (nI u))]) ?_ (0) (⟨Nat.zero_le _, fun j hj => absurd hj (Nat.not_lt_zero j)⟩) (hP.sub [0, 1, 2, 3, 4, 5, 6, 7, 8, 9, 10, 11] rfl) (hD.sub [0, 1, 2, 3, 4, 5, 6, 7, 8, 9, 10, 11] (by decide) rfl) hS (lv_sub hl [1, 2, 3, 4, 0] rfl)
  intro i H locs ls hinv hP hD hS hl ih_3
  have hinv : i ≤ pc r ∧ utd1 ru lu al rp mp pc po lm v r a i := hinv
  have hP : va_P D vwCl [(h0, .inr (0, [.int (nI now), .ref (ad 17), .ref (ad 18), .ref (ad 19), .ref (ad 20), .ref (ad 0)])), ((ad 0), .inr (8, [.int (nI rc), .int (nI lc), .ref (ad 7), .ref (ad 8), .ref (ad 9), .ref (ad 10), .ref (ad 11), .ref (ad 12), .ref (ad 13), .ref (ad 14), .ref (ad 15), .ref (ad 16)])), ((ad 7), .inl (cZ, 16, .inl (eB ru))), ((ad 8), .inl (cZ, 40, .inl (eB lu))), ((ad 10), .inl (cI, 40, .inl (eN al))), ((ad 11), .inl (cI, 80, .inl (eN rp))), ((ad 12), .inl (cI, 80, .inl (eN mp))), ((ad 13), .inl (cI, 16, .inl (eN pc))), ((ad 14), .inl (cI, 1024, .inl (eO an))), ((ad 15), .inl (cI, 640, .inl (eN po))), ((ad 19), .inl (cI, 5120, .inl (eN lm))), ((ad 20), .inl (cI, 65536, .inl (eO lo)))] H := hP
  have hD : va_D A [(h0, .inr (0, [.int (nI now), .ref (ad 17), .ref (ad 18), .ref (ad 19), .ref (ad 20), .ref (ad 0)])), ((ad 0), .inr (8, [.int (nI rc), .int (nI lc), .ref (ad 7), .ref (ad 8), .ref (ad 9), .ref (ad 10), .ref (ad 11), .ref (ad 12), .ref (ad 13), .ref (ad 14), .ref (ad 15), .ref (ad 16)])), ((ad 7), .inl (cZ, 16, .inl (eB ru))), ((ad 8), .inl (cZ, 40, .inl (eB lu))), ((ad 10), .inl (cI, 40, .inl (eN al))), ((ad 11), .inl (cI, 80, .inl (eN rp))), ((ad 12), .inl (cI, 80, .inl (eN mp))), ((ad 13), .inl (cI, 16, .inl (eN pc))), ((ad 14), .inl (cI, 1024, .inl (eO an))), ((ad 15), .inl (cI, 640, .inl (eN po))), ((ad 19), .inl (cI, 5120, .inl (eN lm))), ((ad 20), .inl (cI, 65536, .inl (eO lo)))] := hD
  have hl : lv_has ls 6 [(0, .ref h0), (1, .int (nI v)), (2, .int (nI r)), (3, .int (nI a)), (4, .int (nI i))] := hl
  refine lv_iload hx hb dX0_isUpToDate_3 (lv_at hl 4 rfl) ?_
  refine lv_aload_n hx hb dX0_isUpToDate_5 rfl (lv_at hl 0 rfl) ?_
  refine va_get (ci := 0) (v := .ref (ad 0)) (C := RX0) (T := TX0) (N := 6) hx hb hts m_isUpToDate_C0 hown hK hP 0 rfl rfl 5 (by decide) (hts (.fieldLink RX0 26 "RoutingDomain$Advertisements" "topology" "LRoutingDomain$Topology;") (m_isUpToDate_O _ (by decide +kernel))) (fun _ h9 => h9) rfl dX0_isUpToDate_6 ?_
  refine va_get (ci := 8) (v := .ref (ad 13)) (C := RX8) (T := TX8) (N := 12) hx hb hts m_isUpToDate_C8 hown hK hP 1 rfl rfl 8 (by decide) (hts (.fieldLink RX0 38 "RoutingDomain$Topology" "portCount" "[I") (m_isUpToDate_O _ (by decide +kernel))) (fun _ h9 => h9) rfl dX0_isUpToDate_9 ?_
  refine lv_iload_n hx hb dX0_isUpToDate_12 rfl (lv_at hl 2 rfl) ?_
  refine va_iald hx hb hK hP 7 0 rfl rfl (vp_in_nI (show r < 16 from by omega) (by decide)) dX0_isUpToDate_13 ?_
  refine lv_topi (fun y ey => ?_)
  obtain rfl : y = (nI (pc r)) := ey.trans (ldN (f := pc) (j := r) (by omega))
  refine lv_icmp_ge (tgt := 72) hx hb dX0_isUpToDate_14 (by decide) (fun c_14 => ?_) (fun c_14 => ?_)
  · have n_14 : (pc r) ≤ i := (nI_leI (a := (pc r)) (b := i) (by omega) (by omega)).mp c_14
    obtain ⟨hi1, hu1⟩ := hinv
    have hie : i = pc r := by omega
    rw [hie] at hu1
    refine lv_aload_n hx hb dX0_isUpToDate_72 rfl (lv_at hl 0 rfl) ?_
    refine va_get (ci := 0) (v := .ref (ad 0)) (C := RX0) (T := TX0) (N := 6) hx hb hts m_isUpToDate_C0 hown hK hP 0 rfl rfl 5 (by decide) (hts (.fieldLink RX0 26 "RoutingDomain$Advertisements" "topology" "LRoutingDomain$Topology;") (m_isUpToDate_O _ (by decide +kernel))) (fun _ h9 => h9) rfl dX0_isUpToDate_73 ?_
    refine lv_iload_n hx hb dX0_isUpToDate_76 rfl (lv_at hl 2 rfl) ?_
    refine lv_iload_n hx hb dX0_isUpToDate_77 rfl (lv_at hl 3 rfl) ?_
    refine lv_iconst (v := 0) hx hb dX0_isUpToDate_78 (by decide) ?_
    refine kVi (As := [.int (nI r), .int (nI a), .int 0]) (rest := []) (wr := [(h0, .inr (0, [.int (nI now), .ref (ad 17), .ref (ad 18), .ref (ad 19), .ref (ad 20), .ref (ad 0)])), ((ad 7), .inl (cZ, 16, .inl (eB ru))), ((ad 8), .inl (cZ, 40, .inl (eB lu))), ((ad 10), .inl (cI, 40, .inl (eN al))), ((ad 11), .inl (cI, 80, .inl (eN rp))), ((ad 12), .inl (cI, 80, .inl (eN mp))), ((ad 13), .inl (cI, 16, .inl (eN pc))), ((ad 14), .inl (cI, 1024, .inl (eO an))), ((ad 15), .inl (cI, 640, .inl (eN po))), ((ad 19), .inl (cI, 5120, .inl (eN lm))), ((ad 20), .inl (cI, 65536, .inl (eO lo)))]) (w2 := fun _ => [(h0, .inr (0, [.int (nI now), .ref (ad 17), .ref (ad 18), .ref (ad 19), .ref (ad 20), .ref (ad 0)])), ((ad 0), .inr (8, [.int (nI rc), .int (nI lc), .ref (ad 7), .ref (ad 8), .ref (ad 9), .ref (ad 10), .ref (ad 11), .ref (ad 12), .ref (ad 13), .ref (ad 14), .ref (ad 15), .ref (ad 16)])), ((ad 7), .inl (cZ, 16, .inl (eB ru))), ((ad 8), .inl (cZ, 40, .inl (eB lu))), ((ad 10), .inl (cI, 40, .inl (eN al))), ((ad 11), .inl (cI, 80, .inl (eN rp))), ((ad 12), .inl (cI, 80, .inl (eN mp))), ((ad 13), .inl (cI, 16, .inl (eN pc))), ((ad 14), .inl (cI, 1024, .inl (eO an))), ((ad 15), .inl (cI, 640, .inl (eN po))), ((ad 19), .inl (cI, 5120, .inl (eN lm))), ((ad 20), .inl (cI, 65536, .inl (eO lo)))]) ⟨hx, hb, hml, hown, hts⟩ hN (c_announcementAt l D cI cZ cJ (ad 0) ad rc lc r a 0) (cwV 3 hts (k_gV (fun w h => m_isUpToDate_O w ((by decide +kernel : ∀ w ∈ ([.methodLink RX0 56 yX8_announcementAt, .instanceMethod yX8_announcementAt, .selects RX8 yX8_announcementAt yX8_announcementAt, .initialized RX8] : List Cond), w ∈ O_isUpToDate) w h)) m_isUpToDate_WannouncementAt gd_announcementAt) rfl rfl rfl (by decide +kernel) ⟨Nat.le_of_ble_eq_true rfl, Nat.le_of_ble_eq_true rfl⟩) hK hP hD hS hA [1] [0, 2, 3, 4, 5, 6, 7, 8, 9, 10, 11] [0, 11, 1, 2, 3, 4, 5, 6, 7, 8, 9, 10] rfl rfl ⟨by decide, by decide, by decide⟩ (by decide) (fun _ => rfl) 8 0 rfl rfl rfl rfl hl.1 rfl (Nat.le_of_ble_eq_true rfl) dX0_isUpToDate_79 ⟨Nat.le_of_ble_eq_true rfl, Nat.le_of_ble_eq_true rfl⟩ (fun res_ u H locs hw hP hD hS => ?_)
    have hP : va_P D vwCl [(h0, .inr (0, [.int (nI now), .ref (ad 17), .ref (ad 18), .ref (ad 19), .ref (ad 20), .ref (ad 0)])), ((ad 0), .inr (8, [.int (nI rc), .int (nI lc), .ref (ad 7), .ref (ad 8), .ref (ad 9), .ref (ad 10), .ref (ad 11), .ref (ad 12), .ref (ad 13), .ref (ad 14), .ref (ad 15), .ref (ad 16)])), ((ad 7), .inl (cZ, 16, .inl (eB ru))), ((ad 8), .inl (cZ, 40, .inl (eB lu))), ((ad 10), .inl (cI, 40, .inl (eN al))), ((ad 11), .inl (cI, 80, .inl (eN rp))), ((ad 12), .inl (cI, 80, .inl (eN mp))), ((ad 13), .inl (cI, 16, .inl (eN pc))), ((ad 14), .inl (cI, 1024, .inl (eO an))), ((ad 15), .inl (cI, 640, .inl (eN po))), ((ad 19), .inl (cI, 5120, .inl (eN lm))), ((ad 20), .inl (cI, 65536, .inl (eO lo)))] H := hP
    have hD : va_D A [(h0, .inr (0, [.int (nI now), .ref (ad 17), .ref (ad 18), .ref (ad 19), .ref (ad 20), .ref (ad 0)])), ((ad 0), .inr (8, [.int (nI rc), .int (nI lc), .ref (ad 7), .ref (ad 8), .ref (ad 9), .ref (ad 10), .ref (ad 11), .ref (ad 12), .ref (ad 13), .ref (ad 14), .ref (ad 15), .ref (ad 16)])), ((ad 7), .inl (cZ, 16, .inl (eB ru))), ((ad 8), .inl (cZ, 40, .inl (eB lu))), ((ad 10), .inl (cI, 40, .inl (eN al))), ((ad 11), .inl (cI, 80, .inl (eN rp))), ((ad 12), .inl (cI, 80, .inl (eN mp))), ((ad 13), .inl (cI, 16, .inl (eN pc))), ((ad 14), .inl (cI, 1024, .inl (eO an))), ((ad 15), .inl (cI, 640, .inl (eN po))), ((ad 19), .inl (cI, 5120, .inl (eN lm))), ((ad 20), .inl (cI, 65536, .inl (eO lo)))] := hD
    obtain rfl : res_ = (nI ((r * 4 + a) * 16 + 0)) := hw
    refine lv_istore (lv' := [(4, .int (nI ((r * 4 + a) * 16 + 0))), (0, .ref h0), (1, .int (nI v)), (2, .int (nI r)), (3, .int (nI a))]) hx hb dX0_isUpToDate_82 hl (by decide) rfl (fun ls hl => ?_)
    refine lv_iload hx hb dX0_isUpToDate_84 (lv_at hl 0 rfl) ?_
    refine lv_istore (lv' := [(5, .int (nI ((r * 4 + a) * 16 + 0))), (4, .int (nI ((r * 4 + a) * 16 + 0))), (0, .ref h0), (1, .int (nI v)), (2, .int (nI r)), (3, .int (nI a))]) hx hb dX0_isUpToDate_86 hl (by decide) rfl (fun ls hl => ?_)
    refine k_loop (Nat) 88 6 (fun u => u ≤ 16 ∧ utd2 an lo v r a u) (fun u => 16 - u) (fun u => [(h0, .inr (0, [.int (nI now), .ref (ad 17), .ref (ad 18), .ref (ad 19), .ref (ad 20), .ref (ad 0)])), ((ad 0), .inr (8, [.int (nI rc), .int (nI lc), .ref (ad 7), .ref (ad 8), .ref (ad 9), .ref (ad 10), .ref (ad 11), .ref (ad 12), .ref (ad 13), .ref (ad 14), .ref (ad 15), .ref (ad 16)])), ((ad 7), .inl (cZ, 16, .inl (eB ru))), ((ad 8), .inl (cZ, 40, .inl (eB lu))), ((ad 10), .inl (cI, 40, .inl (eN al))), ((ad 11), .inl (cI, 80, .inl (eN rp))), ((ad 12), .inl (cI, 80, .inl (eN mp))), ((ad 13), .inl (cI, 16, .inl (eN pc))), ((ad 14), .inl (cI, 1024, .inl (eO an))), ((ad 15), .inl (cI, 640, .inl (eN po))), ((ad 19), .inl (cI, 5120, .inl (eN lm))), ((ad 20), .inl (cI, 65536, .inl (eO lo)))]) (fun u => [(0, .ref h0), (1, .int (nI v)), (2, .int (nI r)), (3, .int (nI a)), (4, .int (nI ((r * 4 + a) * 16 + 0))), (5, .int (nI ((r * 4 + a) * 16 + 0 + u)))]) ?_ (0) (⟨Nat.zero_le _, fun j hj => absurd hj (Nat.not_lt_zero j)⟩) (hP.sub [0, 1, 2, 3, 4, 5, 6, 7, 8, 9, 10, 11] rfl) (hD.sub [0, 1, 2, 3, 4, 5, 6, 7, 8, 9, 10, 11] (by decide) rfl) hS (lv_sub hl [2, 3, 4, 5, 1, 0] rfl)
    intro j H locs ls hinv hP hD hS hl ih_88
    have hinv : j ≤ 16 ∧ utd2 an lo v r a j := hinv
    have hP : va_P D vwCl [(h0, .inr (0, [.int (nI now), .ref (ad 17), .ref (ad 18), .ref (ad 19), .ref (ad 20), .ref (ad 0)])), ((ad 0), .inr (8, [.int (nI rc), .int (nI lc), .ref (ad 7), .ref (ad 8), .ref (ad 9), .ref (ad 10), .ref (ad 11), .ref (ad 12), .ref (ad 13), .ref (ad 14), .ref (ad 15), .ref (ad 16)])), ((ad 7), .inl (cZ, 16, .inl (eB ru))), ((ad 8), .inl (cZ, 40, .inl (eB lu))), ((ad 10), .inl (cI, 40, .inl (eN al))), ((ad 11), .inl (cI, 80, .inl (eN rp))), ((ad 12), .inl (cI, 80, .inl (eN mp))), ((ad 13), .inl (cI, 16, .inl (eN pc))), ((ad 14), .inl (cI, 1024, .inl (eO an))), ((ad 15), .inl (cI, 640, .inl (eN po))), ((ad 19), .inl (cI, 5120, .inl (eN lm))), ((ad 20), .inl (cI, 65536, .inl (eO lo)))] H := hP
    have hD : va_D A [(h0, .inr (0, [.int (nI now), .ref (ad 17), .ref (ad 18), .ref (ad 19), .ref (ad 20), .ref (ad 0)])), ((ad 0), .inr (8, [.int (nI rc), .int (nI lc), .ref (ad 7), .ref (ad 8), .ref (ad 9), .ref (ad 10), .ref (ad 11), .ref (ad 12), .ref (ad 13), .ref (ad 14), .ref (ad 15), .ref (ad 16)])), ((ad 7), .inl (cZ, 16, .inl (eB ru))), ((ad 8), .inl (cZ, 40, .inl (eB lu))), ((ad 10), .inl (cI, 40, .inl (eN al))), ((ad 11), .inl (cI, 80, .inl (eN rp))), ((ad 12), .inl (cI, 80, .inl (eN mp))), ((ad 13), .inl (cI, 16, .inl (eN pc))), ((ad 14), .inl (cI, 1024, .inl (eO an))), ((ad 15), .inl (cI, 640, .inl (eN po))), ((ad 19), .inl (cI, 5120, .inl (eN lm))), ((ad 20), .inl (cI, 65536, .inl (eO lo)))] := hD
    have hl : lv_has ls 6 [(0, .ref h0), (1, .int (nI v)), (2, .int (nI r)), (3, .int (nI a)), (4, .int (nI ((r * 4 + a) * 16 + 0))), (5, .int (nI ((r * 4 + a) * 16 + 0 + j)))] := hl
    have hinv2 : j ≤ 16 ∧ utd2 an lo v r a j := hinv
    refine lv_iload hx hb dX0_isUpToDate_88 (lv_at hl 5 rfl) ?_
    refine lv_iload hx hb dX0_isUpToDate_90 (lv_at hl 4 rfl) ?_
    refine lv_bipush (v := 16) hx hb dX0_isUpToDate_92 (by decide) ?_
    refine lv_iadd hx hb dX0_isUpToDate_94 ?_
    refine lv_topi (fun y ey => ?_)
    obtain rfl : y = (nI (((r * 4 + a) * 16 + 0) + 16)) := ey.trans (nI_add ((r * 4 + a) * 16 + 0) 16)
    refine lv_icmp_ge (tgt := 126) hx hb dX0_isUpToDate_95 (by decide) (fun c_95 => ?_) (fun c_95 => ?_)
    · have n_95 : (((r * 4 + a) * 16 + 0) + 16) ≤ ((r * 4 + a) * 16 + 0 + j) := (nI_leI (a := (((r * 4 + a) * 16 + 0) + 16)) (b := ((r * 4 + a) * 16 + 0 + j)) (by omega) (by omega)).mp c_95
      refine lv_iconst (v := 1) hx hb dX0_isUpToDate_126 (by decide) ?_
      have hje : j = 16 := by omega
      have hu2 : utd2 an lo v r a 16 := by rw [← hje]; exact hinv2.2
      exact k_zret E hK hP hD hS true [0, 1, 2, 3, 4, 5, 6, 7, 8, 9, 10, 11] (by decide) rfl ⟨rfl, ⟨fun _ => ⟨hu1, hu2⟩, fun _ => rfl⟩⟩ (by decide) (Nat.le_of_ble_eq_true rfl) (Nat.le_of_ble_eq_true rfl) dX0_isUpToDate_127
    · have n_95 : ¬ (((r * 4 + a) * 16 + 0) + 16) ≤ ((r * 4 + a) * 16 + 0 + j) := fun h => c_95 ((nI_leI (a := (((r * 4 + a) * 16 + 0) + 16)) (b := ((r * 4 + a) * 16 + 0 + j)) (by omega) (by omega)).mpr h)
      refine lv_aload_n hx hb dX0_isUpToDate_98 rfl (lv_at hl 0 rfl) ?_
      refine lv_iload_n hx hb dX0_isUpToDate_99 rfl (lv_at hl 1 rfl) ?_
      refine lv_iload hx hb dX0_isUpToDate_100 (lv_at hl 5 rfl) ?_
      refine kVi (As := [.int (nI v), .int (nI ((r * 4 + a) * 16 + 0 + j))]) (rest := []) (wr := [((ad 0), .inr (8, [.int (nI rc), .int (nI lc), .ref (ad 7), .ref (ad 8), .ref (ad 9), .ref (ad 10), .ref (ad 11), .ref (ad 12), .ref (ad 13), .ref (ad 14), .ref (ad 15), .ref (ad 16)])), ((ad 7), .inl (cZ, 16, .inl (eB ru))), ((ad 8), .inl (cZ, 40, .inl (eB lu))), ((ad 10), .inl (cI, 40, .inl (eN al))), ((ad 11), .inl (cI, 80, .inl (eN rp))), ((ad 12), .inl (cI, 80, .inl (eN mp))), ((ad 13), .inl (cI, 16, .inl (eN pc))), ((ad 14), .inl (cI, 1024, .inl (eO an))), ((ad 15), .inl (cI, 640, .inl (eN po))), ((ad 19), .inl (cI, 5120, .inl (eN lm)))]) (w2 := fun _ => [(h0, .inr (0, [.int (nI now), .ref (ad 17), .ref (ad 18), .ref (ad 19), .ref (ad 20), .ref (ad 0)])), ((ad 0), .inr (8, [.int (nI rc), .int (nI lc), .ref (ad 7), .ref (ad 8), .ref (ad 9), .ref (ad 10), .ref (ad 11), .ref (ad 12), .ref (ad 13), .ref (ad 14), .ref (ad 15), .ref (ad 16)])), ((ad 7), .inl (cZ, 16, .inl (eB ru))), ((ad 8), .inl (cZ, 40, .inl (eB lu))), ((ad 10), .inl (cI, 40, .inl (eN al))), ((ad 11), .inl (cI, 80, .inl (eN rp))), ((ad 12), .inl (cI, 80, .inl (eN mp))), ((ad 13), .inl (cI, 16, .inl (eN pc))), ((ad 14), .inl (cI, 1024, .inl (eO an))), ((ad 15), .inl (cI, 640, .inl (eN po))), ((ad 19), .inl (cI, 5120, .inl (eN lm))), ((ad 20), .inl (cI, 65536, .inl (eO lo)))]) ⟨hx, hb, hml, hown, hts⟩ hN (c_costListed l D cI cZ cJ h0 ad now lo v ((r * 4 + a) * 16 + 0 + j) (by omega)) (cwV 2 hts (k_gV (fun w h => m_isUpToDate_O w ((by decide +kernel : ∀ w ∈ ([.methodLink RX0 60 yX0_costListed, .instanceMethod yX0_costListed, .selects RX0 yX0_costListed yX0_costListed, .initialized RX0] : List Cond), w ∈ O_isUpToDate) w h)) m_isUpToDate_WcostListed gd_costListed) rfl rfl rfl (by decide +kernel) ⟨Nat.le_of_ble_eq_true rfl, Nat.le_of_ble_eq_true rfl⟩) hK hP hD hS hA [0, 11] [1, 2, 3, 4, 5, 6, 7, 8, 9, 10] [10, 0, 1, 2, 3, 4, 5, 6, 7, 8, 9, 11] rfl rfl ⟨by decide, by decide, by decide⟩ (by decide) (fun _ => rfl) 0 0 rfl rfl rfl rfl hl.1 rfl (Nat.le_of_ble_eq_true rfl) dX0_isUpToDate_102 ⟨Nat.le_of_ble_eq_true rfl, Nat.le_of_ble_eq_true rfl⟩ (fun res_ u H locs hw hP hD hS => ?_)
      have hP : va_P D vwCl [(h0, .inr (0, [.int (nI now), .ref (ad 17), .ref (ad 18), .ref (ad 19), .ref (ad 20), .ref (ad 0)])), ((ad 0), .inr (8, [.int (nI rc), .int (nI lc), .ref (ad 7), .ref (ad 8), .ref (ad 9), .ref (ad 10), .ref (ad 11), .ref (ad 12), .ref (ad 13), .ref (ad 14), .ref (ad 15), .ref (ad 16)])), ((ad 7), .inl (cZ, 16, .inl (eB ru))), ((ad 8), .inl (cZ, 40, .inl (eB lu))), ((ad 10), .inl (cI, 40, .inl (eN al))), ((ad 11), .inl (cI, 80, .inl (eN rp))), ((ad 12), .inl (cI, 80, .inl (eN mp))), ((ad 13), .inl (cI, 16, .inl (eN pc))), ((ad 14), .inl (cI, 1024, .inl (eO an))), ((ad 15), .inl (cI, 640, .inl (eN po))), ((ad 19), .inl (cI, 5120, .inl (eN lm))), ((ad 20), .inl (cI, 65536, .inl (eO lo)))] H := hP
      have hD : va_D A [(h0, .inr (0, [.int (nI now), .ref (ad 17), .ref (ad 18), .ref (ad 19), .ref (ad 20), .ref (ad 0)])), ((ad 0), .inr (8, [.int (nI rc), .int (nI lc), .ref (ad 7), .ref (ad 8), .ref (ad 9), .ref (ad 10), .ref (ad 11), .ref (ad 12), .ref (ad 13), .ref (ad 14), .ref (ad 15), .ref (ad 16)])), ((ad 7), .inl (cZ, 16, .inl (eB ru))), ((ad 8), .inl (cZ, 40, .inl (eB lu))), ((ad 10), .inl (cI, 40, .inl (eN al))), ((ad 11), .inl (cI, 80, .inl (eN rp))), ((ad 12), .inl (cI, 80, .inl (eN mp))), ((ad 13), .inl (cI, 16, .inl (eN pc))), ((ad 14), .inl (cI, 1024, .inl (eO an))), ((ad 15), .inl (cI, 640, .inl (eN po))), ((ad 19), .inl (cI, 5120, .inl (eN lm))), ((ad 20), .inl (cI, 65536, .inl (eO lo)))] := hD
      obtain rfl : res_ = (oI (lo (((r * 4 + a) * 16 + 0 + j) * 64 + v % 64))) := hw
      refine lv_aload_n hx hb dX0_isUpToDate_105 rfl (lv_at hl 0 rfl) ?_
      refine va_get (ci := 0) (v := .ref (ad 0)) (C := RX0) (T := TX0) (N := 6) hx hb hts m_isUpToDate_C0 hown hK hP 0 rfl rfl 5 (by decide) (hts (.fieldLink RX0 26 "RoutingDomain$Advertisements" "topology" "LRoutingDomain$Topology;") (m_isUpToDate_O _ (by decide +kernel))) (fun _ h9 => h9) rfl dX0_isUpToDate_106 ?_
      refine va_get (ci := 8) (v := .ref (ad 14)) (C := RX8) (T := TX8) (N := 12) hx hb hts m_isUpToDate_C8 hown hK hP 1 rfl rfl 9 (by decide) (hts (.fieldLink RX0 63 "RoutingDomain$Topology" "announced" "[I") (m_isUpToDate_O _ (by decide +kernel))) (fun _ h9 => h9) rfl dX0_isUpToDate_109 ?_
      refine lv_iload hx hb dX0_isUpToDate_112 (lv_at hl 5 rfl) ?_
      refine va_iald hx hb hK hP 8 0 rfl rfl (vp_in_nI (show ((r * 4 + a) * 16 + 0 + j) < 1024 from by omega) (by decide)) dX0_isUpToDate_114 ?_
      refine lv_topi (fun y ey => ?_)
      obtain rfl : y = (oI (an ((r * 4 + a) * 16 + 0 + j))) := ey.trans (ldO (f := an) (j := ((r * 4 + a) * 16 + 0 + j)) (by omega))
      refine lv_icmp_eq (tgt := 120) hx hb dX0_isUpToDate_115 (by decide) (fun c_115 => ?_) (fun c_115 => ?_)
      · refine lv_iinc (v := (nI (((r * 4 + a) * 16 + 0 + j) + 1))) (lv' := [(5, .int (nI (((r * 4 + a) * 16 + 0 + j) + 1))), (0, .ref h0), (1, .int (nI v)), (2, .int (nI r)), (3, .int (nI a)), (4, .int (nI ((r * 4 + a) * 16 + 0)))]) hx hb dX0_isUpToDate_120 hl (k := 5) rfl (nI_add ((r * 4 + a) * 16 + 0 + j) 1) (by decide) rfl (fun ls hl => ?_)
        refine lv_goto (tgt := 88) hx hb dX0_isUpToDate_123 (by decide) ?_
        rw [show ((((r * 4 + a) * 16 + 0 + j) + 1) : Nat) = ((r * 4 + a) * 16 + 0 + (j + 1)) from (by first | rfl | omega | (simp [itr_s, n_14, n_95]; done))] at hl
        exact ih_88 (j + 1) H locs ls (⟨by show j + 1 ≤ 16; omega, utd2_s hinv2.2 ((oI_inj (fun w hw => by have := hlo _ w hw; omega) (fun w hw => by have := han _ w hw; omega)).mp c_115)⟩) (by show 16 - (j + 1) < 16 - j; omega) (hP.sub [0, 1, 2, 3, 4, 5, 6, 7, 8, 9, 10, 11] rfl) (hD.sub [0, 1, 2, 3, 4, 5, 6, 7, 8, 9, 10, 11] (by decide) rfl) hS (lv_sub hl [1, 2, 3, 4, 5, 0] rfl)
      · refine lv_iconst (v := 0) hx hb dX0_isUpToDate_118 (by decide) ?_
        have hne : ¬ lo (((r * 4 + a) * 16 + j) * 64 + v % 64) = an ((r * 4 + a) * 16 + j) := fun q => c_115 (congrArg oI q)
        exact k_zret E hK hP hD hS false [0, 1, 2, 3, 4, 5, 6, 7, 8, 9, 10, 11] (by decide) rfl ⟨rfl, ⟨fun q => absurd q (by decide), fun q => absurd (q.2 j (by omega)) hne⟩⟩ (by decide) (Nat.le_of_ble_eq_true rfl) (Nat.le_of_ble_eq_true rfl) dX0_isUpToDate_119
  · have n_14 : ¬ (pc r) ≤ i := fun h => c_14 ((nI_leI (a := (pc r)) (b := i) (by omega) (by omega)).mpr h)
    have hq1 := hpo (r * 40 + i)
    have hq2 := hal (po (r * 40 + i) / 2)
    have hq3 := hlm (po (r * 40 + i) * 64 + v % 64)
    have hq4 : mtl ru lu rp mp (po (r * 40 + i)) < 2 ^ 20 := by
      unfold mtl
      split
      · exact hmp _
      · decide
    refine lv_aload_n hx hb dX0_isUpToDate_17 rfl (lv_at hl 0 rfl) ?_
    refine va_get (ci := 0) (v := .ref (ad 0)) (C := RX0) (T := TX0) (N := 6) hx hb hts m_isUpToDate_C0 hown hK hP 0 rfl rfl 5 (by decide) (hts (.fieldLink RX0 26 "RoutingDomain$Advertisements" "topology" "LRoutingDomain$Topology;") (m_isUpToDate_O _ (by decide +kernel))) (fun _ h9 => h9) rfl dX0_isUpToDate_18 ?_
    refine lv_iload_n hx hb dX0_isUpToDate_21 rfl (lv_at hl 2 rfl) ?_
    refine lv_iload hx hb dX0_isUpToDate_22 (lv_at hl 4 rfl) ?_
    refine kVi (As := [.int (nI r), .int (nI i)]) (rest := []) (wr := [(h0, .inr (0, [.int (nI now), .ref (ad 17), .ref (ad 18), .ref (ad 19), .ref (ad 20), .ref (ad 0)])), ((ad 7), .inl (cZ, 16, .inl (eB ru))), ((ad 8), .inl (cZ, 40, .inl (eB lu))), ((ad 10), .inl (cI, 40, .inl (eN al))), ((ad 11), .inl (cI, 80, .inl (eN rp))), ((ad 12), .inl (cI, 80, .inl (eN mp))), ((ad 13), .inl (cI, 16, .inl (eN pc))), ((ad 14), .inl (cI, 1024, .inl (eO an))), ((ad 19), .inl (cI, 5120, .inl (eN lm))), ((ad 20), .inl (cI, 65536, .inl (eO lo)))]) (w2 := fun _ => [(h0, .inr (0, [.int (nI now), .ref (ad 17), .ref (ad 18), .ref (ad 19), .ref (ad 20), .ref (ad 0)])), ((ad 0), .inr (8, [.int (nI rc), .int (nI lc), .ref (ad 7), .ref (ad 8), .ref (ad 9), .ref (ad 10), .ref (ad 11), .ref (ad 12), .ref (ad 13), .ref (ad 14), .ref (ad 15), .ref (ad 16)])), ((ad 7), .inl (cZ, 16, .inl (eB ru))), ((ad 8), .inl (cZ, 40, .inl (eB lu))), ((ad 10), .inl (cI, 40, .inl (eN al))), ((ad 11), .inl (cI, 80, .inl (eN rp))), ((ad 12), .inl (cI, 80, .inl (eN mp))), ((ad 13), .inl (cI, 16, .inl (eN pc))), ((ad 14), .inl (cI, 1024, .inl (eO an))), ((ad 15), .inl (cI, 640, .inl (eN po))), ((ad 19), .inl (cI, 5120, .inl (eN lm))), ((ad 20), .inl (cI, 65536, .inl (eO lo)))]) ⟨hx, hb, hml, hown, hts⟩ hN (c_portAt l D cI cZ cJ (ad 0) ad rc lc po r i hr (by omega)) (cwV 2 hts (k_gV (fun w h => m_isUpToDate_O w ((by decide +kernel : ∀ w ∈ ([.methodLink RX0 43 yX8_portAt, .instanceMethod yX8_portAt, .selects RX8 yX8_portAt yX8_portAt, .initialized RX8] : List Cond), w ∈ O_isUpToDate) w h)) m_isUpToDate_WportAt gd_portAt) rfl rfl rfl (by decide +kernel) ⟨Nat.le_of_ble_eq_true rfl, Nat.le_of_ble_eq_true rfl⟩) hK hP hD hS hA [1, 9] [0, 2, 3, 4, 5, 6, 7, 8, 10, 11] [0, 10, 1, 2, 3, 4, 5, 6, 7, 11, 8, 9] rfl rfl ⟨by decide, by decide, by decide⟩ (by decide) (fun _ => rfl) 8 0 rfl rfl rfl rfl hl.1 rfl (Nat.le_of_ble_eq_true rfl) dX0_isUpToDate_24 ⟨Nat.le_of_ble_eq_true rfl, Nat.le_of_ble_eq_true rfl⟩ (fun res_ u H locs hw hP hD hS => ?_)
    have hP : va_P D vwCl [(h0, .inr (0, [.int (nI now), .ref (ad 17), .ref (ad 18), .ref (ad 19), .ref (ad 20), .ref (ad 0)])), ((ad 0), .inr (8, [.int (nI rc), .int (nI lc), .ref (ad 7), .ref (ad 8), .ref (ad 9), .ref (ad 10), .ref (ad 11), .ref (ad 12), .ref (ad 13), .ref (ad 14), .ref (ad 15), .ref (ad 16)])), ((ad 7), .inl (cZ, 16, .inl (eB ru))), ((ad 8), .inl (cZ, 40, .inl (eB lu))), ((ad 10), .inl (cI, 40, .inl (eN al))), ((ad 11), .inl (cI, 80, .inl (eN rp))), ((ad 12), .inl (cI, 80, .inl (eN mp))), ((ad 13), .inl (cI, 16, .inl (eN pc))), ((ad 14), .inl (cI, 1024, .inl (eO an))), ((ad 15), .inl (cI, 640, .inl (eN po))), ((ad 19), .inl (cI, 5120, .inl (eN lm))), ((ad 20), .inl (cI, 65536, .inl (eO lo)))] H := hP
    have hD : va_D A [(h0, .inr (0, [.int (nI now), .ref (ad 17), .ref (ad 18), .ref (ad 19), .ref (ad 20), .ref (ad 0)])), ((ad 0), .inr (8, [.int (nI rc), .int (nI lc), .ref (ad 7), .ref (ad 8), .ref (ad 9), .ref (ad 10), .ref (ad 11), .ref (ad 12), .ref (ad 13), .ref (ad 14), .ref (ad 15), .ref (ad 16)])), ((ad 7), .inl (cZ, 16, .inl (eB ru))), ((ad 8), .inl (cZ, 40, .inl (eB lu))), ((ad 10), .inl (cI, 40, .inl (eN al))), ((ad 11), .inl (cI, 80, .inl (eN rp))), ((ad 12), .inl (cI, 80, .inl (eN mp))), ((ad 13), .inl (cI, 16, .inl (eN pc))), ((ad 14), .inl (cI, 1024, .inl (eO an))), ((ad 15), .inl (cI, 640, .inl (eN po))), ((ad 19), .inl (cI, 5120, .inl (eN lm))), ((ad 20), .inl (cI, 65536, .inl (eO lo)))] := hD
    obtain rfl : res_ = (nI (po (r * 40 + i))) := hw
    refine lv_istore (lv' := [(5, .int (nI (po (r * 40 + i)))), (0, .ref h0), (1, .int (nI v)), (2, .int (nI r)), (3, .int (nI a)), (4, .int (nI i))]) hx hb dX0_isUpToDate_27 hl (by decide) rfl (fun ls hl => ?_)
    refine lv_aload_n hx hb dX0_isUpToDate_29 rfl (lv_at hl 1 rfl) ?_
    refine va_get (ci := 0) (v := .ref (ad 0)) (C := RX0) (T := TX0) (N := 6) hx hb hts m_isUpToDate_C0 hown hK hP 0 rfl rfl 5 (by decide) (hts (.fieldLink RX0 26 "RoutingDomain$Advertisements" "topology" "LRoutingDomain$Topology;") (m_isUpToDate_O _ (by decide +kernel))) (fun _ h9 => h9) rfl dX0_isUpToDate_30 ?_
    refine va_get (ci := 8) (v := .ref (ad 10)) (C := RX8) (T := TX8) (N := 12) hx hb hts m_isUpToDate_C8 hown hK hP 1 rfl rfl 5 (by decide) (hts (.fieldLink RX0 47 "RoutingDomain$Topology" "areaOfLink" "[I") (m_isUpToDate_O _ (by decide +kernel))) (fun _ h9 => h9) rfl dX0_isUpToDate_33 ?_
    refine lv_iload hx hb dX0_isUpToDate_36 (lv_at hl 0 rfl) ?_
    refine lv_iconst (v := 1) hx hb dX0_isUpToDate_38 (by decide) ?_
    refine lv_ishr hx hb dX0_isUpToDate_39 ?_
    refine lv_topi (fun y ey => ?_)
    obtain rfl : y = (nI ((po (r * 40 + i)) / 2)) := ey.trans (k_shr (a := (po (r * 40 + i))) (by omega) 1 (by decide))
    refine va_iald hx hb hK hP 4 0 rfl rfl (vp_in_nI (show ((po (r * 40 + i)) / 2) < 40 from by omega) (by decide)) dX0_isUpToDate_40 ?_
    refine lv_topi (fun y ey => ?_)
    obtain rfl : y = (nI (al ((po (r * 40 + i)) / 2))) := ey.trans (ldN (f := al) (j := ((po (r * 40 + i)) / 2)) (by omega))
    refine lv_iload_n hx hb dX0_isUpToDate_41 rfl (lv_at hl 4 rfl) ?_
    refine lv_icmp_ne (tgt := 66) hx hb dX0_isUpToDate_42 (by decide) (fun c_42 => ?_) (fun c_42 => ?_)
    · have n_42 : ¬ (al ((po (r * 40 + i)) / 2)) = a := fun h => c_42 ((nI_eq (a := (al ((po (r * 40 + i)) / 2))) (b := a) (by omega) (by omega)).mpr h)
      refine lv_iinc (v := (nI (i + 1))) (lv' := [(4, .int (nI (i + 1))), (5, .int (nI (po (r * 40 + i)))), (0, .ref h0), (1, .int (nI v)), (2, .int (nI r)), (3, .int (nI a))]) hx hb dX0_isUpToDate_66 hl (k := 5) rfl (nI_add i 1) (by decide) rfl (fun ls hl => ?_)
      refine lv_goto (tgt := 3) hx hb dX0_isUpToDate_69 (by decide) ?_
      exact ih_3 (i + 1) H locs ls (⟨by show i + 1 ≤ pc r; omega, utd1_s hinv.2 (fun q => absurd q n_42)⟩) (by show pc r - (i + 1) < pc r - i; omega) (hP.sub [0, 1, 2, 3, 4, 5, 6, 7, 8, 9, 10, 11] rfl) (hD.sub [0, 1, 2, 3, 4, 5, 6, 7, 8, 9, 10, 11] (by decide) rfl) hS (lv_sub hl [2, 3, 4, 5, 0] rfl)
    · have n_42 : (al ((po (r * 40 + i)) / 2)) = a := (nI_eq (a := (al ((po (r * 40 + i)) / 2))) (b := a) (by omega) (by omega)).mp c_42
      refine lv_aload_n hx hb dX0_isUpToDate_45 rfl (lv_at hl 1 rfl) ?_
      refine lv_iload_n hx hb dX0_isUpToDate_46 rfl (lv_at hl 2 rfl) ?_
      refine lv_iload hx hb dX0_isUpToDate_47 (lv_at hl 0 rfl) ?_
      refine kVi (As := [.int (nI v), .int (nI (po (r * 40 + i)))]) (rest := []) (wr := [((ad 0), .inr (8, [.int (nI rc), .int (nI lc), .ref (ad 7), .ref (ad 8), .ref (ad 9), .ref (ad 10), .ref (ad 11), .ref (ad 12), .ref (ad 13), .ref (ad 14), .ref (ad 15), .ref (ad 16)])), ((ad 7), .inl (cZ, 16, .inl (eB ru))), ((ad 8), .inl (cZ, 40, .inl (eB lu))), ((ad 10), .inl (cI, 40, .inl (eN al))), ((ad 11), .inl (cI, 80, .inl (eN rp))), ((ad 12), .inl (cI, 80, .inl (eN mp))), ((ad 13), .inl (cI, 16, .inl (eN pc))), ((ad 14), .inl (cI, 1024, .inl (eO an))), ((ad 15), .inl (cI, 640, .inl (eN po))), ((ad 20), .inl (cI, 65536, .inl (eO lo)))]) (w2 := fun _ => [(h0, .inr (0, [.int (nI now), .ref (ad 17), .ref (ad 18), .ref (ad 19), .ref (ad 20), .ref (ad 0)])), ((ad 0), .inr (8, [.int (nI rc), .int (nI lc), .ref (ad 7), .ref (ad 8), .ref (ad 9), .ref (ad 10), .ref (ad 11), .ref (ad 12), .ref (ad 13), .ref (ad 14), .ref (ad 15), .ref (ad 16)])), ((ad 7), .inl (cZ, 16, .inl (eB ru))), ((ad 8), .inl (cZ, 40, .inl (eB lu))), ((ad 10), .inl (cI, 40, .inl (eN al))), ((ad 11), .inl (cI, 80, .inl (eN rp))), ((ad 12), .inl (cI, 80, .inl (eN mp))), ((ad 13), .inl (cI, 16, .inl (eN pc))), ((ad 14), .inl (cI, 1024, .inl (eO an))), ((ad 15), .inl (cI, 640, .inl (eN po))), ((ad 19), .inl (cI, 5120, .inl (eN lm))), ((ad 20), .inl (cI, 65536, .inl (eO lo)))]) ⟨hx, hb, hml, hown, hts⟩ hN (c_metricListed l D cI cZ cJ h0 ad now lm v (po (r * 40 + i)) hq1) (cwV 2 hts (k_gV (fun w h => m_isUpToDate_O w ((by decide +kernel : ∀ w ∈ ([.methodLink RX0 50 yX0_metricListed, .instanceMethod yX0_metricListed, .selects RX0 yX0_metricListed yX0_metricListed, .initialized RX0] : List Cond), w ∈ O_isUpToDate) w h)) m_isUpToDate_WmetricListed gd_metricListed) rfl rfl rfl (by decide +kernel) ⟨Nat.le_of_ble_eq_true rfl, Nat.le_of_ble_eq_true rfl⟩) hK hP hD hS hA [0, 10] [1, 2, 3, 4, 5, 6, 7, 8, 9, 11] [10, 0, 1, 2, 3, 4, 5, 6, 7, 8, 11, 9] rfl rfl ⟨by decide, by decide, by decide⟩ (by decide) (fun _ => rfl) 0 0 rfl rfl rfl rfl hl.1 rfl (Nat.le_of_ble_eq_true rfl) dX0_isUpToDate_49 ⟨Nat.le_of_ble_eq_true rfl, Nat.le_of_ble_eq_true rfl⟩ (fun res_ u H locs hw hP hD hS => ?_)
      have hP : va_P D vwCl [(h0, .inr (0, [.int (nI now), .ref (ad 17), .ref (ad 18), .ref (ad 19), .ref (ad 20), .ref (ad 0)])), ((ad 0), .inr (8, [.int (nI rc), .int (nI lc), .ref (ad 7), .ref (ad 8), .ref (ad 9), .ref (ad 10), .ref (ad 11), .ref (ad 12), .ref (ad 13), .ref (ad 14), .ref (ad 15), .ref (ad 16)])), ((ad 7), .inl (cZ, 16, .inl (eB ru))), ((ad 8), .inl (cZ, 40, .inl (eB lu))), ((ad 10), .inl (cI, 40, .inl (eN al))), ((ad 11), .inl (cI, 80, .inl (eN rp))), ((ad 12), .inl (cI, 80, .inl (eN mp))), ((ad 13), .inl (cI, 16, .inl (eN pc))), ((ad 14), .inl (cI, 1024, .inl (eO an))), ((ad 15), .inl (cI, 640, .inl (eN po))), ((ad 19), .inl (cI, 5120, .inl (eN lm))), ((ad 20), .inl (cI, 65536, .inl (eO lo)))] H := hP
      have hD : va_D A [(h0, .inr (0, [.int (nI now), .ref (ad 17), .ref (ad 18), .ref (ad 19), .ref (ad 20), .ref (ad 0)])), ((ad 0), .inr (8, [.int (nI rc), .int (nI lc), .ref (ad 7), .ref (ad 8), .ref (ad 9), .ref (ad 10), .ref (ad 11), .ref (ad 12), .ref (ad 13), .ref (ad 14), .ref (ad 15), .ref (ad 16)])), ((ad 7), .inl (cZ, 16, .inl (eB ru))), ((ad 8), .inl (cZ, 40, .inl (eB lu))), ((ad 10), .inl (cI, 40, .inl (eN al))), ((ad 11), .inl (cI, 80, .inl (eN rp))), ((ad 12), .inl (cI, 80, .inl (eN mp))), ((ad 13), .inl (cI, 16, .inl (eN pc))), ((ad 14), .inl (cI, 1024, .inl (eO an))), ((ad 15), .inl (cI, 640, .inl (eN po))), ((ad 19), .inl (cI, 5120, .inl (eN lm))), ((ad 20), .inl (cI, 65536, .inl (eO lo)))] := hD
      obtain rfl : res_ = (nI (lm ((po (r * 40 + i)) * 64 + v % 64))) := hw
      refine lv_aload_n hx hb dX0_isUpToDate_52 rfl (lv_at hl 1 rfl) ?_
      refine va_get (ci := 0) (v := .ref (ad 0)) (C := RX0) (T := TX0) (N := 6) hx hb hts m_isUpToDate_C0 hown hK hP 0 rfl rfl 5 (by decide) (hts (.fieldLink RX0 26 "RoutingDomain$Advertisements" "topology" "LRoutingDomain$Topology;") (m_isUpToDate_O _ (by decide +kernel))) (fun _ h9 => h9) rfl dX0_isUpToDate_53 ?_
      refine lv_iload hx hb dX0_isUpToDate_56 (lv_at hl 0 rfl) ?_
      refine kVi (As := [.int (nI (po (r * 40 + i)))]) (rest := [.int (nI (lm ((po (r * 40 + i)) * 64 + v % 64)))]) (wr := [(h0, .inr (0, [.int (nI now), .ref (ad 17), .ref (ad 18), .ref (ad 19), .ref (ad 20), .ref (ad 0)])), ((ad 10), .inl (cI, 40, .inl (eN al))), ((ad 13), .inl (cI, 16, .inl (eN pc))), ((ad 14), .inl (cI, 1024, .inl (eO an))), ((ad 15), .inl (cI, 640, .inl (eN po))), ((ad 19), .inl (cI, 5120, .inl (eN lm))), ((ad 20), .inl (cI, 65536, .inl (eO lo)))]) (w2 := fun _ => [(h0, .inr (0, [.int (nI now), .ref (ad 17), .ref (ad 18), .ref (ad 19), .ref (ad 20), .ref (ad 0)])), ((ad 0), .inr (8, [.int (nI rc), .int (nI lc), .ref (ad 7), .ref (ad 8), .ref (ad 9), .ref (ad 10), .ref (ad 11), .ref (ad 12), .ref (ad 13), .ref (ad 14), .ref (ad 15), .ref (ad 16)])), ((ad 7), .inl (cZ, 16, .inl (eB ru))), ((ad 8), .inl (cZ, 40, .inl (eB lu))), ((ad 10), .inl (cI, 40, .inl (eN al))), ((ad 11), .inl (cI, 80, .inl (eN rp))), ((ad 12), .inl (cI, 80, .inl (eN mp))), ((ad 13), .inl (cI, 16, .inl (eN pc))), ((ad 14), .inl (cI, 1024, .inl (eO an))), ((ad 15), .inl (cI, 640, .inl (eN po))), ((ad 19), .inl (cI, 5120, .inl (eN lm))), ((ad 20), .inl (cI, 65536, .inl (eO lo)))]) ⟨hx, hb, hml, hown, hts⟩ hN (c_metricToList l D cI cZ cJ (ad 0) ad rc lc ru lu rp mp (po (r * 40 + i)) hq1 hrp) (cwV 1 hts (k_gV (fun w h => m_isUpToDate_O w ((by decide +kernel : ∀ w ∈ ([.methodLink RX0 53 yX8_metricToList, .instanceMethod yX8_metricToList, .selects RX8 yX8_metricToList yX8_metricToList, .initialized RX8] : List Cond), w ∈ O_isUpToDate) w h)) m_isUpToDate_WmetricToList gd_metricToList) rfl rfl rfl (by decide +kernel) ⟨Nat.le_of_ble_eq_true rfl, Nat.le_of_ble_eq_true rfl⟩) hK hP hD hS hA [1, 2, 3, 5, 6] [0, 4, 7, 8, 9, 10, 11] [0, 7, 8, 9, 1, 10, 11, 2, 3, 4, 5, 6] rfl rfl ⟨by decide, by decide, by decide⟩ (by decide) (fun _ => rfl) 8 0 rfl rfl rfl rfl hl.1 rfl (Nat.le_of_ble_eq_true rfl) dX0_isUpToDate_58 ⟨Nat.le_of_ble_eq_true rfl, Nat.le_of_ble_eq_true rfl⟩ (fun res_ u H locs hw hP hD hS => ?_)
      have hP : va_P D vwCl [(h0, .inr (0, [.int (nI now), .ref (ad 17), .ref (ad 18), .ref (ad 19), .ref (ad 20), .ref (ad 0)])), ((ad 0), .inr (8, [.int (nI rc), .int (nI lc), .ref (ad 7), .ref (ad 8), .ref (ad 9), .ref (ad 10), .ref (ad 11), .ref (ad 12), .ref (ad 13), .ref (ad 14), .ref (ad 15), .ref (ad 16)])), ((ad 7), .inl (cZ, 16, .inl (eB ru))), ((ad 8), .inl (cZ, 40, .inl (eB lu))), ((ad 10), .inl (cI, 40, .inl (eN al))), ((ad 11), .inl (cI, 80, .inl (eN rp))), ((ad 12), .inl (cI, 80, .inl (eN mp))), ((ad 13), .inl (cI, 16, .inl (eN pc))), ((ad 14), .inl (cI, 1024, .inl (eO an))), ((ad 15), .inl (cI, 640, .inl (eN po))), ((ad 19), .inl (cI, 5120, .inl (eN lm))), ((ad 20), .inl (cI, 65536, .inl (eO lo)))] H := hP
      have hD : va_D A [(h0, .inr (0, [.int (nI now), .ref (ad 17), .ref (ad 18), .ref (ad 19), .ref (ad 20), .ref (ad 0)])), ((ad 0), .inr (8, [.int (nI rc), .int (nI lc), .ref (ad 7), .ref (ad 8), .ref (ad 9), .ref (ad 10), .ref (ad 11), .ref (ad 12), .ref (ad 13), .ref (ad 14), .ref (ad 15), .ref (ad 16)])), ((ad 7), .inl (cZ, 16, .inl (eB ru))), ((ad 8), .inl (cZ, 40, .inl (eB lu))), ((ad 10), .inl (cI, 40, .inl (eN al))), ((ad 11), .inl (cI, 80, .inl (eN rp))), ((ad 12), .inl (cI, 80, .inl (eN mp))), ((ad 13), .inl (cI, 16, .inl (eN pc))), ((ad 14), .inl (cI, 1024, .inl (eO an))), ((ad 15), .inl (cI, 640, .inl (eN po))), ((ad 19), .inl (cI, 5120, .inl (eN lm))), ((ad 20), .inl (cI, 65536, .inl (eO lo)))] := hD
      obtain rfl : res_ = (nI (mtl ru lu rp mp (po (r * 40 + i)))) := hw
      refine lv_icmp_eq (tgt := 66) hx hb dX0_isUpToDate_61 (by decide) (fun c_61 => ?_) (fun c_61 => ?_)
      · have n_61 : (lm ((po (r * 40 + i)) * 64 + v % 64)) = (mtl ru lu rp mp (po (r * 40 + i))) := (nI_eq (a := (lm ((po (r * 40 + i)) * 64 + v % 64))) (b := (mtl ru lu rp mp (po (r * 40 + i)))) (by omega) (by omega)).mp c_61
        refine lv_iinc (v := (nI (i + 1))) (lv' := [(4, .int (nI (i + 1))), (5, .int (nI (po (r * 40 + i)))), (0, .ref h0), (1, .int (nI v)), (2, .int (nI r)), (3, .int (nI a))]) hx hb dX0_isUpToDate_66 hl (k := 5) rfl (nI_add i 1) (by decide) rfl (fun ls hl => ?_)
        refine lv_goto (tgt := 3) hx hb dX0_isUpToDate_69 (by decide) ?_
        exact ih_3 (i + 1) H locs ls (⟨by show i + 1 ≤ pc r; omega, utd1_s hinv.2 (fun _ => n_61)⟩) (by show pc r - (i + 1) < pc r - i; omega) (hP.sub [0, 1, 2, 3, 4, 5, 6, 7, 8, 9, 10, 11] rfl) (hD.sub [0, 1, 2, 3, 4, 5, 6, 7, 8, 9, 10, 11] (by decide) rfl) hS (lv_sub hl [2, 3, 4, 5, 0] rfl)
      · have n_61 : ¬ (lm ((po (r * 40 + i)) * 64 + v % 64)) = (mtl ru lu rp mp (po (r * 40 + i))) := fun h => c_61 ((nI_eq (a := (lm ((po (r * 40 + i)) * 64 + v % 64))) (b := (mtl ru lu rp mp (po (r * 40 + i)))) (by omega) (by omega)).mpr h)
        refine lv_iconst (v := 0) hx hb dX0_isUpToDate_64 (by decide) ?_
        exact k_zret E hK hP hD hS false [0, 1, 2, 3, 4, 5, 6, 7, 8, 9, 10, 11] (by decide) rfl ⟨rfl, ⟨fun q => absurd q (by decide), fun q => absurd (q.1 i (by omega) n_42) n_61⟩⟩ (by decide) (Nat.le_of_ble_eq_true rfl) (Nat.le_of_ble_eq_true rfl) dX0_isUpToDate_65

def dsB (ru lu : Nat → Bool) (rp mp al po : Nat → Nat) (r a sl : Nat) (i : Nat) (f : Nat → Nat) : Nat → Nat := if al (po (r * 40 + i) / 2) = a then fs f (po (r * 40 + i) * 64 + sl) (mtl ru lu rp mp (po (r * 40 + i))) else f
def dsC (an : Nat → Option Nat) (n sl : Nat) (j : Nat) (f : Nat → Option Nat) : Nat → Option Nat := fs f ((n + j) * 64 + sl) (an (n + j))
def O_describe : List Cond := [.fieldLink RX0 26 "RoutingDomain$Advertisements" "topology" "LRoutingDomain$Topology;", .fieldLink RX0 38 "RoutingDomain$Topology" "portCount" "[I", .methodLink RX0 56 yX8_announcementAt, .instanceMethod yX8_announcementAt, .selects RX8 yX8_announcementAt yX8_announcementAt, .initialized RX8, .fieldLink RX0 23 "RoutingDomain$Advertisements" "listedCosts" "[I", .fieldLink RX0 63 "RoutingDomain$Topology" "announced" "[I", .methodLink RX0 43 yX8_portAt, .instanceMethod yX8_portAt, .selects RX8 yX8_portAt yX8_portAt, .fieldLink RX0 47 "RoutingDomain$Topology" "areaOfLink" "[I", .fieldLink RX0 19 "RoutingDomain$Advertisements" "listedMetrics" "[I", .methodLink RX0 53 yX8_metricToList, .instanceMethod yX8_metricToList, .selects RX8 yX8_metricToList yX8_metricToList]
def W_describe : List Cond := .code yX0_describe cX0_describe 7 none :: (O_describe ++ (wsX00 ++ (wsX80 ++ (W_announcementAt ++ (W_portAt ++ W_metricToList)))))
theorem m_describe_O : ∀ w ∈ O_describe, w ∈ W_describe := fun _ h => List.mem_cons_of_mem _ (List.mem_append_left _ h)
theorem m_describe_C0 : ∀ w ∈ wsX00, w ∈ W_describe := fun _ h => List.mem_cons_of_mem _ (List.mem_append_right _ (List.mem_append_left _ h))
theorem m_describe_C8 : ∀ w ∈ wsX80, w ∈ W_describe := fun _ h => List.mem_cons_of_mem _ (List.mem_append_right _ (List.mem_append_right _ (List.mem_append_left _ h)))
theorem m_describe_WannouncementAt : ∀ w ∈ W_announcementAt, w ∈ W_describe := fun _ h => List.mem_cons_of_mem _ (List.mem_append_right _ (List.mem_append_right _ (List.mem_append_right _ (List.mem_append_left _ h))))
theorem m_describe_WportAt : ∀ w ∈ W_portAt, w ∈ W_describe := fun _ h => List.mem_cons_of_mem _ (List.mem_append_right _ (List.mem_append_right _ (List.mem_append_right _ (List.mem_append_right _ (List.mem_append_left _ h)))))
theorem m_describe_WmetricToList : ∀ w ∈ W_metricToList, w ∈ W_describe := fun _ h => List.mem_cons_of_mem _ (List.mem_append_right _ (List.mem_append_right _ (List.mem_append_right _ (List.mem_append_right _ (List.mem_append_right _ h)))))
theorem gdO_describe : O_describe.all goodWord = true := by decide +kernel
theorem gd_describe : W_describe.all goodWord = true := k_all_cons rfl (k_all_app gdO_describe (k_all_app gdC_0 (k_all_app gdC_8 (k_all_app gd_announcementAt (k_all_app gd_portAt gd_metricToList)))))
set_option maxHeartbeats 4000000 in
set_option maxRecDepth 100000 in
theorem c_describe (l : Launch) (D : va_G) (cI cZ cJ : ClassId) (h0 : Nat) (ad : Nat → Nat) (now : Nat) (rc : Nat) (lc : Nat) (ru : Nat → Bool) (lu : Nat → Bool) (al : Nat → Nat) (rp : Nat → Nat) (mp : Nat → Nat) (pc : Nat → Nat) (an : Nat → Option Nat) (po : Nat → Nat) (lm : Nat → Nat) (lo : Nat → Option Nat) (v : Nat) (r : Nat) (a : Nat) (hv : v < 69632) (hr : r < 16) (ha : a < 4) (hpc : pc r ≤ 40) (hpo : ∀ j, po j < 80) (hrp : ∀ j, rp j < 16) (hal : ∀ j, al j < 4) : kMv l yX0_describe W_describe { frames := 3, cells := 0, slots := 0, locals := 90 } 0 0 D (kT cI cZ cJ) [.ref h0, .int (nI v), .int (nI r), .int (nI a)] [(h0, .inr (0, [.int (nI now), .ref (ad 17), .ref (ad 18), .ref (ad 19), .ref (ad 20), .ref (ad 0)])), ((ad 0), .inr (8, [.int (nI rc), .int (nI lc), .ref (ad 7), .ref (ad 8), .ref (ad 9), .ref (ad 10), .ref (ad 11), .ref (ad 12), .ref (ad 13), .ref (ad 14), .ref (ad 15), .ref (ad 16)])), ((ad 7), .inl (cZ, 16, .inl (eB ru))), ((ad 8), .inl (cZ, 40, .inl (eB lu))), ((ad 10), .inl (cI, 40, .inl (eN al))), ((ad 11), .inl (cI, 80, .inl (eN rp))), ((ad 12), .inl (cI, 80, .inl (eN mp))), ((ad 13), .inl (cI, 16, .inl (eN pc))), ((ad 14), .inl (cI, 1024, .inl (eO an))), ((ad 15), .inl (cI, 640, .inl (eN po))), ((ad 19), .inl (cI, 5120, .inl (eN lm))), ((ad 20), .inl (cI, 65536, .inl (eO lo)))] (S := Unit) (fun _ => True) (fun _ => [(h0, .inr (0, [.int (nI now), .ref (ad 17), .ref (ad 18), .ref (ad 19), .ref (ad 20), .ref (ad 0)])), ((ad 0), .inr (8, [.int (nI rc), .int (nI lc), .ref (ad 7), .ref (ad 8), .ref (ad 9), .ref (ad 10), .ref (ad 11), .ref (ad 12), .ref (ad 13), .ref (ad 14), .ref (ad 15), .ref (ad 16)])), ((ad 7), .inl (cZ, 16, .inl (eB ru))), ((ad 8), .inl (cZ, 40, .inl (eB lu))), ((ad 10), .inl (cI, 40, .inl (eN al))), ((ad 11), .inl (cI, 80, .inl (eN rp))), ((ad 12), .inl (cI, 80, .inl (eN mp))), ((ad 13), .inl (cI, 16, .inl (eN pc))), ((ad 14), .inl (cI, 1024, .inl (eO an))), ((ad 15), .inl (cI, 640, .inl (eN po))), ((ad 19), .inl (cI, 5120, .inl (eN (itr (dsB ru lu rp mp al po r a (v % 64)) (pc r) lm)))), ((ad 20), .inl (cI, 65536, .inl (eO (itr (dsC an ((r * 4 + a) * 16) (v % 64)) 16 lo))))]) := by
  refine kMv_of (lv := [(0, .ref h0), (1, .int (nI v)), (2, .int (nI r)), (3, .int (nI a))]) RX0 "describe" (by decide +kernel) rfl rfl rfl (Nat.le_of_ble_eq_true rfl) rfl ?_
  intro p e s m below meth c A H locs ls E hA hK hP hD hS hl
  obtain ⟨hx, hb, hr_, hts, hown, hlocks, hml, hin, hN⟩ := id E
  refine lv_iload_n hx hb dX0_describe_0 rfl (lv_at hl 1 rfl) ?_
  refine lv_bipush (v := 63) hx hb dX0_describe_1 (by decide) ?_
  refine lv_iand hx hb dX0_describe_3 ?_
  refine lv_topi (fun y ey => ?_)
  obtain rfl : y = (nI (v % 64)) := ey.trans (k_andN v 6)
  refine lv_istore (lv' := [(4, .int (nI (v % 64))), (0, .ref h0), (1, .int (nI v)), (2, .int (nI r)), (3, .int (nI a))]) hx hb dX0_describe_4 hl (by decide) rfl (fun ls hl => ?_)
  refine lv_iconst (v := 0) hx hb dX0_describe_6 (by decide) ?_
  refine lv_istore (lv' := [(5, .int 0), (4, .int (nI (v % 64))), (0, .ref h0), (1, .int (nI v)), (2, .int (nI r)), (3, .int (nI a))]) hx hb dX0_describe_7 hl (by decide) rfl (fun ls hl => ?_)
  refine k_loop (Nat) 9 7 (fun u => u ≤ pc r) (fun u => pc r - u) (fun u => [(h0, .inr (0, [.int (nI now), .ref (ad 17), .ref (ad 18), .ref (ad 19), .ref (ad 20), .ref (ad 0)])), ((ad 0), .inr (8, [.int (nI rc), .int (nI lc), .ref (ad 7), .ref (ad 8), .ref (ad 9), .ref (ad 10), .ref (ad 11), .ref (ad 12), .ref (ad 13), .ref (ad 14), .ref (ad 15), .ref (ad 16)])), ((ad 7), .inl (cZ, 16, .inl (eB ru))), ((ad 8), .inl (cZ, 40, .inl (eB lu))), ((ad 10), .inl (cI, 40, .inl (eN al))), ((ad 11), .inl (cI, 80, .inl (eN rp))), ((ad 12), .inl (cI, 80, .inl (eN mp))), ((ad 13), .inl (cI, 16, .inl (eN pc))), ((ad 14), .inl (cI, 1024, .inl (eO an))), ((ad 15), .inl (cI, 640, .inl (eN po))), ((ad 19), .inl (cI, 5120, .inl (eN (itr (dsB ru lu rp mp al po r a (v % 64)) u lm)))), ((ad 20), .inl (cI, 65536, .inl (eO lo)))]) (fun u => [(0, .ref h0), (1, .int (nI v)), (2, .int (nI r)), (3, .int (nI a)), (4, .int (nI (v % 64))), (5, .int (nI u))]) ?_ (0) (Nat.zero_le _) (hP.sub [0, 1, 2, 3, 4, 5, 6, 7, 8, 9, 10, 11] rfl) (hD.sub [0, 1, 2, 3, 4, 5, 6, 7, 8, 9, 10, 11] (by decide) rfl) hS (lv_sub hl [2, 3, 4, 5, 1, 0] rfl)
  intro i H locs ls hinv hP hD hS hl ih_9
  have hinv : i ≤ pc r := hinv
  have hP : va_P D vwCl [(h0, .inr (0, [.int (nI now), .ref (ad 17), .ref (ad 18), .ref (ad 19), .ref (ad 20), .ref (ad 0)])), ((ad 0), .inr (8, [.int (nI rc), .int (nI lc), .ref (ad 7), .ref (ad 8), .ref (ad 9), .ref (ad 10), .ref (ad 11), .ref (ad 12), .ref (ad 13), .ref (ad 14), .ref (ad 15), .ref (ad 16)])), ((ad 7), .inl (cZ, 16, .inl (eB ru))), ((ad 8), .inl (cZ, 40, .inl (eB lu))), ((ad 10), .inl (cI, 40, .inl (eN al))), ((ad 11), .inl (cI, 80, .inl (eN rp))), ((ad 12), .inl (cI, 80, .inl (eN mp))), ((ad 13), .inl (cI, 16, .inl (eN pc))), ((ad 14), .inl (cI, 1024, .inl (eO an))), ((ad 15), .inl (cI, 640, .inl (eN po))), ((ad 19), .inl (cI, 5120, .inl (eN (itr (dsB ru lu rp mp al po r a (v % 64)) i lm)))), ((ad 20), .inl (cI, 65536, .inl (eO lo)))] H := hP
  have hD : va_D A [(h0, .inr (0, [.int (nI now), .ref (ad 17), .ref (ad 18), .ref (ad 19), .ref (ad 20), .ref (ad 0)])), ((ad 0), .inr (8, [.int (nI rc), .int (nI lc), .ref (ad 7), .ref (ad 8), .ref (ad 9), .ref (ad 10), .ref (ad 11), .ref (ad 12), .ref (ad 13), .ref (ad 14), .ref (ad 15), .ref (ad 16)])), ((ad 7), .inl (cZ, 16, .inl (eB ru))), ((ad 8), .inl (cZ, 40, .inl (eB lu))), ((ad 10), .inl (cI, 40, .inl (eN al))), ((ad 11), .inl (cI, 80, .inl (eN rp))), ((ad 12), .inl (cI, 80, .inl (eN mp))), ((ad 13), .inl (cI, 16, .inl (eN pc))), ((ad 14), .inl (cI, 1024, .inl (eO an))), ((ad 15), .inl (cI, 640, .inl (eN po))), ((ad 19), .inl (cI, 5120, .inl (eN (itr (dsB ru lu rp mp al po r a (v % 64)) i lm)))), ((ad 20), .inl (cI, 65536, .inl (eO lo)))] := hD
  have hl : lv_has ls 7 [(0, .ref h0), (1, .int (nI v)), (2, .int (nI r)), (3, .int (nI a)), (4, .int (nI (v % 64))), (5, .int (nI i))] := hl
  refine lv_iload hx hb dX0_describe_9 (lv_at hl 5 rfl) ?_
  refine lv_aload_n hx hb dX0_describe_11 rfl (lv_at hl 0 rfl) ?_
  refine va_get (ci := 0) (v := .ref (ad 0)) (C := RX0) (T := TX0) (N := 6) hx hb hts m_describe_C0 hown hK hP 0 rfl rfl 5 (by decide) (hts (.fieldLink RX0 26 "RoutingDomain$Advertisements" "topology" "LRoutingDomain$Topology;") (m_describe_O _ (by decide +kernel))) (fun _ h9 => h9) rfl dX0_describe_12 ?_
  refine va_get (ci := 8) (v := .ref (ad 13)) (C := RX8) (T := TX8) (N := 12) hx hb hts m_describe_C8 hown hK hP 1 rfl rfl 8 (by decide) (hts (.fieldLink RX0 38 "RoutingDomain$Topology" "portCount" "[I") (m_describe_O _ (by decide +kernel))) (fun _ h9 => h9) rfl dX0_describe_15 ?_
  refine lv_iload_n hx hb dX0_describe_18 rfl (lv_at hl 2 rfl) ?_
  refine va_iald hx hb hK hP 7 0 rfl rfl (vp_in_nI (show r < 16 from by omega) (by decide)) dX0_describe_19 ?_
  refine lv_topi (fun y ey => ?_)
  obtain rfl : y = (nI (pc r)) := ey.trans (ldN (f := pc) (j := r) (by omega))
  refine lv_icmp_ge (tgt := 79) hx hb dX0_describe_20 (by decide) (fun c_20 => ?_) (fun c_20 => ?_)
  · have n_20 : (pc r) ≤ i := (nI_leI (a := (pc r)) (b := i) (by omega) (by omega)).mp c_20
    obtain rfl : i = pc r := by omega
    refine lv_aload_n hx hb dX0_describe_79 rfl (lv_at hl 0 rfl) ?_
    refine va_get (ci := 0) (v := .ref (ad 0)) (C := RX0) (T := TX0) (N := 6) hx hb hts m_describe_C0 hown hK hP 0 rfl rfl 5 (by decide) (hts (.fieldLink RX0 26 "RoutingDomain$Advertisements" "topology" "LRoutingDomain$Topology;") (m_describe_O _ (by decide +kernel))) (fun _ h9 => h9) rfl dX0_describe_80 ?_
    refine lv_iload_n hx hb dX0_describe_83 rfl (lv_at hl 2 rfl) ?_
    refine lv_iload_n hx hb dX0_describe_84 rfl (lv_at hl 3 rfl) ?_
    refine lv_iconst (v := 0) hx hb dX0_describe_85 (by decide) ?_
    refine kVi (As := [.int (nI r), .int (nI a), .int 0]) (rest := []) (wr := [(h0, .inr (0, [.int (nI now), .ref (ad 17), .ref (ad 18), .ref (ad 19), .ref (ad 20), .ref (ad 0)])), ((ad 7), .inl (cZ, 16, .inl (eB ru))), ((ad 8), .inl (cZ, 40, .inl (eB lu))), ((ad 10), .inl (cI, 40, .inl (eN al))), ((ad 11), .inl (cI, 80, .inl (eN rp))), ((ad 12), .inl (cI, 80, .inl (eN mp))), ((ad 13), .inl (cI, 16, .inl (eN pc))), ((ad 14), .inl (cI, 1024, .inl (eO an))), ((ad 15), .inl (cI, 640, .inl (eN po))), ((ad 19), .inl (cI, 5120, .inl (eN (itr (dsB ru lu rp mp al po r a (v % 64)) (pc r) lm)))), ((ad 20), .inl (cI, 65536, .inl (eO lo)))]) (w2 := fun _ => [(h0, .inr (0, [.int (nI now), .ref (ad 17), .ref (ad 18), .ref (ad 19), .ref (ad 20), .ref (ad 0)])), ((ad 0), .inr (8, [.int (nI rc), .int (nI lc), .ref (ad 7), .ref (ad 8), .ref (ad 9), .ref (ad 10), .ref (ad 11), .ref (ad 12), .ref (ad 13), .ref (ad 14), .ref (ad 15), .ref (ad 16)])), ((ad 7), .inl (cZ, 16, .inl (eB ru))), ((ad 8), .inl (cZ, 40, .inl (eB lu))), ((ad 10), .inl (cI, 40, .inl (eN al))), ((ad 11), .inl (cI, 80, .inl (eN rp))), ((ad 12), .inl (cI, 80, .inl (eN mp))), ((ad 13), .inl (cI, 16, .inl (eN pc))), ((ad 14), .inl (cI, 1024, .inl (eO an))), ((ad 15), .inl (cI, 640, .inl (eN po))), ((ad 19), .inl (cI, 5120, .inl (eN (itr (dsB ru lu rp mp al po r a (v % 64)) (pc r) lm)))), ((ad 20), .inl (cI, 65536, .inl (eO lo)))]) ⟨hx, hb, hml, hown, hts⟩ hN (c_announcementAt l D cI cZ cJ (ad 0) ad rc lc r a 0) (cwV 3 hts (k_gV (fun w h => m_describe_O w ((by decide +kernel : ∀ w ∈ ([.methodLink RX0 56 yX8_announcementAt, .instanceMethod yX8_announcementAt, .selects RX8 yX8_announcementAt yX8_announcementAt, .initialized RX8] : List Cond), w ∈ O_describe) w h)) m_describe_WannouncementAt gd_announcementAt) rfl rfl rfl (by decide +kernel) ⟨Nat.le_of_ble_eq_true rfl, Nat.le_of_ble_eq_true rfl⟩) hK hP hD hS hA [1] [0, 2, 3, 4, 5, 6, 7, 8, 9, 10, 11] [0, 11, 1, 2, 3, 4, 5, 6, 7, 8, 9, 10] rfl rfl ⟨by decide, by decide, by decide⟩ (by decide) (fun _ => rfl) 8 0 rfl rfl rfl rfl hl.1 rfl (Nat.le_of_ble_eq_true rfl) dX0_describe_86 ⟨Nat.le_of_ble_eq_true rfl, Nat.le_of_ble_eq_true rfl⟩ (fun res_ u H locs hw hP hD hS => ?_)
    have hP : va_P D vwCl [(h0, .inr (0, [.int (nI now), .ref (ad 17), .ref (ad 18), .ref (ad 19), .ref (ad 20), .ref (ad 0)])), ((ad 0), .inr (8, [.int (nI rc), .int (nI lc), .ref (ad 7), .ref (ad 8), .ref (ad 9), .ref (ad 10), .ref (ad 11), .ref (ad 12), .ref (ad 13), .ref (ad 14), .ref (ad 15), .ref (ad 16)])), ((ad 7), .inl (cZ, 16, .inl (eB ru))), ((ad 8), .inl (cZ, 40, .inl (eB lu))), ((ad 10), .inl (cI, 40, .inl (eN al))), ((ad 11), .inl (cI, 80, .inl (eN rp))), ((ad 12), .inl (cI, 80, .inl (eN mp))), ((ad 13), .inl (cI, 16, .inl (eN pc))), ((ad 14), .inl (cI, 1024, .inl (eO an))), ((ad 15), .inl (cI, 640, .inl (eN po))), ((ad 19), .inl (cI, 5120, .inl (eN (itr (dsB ru lu rp mp al po r a (v % 64)) (pc r) lm)))), ((ad 20), .inl (cI, 65536, .inl (eO lo)))] H := hP
    have hD : va_D A [(h0, .inr (0, [.int (nI now), .ref (ad 17), .ref (ad 18), .ref (ad 19), .ref (ad 20), .ref (ad 0)])), ((ad 0), .inr (8, [.int (nI rc), .int (nI lc), .ref (ad 7), .ref (ad 8), .ref (ad 9), .ref (ad 10), .ref (ad 11), .ref (ad 12), .ref (ad 13), .ref (ad 14), .ref (ad 15), .ref (ad 16)])), ((ad 7), .inl (cZ, 16, .inl (eB ru))), ((ad 8), .inl (cZ, 40, .inl (eB lu))), ((ad 10), .inl (cI, 40, .inl (eN al))), ((ad 11), .inl (cI, 80, .inl (eN rp))), ((ad 12), .inl (cI, 80, .inl (eN mp))), ((ad 13), .inl (cI, 16, .inl (eN pc))), ((ad 14), .inl (cI, 1024, .inl (eO an))), ((ad 15), .inl (cI, 640, .inl (eN po))), ((ad 19), .inl (cI, 5120, .inl (eN (itr (dsB ru lu rp mp al po r a (v % 64)) (pc r) lm)))), ((ad 20), .inl (cI, 65536, .inl (eO lo)))] := hD
    obtain rfl : res_ = (nI ((r * 4 + a) * 16 + 0)) := hw
    refine lv_istore (lv' := [(5, .int (nI ((r * 4 + a) * 16 + 0))), (0, .ref h0), (1, .int (nI v)), (2, .int (nI r)), (3, .int (nI a)), (4, .int (nI (v % 64)))]) hx hb dX0_describe_89 hl (by decide) rfl (fun ls hl => ?_)
    refine lv_iload hx hb dX0_describe_91 (lv_at hl 0 rfl) ?_
    refine lv_istore (lv' := [(6, .int (nI ((r * 4 + a) * 16 + 0))), (5, .int (nI ((r * 4 + a) * 16 + 0))), (0, .ref h0), (1, .int (nI v)), (2, .int (nI r)), (3, .int (nI a)), (4, .int (nI (v % 64)))]) hx hb dX0_describe_93 hl (by decide) rfl (fun ls hl => ?_)
    refine k_loop (Nat) 95 7 (fun u => u ≤ 16) (fun u => 16 - u) (fun u => [(h0, .inr (0, [.int (nI now), .ref (ad 17), .ref (ad 18), .ref (ad 19), .ref (ad 20), .ref (ad 0)])), ((ad 0), .inr (8, [.int (nI rc), .int (nI lc), .ref (ad 7), .ref (ad 8), .ref (ad 9), .ref (ad 10), .ref (ad 11), .ref (ad 12), .ref (ad 13), .ref (ad 14), .ref (ad 15), .ref (ad 16)])), ((ad 7), .inl (cZ, 16, .inl (eB ru))), ((ad 8), .inl (cZ, 40, .inl (eB lu))), ((ad 10), .inl (cI, 40, .inl (eN al))), ((ad 11), .inl (cI, 80, .inl (eN rp))), ((ad 12), .inl (cI, 80, .inl (eN mp))), ((ad 13), .inl (cI, 16, .inl (eN pc))), ((ad 14), .inl (cI, 1024, .inl (eO an))), ((ad 15), .inl (cI, 640, .inl (eN po))), ((ad 19), .inl (cI, 5120, .inl (eN (itr (dsB ru lu rp mp al po r a (v % 64)) (pc r) lm)))), ((ad 20), .inl (cI, 65536, .inl (eO (itr (dsC an ((r * 4 + a) * 16) (v % 64)) u lo))))]) (fun u => [(0, .ref h0), (1, .int (nI v)), (2, .int (nI r)), (3, .int (nI a)), (4, .int (nI (v % 64))), (5, .int (nI ((r * 4 + a) * 16 + 0))), (6, .int (nI ((r * 4 + a) * 16 + 0 + u)))]) ?_ (0) (Nat.zero_le _) (hP.sub [0, 1, 2, 3, 4, 5, 6, 7, 8, 9, 10, 11] rfl) (hD.sub [0, 1, 2, 3, 4, 5, 6, 7, 8, 9, 10, 11] (by decide) rfl) hS (lv_sub hl [2, 3, 4, 5, 6, 1, 0] rfl)
    intro j H locs ls hinv hP hD hS hl ih_95
    have hinv : j ≤ 16 := hinv
    have hP : va_P D vwCl [(h0, .inr (0, [.int (nI now), .ref (ad 17), .ref (ad 18), .ref (ad 19), .ref (ad 20), .ref (ad 0)])), ((ad 0), .inr (8, [.int (nI rc), .int (nI lc), .ref (ad 7), .ref (ad 8), .ref (ad 9), .ref (ad 10), .ref (ad 11), .ref (ad 12), .ref (ad 13), .ref (ad 14), .ref (ad 15), .ref (ad 16)])), ((ad 7), .inl (cZ, 16, .inl (eB ru))), ((ad 8), .inl (cZ, 40, .inl (eB lu))), ((ad 10), .inl (cI, 40, .inl (eN al))), ((ad 11), .inl (cI, 80, .inl (eN rp))), ((ad 12), .inl (cI, 80, .inl (eN mp))), ((ad 13), .inl (cI, 16, .inl (eN pc))), ((ad 14), .inl (cI, 1024, .inl (eO an))), ((ad 15), .inl (cI, 640, .inl (eN po))), ((ad 19), .inl (cI, 5120, .inl (eN (itr (dsB ru lu rp mp al po r a (v % 64)) (pc r) lm)))), ((ad 20), .inl (cI, 65536, .inl (eO (itr (dsC an ((r * 4 + a) * 16) (v % 64)) j lo))))] H := hP
    have hD : va_D A [(h0, .inr (0, [.int (nI now), .ref (ad 17), .ref (ad 18), .ref (ad 19), .ref (ad 20), .ref (ad 0)])), ((ad 0), .inr (8, [.int (nI rc), .int (nI lc), .ref (ad 7), .ref (ad 8), .ref (ad 9), .ref (ad 10), .ref (ad 11), .ref (ad 12), .ref (ad 13), .ref (ad 14), .ref (ad 15), .ref (ad 16)])), ((ad 7), .inl (cZ, 16, .inl (eB ru))), ((ad 8), .inl (cZ, 40, .inl (eB lu))), ((ad 10), .inl (cI, 40, .inl (eN al))), ((ad 11), .inl (cI, 80, .inl (eN rp))), ((ad 12), .inl (cI, 80, .inl (eN mp))), ((ad 13), .inl (cI, 16, .inl (eN pc))), ((ad 14), .inl (cI, 1024, .inl (eO an))), ((ad 15), .inl (cI, 640, .inl (eN po))), ((ad 19), .inl (cI, 5120, .inl (eN (itr (dsB ru lu rp mp al po r a (v % 64)) (pc r) lm)))), ((ad 20), .inl (cI, 65536, .inl (eO (itr (dsC an ((r * 4 + a) * 16) (v % 64)) j lo))))] := hD
    have hl : lv_has ls 7 [(0, .ref h0), (1, .int (nI v)), (2, .int (nI r)), (3, .int (nI a)), (4, .int (nI (v % 64))), (5, .int (nI ((r * 4 + a) * 16 + 0))), (6, .int (nI ((r * 4 + a) * 16 + 0 + j)))] := hl
    refine lv_iload hx hb dX0_describe_95 (lv_at hl 6 rfl) ?_
    refine lv_iload hx hb dX0_describe_97 (lv_at hl 5 rfl) ?_
    refine lv_bipush (v := 16) hx hb dX0_describe_99 (by decide) ?_
    refine lv_iadd hx hb dX0_describe_101 ?_
    refine lv_topi (fun y ey => ?_)
    obtain rfl : y = (nI (((r * 4 + a) * 16 + 0) + 16)) := ey.trans (nI_add ((r * 4 + a) * 16 + 0) 16)
    refine lv_icmp_ge (tgt := 134) hx hb dX0_describe_102 (by decide) (fun c_102 => ?_) (fun c_102 => ?_)
    · have n_102 : (((r * 4 + a) * 16 + 0) + 16) ≤ ((r * 4 + a) * 16 + 0 + j) := (nI_leI (a := (((r * 4 + a) * 16 + 0) + 16)) (b := ((r * 4 + a) * 16 + 0 + j)) (by omega) (by omega)).mp c_102
      obtain rfl : j = 16 := by omega
      exact k_vret E hK hP hD hS () [0, 1, 2, 3, 4, 5, 6, 7, 8, 9, 10, 11] (by decide) rfl trivial (Nat.le_of_ble_eq_true rfl) (Nat.le_of_ble_eq_true rfl) dX0_describe_134
    · have n_102 : ¬ (((r * 4 + a) * 16 + 0) + 16) ≤ ((r * 4 + a) * 16 + 0 + j) := fun h => c_102 ((nI_leI (a := (((r * 4 + a) * 16 + 0) + 16)) (b := ((r * 4 + a) * 16 + 0 + j)) (by omega) (by omega)).mpr h)
      refine lv_aload_n hx hb dX0_describe_105 rfl (lv_at hl 0 rfl) ?_
      refine va_get (ci := 0) (v := .ref (ad 20)) (C := RX0) (T := TX0) (N := 6) hx hb hts m_describe_C0 hown hK hP 0 rfl rfl 4 (by decide) (hts (.fieldLink RX0 23 "RoutingDomain$Advertisements" "listedCosts" "[I") (m_describe_O _ (by decide +kernel))) (fun _ h9 => h9) rfl dX0_describe_106 ?_
      refine lv_iload hx hb dX0_describe_109 (lv_at hl 6 rfl) ?_
      refine lv_bipush (v := 6) hx hb dX0_describe_111 (by decide) ?_
      refine lv_ishl hx hb dX0_describe_113 ?_
      refine lv_topi (fun y ey => ?_)
      obtain rfl : y = (nI (((r * 4 + a) * 16 + 0 + j) * 64)) := ey.trans (k_shl ((r * 4 + a) * 16 + 0 + j) 6 (by decide))
      refine lv_iload hx hb dX0_describe_114 (lv_at hl 4 rfl) ?_
      refine lv_iadd hx hb dX0_describe_116 ?_
      refine lv_topi (fun y ey => ?_)
      obtain rfl : y = (nI ((((r * 4 + a) * 16 + 0 + j) * 64) + (v % 64))) := ey.trans (nI_add (((r * 4 + a) * 16 + 0 + j) * 64) (v % 64))
      refine lv_aload_n hx hb dX0_describe_117 rfl (lv_at hl 0 rfl) ?_
      refine va_get (ci := 0) (v := .ref (ad 0)) (C := RX0) (T := TX0) (N := 6) hx hb hts m_describe_C0 hown hK hP 0 rfl rfl 5 (by decide) (hts (.fieldLink RX0 26 "RoutingDomain$Advertisements" "topology" "LRoutingDomain$Topology;") (m_describe_O _ (by decide +kernel))) (fun _ h9 => h9) rfl dX0_describe_118 ?_
      refine va_get (ci := 8) (v := .ref (ad 14)) (C := RX8) (T := TX8) (N := 12) hx hb hts m_describe_C8 hown hK hP 1 rfl rfl 9 (by decide) (hts (.fieldLink RX0 63 "RoutingDomain$Topology" "announced" "[I") (m_describe_O _ (by decide +kernel))) (fun _ h9 => h9) rfl dX0_describe_121 ?_
      refine lv_iload hx hb dX0_describe_124 (lv_at hl 6 rfl) ?_
      refine va_iald hx hb hK hP 8 0 rfl rfl (vp_in_nI (show ((r * 4 + a) * 16 + 0 + j) < 1024 from by omega) (by decide)) dX0_describe_126 ?_
      refine lv_topi (fun y ey => ?_)
      obtain rfl : y = (oI (an ((r * 4 + a) * 16 + 0 + j))) := ey.trans (ldO (f := an) (j := ((r * 4 + a) * 16 + 0 + j)) (by omega))
      refine va_iast hx hb hK hP hD hS 11 0 rfl rfl (vp_in_nI (show ((((r * 4 + a) * 16 + 0 + j) * 64) + (v % 64)) < 65536 from by omega) (by decide)) dX0_describe_127 (fun H locs hP hD hS => ?_)
      have hP : va_P D vwCl [(h0, .inr (0, [.int (nI now), .ref (ad 17), .ref (ad 18), .ref (ad 19), .ref (ad 20), .ref (ad 0)])), ((ad 0), .inr (8, [.int (nI rc), .int (nI lc), .ref (ad 7), .ref (ad 8), .ref (ad 9), .ref (ad 10), .ref (ad 11), .ref (ad 12), .ref (ad 13), .ref (ad 14), .ref (ad 15), .ref (ad 16)])), ((ad 7), .inl (cZ, 16, .inl (eB ru))), ((ad 8), .inl (cZ, 40, .inl (eB lu))), ((ad 10), .inl (cI, 40, .inl (eN al))), ((ad 11), .inl (cI, 80, .inl (eN rp))), ((ad 12), .inl (cI, 80, .inl (eN mp))), ((ad 13), .inl (cI, 16, .inl (eN pc))), ((ad 14), .inl (cI, 1024, .inl (eO an))), ((ad 15), .inl (cI, 640, .inl (eN po))), ((ad 19), .inl (cI, 5120, .inl (eN (itr (dsB ru lu rp mp al po r a (v % 64)) (pc r) lm)))), ((ad 20), .inl (cI, 65536, .inl (upd (eO (itr (dsC an ((r * 4 + a) * 16) (v % 64)) j lo)) (nI ((((r * 4 + a) * 16 + 0 + j) * 64) + (v % 64))).toNatClampNeg (oI (an ((r * 4 + a) * 16 + 0 + j))))))] H := hP
      have hD : va_D A [(h0, .inr (0, [.int (nI now), .ref (ad 17), .ref (ad 18), .ref (ad 19), .ref (ad 20), .ref (ad 0)])), ((ad 0), .inr (8, [.int (nI rc), .int (nI lc), .ref (ad 7), .ref (ad 8), .ref (ad 9), .ref (ad 10), .ref (ad 11), .ref (ad 12), .ref (ad 13), .ref (ad 14), .ref (ad 15), .ref (ad 16)])), ((ad 7), .inl (cZ, 16, .inl (eB ru))), ((ad 8), .inl (cZ, 40, .inl (eB lu))), ((ad 10), .inl (cI, 40, .inl (eN al))), ((ad 11), .inl (cI, 80, .inl (eN rp))), ((ad 12), .inl (cI, 80, .inl (eN mp))), ((ad 13), .inl (cI, 16, .inl (eN pc))), ((ad 14), .inl (cI, 1024, .inl (eO an))), ((ad 15), .inl (cI, 640, .inl (eN po))), ((ad 19), .inl (cI, 5120, .inl (eN (itr (dsB ru lu rp mp al po r a (v % 64)) (pc r) lm)))), ((ad 20), .inl (cI, 65536, .inl (upd (eO (itr (dsC an ((r * 4 + a) * 16) (v % 64)) j lo)) (nI ((((r * 4 + a) * 16 + 0 + j) * 64) + (v % 64))).toNatClampNeg (oI (an ((r * 4 + a) * 16 + 0 + j))))))] := hD
      rw [show (upd (eO (itr (dsC an ((r * 4 + a) * 16) (v % 64)) j lo)) (nI ((((r * 4 + a) * 16 + 0 + j) * 64) + (v % 64))).toNatClampNeg (oI (an ((r * 4 + a) * 16 + 0 + j)))) = (eO (fs (itr (dsC an ((r * 4 + a) * 16) (v % 64)) j lo) ((((r * 4 + a) * 16 + 0 + j) * 64) + (v % 64)) (an ((r * 4 + a) * 16 + 0 + j)))) from stO (by omega)] at hP hD
      refine lv_iinc (v := (nI (((r * 4 + a) * 16 + 0 + j) + 1))) (lv' := [(6, .int (nI (((r * 4 + a) * 16 + 0 + j) + 1))), (0, .ref h0), (1, .int (nI v)), (2, .int (nI r)), (3, .int (nI a)), (4, .int (nI (v % 64))), (5, .int (nI ((r * 4 + a) * 16 + 0)))]) hx hb dX0_describe_128 hl (k := 6) rfl (nI_add ((r * 4 + a) * 16 + 0 + j) 1) (by decide) rfl (fun ls hl => ?_)
      refine lv_goto (tgt := 95) hx hb dX0_describe_131 (by decide) ?_
      rw [show (fs (itr (dsC an ((r * 4 + a) * 16) (v % 64)) j lo) ((((r * 4 + a) * 16 + 0 + j) * 64) + (v % 64)) (an ((r * 4 + a) * 16 + 0 + j))) = (itr (dsC an ((r * 4 + a) * 16) (v % 64)) (j + 1) lo) from (by first | rfl | (simp [itr_s, dsB, dsC, n_20, n_102]; done) | (unfold dsB; split <;> first | rfl | (exfalso; omega)) | (unfold dsC; split <;> first | rfl | (exfalso; omega)))] at hP hD
      rw [show ((((r * 4 + a) * 16 + 0 + j) + 1) : Nat) = ((r * 4 + a) * 16 + 0 + (j + 1)) from (by first | rfl | omega | (simp [itr_s, dsB, dsC, n_20, n_102]; done))] at hl
      exact ih_95 (j + 1) H locs ls (by show j + 1 ≤ 16; omega) (by show 16 - (j + 1) < 16 - j; omega) (hP.sub [0, 1, 2, 3, 4, 5, 6, 7, 8, 9, 10, 11] rfl) (hD.sub [0, 1, 2, 3, 4, 5, 6, 7, 8, 9, 10, 11] (by decide) rfl) hS (lv_sub hl [1, 2, 3, 4, 5, 6, 0] rfl)
  · have n_20 : ¬ (pc r) ≤ i := fun h => c_20 ((nI_leI (a := (pc r)) (b := i) (by omega) (by omega)).mpr h)
    have hq1 := hpo (r * 40 + i)
    have hq2 := hal (po (r * 40 + i) / 2)
    refine lv_aload_n hx hb dX0_describe_23 rfl (lv_at hl 0 rfl) ?_
    refine va_get (ci := 0) (v := .ref (ad 0)) (C := RX0) (T := TX0) (N := 6) hx hb hts m_describe_C0 hown hK hP 0 rfl rfl 5 (by decide) (hts (.fieldLink RX0 26 "RoutingDomain$Advertisements" "topology" "LRoutingDomain$Topology;") (m_describe_O _ (by decide +kernel))) (fun _ h9 => h9) rfl dX0_describe_24 ?_
    refine lv_iload_n hx hb dX0_describe_27 rfl (lv_at hl 2 rfl) ?_
    refine lv_iload hx hb dX0_describe_28 (lv_at hl 5 rfl) ?_
    refine kVi (As := [.int (nI r), .int (nI i)]) (rest := []) (wr := [(h0, .inr (0, [.int (nI now), .ref (ad 17), .ref (ad 18), .ref (ad 19), .ref (ad 20), .ref (ad 0)])), ((ad 7), .inl (cZ, 16, .inl (eB ru))), ((ad 8), .inl (cZ, 40, .inl (eB lu))), ((ad 10), .inl (cI, 40, .inl (eN al))), ((ad 11), .inl (cI, 80, .inl (eN rp))), ((ad 12), .inl (cI, 80, .inl (eN mp))), ((ad 13), .inl (cI, 16, .inl (eN pc))), ((ad 14), .inl (cI, 1024, .inl (eO an))), ((ad 19), .inl (cI, 5120, .inl (eN (itr (dsB ru lu rp mp al po r a (v % 64)) i lm)))), ((ad 20), .inl (cI, 65536, .inl (eO lo)))]) (w2 := fun _ => [(h0, .inr (0, [.int (nI now), .ref (ad 17), .ref (ad 18), .ref (ad 19), .ref (ad 20), .ref (ad 0)])), ((ad 0), .inr (8, [.int (nI rc), .int (nI lc), .ref (ad 7), .ref (ad 8), .ref (ad 9), .ref (ad 10), .ref (ad 11), .ref (ad 12), .ref (ad 13), .ref (ad 14), .ref (ad 15), .ref (ad 16)])), ((ad 7), .inl (cZ, 16, .inl (eB ru))), ((ad 8), .inl (cZ, 40, .inl (eB lu))), ((ad 10), .inl (cI, 40, .inl (eN al))), ((ad 11), .inl (cI, 80, .inl (eN rp))), ((ad 12), .inl (cI, 80, .inl (eN mp))), ((ad 13), .inl (cI, 16, .inl (eN pc))), ((ad 14), .inl (cI, 1024, .inl (eO an))), ((ad 15), .inl (cI, 640, .inl (eN po))), ((ad 19), .inl (cI, 5120, .inl (eN (itr (dsB ru lu rp mp al po r a (v % 64)) i lm)))), ((ad 20), .inl (cI, 65536, .inl (eO lo)))]) ⟨hx, hb, hml, hown, hts⟩ hN (c_portAt l D cI cZ cJ (ad 0) ad rc lc po r i hr (by omega)) (cwV 2 hts (k_gV (fun w h => m_describe_O w ((by decide +kernel : ∀ w ∈ ([.methodLink RX0 43 yX8_portAt, .instanceMethod yX8_portAt, .selects RX8 yX8_portAt yX8_portAt, .initialized RX8] : List Cond), w ∈ O_describe) w h)) m_describe_WportAt gd_portAt) rfl rfl rfl (by decide +kernel) ⟨Nat.le_of_ble_eq_true rfl, Nat.le_of_ble_eq_true rfl⟩) hK hP hD hS hA [1, 9] [0, 2, 3, 4, 5, 6, 7, 8, 10, 11] [0, 10, 1, 2, 3, 4, 5, 6, 7, 11, 8, 9] rfl rfl ⟨by decide, by decide, by decide⟩ (by decide) (fun _ => rfl) 8 0 rfl rfl rfl rfl hl.1 rfl (Nat.le_of_ble_eq_true rfl) dX0_describe_30 ⟨Nat.le_of_ble_eq_true rfl, Nat.le_of_ble_eq_true rfl⟩ (fun res_ u H locs hw hP hD hS => ?_)
    have hP : va_P D vwCl [(h0, .inr (0, [.int (nI now), .ref (ad 17), .ref (ad 18), .ref (ad 19), .ref (ad 20), .ref (ad 0)])), ((ad 0), .inr (8, [.int (nI rc), .int (nI lc), .ref (ad 7), .ref (ad 8), .ref (ad 9), .ref (ad 10), .ref (ad 11), .ref (ad 12), .ref (ad 13), .ref (ad 14), .ref (ad 15), .ref (ad 16)])), ((ad 7), .inl (cZ, 16, .inl (eB ru))), ((ad 8), .inl (cZ, 40, .inl (eB lu))), ((ad 10), .inl (cI, 40, .inl (eN al))), ((ad 11), .inl (cI, 80, .inl (eN rp))), ((ad 12), .inl (cI, 80, .inl (eN mp))), ((ad 13), .inl (cI, 16, .inl (eN pc))), ((ad 14), .inl (cI, 1024, .inl (eO an))), ((ad 15), .inl (cI, 640, .inl (eN po))), ((ad 19), .inl (cI, 5120, .inl (eN (itr (dsB ru lu rp mp al po r a (v % 64)) i lm)))), ((ad 20), .inl (cI, 65536, .inl (eO lo)))] H := hP
    have hD : va_D A [(h0, .inr (0, [.int (nI now), .ref (ad 17), .ref (ad 18), .ref (ad 19), .ref (ad 20), .ref (ad 0)])), ((ad 0), .inr (8, [.int (nI rc), .int (nI lc), .ref (ad 7), .ref (ad 8), .ref (ad 9), .ref (ad 10), .ref (ad 11), .ref (ad 12), .ref (ad 13), .ref (ad 14), .ref (ad 15), .ref (ad 16)])), ((ad 7), .inl (cZ, 16, .inl (eB ru))), ((ad 8), .inl (cZ, 40, .inl (eB lu))), ((ad 10), .inl (cI, 40, .inl (eN al))), ((ad 11), .inl (cI, 80, .inl (eN rp))), ((ad 12), .inl (cI, 80, .inl (eN mp))), ((ad 13), .inl (cI, 16, .inl (eN pc))), ((ad 14), .inl (cI, 1024, .inl (eO an))), ((ad 15), .inl (cI, 640, .inl (eN po))), ((ad 19), .inl (cI, 5120, .inl (eN (itr (dsB ru lu rp mp al po r a (v % 64)) i lm)))), ((ad 20), .inl (cI, 65536, .inl (eO lo)))] := hD
    obtain rfl : res_ = (nI (po (r * 40 + i))) := hw
    refine lv_istore (lv' := [(6, .int (nI (po (r * 40 + i)))), (0, .ref h0), (1, .int (nI v)), (2, .int (nI r)), (3, .int (nI a)), (4, .int (nI (v % 64))), (5, .int (nI i))]) hx hb dX0_describe_33 hl (by decide) rfl (fun ls hl => ?_)
    refine lv_aload_n hx hb dX0_describe_35 rfl (lv_at hl 1 rfl) ?_
    refine va_get (ci := 0) (v := .ref (ad 0)) (C := RX0) (T := TX0) (N := 6) hx hb hts m_describe_C0 hown hK hP 0 rfl rfl 5 (by decide) (hts (.fieldLink RX0 26 "RoutingDomain$Advertisements" "topology" "LRoutingDomain$Topology;") (m_describe_O _ (by decide +kernel))) (fun _ h9 => h9) rfl dX0_describe_36 ?_
    refine va_get (ci := 8) (v := .ref (ad 10)) (C := RX8) (T := TX8) (N := 12) hx hb hts m_describe_C8 hown hK hP 1 rfl rfl 5 (by decide) (hts (.fieldLink RX0 47 "RoutingDomain$Topology" "areaOfLink" "[I") (m_describe_O _ (by decide +kernel))) (fun _ h9 => h9) rfl dX0_describe_39 ?_
    refine lv_iload hx hb dX0_describe_42 (lv_at hl 0 rfl) ?_
    refine lv_iconst (v := 1) hx hb dX0_describe_44 (by decide) ?_
    refine lv_ishr hx hb dX0_describe_45 ?_
    refine lv_topi (fun y ey => ?_)
    obtain rfl : y = (nI ((po (r * 40 + i)) / 2)) := ey.trans (k_shr (a := (po (r * 40 + i))) (by omega) 1 (by decide))
    refine va_iald hx hb hK hP 4 0 rfl rfl (vp_in_nI (show ((po (r * 40 + i)) / 2) < 40 from by omega) (by decide)) dX0_describe_46 ?_
    refine lv_topi (fun y ey => ?_)
    obtain rfl : y = (nI (al ((po (r * 40 + i)) / 2))) := ey.trans (ldN (f := al) (j := ((po (r * 40 + i)) / 2)) (by omega))
    refine lv_iload_n hx hb dX0_describe_47 rfl (lv_at hl 4 rfl) ?_
    refine lv_icmp_ne (tgt := 73) hx hb dX0_describe_48 (by decide) (fun c_48 => ?_) (fun c_48 => ?_)
    · have n_48 : ¬ (al ((po (r * 40 + i)) / 2)) = a := fun h => c_48 ((nI_eq (a := (al ((po (r * 40 + i)) / 2))) (b := a) (by omega) (by omega)).mpr h)
      refine lv_iinc (v := (nI (i + 1))) (lv' := [(5, .int (nI (i + 1))), (6, .int (nI (po (r * 40 + i)))), (0, .ref h0), (1, .int (nI v)), (2, .int (nI r)), (3, .int (nI a)), (4, .int (nI (v % 64)))]) hx hb dX0_describe_73 hl (k := 6) rfl (nI_add i 1) (by decide) rfl (fun ls hl => ?_)
      refine lv_goto (tgt := 9) hx hb dX0_describe_76 (by decide) ?_
      rw [show (itr (dsB ru lu rp mp al po r a (v % 64)) i lm) = (itr (dsB ru lu rp mp al po r a (v % 64)) (i + 1) lm) from (by first | rfl | (simp [itr_s, dsB, dsC, n_20, n_48]; done) | (unfold dsB; split <;> first | rfl | (exfalso; omega)) | (unfold dsC; split <;> first | rfl | (exfalso; omega)))] at hP hD
      exact ih_9 (i + 1) H locs ls (by show i + 1 ≤ pc r; omega) (by show pc r - (i + 1) < pc r - i; omega) (hP.sub [0, 1, 2, 3, 4, 5, 6, 7, 8, 9, 10, 11] rfl) (hD.sub [0, 1, 2, 3, 4, 5, 6, 7, 8, 9, 10, 11] (by decide) rfl) hS (lv_sub hl [2, 3, 4, 5, 6, 0] rfl)
    · have n_48 : (al ((po (r * 40 + i)) / 2)) = a := (nI_eq (a := (al ((po (r * 40 + i)) / 2))) (b := a) (by omega) (by omega)).mp c_48
      refine lv_aload_n hx hb dX0_describe_51 rfl (lv_at hl 1 rfl) ?_
      refine va_get (ci := 0) (v := .ref (ad 19)) (C := RX0) (T := TX0) (N := 6) hx hb hts m_describe_C0 hown hK hP 0 rfl rfl 3 (by decide) (hts (.fieldLink RX0 19 "RoutingDomain$Advertisements" "listedMetrics" "[I") (m_describe_O _ (by decide +kernel))) (fun _ h9 => h9) rfl dX0_describe_52 ?_
      refine lv_iload hx hb dX0_describe_55 (lv_at hl 0 rfl) ?_
      refine lv_bipush (v := 6) hx hb dX0_describe_57 (by decide) ?_
      refine lv_ishl hx hb dX0_describe_59 ?_
      refine lv_topi (fun y ey => ?_)
      obtain rfl : y = (nI ((po (r * 40 + i)) * 64)) := ey.trans (k_shl (po (r * 40 + i)) 6 (by decide))
      refine lv_iload hx hb dX0_describe_60 (lv_at hl 5 rfl) ?_
      refine lv_iadd hx hb dX0_describe_62 ?_
      refine lv_topi (fun y ey => ?_)
      obtain rfl : y = (nI (((po (r * 40 + i)) * 64) + (v % 64))) := ey.trans (nI_add ((po (r * 40 + i)) * 64) (v % 64))
      refine lv_aload_n hx hb dX0_describe_63 rfl (lv_at hl 1 rfl) ?_
      refine va_get (ci := 0) (v := .ref (ad 0)) (C := RX0) (T := TX0) (N := 6) hx hb hts m_describe_C0 hown hK hP 0 rfl rfl 5 (by decide) (hts (.fieldLink RX0 26 "RoutingDomain$Advertisements" "topology" "LRoutingDomain$Topology;") (m_describe_O _ (by decide +kernel))) (fun _ h9 => h9) rfl dX0_describe_64 ?_
      refine lv_iload hx hb dX0_describe_67 (lv_at hl 0 rfl) ?_
      refine kVi (As := [.int (nI (po (r * 40 + i)))]) (rest := [.int (nI (((po (r * 40 + i)) * 64) + (v % 64))), .ref (ad 19)]) (wr := [(h0, .inr (0, [.int (nI now), .ref (ad 17), .ref (ad 18), .ref (ad 19), .ref (ad 20), .ref (ad 0)])), ((ad 10), .inl (cI, 40, .inl (eN al))), ((ad 13), .inl (cI, 16, .inl (eN pc))), ((ad 14), .inl (cI, 1024, .inl (eO an))), ((ad 15), .inl (cI, 640, .inl (eN po))), ((ad 19), .inl (cI, 5120, .inl (eN (itr (dsB ru lu rp mp al po r a (v % 64)) i lm)))), ((ad 20), .inl (cI, 65536, .inl (eO lo)))]) (w2 := fun _ => [(h0, .inr (0, [.int (nI now), .ref (ad 17), .ref (ad 18), .ref (ad 19), .ref (ad 20), .ref (ad 0)])), ((ad 0), .inr (8, [.int (nI rc), .int (nI lc), .ref (ad 7), .ref (ad 8), .ref (ad 9), .ref (ad 10), .ref (ad 11), .ref (ad 12), .ref (ad 13), .ref (ad 14), .ref (ad 15), .ref (ad 16)])), ((ad 7), .inl (cZ, 16, .inl (eB ru))), ((ad 8), .inl (cZ, 40, .inl (eB lu))), ((ad 10), .inl (cI, 40, .inl (eN al))), ((ad 11), .inl (cI, 80, .inl (eN rp))), ((ad 12), .inl (cI, 80, .inl (eN mp))), ((ad 13), .inl (cI, 16, .inl (eN pc))), ((ad 14), .inl (cI, 1024, .inl (eO an))), ((ad 15), .inl (cI, 640, .inl (eN po))), ((ad 19), .inl (cI, 5120, .inl (eN (itr (dsB ru lu rp mp al po r a (v % 64)) i lm)))), ((ad 20), .inl (cI, 65536, .inl (eO lo)))]) ⟨hx, hb, hml, hown, hts⟩ hN (c_metricToList l D cI cZ cJ (ad 0) ad rc lc ru lu rp mp (po (r * 40 + i)) hq1 hrp) (cwV 1 hts (k_gV (fun w h => m_describe_O w ((by decide +kernel : ∀ w ∈ ([.methodLink RX0 53 yX8_metricToList, .instanceMethod yX8_metricToList, .selects RX8 yX8_metricToList yX8_metricToList, .initialized RX8] : List Cond), w ∈ O_describe) w h)) m_describe_WmetricToList gd_metricToList) rfl rfl rfl (by decide +kernel) ⟨Nat.le_of_ble_eq_true rfl, Nat.le_of_ble_eq_true rfl⟩) hK hP hD hS hA [1, 2, 3, 5, 6] [0, 4, 7, 8, 9, 10, 11] [0, 7, 8, 9, 1, 10, 11, 2, 3, 4, 5, 6] rfl rfl ⟨by decide, by decide, by decide⟩ (by decide) (fun _ => rfl) 8 0 rfl rfl rfl rfl hl.1 rfl (Nat.le_of_ble_eq_true rfl) dX0_describe_69 ⟨Nat.le_of_ble_eq_true rfl, Nat.le_of_ble_eq_true rfl⟩ (fun res_ u H locs hw hP hD hS => ?_)
      have hP : va_P D vwCl [(h0, .inr (0, [.int (nI now), .ref (ad 17), .ref (ad 18), .ref (ad 19), .ref (ad 20), .ref (ad 0)])), ((ad 0), .inr (8, [.int (nI rc), .int (nI lc), .ref (ad 7), .ref (ad 8), .ref (ad 9), .ref (ad 10), .ref (ad 11), .ref (ad 12), .ref (ad 13), .ref (ad 14), .ref (ad 15), .ref (ad 16)])), ((ad 7), .inl (cZ, 16, .inl (eB ru))), ((ad 8), .inl (cZ, 40, .inl (eB lu))), ((ad 10), .inl (cI, 40, .inl (eN al))), ((ad 11), .inl (cI, 80, .inl (eN rp))), ((ad 12), .inl (cI, 80, .inl (eN mp))), ((ad 13), .inl (cI, 16, .inl (eN pc))), ((ad 14), .inl (cI, 1024, .inl (eO an))), ((ad 15), .inl (cI, 640, .inl (eN po))), ((ad 19), .inl (cI, 5120, .inl (eN (itr (dsB ru lu rp mp al po r a (v % 64)) i lm)))), ((ad 20), .inl (cI, 65536, .inl (eO lo)))] H := hP
      have hD : va_D A [(h0, .inr (0, [.int (nI now), .ref (ad 17), .ref (ad 18), .ref (ad 19), .ref (ad 20), .ref (ad 0)])), ((ad 0), .inr (8, [.int (nI rc), .int (nI lc), .ref (ad 7), .ref (ad 8), .ref (ad 9), .ref (ad 10), .ref (ad 11), .ref (ad 12), .ref (ad 13), .ref (ad 14), .ref (ad 15), .ref (ad 16)])), ((ad 7), .inl (cZ, 16, .inl (eB ru))), ((ad 8), .inl (cZ, 40, .inl (eB lu))), ((ad 10), .inl (cI, 40, .inl (eN al))), ((ad 11), .inl (cI, 80, .inl (eN rp))), ((ad 12), .inl (cI, 80, .inl (eN mp))), ((ad 13), .inl (cI, 16, .inl (eN pc))), ((ad 14), .inl (cI, 1024, .inl (eO an))), ((ad 15), .inl (cI, 640, .inl (eN po))), ((ad 19), .inl (cI, 5120, .inl (eN (itr (dsB ru lu rp mp al po r a (v % 64)) i lm)))), ((ad 20), .inl (cI, 65536, .inl (eO lo)))] := hD
      obtain rfl : res_ = (nI (mtl ru lu rp mp (po (r * 40 + i)))) := hw
      refine va_iast hx hb hK hP hD hS 10 0 rfl rfl (vp_in_nI (show (((po (r * 40 + i)) * 64) + (v % 64)) < 5120 from by omega) (by decide)) dX0_describe_72 (fun H locs hP hD hS => ?_)
      have hP : va_P D vwCl [(h0, .inr (0, [.int (nI now), .ref (ad 17), .ref (ad 18), .ref (ad 19), .ref (ad 20), .ref (ad 0)])), ((ad 0), .inr (8, [.int (nI rc), .int (nI lc), .ref (ad 7), .ref (ad 8), .ref (ad 9), .ref (ad 10), .ref (ad 11), .ref (ad 12), .ref (ad 13), .ref (ad 14), .ref (ad 15), .ref (ad 16)])), ((ad 7), .inl (cZ, 16, .inl (eB ru))), ((ad 8), .inl (cZ, 40, .inl (eB lu))), ((ad 10), .inl (cI, 40, .inl (eN al))), ((ad 11), .inl (cI, 80, .inl (eN rp))), ((ad 12), .inl (cI, 80, .inl (eN mp))), ((ad 13), .inl (cI, 16, .inl (eN pc))), ((ad 14), .inl (cI, 1024, .inl (eO an))), ((ad 15), .inl (cI, 640, .inl (eN po))), ((ad 19), .inl (cI, 5120, .inl (upd (eN (itr (dsB ru lu rp mp al po r a (v % 64)) i lm)) (nI (((po (r * 40 + i)) * 64) + (v % 64))).toNatClampNeg (nI (mtl ru lu rp mp (po (r * 40 + i))))))), ((ad 20), .inl (cI, 65536, .inl (eO lo)))] H := hP
      have hD : va_D A [(h0, .inr (0, [.int (nI now), .ref (ad 17), .ref (ad 18), .ref (ad 19), .ref (ad 20), .ref (ad 0)])), ((ad 0), .inr (8, [.int (nI rc), .int (nI lc), .ref (ad 7), .ref (ad 8), .ref (ad 9), .ref (ad 10), .ref (ad 11), .ref (ad 12), .ref (ad 13), .ref (ad 14), .ref (ad 15), .ref (ad 16)])), ((ad 7), .inl (cZ, 16, .inl (eB ru))), ((ad 8), .inl (cZ, 40, .inl (eB lu))), ((ad 10), .inl (cI, 40, .inl (eN al))), ((ad 11), .inl (cI, 80, .inl (eN rp))), ((ad 12), .inl (cI, 80, .inl (eN mp))), ((ad 13), .inl (cI, 16, .inl (eN pc))), ((ad 14), .inl (cI, 1024, .inl (eO an))), ((ad 15), .inl (cI, 640, .inl (eN po))), ((ad 19), .inl (cI, 5120, .inl (upd (eN (itr (dsB ru lu rp mp al po r a (v % 64)) i lm)) (nI (((po (r * 40 + i)) * 64) + (v % 64))).toNatClampNeg (nI (mtl ru lu rp mp (po (r * 40 + i))))))), ((ad 20), .inl (cI, 65536, .inl (eO lo)))] := hD
      rw [show (upd (eN (itr (dsB ru lu rp mp al po r a (v % 64)) i lm)) (nI (((po (r * 40 + i)) * 64) + (v % 64))).toNatClampNeg (nI (mtl ru lu rp mp (po (r * 40 + i))))) = (eN (fs (itr (dsB ru lu rp mp al po r a (v % 64)) i lm) (((po (r * 40 + i)) * 64) + (v % 64)) (mtl ru lu rp mp (po (r * 40 + i))))) from stN (by omega)] at hP hD
      refine lv_iinc (v := (nI (i + 1))) (lv' := [(5, .int (nI (i + 1))), (6, .int (nI (po (r * 40 + i)))), (0, .ref h0), (1, .int (nI v)), (2, .int (nI r)), (3, .int (nI a)), (4, .int (nI (v % 64)))]) hx hb dX0_describe_73 hl (k := 6) rfl (nI_add i 1) (by decide) rfl (fun ls hl => ?_)
      refine lv_goto (tgt := 9) hx hb dX0_describe_76 (by decide) ?_
      rw [show (fs (itr (dsB ru lu rp mp al po r a (v % 64)) i lm) (((po (r * 40 + i)) * 64) + (v % 64)) (mtl ru lu rp mp (po (r * 40 + i)))) = (itr (dsB ru lu rp mp al po r a (v % 64)) (i + 1) lm) from (by first | rfl | (simp [itr_s, dsB, dsC, n_20, n_48]; done) | (unfold dsB; split <;> first | rfl | (exfalso; omega)) | (unfold dsC; split <;> first | rfl | (exfalso; omega)))] at hP hD
      exact ih_9 (i + 1) H locs ls (by show i + 1 ≤ pc r; omega) (by show pc r - (i + 1) < pc r - i; omega) (hP.sub [0, 1, 2, 3, 4, 5, 6, 7, 8, 9, 10, 11] rfl) (hD.sub [0, 1, 2, 3, 4, 5, 6, 7, 8, 9, 10, 11] (by decide) rfl) hS (lv_sub hl [2, 3, 4, 5, 6, 0] rfl)

