theorem dL_addRouter_0 : decode cL_addRouter 0 = .ok (.aload_n 1, 1) := by decide +kernel
theorem dL_addRouter_1 : decode cL_addRouter 1 = .ok (.iconst 0, 1) := by decide +kernel
theorem dL_addRouter_2 : decode cL_addRouter 2 = .ok (.aload_n 0, 1) := by decide +kernel
theorem dL_addRouter_3 : decode cL_addRouter 3 = .ok (.invokevirtual 7, 3) := by decide +kernel
theorem dL_addRouter_6 : decode cL_addRouter 6 = .ok (.i2l, 1) := by decide +kernel
theorem dL_addRouter_7 : decode cL_addRouter 7 = .ok (.lastore, 1) := by decide +kernel
theorem dL_addRouter_8 : decode cL_addRouter 8 = .ok (.goto 6, 3) := by decide +kernel
theorem dL_addRouter_14 : decode cL_addRouter 14 = .ok (.iconst 0, 1) := by decide +kernel
theorem dL_addRouter_15 : decode cL_addRouter 15 = .ok (.ireturn, 1) := by decide +kernel
theorem dL_addLink_0 : decode cL_addLink 0 = .ok (.aload 6, 2) := by decide +kernel
theorem dL_addLink_2 : decode cL_addLink 2 = .ok (.iconst 0, 1) := by decide +kernel
theorem dL_addLink_3 : decode cL_addLink 3 = .ok (.aload_n 0, 1) := by decide +kernel
theorem dL_addLink_4 : decode cL_addLink 4 = .ok (.iload_n 1, 1) := by decide +kernel
theorem dL_addLink_5 : decode cL_addLink 5 = .ok (.iload_n 2, 1) := by decide +kernel
theorem dL_addLink_6 : decode cL_addLink 6 = .ok (.iload_n 3, 1) := by decide +kernel
theorem dL_addLink_7 : decode cL_addLink 7 = .ok (.iload 4, 2) := by decide +kernel
theorem dL_addLink_9 : decode cL_addLink 9 = .ok (.iload 5, 2) := by decide +kernel
theorem dL_addLink_11 : decode cL_addLink 11 = .ok (.invokevirtual 15, 3) := by decide +kernel
theorem dL_addLink_19 : decode cL_addLink 19 = .ok (.astore 7, 2) := by decide +kernel
theorem dL_addLink_21 : decode cL_addLink 21 = .ok (.iconst 1, 1) := by decide +kernel
theorem dL_addLink_22 : decode cL_addLink 22 = .ok (.ireturn, 1) := by decide +kernel
theorem dL_setLink_0 : decode cL_setLink 0 = .ok (.aload_n 3, 1) := by decide +kernel
theorem dL_setLink_1 : decode cL_setLink 1 = .ok (.iconst 0, 1) := by decide +kernel
theorem dL_setLink_2 : decode cL_setLink 2 = .ok (.aload_n 0, 1) := by decide +kernel
theorem dL_setLink_3 : decode cL_setLink 3 = .ok (.iload_n 1, 1) := by decide +kernel
theorem dL_setLink_4 : decode cL_setLink 4 = .ok (.iload_n 2, 1) := by decide +kernel
theorem dL_setLink_5 : decode cL_setLink 5 = .ok (.invokevirtual 23, 3) := by decide +kernel
theorem dL_setLink_20 : decode cL_setLink 20 = .ok (.astore 4, 2) := by decide +kernel
theorem dL_setLink_22 : decode cL_setLink 22 = .ok (.iconst 1, 1) := by decide +kernel
theorem dL_setLink_23 : decode cL_setLink 23 = .ok (.ireturn, 1) := by decide +kernel
theorem dL_setMetric_0 : decode cL_setMetric 0 = .ok (.aload 4, 2) := by decide +kernel
theorem dL_setMetric_2 : decode cL_setMetric 2 = .ok (.iconst 0, 1) := by decide +kernel
theorem dL_setMetric_3 : decode cL_setMetric 3 = .ok (.aload_n 0, 1) := by decide +kernel
theorem dL_setMetric_4 : decode cL_setMetric 4 = .ok (.iload_n 1, 1) := by decide +kernel
theorem dL_setMetric_5 : decode cL_setMetric 5 = .ok (.iload_n 2, 1) := by decide +kernel
theorem dL_setMetric_6 : decode cL_setMetric 6 = .ok (.iload_n 3, 1) := by decide +kernel
theorem dL_setMetric_7 : decode cL_setMetric 7 = .ok (.invokevirtual 27, 3) := by decide +kernel
theorem dL_setMetric_15 : decode cL_setMetric 15 = .ok (.astore 5, 2) := by decide +kernel
theorem dL_setMetric_17 : decode cL_setMetric 17 = .ok (.iconst 1, 1) := by decide +kernel
theorem dL_setMetric_18 : decode cL_setMetric 18 = .ok (.ireturn, 1) := by decide +kernel
theorem dL_setRouter_0 : decode cL_setRouter 0 = .ok (.aload_n 3, 1) := by decide +kernel
theorem dL_setRouter_1 : decode cL_setRouter 1 = .ok (.iconst 0, 1) := by decide +kernel
theorem dL_setRouter_2 : decode cL_setRouter 2 = .ok (.aload_n 0, 1) := by decide +kernel
theorem dL_setRouter_3 : decode cL_setRouter 3 = .ok (.iload_n 1, 1) := by decide +kernel
theorem dL_setRouter_4 : decode cL_setRouter 4 = .ok (.iload_n 2, 1) := by decide +kernel
theorem dL_setRouter_5 : decode cL_setRouter 5 = .ok (.invokevirtual 31, 3) := by decide +kernel
theorem dL_setRouter_20 : decode cL_setRouter 20 = .ok (.astore 4, 2) := by decide +kernel
theorem dL_setRouter_22 : decode cL_setRouter 22 = .ok (.iconst 1, 1) := by decide +kernel
theorem dL_setRouter_23 : decode cL_setRouter 23 = .ok (.ireturn, 1) := by decide +kernel
theorem dL_announce_0 : decode cL_announce 0 = .ok (.aload 5, 2) := by decide +kernel
theorem dL_announce_2 : decode cL_announce 2 = .ok (.iconst 0, 1) := by decide +kernel
theorem dL_announce_3 : decode cL_announce 3 = .ok (.aload_n 0, 1) := by decide +kernel
theorem dL_announce_4 : decode cL_announce 4 = .ok (.iload_n 1, 1) := by decide +kernel
theorem dL_announce_5 : decode cL_announce 5 = .ok (.iload_n 2, 1) := by decide +kernel
theorem dL_announce_6 : decode cL_announce 6 = .ok (.iload_n 3, 1) := by decide +kernel
theorem dL_announce_7 : decode cL_announce 7 = .ok (.iload 4, 2) := by decide +kernel
theorem dL_announce_9 : decode cL_announce 9 = .ok (.invokevirtual 34, 3) := by decide +kernel
theorem dL_announce_17 : decode cL_announce 17 = .ok (.astore 6, 2) := by decide +kernel
theorem dL_announce_19 : decode cL_announce 19 = .ok (.iconst 1, 1) := by decide +kernel
theorem dL_announce_20 : decode cL_announce 20 = .ok (.ireturn, 1) := by decide +kernel
theorem dL_withdraw_0 : decode cL_withdraw 0 = .ok (.aload 4, 2) := by decide +kernel
theorem dL_withdraw_2 : decode cL_withdraw 2 = .ok (.iconst 0, 1) := by decide +kernel
theorem dL_withdraw_3 : decode cL_withdraw 3 = .ok (.aload_n 0, 1) := by decide +kernel
theorem dL_withdraw_4 : decode cL_withdraw 4 = .ok (.iload_n 1, 1) := by decide +kernel
theorem dL_withdraw_5 : decode cL_withdraw 5 = .ok (.iload_n 2, 1) := by decide +kernel
theorem dL_withdraw_6 : decode cL_withdraw 6 = .ok (.iload_n 3, 1) := by decide +kernel
theorem dL_withdraw_7 : decode cL_withdraw 7 = .ok (.invokevirtual 38, 3) := by decide +kernel
theorem dL_withdraw_15 : decode cL_withdraw 15 = .ok (.astore 5, 2) := by decide +kernel
theorem dL_withdraw_17 : decode cL_withdraw 17 = .ok (.iconst 1, 1) := by decide +kernel
theorem dL_withdraw_18 : decode cL_withdraw 18 = .ok (.ireturn, 1) := by decide +kernel
theorem dL_isUsable_0 : decode cL_isUsable 0 = .ok (.aload_n 2, 1) := by decide +kernel
theorem dL_isUsable_1 : decode cL_isUsable 1 = .ok (.iconst 0, 1) := by decide +kernel
theorem dL_isUsable_2 : decode cL_isUsable 2 = .ok (.aload_n 0, 1) := by decide +kernel
theorem dL_isUsable_3 : decode cL_isUsable 3 = .ok (.iload_n 1, 1) := by decide +kernel
theorem dL_isUsable_4 : decode cL_isUsable 4 = .ok (.invokevirtual 43, 3) := by decide +kernel
theorem dL_isUsable_19 : decode cL_isUsable 19 = .ok (.astore_n 3, 1) := by decide +kernel
theorem dL_isUsable_20 : decode cL_isUsable 20 = .ok (.iconst 1, 1) := by decide +kernel
theorem dL_isUsable_21 : decode cL_isUsable 21 = .ok (.ireturn, 1) := by decide +kernel
theorem dL_isBorder_0 : decode cL_isBorder 0 = .ok (.aload_n 2, 1) := by decide +kernel
theorem dL_isBorder_1 : decode cL_isBorder 1 = .ok (.iconst 0, 1) := by decide +kernel
theorem dL_isBorder_2 : decode cL_isBorder 2 = .ok (.aload_n 0, 1) := by decide +kernel
theorem dL_isBorder_3 : decode cL_isBorder 3 = .ok (.iload_n 1, 1) := by decide +kernel
theorem dL_isBorder_4 : decode cL_isBorder 4 = .ok (.invokevirtual 47, 3) := by decide +kernel
theorem dL_isBorder_19 : decode cL_isBorder 19 = .ok (.astore_n 3, 1) := by decide +kernel
theorem dL_isBorder_20 : decode cL_isBorder 20 = .ok (.iconst 1, 1) := by decide +kernel
theorem dL_isBorder_21 : decode cL_isBorder 21 = .ok (.ireturn, 1) := by decide +kernel
theorem dL_tick_0 : decode cL_tick 0 = .ok (.aload_n 2, 1) := by decide +kernel
theorem dL_tick_1 : decode cL_tick 1 = .ok (.iconst 0, 1) := by decide +kernel
theorem dL_tick_2 : decode cL_tick 2 = .ok (.aload_n 0, 1) := by decide +kernel
theorem dL_tick_3 : decode cL_tick 3 = .ok (.iload_n 1, 1) := by decide +kernel
theorem dL_tick_4 : decode cL_tick 4 = .ok (.invokevirtual 50, 3) := by decide +kernel
theorem dL_tick_7 : decode cL_tick 7 = .ok (.i2l, 1) := by decide +kernel
theorem dL_tick_8 : decode cL_tick 8 = .ok (.lastore, 1) := by decide +kernel
theorem dL_tick_9 : decode cL_tick 9 = .ok (.goto 6, 3) := by decide +kernel
theorem dL_tick_12 : decode cL_tick 12 = .ok (.astore_n 3, 1) := by decide +kernel
theorem dL_tick_13 : decode cL_tick 13 = .ok (.iconst 1, 1) := by decide +kernel
theorem dL_tick_14 : decode cL_tick 14 = .ok (.ireturn, 1) := by decide +kernel
theorem dL_tick_15 : decode cL_tick 15 = .ok (.iconst 0, 1) := by decide +kernel
theorem dL_tick_16 : decode cL_tick 16 = .ok (.ireturn, 1) := by decide +kernel
theorem dL_databaseSize_0 : decode cL_databaseSize 0 = .ok (.aload_n 3, 1) := by decide +kernel
theorem dL_databaseSize_1 : decode cL_databaseSize 1 = .ok (.iconst 0, 1) := by decide +kernel
theorem dL_databaseSize_2 : decode cL_databaseSize 2 = .ok (.aload_n 0, 1) := by decide +kernel
theorem dL_databaseSize_3 : decode cL_databaseSize 3 = .ok (.iload_n 1, 1) := by decide +kernel
theorem dL_databaseSize_4 : decode cL_databaseSize 4 = .ok (.iload_n 2, 1) := by decide +kernel
theorem dL_databaseSize_5 : decode cL_databaseSize 5 = .ok (.invokevirtual 54, 3) := by decide +kernel
theorem dL_databaseSize_13 : decode cL_databaseSize 13 = .ok (.astore 4, 2) := by decide +kernel
theorem dL_databaseSize_15 : decode cL_databaseSize 15 = .ok (.iconst 1, 1) := by decide +kernel
theorem dL_databaseSize_16 : decode cL_databaseSize 16 = .ok (.ireturn, 1) := by decide +kernel
theorem dL_sequence_0 : decode cL_sequence 0 = .ok (.aload 4, 2) := by decide +kernel
theorem dL_sequence_2 : decode cL_sequence 2 = .ok (.iconst 0, 1) := by decide +kernel
theorem dL_sequence_3 : decode cL_sequence 3 = .ok (.aload_n 0, 1) := by decide +kernel
theorem dL_sequence_4 : decode cL_sequence 4 = .ok (.iload_n 1, 1) := by decide +kernel
theorem dL_sequence_5 : decode cL_sequence 5 = .ok (.iload_n 2, 1) := by decide +kernel
theorem dL_sequence_6 : decode cL_sequence 6 = .ok (.iload_n 3, 1) := by decide +kernel
theorem dL_sequence_7 : decode cL_sequence 7 = .ok (.invokevirtual 58, 3) := by decide +kernel
theorem dL_sequence_15 : decode cL_sequence 15 = .ok (.astore 5, 2) := by decide +kernel
theorem dL_sequence_17 : decode cL_sequence 17 = .ok (.iconst 1, 1) := by decide +kernel
theorem dL_sequence_18 : decode cL_sequence 18 = .ok (.ireturn, 1) := by decide +kernel
theorem dL_listedLinks_0 : decode cL_listedLinks 0 = .ok (.aload 4, 2) := by decide +kernel
theorem dL_listedLinks_2 : decode cL_listedLinks 2 = .ok (.iconst 0, 1) := by decide +kernel
theorem dL_listedLinks_3 : decode cL_listedLinks 3 = .ok (.aload_n 0, 1) := by decide +kernel
theorem dL_listedLinks_4 : decode cL_listedLinks 4 = .ok (.iload_n 1, 1) := by decide +kernel
theorem dL_listedLinks_5 : decode cL_listedLinks 5 = .ok (.iload_n 2, 1) := by decide +kernel
theorem dL_listedLinks_6 : decode cL_listedLinks 6 = .ok (.iload_n 3, 1) := by decide +kernel
theorem dL_listedLinks_7 : decode cL_listedLinks 7 = .ok (.invokevirtual 61, 3) := by decide +kernel
theorem dL_listedLinks_15 : decode cL_listedLinks 15 = .ok (.astore 5, 2) := by decide +kernel
theorem dL_listedLinks_17 : decode cL_listedLinks 17 = .ok (.iconst 1, 1) := by decide +kernel
theorem dL_listedLinks_18 : decode cL_listedLinks 18 = .ok (.ireturn, 1) := by decide +kernel
theorem dL_summary_0 : decode cL_summary 0 = .ok (.aload 5, 2) := by decide +kernel
theorem dL_summary_2 : decode cL_summary 2 = .ok (.iconst 0, 1) := by decide +kernel
theorem dL_summary_3 : decode cL_summary 3 = .ok (.aload_n 0, 1) := by decide +kernel
theorem dL_summary_4 : decode cL_summary 4 = .ok (.iload_n 1, 1) := by decide +kernel
theorem dL_summary_5 : decode cL_summary 5 = .ok (.iload_n 2, 1) := by decide +kernel
theorem dL_summary_6 : decode cL_summary 6 = .ok (.iload_n 3, 1) := by decide +kernel
theorem dL_summary_7 : decode cL_summary 7 = .ok (.iload 4, 2) := by decide +kernel
theorem dL_summary_9 : decode cL_summary 9 = .ok (.invokevirtual 64, 3) := by decide +kernel
theorem dL_summary_17 : decode cL_summary 17 = .ok (.astore 6, 2) := by decide +kernel
theorem dL_summary_19 : decode cL_summary 19 = .ok (.iconst 1, 1) := by decide +kernel
theorem dL_summary_20 : decode cL_summary 20 = .ok (.ireturn, 1) := by decide +kernel
theorem dL_agree_0 : decode cL_agree 0 = .ok (.aload 4, 2) := by decide +kernel
theorem dL_agree_2 : decode cL_agree 2 = .ok (.iconst 0, 1) := by decide +kernel
theorem dL_agree_3 : decode cL_agree 3 = .ok (.aload_n 0, 1) := by decide +kernel
theorem dL_agree_4 : decode cL_agree 4 = .ok (.iload_n 1, 1) := by decide +kernel
theorem dL_agree_5 : decode cL_agree 5 = .ok (.iload_n 2, 1) := by decide +kernel
theorem dL_agree_6 : decode cL_agree 6 = .ok (.iload_n 3, 1) := by decide +kernel
theorem dL_agree_7 : decode cL_agree 7 = .ok (.invokevirtual 67, 3) := by decide +kernel
theorem dL_agree_22 : decode cL_agree 22 = .ok (.astore 5, 2) := by decide +kernel
theorem dL_agree_24 : decode cL_agree 24 = .ok (.iconst 1, 1) := by decide +kernel
theorem dL_agree_25 : decode cL_agree 25 = .ok (.ireturn, 1) := by decide +kernel
theorem dL_distance_0 : decode cL_distance 0 = .ok (.aload 4, 2) := by decide +kernel
theorem dL_distance_2 : decode cL_distance 2 = .ok (.iconst 0, 1) := by decide +kernel
theorem dL_distance_3 : decode cL_distance 3 = .ok (.aload_n 0, 1) := by decide +kernel
theorem dL_distance_4 : decode cL_distance 4 = .ok (.iload_n 1, 1) := by decide +kernel
theorem dL_distance_5 : decode cL_distance 5 = .ok (.iload_n 2, 1) := by decide +kernel
theorem dL_distance_6 : decode cL_distance 6 = .ok (.iload_n 3, 1) := by decide +kernel
theorem dL_distance_7 : decode cL_distance 7 = .ok (.invokevirtual 71, 3) := by decide +kernel
theorem dL_distance_15 : decode cL_distance 15 = .ok (.astore 5, 2) := by decide +kernel
theorem dL_distance_17 : decode cL_distance 17 = .ok (.iconst 1, 1) := by decide +kernel
theorem dL_distance_18 : decode cL_distance 18 = .ok (.ireturn, 1) := by decide +kernel
theorem dL_firstLinkCount_0 : decode cL_firstLinkCount 0 = .ok (.aload 4, 2) := by decide +kernel
theorem dL_firstLinkCount_2 : decode cL_firstLinkCount 2 = .ok (.iconst 0, 1) := by decide +kernel
theorem dL_firstLinkCount_3 : decode cL_firstLinkCount 3 = .ok (.aload_n 0, 1) := by decide +kernel
theorem dL_firstLinkCount_4 : decode cL_firstLinkCount 4 = .ok (.iload_n 1, 1) := by decide +kernel
theorem dL_firstLinkCount_5 : decode cL_firstLinkCount 5 = .ok (.iload_n 2, 1) := by decide +kernel
theorem dL_firstLinkCount_6 : decode cL_firstLinkCount 6 = .ok (.iload_n 3, 1) := by decide +kernel
theorem dL_firstLinkCount_7 : decode cL_firstLinkCount 7 = .ok (.invokevirtual 74, 3) := by decide +kernel
theorem dL_firstLinkCount_15 : decode cL_firstLinkCount 15 = .ok (.astore 5, 2) := by decide +kernel
theorem dL_firstLinkCount_17 : decode cL_firstLinkCount 17 = .ok (.iconst 1, 1) := by decide +kernel
theorem dL_firstLinkCount_18 : decode cL_firstLinkCount 18 = .ok (.ireturn, 1) := by decide +kernel
theorem dL_firstLink_0 : decode cL_firstLink 0 = .ok (.aload 5, 2) := by decide +kernel
theorem dL_firstLink_2 : decode cL_firstLink 2 = .ok (.iconst 0, 1) := by decide +kernel
theorem dL_firstLink_3 : decode cL_firstLink 3 = .ok (.aload_n 0, 1) := by decide +kernel
theorem dL_firstLink_4 : decode cL_firstLink 4 = .ok (.iload_n 1, 1) := by decide +kernel
theorem dL_firstLink_5 : decode cL_firstLink 5 = .ok (.iload_n 2, 1) := by decide +kernel
theorem dL_firstLink_6 : decode cL_firstLink 6 = .ok (.iload_n 3, 1) := by decide +kernel
theorem dL_firstLink_7 : decode cL_firstLink 7 = .ok (.iload 4, 2) := by decide +kernel
theorem dL_firstLink_9 : decode cL_firstLink 9 = .ok (.invokevirtual 77, 3) := by decide +kernel
theorem dL_firstLink_17 : decode cL_firstLink 17 = .ok (.astore 6, 2) := by decide +kernel
theorem dL_firstLink_19 : decode cL_firstLink 19 = .ok (.iconst 1, 1) := by decide +kernel
theorem dL_firstLink_20 : decode cL_firstLink 20 = .ok (.ireturn, 1) := by decide +kernel
theorem dL_routeKind_0 : decode cL_routeKind 0 = .ok (.aload_n 3, 1) := by decide +kernel
theorem dL_routeKind_1 : decode cL_routeKind 1 = .ok (.iconst 0, 1) := by decide +kernel
theorem dL_routeKind_2 : decode cL_routeKind 2 = .ok (.aload_n 0, 1) := by decide +kernel
theorem dL_routeKind_3 : decode cL_routeKind 3 = .ok (.iload_n 1, 1) := by decide +kernel
theorem dL_routeKind_4 : decode cL_routeKind 4 = .ok (.iload_n 2, 1) := by decide +kernel
theorem dL_routeKind_5 : decode cL_routeKind 5 = .ok (.invokevirtual 80, 3) := by decide +kernel
theorem dL_routeKind_13 : decode cL_routeKind 13 = .ok (.astore 4, 2) := by decide +kernel
theorem dL_routeKind_15 : decode cL_routeKind 15 = .ok (.iconst 1, 1) := by decide +kernel
theorem dL_routeKind_16 : decode cL_routeKind 16 = .ok (.ireturn, 1) := by decide +kernel
theorem dL_routeCost_0 : decode cL_routeCost 0 = .ok (.aload_n 3, 1) := by decide +kernel
theorem dL_routeCost_1 : decode cL_routeCost 1 = .ok (.iconst 0, 1) := by decide +kernel
theorem dL_routeCost_2 : decode cL_routeCost 2 = .ok (.aload_n 0, 1) := by decide +kernel
theorem dL_routeCost_3 : decode cL_routeCost 3 = .ok (.iload_n 1, 1) := by decide +kernel
theorem dL_routeCost_4 : decode cL_routeCost 4 = .ok (.iload_n 2, 1) := by decide +kernel
theorem dL_routeCost_5 : decode cL_routeCost 5 = .ok (.invokevirtual 83, 3) := by decide +kernel
theorem dL_routeCost_13 : decode cL_routeCost 13 = .ok (.astore 4, 2) := by decide +kernel
theorem dL_routeCost_15 : decode cL_routeCost 15 = .ok (.iconst 1, 1) := by decide +kernel
theorem dL_routeCost_16 : decode cL_routeCost 16 = .ok (.ireturn, 1) := by decide +kernel
theorem dL_isLocal_0 : decode cL_isLocal 0 = .ok (.aload_n 3, 1) := by decide +kernel
theorem dL_isLocal_1 : decode cL_isLocal 1 = .ok (.iconst 0, 1) := by decide +kernel
theorem dL_isLocal_2 : decode cL_isLocal 2 = .ok (.aload_n 0, 1) := by decide +kernel
theorem dL_isLocal_3 : decode cL_isLocal 3 = .ok (.iload_n 1, 1) := by decide +kernel
theorem dL_isLocal_4 : decode cL_isLocal 4 = .ok (.iload_n 2, 1) := by decide +kernel
theorem dL_isLocal_5 : decode cL_isLocal 5 = .ok (.invokevirtual 86, 3) := by decide +kernel
theorem dL_isLocal_20 : decode cL_isLocal 20 = .ok (.astore 4, 2) := by decide +kernel
theorem dL_isLocal_22 : decode cL_isLocal 22 = .ok (.iconst 1, 1) := by decide +kernel
theorem dL_isLocal_23 : decode cL_isLocal 23 = .ok (.ireturn, 1) := by decide +kernel
theorem dL_routeLinkCount_0 : decode cL_routeLinkCount 0 = .ok (.aload_n 3, 1) := by decide +kernel
theorem dL_routeLinkCount_1 : decode cL_routeLinkCount 1 = .ok (.iconst 0, 1) := by decide +kernel
theorem dL_routeLinkCount_2 : decode cL_routeLinkCount 2 = .ok (.aload_n 0, 1) := by decide +kernel
theorem dL_routeLinkCount_3 : decode cL_routeLinkCount 3 = .ok (.iload_n 1, 1) := by decide +kernel
theorem dL_routeLinkCount_4 : decode cL_routeLinkCount 4 = .ok (.iload_n 2, 1) := by decide +kernel
theorem dL_routeLinkCount_5 : decode cL_routeLinkCount 5 = .ok (.invokevirtual 90, 3) := by decide +kernel
theorem dL_routeLinkCount_13 : decode cL_routeLinkCount 13 = .ok (.astore 4, 2) := by decide +kernel
theorem dL_routeLinkCount_15 : decode cL_routeLinkCount 15 = .ok (.iconst 1, 1) := by decide +kernel
theorem dL_routeLinkCount_16 : decode cL_routeLinkCount 16 = .ok (.ireturn, 1) := by decide +kernel
theorem dL_routeLink_0 : decode cL_routeLink 0 = .ok (.aload 4, 2) := by decide +kernel
theorem dL_routeLink_2 : decode cL_routeLink 2 = .ok (.iconst 0, 1) := by decide +kernel
theorem dL_routeLink_3 : decode cL_routeLink 3 = .ok (.aload_n 0, 1) := by decide +kernel
theorem dL_routeLink_4 : decode cL_routeLink 4 = .ok (.iload_n 1, 1) := by decide +kernel
theorem dL_routeLink_5 : decode cL_routeLink 5 = .ok (.iload_n 2, 1) := by decide +kernel
theorem dL_routeLink_6 : decode cL_routeLink 6 = .ok (.iload_n 3, 1) := by decide +kernel
theorem dL_routeLink_7 : decode cL_routeLink 7 = .ok (.invokevirtual 93, 3) := by decide +kernel
theorem dL_routeLink_15 : decode cL_routeLink 15 = .ok (.astore 5, 2) := by decide +kernel
theorem dL_routeLink_17 : decode cL_routeLink 17 = .ok (.iconst 1, 1) := by decide +kernel
theorem dL_routeLink_18 : decode cL_routeLink 18 = .ok (.ireturn, 1) := by decide +kernel
theorem dL_changedRoutes_0 : decode cL_changedRoutes 0 = .ok (.aload_n 2, 1) := by decide +kernel
theorem dL_changedRoutes_1 : decode cL_changedRoutes 1 = .ok (.iconst 0, 1) := by decide +kernel
theorem dL_changedRoutes_2 : decode cL_changedRoutes 2 = .ok (.aload_n 0, 1) := by decide +kernel
theorem dL_changedRoutes_3 : decode cL_changedRoutes 3 = .ok (.iload_n 1, 1) := by decide +kernel
theorem dL_changedRoutes_4 : decode cL_changedRoutes 4 = .ok (.invokevirtual 96, 3) := by decide +kernel
theorem dL_changedRoutes_12 : decode cL_changedRoutes 12 = .ok (.astore_n 3, 1) := by decide +kernel
theorem dL_changedRoutes_13 : decode cL_changedRoutes 13 = .ok (.iconst 1, 1) := by decide +kernel
theorem dL_changedRoutes_14 : decode cL_changedRoutes 14 = .ok (.ireturn, 1) := by decide +kernel
theorem dL_trace_0 : decode cL_trace 0 = .ok (.aload_n 3, 1) := by decide +kernel
theorem dL_trace_1 : decode cL_trace 1 = .ok (.iconst 0, 1) := by decide +kernel
theorem dL_trace_2 : decode cL_trace 2 = .ok (.aload_n 0, 1) := by decide +kernel
theorem dL_trace_3 : decode cL_trace 3 = .ok (.iload_n 1, 1) := by decide +kernel
theorem dL_trace_4 : decode cL_trace 4 = .ok (.iload_n 2, 1) := by decide +kernel
theorem dL_trace_5 : decode cL_trace 5 = .ok (.invokevirtual 99, 3) := by decide +kernel
theorem dL_trace_13 : decode cL_trace 13 = .ok (.astore 4, 2) := by decide +kernel
theorem dL_trace_15 : decode cL_trace 15 = .ok (.iconst 1, 1) := by decide +kernel
theorem dL_trace_16 : decode cL_trace 16 = .ok (.ireturn, 1) := by decide +kernel
theorem dL_tracedRouter_0 : decode cL_tracedRouter 0 = .ok (.aload_n 2, 1) := by decide +kernel
theorem dL_tracedRouter_1 : decode cL_tracedRouter 1 = .ok (.iconst 0, 1) := by decide +kernel
theorem dL_tracedRouter_2 : decode cL_tracedRouter 2 = .ok (.aload_n 0, 1) := by decide +kernel
theorem dL_tracedRouter_3 : decode cL_tracedRouter 3 = .ok (.iload_n 1, 1) := by decide +kernel
theorem dL_tracedRouter_4 : decode cL_tracedRouter 4 = .ok (.invokevirtual 102, 3) := by decide +kernel
theorem dL_tracedRouter_12 : decode cL_tracedRouter 12 = .ok (.astore_n 3, 1) := by decide +kernel
theorem dL_tracedRouter_13 : decode cL_tracedRouter 13 = .ok (.iconst 1, 1) := by decide +kernel
theorem dL_tracedRouter_14 : decode cL_tracedRouter 14 = .ok (.ireturn, 1) := by decide +kernel
def O_L_setLink : List Cond := [.methodLink RL 23 yX9_setLink, .instanceMethod yX9_setLink, .selects RX9 yX9_setLink yX9_setLink, .initialized RX9, .classLink RL 19 "java/lang/IndexOutOfBoundsException"]
def W_L_setLink : List Cond := .codeWith yL_setLink cL_setLink 5 (some .int) [(0, 17, 20, 19)] :: (O_L_setLink ++ W_X9_setLink)
theorem m_L_setLink_O : ∀ w ∈ O_L_setLink, w ∈ W_L_setLink := fun _ h => List.mem_cons_of_mem _ (List.mem_append_left _ h)
theorem m_L_setLink_WX9_setLink : ∀ w ∈ W_X9_setLink, w ∈ W_L_setLink := fun _ h => List.mem_cons_of_mem _ (List.mem_append_right _ h)
theorem gdO_L_setLink : O_L_setLink.all goodWord = true := by decide +kernel
theorem gd_L_setLink : W_L_setLink.all goodWord = true := k_all_cons rfl (k_all_app gdO_L_setLink gd_X9_setLink)
set_option maxHeartbeats 4000000 in
set_option maxRecDepth 100000 in
theorem c_L_setLink (l : Launch) (hfl : l.stackTraces = false) (D : va_G) (cI cZ cJ : ClassId) (h0 : Nat) (ad : Nat → Nat) (p0 : Int32) (p1 : Int32) (o : Nat) : kMw l yL_setLink W_L_setLink { frames := 9, cells := 1, slots := 6, locals := 200 } 1 6 D (kT cI cZ cJ) [.ref h0, .int p0, .int p1, .ref o] [(h0, .inr (9, [.ref (ad 0), .ref (ad 1), .ref (ad 2), .ref (ad 3), .ref (ad 4), .ref (ad 5), .ref (ad 6)])), ((ad 0), .inr (8, [.int 0, .int 0, .ref (ad 7), .ref (ad 8), .ref (ad 9), .ref (ad 10), .ref (ad 11), .ref (ad 12), .ref (ad 13), .ref (ad 14), .ref (ad 15), .ref (ad 16)]))] (S := Unit) (fun r _ => r = 1) (fun _ => [(h0, .inr (9, [.ref (ad 0), .ref (ad 1), .ref (ad 2), .ref (ad 3), .ref (ad 4), .ref (ad 5), .ref (ad 6)])), ((ad 0), .inr (8, [.int 0, .int 0, .ref (ad 7), .ref (ad 8), .ref (ad 9), .ref (ad 10), .ref (ad 11), .ref (ad 12), .ref (ad 13), .ref (ad 14), .ref (ad 15), .ref (ad 16)]))]) := by
  refine kMw_of (lv := [(0, .ref h0), (1, .int p0), (2, .int p1), (3, .ref o)]) RL "setLink" (by decide +kernel) rfl rfl rfl (Nat.le_of_ble_eq_true rfl) rfl ?_
  intro p e s m below meth c A H locs ls E hT hX hA hK hP hD hS hl
  obtain ⟨hx, hb, hr, hts, hown, hlocks, hml, hin, hN⟩ := id E
  refine lv_aload_n hx hb dL_setLink_0 rfl (lv_at hl 3 rfl) ?_
  refine lv_iconst (v := 0) hx hb dL_setLink_1 (by decide) ?_
  refine lv_aload_n hx hb dL_setLink_2 rfl (lv_at hl 0 rfl) ?_
  refine lv_iload_n hx hb dL_setLink_3 rfl (lv_at hl 1 rfl) ?_
  refine lv_iload_n hx hb dL_setLink_4 rfl (lv_at hl 2 rfl) ?_
  refine kXV (As := [.int p0, .int p1]) (rest := [.int 0, .ref o]) (wr := []) (w3 := [(h0, .inr (9, [.ref (ad 0), .ref (ad 1), .ref (ad 2), .ref (ad 3), .ref (ad 4), .ref (ad 5), .ref (ad 6)])), ((ad 0), .inr (8, [.int 0, .int 0, .ref (ad 7), .ref (ad 8), .ref (ad 9), .ref (ad 10), .ref (ad 11), .ref (ad 12), .ref (ad 13), .ref (ad 14), .ref (ad 15), .ref (ad 16)]))]) ⟨hx, hb, hml, hown, hts⟩ hN (c_X9_setLink l hfl D cI cZ cJ h0 ad p0 p1) (cwV 2 hts (k_gV (fun w h => m_L_setLink_O w ((by decide +kernel : ∀ w ∈ ([.methodLink RL 23 yX9_setLink, .instanceMethod yX9_setLink, .selects RX9 yX9_setLink yX9_setLink, .initialized RX9] : List Cond), w ∈ O_L_setLink) w h)) m_L_setLink_WX9_setLink gd_X9_setLink) rfl rfl rfl (by decide +kernel) ⟨Nat.le_of_ble_eq_true rfl, Nat.le_of_ble_eq_true rfl⟩) hX hK hP hD hS hA [0, 1] [] [0, 1] rfl rfl ⟨by decide, by decide, by decide⟩ (by decide) rfl 9 0 rfl rfl rfl rfl hl.1 rfl (Nat.le_of_ble_eq_true rfl) dL_setLink_5 ⟨Nat.le_of_ble_eq_true rfl, Nat.le_of_ble_eq_true rfl⟩ (fun ce q9 H locs hP hD hS hce hcv hcl => ?_)
  have hP : va_P D vwCl [(h0, .inr (9, [.ref (ad 0), .ref (ad 1), .ref (ad 2), .ref (ad 3), .ref (ad 4), .ref (ad 5), .ref (ad 6)])), ((ad 0), .inr (8, [.int 0, .int 0, .ref (ad 7), .ref (ad 8), .ref (ad 9), .ref (ad 10), .ref (ad 11), .ref (ad 12), .ref (ad 13), .ref (ad 14), .ref (ad 15), .ref (ad 16)]))] H := hP
  have hD : va_D A [(h0, .inr (9, [.ref (ad 0), .ref (ad 1), .ref (ad 2), .ref (ad 3), .ref (ad 4), .ref (ad 5), .ref (ad 6)])), ((ad 0), .inr (8, [.int 0, .int 0, .ref (ad 7), .ref (ad 8), .ref (ad 9), .ref (ad 10), .ref (ad 11), .ref (ad 12), .ref (ad 13), .ref (ad 14), .ref (ad 15), .ref (ad 16)]))] := hD
  refine vx_catch hown [] (⟨0, 17, 20, 19⟩ : ExceptionTableEntry) [] (by rw [hT]; rfl) (fun z hz => nomatch hz) (by decide) (by decide) (hts (.classLink RL 19 "java/lang/IndexOutOfBoundsException") (m_L_setLink_O _ (by decide +kernel))) (va_Nw.use rfl (hX.2.2.2.1 _ (by decide +kernel))) hce hcv hcl ?_
  refine W.eq (g2 := F0 m 20 ls [.ref q9]) rfl ?_
  refine W.widen (k := 1) (n := 6) (Nat.le_of_ble_eq_true rfl) (Nat.le_of_ble_eq_true rfl) ?_
  refine lv_astore (lv' := [(4, .ref q9), (0, .ref h0), (1, .int p0), (2, .int p1), (3, .ref o)]) hx hb dL_setLink_20 hl (by decide) rfl (fun ls hl => ?_)
  refine lv_iconst (v := 1) hx hb dL_setLink_22 (by decide) ?_
  exact k_iret E hK hP hD hS () [0, 1] (by decide) rfl rfl (Nat.le_of_ble_eq_true rfl) (Nat.le_of_ble_eq_true rfl) dL_setLink_23

def O_L_setMetric : List Cond := [.methodLink RL 27 yX9_setMetric, .instanceMethod yX9_setMetric, .selects RX9 yX9_setMetric yX9_setMetric, .initialized RX9, .classLink RL 19 "java/lang/IndexOutOfBoundsException"]
def W_L_setMetric : List Cond := .codeWith yL_setMetric cL_setMetric 6 (some .int) [(0, 12, 15, 19), (0, 12, 19, 21)] :: (O_L_setMetric ++ W_X9_setMetric)
theorem m_L_setMetric_O : ∀ w ∈ O_L_setMetric, w ∈ W_L_setMetric := fun _ h => List.mem_cons_of_mem _ (List.mem_append_left _ h)
theorem m_L_setMetric_WX9_setMetric : ∀ w ∈ W_X9_setMetric, w ∈ W_L_setMetric := fun _ h => List.mem_cons_of_mem _ (List.mem_append_right _ h)
theorem gdO_L_setMetric : O_L_setMetric.all goodWord = true := by decide +kernel
theorem gd_L_setMetric : W_L_setMetric.all goodWord = true := k_all_cons rfl (k_all_app gdO_L_setMetric gd_X9_setMetric)
set_option maxHeartbeats 4000000 in
set_option maxRecDepth 100000 in
theorem c_L_setMetric (l : Launch) (hfl : l.stackTraces = false) (D : va_G) (cI cZ cJ : ClassId) (h0 : Nat) (ad : Nat → Nat) (p0 : Int32) (p1 : Int32) (p2 : Int32) (o : Nat) : kMw l yL_setMetric W_L_setMetric { frames := 9, cells := 1, slots := 6, locals := 200 } 1 6 D (kT cI cZ cJ) [.ref h0, .int p0, .int p1, .int p2, .ref o] [(h0, .inr (9, [.ref (ad 0), .ref (ad 1), .ref (ad 2), .ref (ad 3), .ref (ad 4), .ref (ad 5), .ref (ad 6)])), ((ad 0), .inr (8, [.int 0, .int 0, .ref (ad 7), .ref (ad 8), .ref (ad 9), .ref (ad 10), .ref (ad 11), .ref (ad 12), .ref (ad 13), .ref (ad 14), .ref (ad 15), .ref (ad 16)]))] (S := Unit) (fun r _ => r = 1) (fun _ => [(h0, .inr (9, [.ref (ad 0), .ref (ad 1), .ref (ad 2), .ref (ad 3), .ref (ad 4), .ref (ad 5), .ref (ad 6)])), ((ad 0), .inr (8, [.int 0, .int 0, .ref (ad 7), .ref (ad 8), .ref (ad 9), .ref (ad 10), .ref (ad 11), .ref (ad 12), .ref (ad 13), .ref (ad 14), .ref (ad 15), .ref (ad 16)]))]) := by
  refine kMw_of (lv := [(0, .ref h0), (1, .int p0), (2, .int p1), (3, .int p2), (4, .ref o)]) RL "setMetric" (by decide +kernel) rfl rfl rfl (Nat.le_of_ble_eq_true rfl) rfl ?_
  intro p e s m below meth c A H locs ls E hT hX hA hK hP hD hS hl
  obtain ⟨hx, hb, hr, hts, hown, hlocks, hml, hin, hN⟩ := id E
  refine lv_aload hx hb dL_setMetric_0 (lv_at hl 4 rfl) ?_
  refine lv_iconst (v := 0) hx hb dL_setMetric_2 (by decide) ?_
  refine lv_aload_n hx hb dL_setMetric_3 rfl (lv_at hl 0 rfl) ?_
  refine lv_iload_n hx hb dL_setMetric_4 rfl (lv_at hl 1 rfl) ?_
  refine lv_iload_n hx hb dL_setMetric_5 rfl (lv_at hl 2 rfl) ?_
  refine lv_iload_n hx hb dL_setMetric_6 rfl (lv_at hl 3 rfl) ?_
  refine kXV (As := [.int p0, .int p1, .int p2]) (rest := [.int 0, .ref o]) (wr := []) (w3 := [(h0, .inr (9, [.ref (ad 0), .ref (ad 1), .ref (ad 2), .ref (ad 3), .ref (ad 4), .ref (ad 5), .ref (ad 6)])), ((ad 0), .inr (8, [.int 0, .int 0, .ref (ad 7), .ref (ad 8), .ref (ad 9), .ref (ad 10), .ref (ad 11), .ref (ad 12), .ref (ad 13), .ref (ad 14), .ref (ad 15), .ref (ad 16)]))]) ⟨hx, hb, hml, hown, hts⟩ hN (c_X9_setMetric l hfl D cI cZ cJ h0 ad p0 p1 p2) (cwV 3 hts (k_gV (fun w h => m_L_setMetric_O w ((by decide +kernel : ∀ w ∈ ([.methodLink RL 27 yX9_setMetric, .instanceMethod yX9_setMetric, .selects RX9 yX9_setMetric yX9_setMetric, .initialized RX9] : List Cond), w ∈ O_L_setMetric) w h)) m_L_setMetric_WX9_setMetric gd_X9_setMetric) rfl rfl rfl (by decide +kernel) ⟨Nat.le_of_ble_eq_true rfl, Nat.le_of_ble_eq_true rfl⟩) hX hK hP hD hS hA [0, 1] [] [0, 1] rfl rfl ⟨by decide, by decide, by decide⟩ (by decide) rfl 9 0 rfl rfl rfl rfl hl.1 rfl (Nat.le_of_ble_eq_true rfl) dL_setMetric_7 ⟨Nat.le_of_ble_eq_true rfl, Nat.le_of_ble_eq_true rfl⟩ (fun ce q9 H locs hP hD hS hce hcv hcl => ?_)
  have hP : va_P D vwCl [(h0, .inr (9, [.ref (ad 0), .ref (ad 1), .ref (ad 2), .ref (ad 3), .ref (ad 4), .ref (ad 5), .ref (ad 6)])), ((ad 0), .inr (8, [.int 0, .int 0, .ref (ad 7), .ref (ad 8), .ref (ad 9), .ref (ad 10), .ref (ad 11), .ref (ad 12), .ref (ad 13), .ref (ad 14), .ref (ad 15), .ref (ad 16)]))] H := hP
  have hD : va_D A [(h0, .inr (9, [.ref (ad 0), .ref (ad 1), .ref (ad 2), .ref (ad 3), .ref (ad 4), .ref (ad 5), .ref (ad 6)])), ((ad 0), .inr (8, [.int 0, .int 0, .ref (ad 7), .ref (ad 8), .ref (ad 9), .ref (ad 10), .ref (ad 11), .ref (ad 12), .ref (ad 13), .ref (ad 14), .ref (ad 15), .ref (ad 16)]))] := hD
  refine vx_catch hown [] (⟨0, 12, 15, 19⟩ : ExceptionTableEntry) [(⟨0, 12, 19, 21⟩ : ExceptionTableEntry)] (by rw [hT]; rfl) (fun z hz => nomatch hz) (by decide) (by decide) (hts (.classLink RL 19 "java/lang/IndexOutOfBoundsException") (m_L_setMetric_O _ (by decide +kernel))) (va_Nw.use rfl (hX.2.2.2.1 _ (by decide +kernel))) hce hcv hcl ?_
  refine W.eq (g2 := F0 m 15 ls [.ref q9]) rfl ?_
  refine W.widen (k := 1) (n := 6) (Nat.le_of_ble_eq_true rfl) (Nat.le_of_ble_eq_true rfl) ?_
  refine lv_astore (lv' := [(5, .ref q9), (0, .ref h0), (1, .int p0), (2, .int p1), (3, .int p2), (4, .ref o)]) hx hb dL_setMetric_15 hl (by decide) rfl (fun ls hl => ?_)
  refine lv_iconst (v := 1) hx hb dL_setMetric_17 (by decide) ?_
  exact k_iret E hK hP hD hS () [0, 1] (by decide) rfl rfl (Nat.le_of_ble_eq_true rfl) (Nat.le_of_ble_eq_true rfl) dL_setMetric_18

def O_L_setRouter : List Cond := [.methodLink RL 31 yX9_setRouter, .instanceMethod yX9_setRouter, .selects RX9 yX9_setRouter yX9_setRouter, .initialized RX9, .classLink RL 19 "java/lang/IndexOutOfBoundsException"]
def W_L_setRouter : List Cond := .codeWith yL_setRouter cL_setRouter 5 (some .int) [(0, 17, 20, 19)] :: (O_L_setRouter ++ W_X9_setRouter)
theorem m_L_setRouter_O : ∀ w ∈ O_L_setRouter, w ∈ W_L_setRouter := fun _ h => List.mem_cons_of_mem _ (List.mem_append_left _ h)
theorem m_L_setRouter_WX9_setRouter : ∀ w ∈ W_X9_setRouter, w ∈ W_L_setRouter := fun _ h => List.mem_cons_of_mem _ (List.mem_append_right _ h)
theorem gdO_L_setRouter : O_L_setRouter.all goodWord = true := by decide +kernel
theorem gd_L_setRouter : W_L_setRouter.all goodWord = true := k_all_cons rfl (k_all_app gdO_L_setRouter gd_X9_setRouter)
set_option maxHeartbeats 4000000 in
set_option maxRecDepth 100000 in
theorem c_L_setRouter (l : Launch) (hfl : l.stackTraces = false) (D : va_G) (cI cZ cJ : ClassId) (h0 : Nat) (ad : Nat → Nat) (p0 : Int32) (p1 : Int32) (o : Nat) : kMw l yL_setRouter W_L_setRouter { frames := 9, cells := 1, slots := 6, locals := 200 } 1 6 D (kT cI cZ cJ) [.ref h0, .int p0, .int p1, .ref o] [(h0, .inr (9, [.ref (ad 0), .ref (ad 1), .ref (ad 2), .ref (ad 3), .ref (ad 4), .ref (ad 5), .ref (ad 6)])), ((ad 0), .inr (8, [.int 0, .int 0, .ref (ad 7), .ref (ad 8), .ref (ad 9), .ref (ad 10), .ref (ad 11), .ref (ad 12), .ref (ad 13), .ref (ad 14), .ref (ad 15), .ref (ad 16)]))] (S := Unit) (fun r _ => r = 1) (fun _ => [(h0, .inr (9, [.ref (ad 0), .ref (ad 1), .ref (ad 2), .ref (ad 3), .ref (ad 4), .ref (ad 5), .ref (ad 6)])), ((ad 0), .inr (8, [.int 0, .int 0, .ref (ad 7), .ref (ad 8), .ref (ad 9), .ref (ad 10), .ref (ad 11), .ref (ad 12), .ref (ad 13), .ref (ad 14), .ref (ad 15), .ref (ad 16)]))]) := by
  refine kMw_of (lv := [(0, .ref h0), (1, .int p0), (2, .int p1), (3, .ref o)]) RL "setRouter" (by decide +kernel) rfl rfl rfl (Nat.le_of_ble_eq_true rfl) rfl ?_
  intro p e s m below meth c A H locs ls E hT hX hA hK hP hD hS hl
  obtain ⟨hx, hb, hr, hts, hown, hlocks, hml, hin, hN⟩ := id E
  refine lv_aload_n hx hb dL_setRouter_0 rfl (lv_at hl 3 rfl) ?_
  refine lv_iconst (v := 0) hx hb dL_setRouter_1 (by decide) ?_
  refine lv_aload_n hx hb dL_setRouter_2 rfl (lv_at hl 0 rfl) ?_
  refine lv_iload_n hx hb dL_setRouter_3 rfl (lv_at hl 1 rfl) ?_
  refine lv_iload_n hx hb dL_setRouter_4 rfl (lv_at hl 2 rfl) ?_
  refine kXV (As := [.int p0, .int p1]) (rest := [.int 0, .ref o]) (wr := []) (w3 := [(h0, .inr (9, [.ref (ad 0), .ref (ad 1), .ref (ad 2), .ref (ad 3), .ref (ad 4), .ref (ad 5), .ref (ad 6)])), ((ad 0), .inr (8, [.int 0, .int 0, .ref (ad 7), .ref (ad 8), .ref (ad 9), .ref (ad 10), .ref (ad 11), .ref (ad 12), .ref (ad 13), .ref (ad 14), .ref (ad 15), .ref (ad 16)]))]) ⟨hx, hb, hml, hown, hts⟩ hN (c_X9_setRouter l hfl D cI cZ cJ h0 ad p0 p1) (cwV 2 hts (k_gV (fun w h => m_L_setRouter_O w ((by decide +kernel : ∀ w ∈ ([.methodLink RL 31 yX9_setRouter, .instanceMethod yX9_setRouter, .selects RX9 yX9_setRouter yX9_setRouter, .initialized RX9] : List Cond), w ∈ O_L_setRouter) w h)) m_L_setRouter_WX9_setRouter gd_X9_setRouter) rfl rfl rfl (by decide +kernel) ⟨Nat.le_of_ble_eq_true rfl, Nat.le_of_ble_eq_true rfl⟩) hX hK hP hD hS hA [0, 1] [] [0, 1] rfl rfl ⟨by decide, by decide, by decide⟩ (by decide) rfl 9 0 rfl rfl rfl rfl hl.1 rfl (Nat.le_of_ble_eq_true rfl) dL_setRouter_5 ⟨Nat.le_of_ble_eq_true rfl, Nat.le_of_ble_eq_true rfl⟩ (fun ce q9 H locs hP hD hS hce hcv hcl => ?_)
  have hP : va_P D vwCl [(h0, .inr (9, [.ref (ad 0), .ref (ad 1), .ref (ad 2), .ref (ad 3), .ref (ad 4), .ref (ad 5), .ref (ad 6)])), ((ad 0), .inr (8, [.int 0, .int 0, .ref (ad 7), .ref (ad 8), .ref (ad 9), .ref (ad 10), .ref (ad 11), .ref (ad 12), .ref (ad 13), .ref (ad 14), .ref (ad 15), .ref (ad 16)]))] H := hP
  have hD : va_D A [(h0, .inr (9, [.ref (ad 0), .ref (ad 1), .ref (ad 2), .ref (ad 3), .ref (ad 4), .ref (ad 5), .ref (ad 6)])), ((ad 0), .inr (8, [.int 0, .int 0, .ref (ad 7), .ref (ad 8), .ref (ad 9), .ref (ad 10), .ref (ad 11), .ref (ad 12), .ref (ad 13), .ref (ad 14), .ref (ad 15), .ref (ad 16)]))] := hD
  refine vx_catch hown [] (⟨0, 17, 20, 19⟩ : ExceptionTableEntry) [] (by rw [hT]; rfl) (fun z hz => nomatch hz) (by decide) (by decide) (hts (.classLink RL 19 "java/lang/IndexOutOfBoundsException") (m_L_setRouter_O _ (by decide +kernel))) (va_Nw.use rfl (hX.2.2.2.1 _ (by decide +kernel))) hce hcv hcl ?_
  refine W.eq (g2 := F0 m 20 ls [.ref q9]) rfl ?_
  refine W.widen (k := 1) (n := 6) (Nat.le_of_ble_eq_true rfl) (Nat.le_of_ble_eq_true rfl) ?_
  refine lv_astore (lv' := [(4, .ref q9), (0, .ref h0), (1, .int p0), (2, .int p1), (3, .ref o)]) hx hb dL_setRouter_20 hl (by decide) rfl (fun ls hl => ?_)
  refine lv_iconst (v := 1) hx hb dL_setRouter_22 (by decide) ?_
  exact k_iret E hK hP hD hS () [0, 1] (by decide) rfl rfl (Nat.le_of_ble_eq_true rfl) (Nat.le_of_ble_eq_true rfl) dL_setRouter_23

def O_L_announce : List Cond := [.methodLink RL 34 yX9_announce, .instanceMethod yX9_announce, .selects RX9 yX9_announce yX9_announce, .initialized RX9, .classLink RL 19 "java/lang/IndexOutOfBoundsException"]
def W_L_announce : List Cond := .codeWith yL_announce cL_announce 7 (some .int) [(0, 14, 17, 19), (0, 14, 21, 21), (0, 14, 25, 13)] :: (O_L_announce ++ W_X9_announce)
theorem m_L_announce_O : ∀ w ∈ O_L_announce, w ∈ W_L_announce := fun _ h => List.mem_cons_of_mem _ (List.mem_append_left _ h)
theorem m_L_announce_WX9_announce : ∀ w ∈ W_X9_announce, w ∈ W_L_announce := fun _ h => List.mem_cons_of_mem _ (List.mem_append_right _ h)
theorem gdO_L_announce : O_L_announce.all goodWord = true := by decide +kernel
theorem gd_L_announce : W_L_announce.all goodWord = true := k_all_cons rfl (k_all_app gdO_L_announce gd_X9_announce)
set_option maxHeartbeats 4000000 in
set_option maxRecDepth 100000 in
theorem c_L_announce (l : Launch) (hfl : l.stackTraces = false) (D : va_G) (cI cZ cJ : ClassId) (h0 : Nat) (ad : Nat → Nat) (p0 : Int32) (p1 : Int32) (p2 : Int32) (p3 : Int32) (o : Nat) : kMw l yL_announce W_L_announce { frames := 9, cells := 1, slots := 6, locals := 200 } 1 6 D (kT cI cZ cJ) [.ref h0, .int p0, .int p1, .int p2, .int p3, .ref o] [(h0, .inr (9, [.ref (ad 0), .ref (ad 1), .ref (ad 2), .ref (ad 3), .ref (ad 4), .ref (ad 5), .ref (ad 6)])), ((ad 0), .inr (8, [.int 0, .int 0, .ref (ad 7), .ref (ad 8), .ref (ad 9), .ref (ad 10), .ref (ad 11), .ref (ad 12), .ref (ad 13), .ref (ad 14), .ref (ad 15), .ref (ad 16)]))] (S := Unit) (fun r _ => r = 1) (fun _ => [(h0, .inr (9, [.ref (ad 0), .ref (ad 1), .ref (ad 2), .ref (ad 3), .ref (ad 4), .ref (ad 5), .ref (ad 6)])), ((ad 0), .inr (8, [.int 0, .int 0, .ref (ad 7), .ref (ad 8), .ref (ad 9), .ref (ad 10), .ref (ad 11), .ref (ad 12), .ref (ad 13), .ref (ad 14), .ref (ad 15), .ref (ad 16)]))]) := by
  refine kMw_of (lv := [(0, .ref h0), (1, .int p0), (2, .int p1), (3, .int p2), (4, .int p3), (5, .ref o)]) RL "announce" (by decide +kernel) rfl rfl rfl (Nat.le_of_ble_eq_true rfl) rfl ?_
  intro p e s m below meth c A H locs ls E hT hX hA hK hP hD hS hl
  obtain ⟨hx, hb, hr, hts, hown, hlocks, hml, hin, hN⟩ := id E
  refine lv_aload hx hb dL_announce_0 (lv_at hl 5 rfl) ?_
  refine lv_iconst (v := 0) hx hb dL_announce_2 (by decide) ?_
  refine lv_aload_n hx hb dL_announce_3 rfl (lv_at hl 0 rfl) ?_
  refine lv_iload_n hx hb dL_announce_4 rfl (lv_at hl 1 rfl) ?_
  refine lv_iload_n hx hb dL_announce_5 rfl (lv_at hl 2 rfl) ?_
  refine lv_iload_n hx hb dL_announce_6 rfl (lv_at hl 3 rfl) ?_
  refine lv_iload hx hb dL_announce_7 (lv_at hl 4 rfl) ?_
  refine kXV (As := [.int p0, .int p1, .int p2, .int p3]) (rest := [.int 0, .ref o]) (wr := []) (w3 := [(h0, .inr (9, [.ref (ad 0), .ref (ad 1), .ref (ad 2), .ref (ad 3), .ref (ad 4), .ref (ad 5), .ref (ad 6)])), ((ad 0), .inr (8, [.int 0, .int 0, .ref (ad 7), .ref (ad 8), .ref (ad 9), .ref (ad 10), .ref (ad 11), .ref (ad 12), .ref (ad 13), .ref (ad 14), .ref (ad 15), .ref (ad 16)]))]) ⟨hx, hb, hml, hown, hts⟩ hN (c_X9_announce l hfl D cI cZ cJ h0 ad p0 p1 p2 p3) (cwV 4 hts (k_gV (fun w h => m_L_announce_O w ((by decide +kernel : ∀ w ∈ ([.methodLink RL 34 yX9_announce, .instanceMethod yX9_announce, .selects RX9 yX9_announce yX9_announce, .initialized RX9] : List Cond), w ∈ O_L_announce) w h)) m_L_announce_WX9_announce gd_X9_announce) rfl rfl rfl (by decide +kernel) ⟨Nat.le_of_ble_eq_true rfl, Nat.le_of_ble_eq_true rfl⟩) hX hK hP hD hS hA [0, 1] [] [0, 1] rfl rfl ⟨by decide, by decide, by decide⟩ (by decide) rfl 9 0 rfl rfl rfl rfl hl.1 rfl (Nat.le_of_ble_eq_true rfl) dL_announce_9 ⟨Nat.le_of_ble_eq_true rfl, Nat.le_of_ble_eq_true rfl⟩ (fun ce q9 H locs hP hD hS hce hcv hcl => ?_)
  have hP : va_P D vwCl [(h0, .inr (9, [.ref (ad 0), .ref (ad 1), .ref (ad 2), .ref (ad 3), .ref (ad 4), .ref (ad 5), .ref (ad 6)])), ((ad 0), .inr (8, [.int 0, .int 0, .ref (ad 7), .ref (ad 8), .ref (ad 9), .ref (ad 10), .ref (ad 11), .ref (ad 12), .ref (ad 13), .ref (ad 14), .ref (ad 15), .ref (ad 16)]))] H := hP
  have hD : va_D A [(h0, .inr (9, [.ref (ad 0), .ref (ad 1), .ref (ad 2), .ref (ad 3), .ref (ad 4), .ref (ad 5), .ref (ad 6)])), ((ad 0), .inr (8, [.int 0, .int 0, .ref (ad 7), .ref (ad 8), .ref (ad 9), .ref (ad 10), .ref (ad 11), .ref (ad 12), .ref (ad 13), .ref (ad 14), .ref (ad 15), .ref (ad 16)]))] := hD
  refine vx_catch hown [] (⟨0, 14, 17, 19⟩ : ExceptionTableEntry) [(⟨0, 14, 21, 21⟩ : ExceptionTableEntry), (⟨0, 14, 25, 13⟩ : ExceptionTableEntry)] (by rw [hT]; rfl) (fun z hz => nomatch hz) (by decide) (by decide) (hts (.classLink RL 19 "java/lang/IndexOutOfBoundsException") (m_L_announce_O _ (by decide +kernel))) (va_Nw.use rfl (hX.2.2.2.1 _ (by decide +kernel))) hce hcv hcl ?_
  refine W.eq (g2 := F0 m 17 ls [.ref q9]) rfl ?_
  refine W.widen (k := 1) (n := 6) (Nat.le_of_ble_eq_true rfl) (Nat.le_of_ble_eq_true rfl) ?_
  refine lv_astore (lv' := [(6, .ref q9), (0, .ref h0), (1, .int p0), (2, .int p1), (3, .int p2), (4, .int p3), (5, .ref o)]) hx hb dL_announce_17 hl (by decide) rfl (fun ls hl => ?_)
  refine lv_iconst (v := 1) hx hb dL_announce_19 (by decide) ?_
  exact k_iret E hK hP hD hS () [0, 1] (by decide) rfl rfl (Nat.le_of_ble_eq_true rfl) (Nat.le_of_ble_eq_true rfl) dL_announce_20

def O_L_withdraw : List Cond := [.methodLink RL 38 yX9_withdraw, .instanceMethod yX9_withdraw, .selects RX9 yX9_withdraw yX9_withdraw, .initialized RX9, .classLink RL 19 "java/lang/IndexOutOfBoundsException"]
def W_L_withdraw : List Cond := .codeWith yL_withdraw cL_withdraw 6 (some .int) [(0, 12, 15, 19), (0, 12, 19, 41)] :: (O_L_withdraw ++ W_X9_withdraw)
theorem m_L_withdraw_O : ∀ w ∈ O_L_withdraw, w ∈ W_L_withdraw := fun _ h => List.mem_cons_of_mem _ (List.mem_append_left _ h)
theorem m_L_withdraw_WX9_withdraw : ∀ w ∈ W_X9_withdraw, w ∈ W_L_withdraw := fun _ h => List.mem_cons_of_mem _ (List.mem_append_right _ h)
theorem gdO_L_withdraw : O_L_withdraw.all goodWord = true := by decide +kernel
theorem gd_L_withdraw : W_L_withdraw.all goodWord = true := k_all_cons rfl (k_all_app gdO_L_withdraw gd_X9_withdraw)
set_option maxHeartbeats 4000000 in
set_option maxRecDepth 100000 in
theorem c_L_withdraw (l : Launch) (hfl : l.stackTraces = false) (D : va_G) (cI cZ cJ : ClassId) (h0 : Nat) (ad : Nat → Nat) (p0 : Int32) (p1 : Int32) (p2 : Int32) (o : Nat) : kMw l yL_withdraw W_L_withdraw { frames := 9, cells := 1, slots := 6, locals := 200 } 1 6 D (kT cI cZ cJ) [.ref h0, .int p0, .int p1, .int p2, .ref o] [(h0, .inr (9, [.ref (ad 0), .ref (ad 1), .ref (ad 2), .ref (ad 3), .ref (ad 4), .ref (ad 5), .ref (ad 6)])), ((ad 0), .inr (8, [.int 0, .int 0, .ref (ad 7), .ref (ad 8), .ref (ad 9), .ref (ad 10), .ref (ad 11), .ref (ad 12), .ref (ad 13), .ref (ad 14), .ref (ad 15), .ref (ad 16)]))] (S := Unit) (fun r _ => r = 1) (fun _ => [(h0, .inr (9, [.ref (ad 0), .ref (ad 1), .ref (ad 2), .ref (ad 3), .ref (ad 4), .ref (ad 5), .ref (ad 6)])), ((ad 0), .inr (8, [.int 0, .int 0, .ref (ad 7), .ref (ad 8), .ref (ad 9), .ref (ad 10), .ref (ad 11), .ref (ad 12), .ref (ad 13), .ref (ad 14), .ref (ad 15), .ref (ad 16)]))]) := by
  refine kMw_of (lv := [(0, .ref h0), (1, .int p0), (2, .int p1), (3, .int p2), (4, .ref o)]) RL "withdraw" (by decide +kernel) rfl rfl rfl (Nat.le_of_ble_eq_true rfl) rfl ?_
  intro p e s m below meth c A H locs ls E hT hX hA hK hP hD hS hl
  obtain ⟨hx, hb, hr, hts, hown, hlocks, hml, hin, hN⟩ := id E
  refine lv_aload hx hb dL_withdraw_0 (lv_at hl 4 rfl) ?_
  refine lv_iconst (v := 0) hx hb dL_withdraw_2 (by decide) ?_
  refine lv_aload_n hx hb dL_withdraw_3 rfl (lv_at hl 0 rfl) ?_
  refine lv_iload_n hx hb dL_withdraw_4 rfl (lv_at hl 1 rfl) ?_
  refine lv_iload_n hx hb dL_withdraw_5 rfl (lv_at hl 2 rfl) ?_
  refine lv_iload_n hx hb dL_withdraw_6 rfl (lv_at hl 3 rfl) ?_
  refine kXV (As := [.int p0, .int p1, .int p2]) (rest := [.int 0, .ref o]) (wr := []) (w3 := [(h0, .inr (9, [.ref (ad 0), .ref (ad 1), .ref (ad 2), .ref (ad 3), .ref (ad 4), .ref (ad 5), .ref (ad 6)])), ((ad 0), .inr (8, [.int 0, .int 0, .ref (ad 7), .ref (ad 8), .ref (ad 9), .ref (ad 10), .ref (ad 11), .ref (ad 12), .ref (ad 13), .ref (ad 14), .ref (ad 15), .ref (ad 16)]))]) ⟨hx, hb, hml, hown, hts⟩ hN (c_X9_withdraw l hfl D cI cZ cJ h0 ad p0 p1 p2) (cwV 3 hts (k_gV (fun w h => m_L_withdraw_O w ((by decide +kernel : ∀ w ∈ ([.methodLink RL 38 yX9_withdraw, .instanceMethod yX9_withdraw, .selects RX9 yX9_withdraw yX9_withdraw, .initialized RX9] : List Cond), w ∈ O_L_withdraw) w h)) m_L_withdraw_WX9_withdraw gd_X9_withdraw) rfl rfl rfl (by decide +kernel) ⟨Nat.le_of_ble_eq_true rfl, Nat.le_of_ble_eq_true rfl⟩) hX hK hP hD hS hA [0, 1] [] [0, 1] rfl rfl ⟨by decide, by decide, by decide⟩ (by decide) rfl 9 0 rfl rfl rfl rfl hl.1 rfl (Nat.le_of_ble_eq_true rfl) dL_withdraw_7 ⟨Nat.le_of_ble_eq_true rfl, Nat.le_of_ble_eq_true rfl⟩ (fun ce q9 H locs hP hD hS hce hcv hcl => ?_)
  have hP : va_P D vwCl [(h0, .inr (9, [.ref (ad 0), .ref (ad 1), .ref (ad 2), .ref (ad 3), .ref (ad 4), .ref (ad 5), .ref (ad 6)])), ((ad 0), .inr (8, [.int 0, .int 0, .ref (ad 7), .ref (ad 8), .ref (ad 9), .ref (ad 10), .ref (ad 11), .ref (ad 12), .ref (ad 13), .ref (ad 14), .ref (ad 15), .ref (ad 16)]))] H := hP
  have hD : va_D A [(h0, .inr (9, [.ref (ad 0), .ref (ad 1), .ref (ad 2), .ref (ad 3), .ref (ad 4), .ref (ad 5), .ref (ad 6)])), ((ad 0), .inr (8, [.int 0, .int 0, .ref (ad 7), .ref (ad 8), .ref (ad 9), .ref (ad 10), .ref (ad 11), .ref (ad 12), .ref (ad 13), .ref (ad 14), .ref (ad 15), .ref (ad 16)]))] := hD
  refine vx_catch hown [] (⟨0, 12, 15, 19⟩ : ExceptionTableEntry) [(⟨0, 12, 19, 41⟩ : ExceptionTableEntry)] (by rw [hT]; rfl) (fun z hz => nomatch hz) (by decide) (by decide) (hts (.classLink RL 19 "java/lang/IndexOutOfBoundsException") (m_L_withdraw_O _ (by decide +kernel))) (va_Nw.use rfl (hX.2.2.2.1 _ (by decide +kernel))) hce hcv hcl ?_
  refine W.eq (g2 := F0 m 15 ls [.ref q9]) rfl ?_
  refine W.widen (k := 1) (n := 6) (Nat.le_of_ble_eq_true rfl) (Nat.le_of_ble_eq_true rfl) ?_
  refine lv_astore (lv' := [(5, .ref q9), (0, .ref h0), (1, .int p0), (2, .int p1), (3, .int p2), (4, .ref o)]) hx hb dL_withdraw_15 hl (by decide) rfl (fun ls hl => ?_)
  refine lv_iconst (v := 1) hx hb dL_withdraw_17 (by decide) ?_
  exact k_iret E hK hP hD hS () [0, 1] (by decide) rfl rfl (Nat.le_of_ble_eq_true rfl) (Nat.le_of_ble_eq_true rfl) dL_withdraw_18

def O_L_isUsable : List Cond := [.methodLink RL 43 yX9_isUsable, .instanceMethod yX9_isUsable, .selects RX9 yX9_isUsable yX9_isUsable, .initialized RX9, .classLink RL 19 "java/lang/IndexOutOfBoundsException"]
def W_L_isUsable : List Cond := .codeWith yL_isUsable cL_isUsable 4 (some .int) [(0, 16, 19, 19)] :: (O_L_isUsable ++ W_X9_isUsable)
theorem m_L_isUsable_O : ∀ w ∈ O_L_isUsable, w ∈ W_L_isUsable := fun _ h => List.mem_cons_of_mem _ (List.mem_append_left _ h)
theorem m_L_isUsable_WX9_isUsable : ∀ w ∈ W_X9_isUsable, w ∈ W_L_isUsable := fun _ h => List.mem_cons_of_mem _ (List.mem_append_right _ h)
theorem gdO_L_isUsable : O_L_isUsable.all goodWord = true := by decide +kernel
theorem gd_L_isUsable : W_L_isUsable.all goodWord = true := k_all_cons rfl (k_all_app gdO_L_isUsable gd_X9_isUsable)
set_option maxHeartbeats 4000000 in
set_option maxRecDepth 100000 in
theorem c_L_isUsable (l : Launch) (hfl : l.stackTraces = false) (D : va_G) (cI cZ cJ : ClassId) (h0 : Nat) (ad : Nat → Nat) (p0 : Int32) (o : Nat) : kMw l yL_isUsable W_L_isUsable { frames := 9, cells := 1, slots := 6, locals := 200 } 1 6 D (kT cI cZ cJ) [.ref h0, .int p0, .ref o] [(h0, .inr (9, [.ref (ad 0), .ref (ad 1), .ref (ad 2), .ref (ad 3), .ref (ad 4), .ref (ad 5), .ref (ad 6)])), ((ad 0), .inr (8, [.int 0, .int 0, .ref (ad 7), .ref (ad 8), .ref (ad 9), .ref (ad 10), .ref (ad 11), .ref (ad 12), .ref (ad 13), .ref (ad 14), .ref (ad 15), .ref (ad 16)]))] (S := Unit) (fun r _ => r = 1) (fun _ => [(h0, .inr (9, [.ref (ad 0), .ref (ad 1), .ref (ad 2), .ref (ad 3), .ref (ad 4), .ref (ad 5), .ref (ad 6)])), ((ad 0), .inr (8, [.int 0, .int 0, .ref (ad 7), .ref (ad 8), .ref (ad 9), .ref (ad 10), .ref (ad 11), .ref (ad 12), .ref (ad 13), .ref (ad 14), .ref (ad 15), .ref (ad 16)]))]) := by
  refine kMw_of (lv := [(0, .ref h0), (1, .int p0), (2, .ref o)]) RL "isUsable" (by decide +kernel) rfl rfl rfl (Nat.le_of_ble_eq_true rfl) rfl ?_
  intro p e s m below meth c A H locs ls E hT hX hA hK hP hD hS hl
  obtain ⟨hx, hb, hr, hts, hown, hlocks, hml, hin, hN⟩ := id E
  refine lv_aload_n hx hb dL_isUsable_0 rfl (lv_at hl 2 rfl) ?_
  refine lv_iconst (v := 0) hx hb dL_isUsable_1 (by decide) ?_
  refine lv_aload_n hx hb dL_isUsable_2 rfl (lv_at hl 0 rfl) ?_
  refine lv_iload_n hx hb dL_isUsable_3 rfl (lv_at hl 1 rfl) ?_
  refine kXV (As := [.int p0]) (rest := [.int 0, .ref o]) (wr := []) (w3 := [(h0, .inr (9, [.ref (ad 0), .ref (ad 1), .ref (ad 2), .ref (ad 3), .ref (ad 4), .ref (ad 5), .ref (ad 6)])), ((ad 0), .inr (8, [.int 0, .int 0, .ref (ad 7), .ref (ad 8), .ref (ad 9), .ref (ad 10), .ref (ad 11), .ref (ad 12), .ref (ad 13), .ref (ad 14), .ref (ad 15), .ref (ad 16)]))]) ⟨hx, hb, hml, hown, hts⟩ hN (c_X9_isUsable l hfl D cI cZ cJ h0 ad p0) (cwV 1 hts (k_gV (fun w h => m_L_isUsable_O w ((by decide +kernel : ∀ w ∈ ([.methodLink RL 43 yX9_isUsable, .instanceMethod yX9_isUsable, .selects RX9 yX9_isUsable yX9_isUsable, .initialized RX9] : List Cond), w ∈ O_L_isUsable) w h)) m_L_isUsable_WX9_isUsable gd_X9_isUsable) rfl rfl rfl (by decide +kernel) ⟨Nat.le_of_ble_eq_true rfl, Nat.le_of_ble_eq_true rfl⟩) hX hK hP hD hS hA [0, 1] [] [0, 1] rfl rfl ⟨by decide, by decide, by decide⟩ (by decide) rfl 9 0 rfl rfl rfl rfl hl.1 rfl (Nat.le_of_ble_eq_true rfl) dL_isUsable_4 ⟨Nat.le_of_ble_eq_true rfl, Nat.le_of_ble_eq_true rfl⟩ (fun ce q9 H locs hP hD hS hce hcv hcl => ?_)
  have hP : va_P D vwCl [(h0, .inr (9, [.ref (ad 0), .ref (ad 1), .ref (ad 2), .ref (ad 3), .ref (ad 4), .ref (ad 5), .ref (ad 6)])), ((ad 0), .inr (8, [.int 0, .int 0, .ref (ad 7), .ref (ad 8), .ref (ad 9), .ref (ad 10), .ref (ad 11), .ref (ad 12), .ref (ad 13), .ref (ad 14), .ref (ad 15), .ref (ad 16)]))] H := hP
  have hD : va_D A [(h0, .inr (9, [.ref (ad 0), .ref (ad 1), .ref (ad 2), .ref (ad 3), .ref (ad 4), .ref (ad 5), .ref (ad 6)])), ((ad 0), .inr (8, [.int 0, .int 0, .ref (ad 7), .ref (ad 8), .ref (ad 9), .ref (ad 10), .ref (ad 11), .ref (ad 12), .ref (ad 13), .ref (ad 14), .ref (ad 15), .ref (ad 16)]))] := hD
  refine vx_catch hown [] (⟨0, 16, 19, 19⟩ : ExceptionTableEntry) [] (by rw [hT]; rfl) (fun z hz => nomatch hz) (by decide) (by decide) (hts (.classLink RL 19 "java/lang/IndexOutOfBoundsException") (m_L_isUsable_O _ (by decide +kernel))) (va_Nw.use rfl (hX.2.2.2.1 _ (by decide +kernel))) hce hcv hcl ?_
  refine W.eq (g2 := F0 m 19 ls [.ref q9]) rfl ?_
  refine W.widen (k := 1) (n := 6) (Nat.le_of_ble_eq_true rfl) (Nat.le_of_ble_eq_true rfl) ?_
  refine lv_astore_n (lv' := [(3, .ref q9), (0, .ref h0), (1, .int p0), (2, .ref o)]) hx hb dL_isUsable_19 rfl hl (by decide) rfl (fun ls hl => ?_)
  refine lv_iconst (v := 1) hx hb dL_isUsable_20 (by decide) ?_
  exact k_iret E hK hP hD hS () [0, 1] (by decide) rfl rfl (Nat.le_of_ble_eq_true rfl) (Nat.le_of_ble_eq_true rfl) dL_isUsable_21

def O_L_isBorder : List Cond := [.methodLink RL 47 yX9_isBorder, .instanceMethod yX9_isBorder, .selects RX9 yX9_isBorder yX9_isBorder, .initialized RX9, .classLink RL 19 "java/lang/IndexOutOfBoundsException"]
def W_L_isBorder : List Cond := .codeWith yL_isBorder cL_isBorder 4 (some .int) [(0, 16, 19, 19)] :: (O_L_isBorder ++ W_X9_isBorder)
theorem m_L_isBorder_O : ∀ w ∈ O_L_isBorder, w ∈ W_L_isBorder := fun _ h => List.mem_cons_of_mem _ (List.mem_append_left _ h)
theorem m_L_isBorder_WX9_isBorder : ∀ w ∈ W_X9_isBorder, w ∈ W_L_isBorder := fun _ h => List.mem_cons_of_mem _ (List.mem_append_right _ h)
theorem gdO_L_isBorder : O_L_isBorder.all goodWord = true := by decide +kernel
theorem gd_L_isBorder : W_L_isBorder.all goodWord = true := k_all_cons rfl (k_all_app gdO_L_isBorder gd_X9_isBorder)
set_option maxHeartbeats 4000000 in
set_option maxRecDepth 100000 in
theorem c_L_isBorder (l : Launch) (hfl : l.stackTraces = false) (D : va_G) (cI cZ cJ : ClassId) (h0 : Nat) (ad : Nat → Nat) (p0 : Int32) (o : Nat) : kMw l yL_isBorder W_L_isBorder { frames := 9, cells := 1, slots := 6, locals := 200 } 1 6 D (kT cI cZ cJ) [.ref h0, .int p0, .ref o] [(h0, .inr (9, [.ref (ad 0), .ref (ad 1), .ref (ad 2), .ref (ad 3), .ref (ad 4), .ref (ad 5), .ref (ad 6)])), ((ad 0), .inr (8, [.int 0, .int 0, .ref (ad 7), .ref (ad 8), .ref (ad 9), .ref (ad 10), .ref (ad 11), .ref (ad 12), .ref (ad 13), .ref (ad 14), .ref (ad 15), .ref (ad 16)]))] (S := Unit) (fun r _ => r = 1) (fun _ => [(h0, .inr (9, [.ref (ad 0), .ref (ad 1), .ref (ad 2), .ref (ad 3), .ref (ad 4), .ref (ad 5), .ref (ad 6)])), ((ad 0), .inr (8, [.int 0, .int 0, .ref (ad 7), .ref (ad 8), .ref (ad 9), .ref (ad 10), .ref (ad 11), .ref (ad 12), .ref (ad 13), .ref (ad 14), .ref (ad 15), .ref (ad 16)]))]) := by
  refine kMw_of (lv := [(0, .ref h0), (1, .int p0), (2, .ref o)]) RL "isBorder" (by decide +kernel) rfl rfl rfl (Nat.le_of_ble_eq_true rfl) rfl ?_
  intro p e s m below meth c A H locs ls E hT hX hA hK hP hD hS hl
  obtain ⟨hx, hb, hr, hts, hown, hlocks, hml, hin, hN⟩ := id E
  refine lv_aload_n hx hb dL_isBorder_0 rfl (lv_at hl 2 rfl) ?_
  refine lv_iconst (v := 0) hx hb dL_isBorder_1 (by decide) ?_
  refine lv_aload_n hx hb dL_isBorder_2 rfl (lv_at hl 0 rfl) ?_
  refine lv_iload_n hx hb dL_isBorder_3 rfl (lv_at hl 1 rfl) ?_
  refine kXV (As := [.int p0]) (rest := [.int 0, .ref o]) (wr := []) (w3 := [(h0, .inr (9, [.ref (ad 0), .ref (ad 1), .ref (ad 2), .ref (ad 3), .ref (ad 4), .ref (ad 5), .ref (ad 6)])), ((ad 0), .inr (8, [.int 0, .int 0, .ref (ad 7), .ref (ad 8), .ref (ad 9), .ref (ad 10), .ref (ad 11), .ref (ad 12), .ref (ad 13), .ref (ad 14), .ref (ad 15), .ref (ad 16)]))]) ⟨hx, hb, hml, hown, hts⟩ hN (c_X9_isBorder l hfl D cI cZ cJ h0 ad p0) (cwV 1 hts (k_gV (fun w h => m_L_isBorder_O w ((by decide +kernel : ∀ w ∈ ([.methodLink RL 47 yX9_isBorder, .instanceMethod yX9_isBorder, .selects RX9 yX9_isBorder yX9_isBorder, .initialized RX9] : List Cond), w ∈ O_L_isBorder) w h)) m_L_isBorder_WX9_isBorder gd_X9_isBorder) rfl rfl rfl (by decide +kernel) ⟨Nat.le_of_ble_eq_true rfl, Nat.le_of_ble_eq_true rfl⟩) hX hK hP hD hS hA [0, 1] [] [0, 1] rfl rfl ⟨by decide, by decide, by decide⟩ (by decide) rfl 9 0 rfl rfl rfl rfl hl.1 rfl (Nat.le_of_ble_eq_true rfl) dL_isBorder_4 ⟨Nat.le_of_ble_eq_true rfl, Nat.le_of_ble_eq_true rfl⟩ (fun ce q9 H locs hP hD hS hce hcv hcl => ?_)
  have hP : va_P D vwCl [(h0, .inr (9, [.ref (ad 0), .ref (ad 1), .ref (ad 2), .ref (ad 3), .ref (ad 4), .ref (ad 5), .ref (ad 6)])), ((ad 0), .inr (8, [.int 0, .int 0, .ref (ad 7), .ref (ad 8), .ref (ad 9), .ref (ad 10), .ref (ad 11), .ref (ad 12), .ref (ad 13), .ref (ad 14), .ref (ad 15), .ref (ad 16)]))] H := hP
  have hD : va_D A [(h0, .inr (9, [.ref (ad 0), .ref (ad 1), .ref (ad 2), .ref (ad 3), .ref (ad 4), .ref (ad 5), .ref (ad 6)])), ((ad 0), .inr (8, [.int 0, .int 0, .ref (ad 7), .ref (ad 8), .ref (ad 9), .ref (ad 10), .ref (ad 11), .ref (ad 12), .ref (ad 13), .ref (ad 14), .ref (ad 15), .ref (ad 16)]))] := hD
  refine vx_catch hown [] (⟨0, 16, 19, 19⟩ : ExceptionTableEntry) [] (by rw [hT]; rfl) (fun z hz => nomatch hz) (by decide) (by decide) (hts (.classLink RL 19 "java/lang/IndexOutOfBoundsException") (m_L_isBorder_O _ (by decide +kernel))) (va_Nw.use rfl (hX.2.2.2.1 _ (by decide +kernel))) hce hcv hcl ?_
  refine W.eq (g2 := F0 m 19 ls [.ref q9]) rfl ?_
  refine W.widen (k := 1) (n := 6) (Nat.le_of_ble_eq_true rfl) (Nat.le_of_ble_eq_true rfl) ?_
  refine lv_astore_n (lv' := [(3, .ref q9), (0, .ref h0), (1, .int p0), (2, .ref o)]) hx hb dL_isBorder_19 rfl hl (by decide) rfl (fun ls hl => ?_)
  refine lv_iconst (v := 1) hx hb dL_isBorder_20 (by decide) ?_
  exact k_iret E hK hP hD hS () [0, 1] (by decide) rfl rfl (Nat.le_of_ble_eq_true rfl) (Nat.le_of_ble_eq_true rfl) dL_isBorder_21

def O_L_databaseSize : List Cond := [.methodLink RL 54 yX9_databaseSize, .instanceMethod yX9_databaseSize, .selects RX9 yX9_databaseSize yX9_databaseSize, .initialized RX9, .classLink RL 19 "java/lang/IndexOutOfBoundsException"]
def W_L_databaseSize : List Cond := .codeWith yL_databaseSize cL_databaseSize 5 (some .int) [(0, 10, 13, 19)] :: (O_L_databaseSize ++ W_X9_databaseSize)
theorem m_L_databaseSize_O : ∀ w ∈ O_L_databaseSize, w ∈ W_L_databaseSize := fun _ h => List.mem_cons_of_mem _ (List.mem_append_left _ h)
theorem m_L_databaseSize_WX9_databaseSize : ∀ w ∈ W_X9_databaseSize, w ∈ W_L_databaseSize := fun _ h => List.mem_cons_of_mem _ (List.mem_append_right _ h)
theorem gdO_L_databaseSize : O_L_databaseSize.all goodWord = true := by decide +kernel
theorem gd_L_databaseSize : W_L_databaseSize.all goodWord = true := k_all_cons rfl (k_all_app gdO_L_databaseSize gd_X9_databaseSize)
set_option maxHeartbeats 4000000 in
set_option maxRecDepth 100000 in
theorem c_L_databaseSize (l : Launch) (hfl : l.stackTraces = false) (D : va_G) (cI cZ cJ : ClassId) (h0 : Nat) (ad : Nat → Nat) (p0 : Int32) (p1 : Int32) (o : Nat) : kMw l yL_databaseSize W_L_databaseSize { frames := 9, cells := 1, slots := 6, locals := 200 } 1 6 D (kT cI cZ cJ) [.ref h0, .int p0, .int p1, .ref o] [(h0, .inr (9, [.ref (ad 0), .ref (ad 1), .ref (ad 2), .ref (ad 3), .ref (ad 4), .ref (ad 5), .ref (ad 6)])), ((ad 0), .inr (8, [.int 0, .int 0, .ref (ad 7), .ref (ad 8), .ref (ad 9), .ref (ad 10), .ref (ad 11), .ref (ad 12), .ref (ad 13), .ref (ad 14), .ref (ad 15), .ref (ad 16)]))] (S := Unit) (fun r _ => r = 1) (fun _ => [(h0, .inr (9, [.ref (ad 0), .ref (ad 1), .ref (ad 2), .ref (ad 3), .ref (ad 4), .ref (ad 5), .ref (ad 6)])), ((ad 0), .inr (8, [.int 0, .int 0, .ref (ad 7), .ref (ad 8), .ref (ad 9), .ref (ad 10), .ref (ad 11), .ref (ad 12), .ref (ad 13), .ref (ad 14), .ref (ad 15), .ref (ad 16)]))]) := by
  refine kMw_of (lv := [(0, .ref h0), (1, .int p0), (2, .int p1), (3, .ref o)]) RL "databaseSize" (by decide +kernel) rfl rfl rfl (Nat.le_of_ble_eq_true rfl) rfl ?_
  intro p e s m below meth c A H locs ls E hT hX hA hK hP hD hS hl
  obtain ⟨hx, hb, hr, hts, hown, hlocks, hml, hin, hN⟩ := id E
  refine lv_aload_n hx hb dL_databaseSize_0 rfl (lv_at hl 3 rfl) ?_
  refine lv_iconst (v := 0) hx hb dL_databaseSize_1 (by decide) ?_
  refine lv_aload_n hx hb dL_databaseSize_2 rfl (lv_at hl 0 rfl) ?_
  refine lv_iload_n hx hb dL_databaseSize_3 rfl (lv_at hl 1 rfl) ?_
  refine lv_iload_n hx hb dL_databaseSize_4 rfl (lv_at hl 2 rfl) ?_
  refine kXV (As := [.int p0, .int p1]) (rest := [.int 0, .ref o]) (wr := []) (w3 := [(h0, .inr (9, [.ref (ad 0), .ref (ad 1), .ref (ad 2), .ref (ad 3), .ref (ad 4), .ref (ad 5), .ref (ad 6)])), ((ad 0), .inr (8, [.int 0, .int 0, .ref (ad 7), .ref (ad 8), .ref (ad 9), .ref (ad 10), .ref (ad 11), .ref (ad 12), .ref (ad 13), .ref (ad 14), .ref (ad 15), .ref (ad 16)]))]) ⟨hx, hb, hml, hown, hts⟩ hN (c_X9_databaseSize l hfl D cI cZ cJ h0 ad p0 p1) (cwV 2 hts (k_gV (fun w h => m_L_databaseSize_O w ((by decide +kernel : ∀ w ∈ ([.methodLink RL 54 yX9_databaseSize, .instanceMethod yX9_databaseSize, .selects RX9 yX9_databaseSize yX9_databaseSize, .initialized RX9] : List Cond), w ∈ O_L_databaseSize) w h)) m_L_databaseSize_WX9_databaseSize gd_X9_databaseSize) rfl rfl rfl (by decide +kernel) ⟨Nat.le_of_ble_eq_true rfl, Nat.le_of_ble_eq_true rfl⟩) hX hK hP hD hS hA [0, 1] [] [0, 1] rfl rfl ⟨by decide, by decide, by decide⟩ (by decide) rfl 9 0 rfl rfl rfl rfl hl.1 rfl (Nat.le_of_ble_eq_true rfl) dL_databaseSize_5 ⟨Nat.le_of_ble_eq_true rfl, Nat.le_of_ble_eq_true rfl⟩ (fun ce q9 H locs hP hD hS hce hcv hcl => ?_)
  have hP : va_P D vwCl [(h0, .inr (9, [.ref (ad 0), .ref (ad 1), .ref (ad 2), .ref (ad 3), .ref (ad 4), .ref (ad 5), .ref (ad 6)])), ((ad 0), .inr (8, [.int 0, .int 0, .ref (ad 7), .ref (ad 8), .ref (ad 9), .ref (ad 10), .ref (ad 11), .ref (ad 12), .ref (ad 13), .ref (ad 14), .ref (ad 15), .ref (ad 16)]))] H := hP
  have hD : va_D A [(h0, .inr (9, [.ref (ad 0), .ref (ad 1), .ref (ad 2), .ref (ad 3), .ref (ad 4), .ref (ad 5), .ref (ad 6)])), ((ad 0), .inr (8, [.int 0, .int 0, .ref (ad 7), .ref (ad 8), .ref (ad 9), .ref (ad 10), .ref (ad 11), .ref (ad 12), .ref (ad 13), .ref (ad 14), .ref (ad 15), .ref (ad 16)]))] := hD
  refine vx_catch hown [] (⟨0, 10, 13, 19⟩ : ExceptionTableEntry) [] (by rw [hT]; rfl) (fun z hz => nomatch hz) (by decide) (by decide) (hts (.classLink RL 19 "java/lang/IndexOutOfBoundsException") (m_L_databaseSize_O _ (by decide +kernel))) (va_Nw.use rfl (hX.2.2.2.1 _ (by decide +kernel))) hce hcv hcl ?_
  refine W.eq (g2 := F0 m 13 ls [.ref q9]) rfl ?_
  refine W.widen (k := 1) (n := 6) (Nat.le_of_ble_eq_true rfl) (Nat.le_of_ble_eq_true rfl) ?_
  refine lv_astore (lv' := [(4, .ref q9), (0, .ref h0), (1, .int p0), (2, .int p1), (3, .ref o)]) hx hb dL_databaseSize_13 hl (by decide) rfl (fun ls hl => ?_)
  refine lv_iconst (v := 1) hx hb dL_databaseSize_15 (by decide) ?_
  exact k_iret E hK hP hD hS () [0, 1] (by decide) rfl rfl (Nat.le_of_ble_eq_true rfl) (Nat.le_of_ble_eq_true rfl) dL_databaseSize_16

def O_L_sequence : List Cond := [.methodLink RL 58 yX9_sequence, .instanceMethod yX9_sequence, .selects RX9 yX9_sequence yX9_sequence, .initialized RX9, .classLink RL 19 "java/lang/IndexOutOfBoundsException"]
def W_L_sequence : List Cond := .codeWith yL_sequence cL_sequence 6 (some .int) [(0, 12, 15, 19)] :: (O_L_sequence ++ W_X9_sequence)
theorem m_L_sequence_O : ∀ w ∈ O_L_sequence, w ∈ W_L_sequence := fun _ h => List.mem_cons_of_mem _ (List.mem_append_left _ h)
theorem m_L_sequence_WX9_sequence : ∀ w ∈ W_X9_sequence, w ∈ W_L_sequence := fun _ h => List.mem_cons_of_mem _ (List.mem_append_right _ h)
theorem gdO_L_sequence : O_L_sequence.all goodWord = true := by decide +kernel
theorem gd_L_sequence : W_L_sequence.all goodWord = true := k_all_cons rfl (k_all_app gdO_L_sequence gd_X9_sequence)
set_option maxHeartbeats 4000000 in
set_option maxRecDepth 100000 in
theorem c_L_sequence (l : Launch) (hfl : l.stackTraces = false) (D : va_G) (cI cZ cJ : ClassId) (h0 : Nat) (ad : Nat → Nat) (p0 : Int32) (p1 : Int32) (p2 : Int32) (o : Nat) : kMw l yL_sequence W_L_sequence { frames := 9, cells := 1, slots := 6, locals := 200 } 1 6 D (kT cI cZ cJ) [.ref h0, .int p0, .int p1, .int p2, .ref o] [(h0, .inr (9, [.ref (ad 0), .ref (ad 1), .ref (ad 2), .ref (ad 3), .ref (ad 4), .ref (ad 5), .ref (ad 6)])), ((ad 0), .inr (8, [.int 0, .int 0, .ref (ad 7), .ref (ad 8), .ref (ad 9), .ref (ad 10), .ref (ad 11), .ref (ad 12), .ref (ad 13), .ref (ad 14), .ref (ad 15), .ref (ad 16)]))] (S := Unit) (fun r _ => r = 1) (fun _ => [(h0, .inr (9, [.ref (ad 0), .ref (ad 1), .ref (ad 2), .ref (ad 3), .ref (ad 4), .ref (ad 5), .ref (ad 6)])), ((ad 0), .inr (8, [.int 0, .int 0, .ref (ad 7), .ref (ad 8), .ref (ad 9), .ref (ad 10), .ref (ad 11), .ref (ad 12), .ref (ad 13), .ref (ad 14), .ref (ad 15), .ref (ad 16)]))]) := by
  refine kMw_of (lv := [(0, .ref h0), (1, .int p0), (2, .int p1), (3, .int p2), (4, .ref o)]) RL "sequence" (by decide +kernel) rfl rfl rfl (Nat.le_of_ble_eq_true rfl) rfl ?_
  intro p e s m below meth c A H locs ls E hT hX hA hK hP hD hS hl
  obtain ⟨hx, hb, hr, hts, hown, hlocks, hml, hin, hN⟩ := id E
  refine lv_aload hx hb dL_sequence_0 (lv_at hl 4 rfl) ?_
  refine lv_iconst (v := 0) hx hb dL_sequence_2 (by decide) ?_
  refine lv_aload_n hx hb dL_sequence_3 rfl (lv_at hl 0 rfl) ?_
  refine lv_iload_n hx hb dL_sequence_4 rfl (lv_at hl 1 rfl) ?_
  refine lv_iload_n hx hb dL_sequence_5 rfl (lv_at hl 2 rfl) ?_
  refine lv_iload_n hx hb dL_sequence_6 rfl (lv_at hl 3 rfl) ?_
  refine kXV (As := [.int p0, .int p1, .int p2]) (rest := [.int 0, .ref o]) (wr := []) (w3 := [(h0, .inr (9, [.ref (ad 0), .ref (ad 1), .ref (ad 2), .ref (ad 3), .ref (ad 4), .ref (ad 5), .ref (ad 6)])), ((ad 0), .inr (8, [.int 0, .int 0, .ref (ad 7), .ref (ad 8), .ref (ad 9), .ref (ad 10), .ref (ad 11), .ref (ad 12), .ref (ad 13), .ref (ad 14), .ref (ad 15), .ref (ad 16)]))]) ⟨hx, hb, hml, hown, hts⟩ hN (c_X9_sequence l hfl D cI cZ cJ h0 ad p0 p1 p2) (cwV 3 hts (k_gV (fun w h => m_L_sequence_O w ((by decide +kernel : ∀ w ∈ ([.methodLink RL 58 yX9_sequence, .instanceMethod yX9_sequence, .selects RX9 yX9_sequence yX9_sequence, .initialized RX9] : List Cond), w ∈ O_L_sequence) w h)) m_L_sequence_WX9_sequence gd_X9_sequence) rfl rfl rfl (by decide +kernel) ⟨Nat.le_of_ble_eq_true rfl, Nat.le_of_ble_eq_true rfl⟩) hX hK hP hD hS hA [0, 1] [] [0, 1] rfl rfl ⟨by decide, by decide, by decide⟩ (by decide) rfl 9 0 rfl rfl rfl rfl hl.1 rfl (Nat.le_of_ble_eq_true rfl) dL_sequence_7 ⟨Nat.le_of_ble_eq_true rfl, Nat.le_of_ble_eq_true rfl⟩ (fun ce q9 H locs hP hD hS hce hcv hcl => ?_)
  have hP : va_P D vwCl [(h0, .inr (9, [.ref (ad 0), .ref (ad 1), .ref (ad 2), .ref (ad 3), .ref (ad 4), .ref (ad 5), .ref (ad 6)])), ((ad 0), .inr (8, [.int 0, .int 0, .ref (ad 7), .ref (ad 8), .ref (ad 9), .ref (ad 10), .ref (ad 11), .ref (ad 12), .ref (ad 13), .ref (ad 14), .ref (ad 15), .ref (ad 16)]))] H := hP
  have hD : va_D A [(h0, .inr (9, [.ref (ad 0), .ref (ad 1), .ref (ad 2), .ref (ad 3), .ref (ad 4), .ref (ad 5), .ref (ad 6)])), ((ad 0), .inr (8, [.int 0, .int 0, .ref (ad 7), .ref (ad 8), .ref (ad 9), .ref (ad 10), .ref (ad 11), .ref (ad 12), .ref (ad 13), .ref (ad 14), .ref (ad 15), .ref (ad 16)]))] := hD
  refine vx_catch hown [] (⟨0, 12, 15, 19⟩ : ExceptionTableEntry) [] (by rw [hT]; rfl) (fun z hz => nomatch hz) (by decide) (by decide) (hts (.classLink RL 19 "java/lang/IndexOutOfBoundsException") (m_L_sequence_O _ (by decide +kernel))) (va_Nw.use rfl (hX.2.2.2.1 _ (by decide +kernel))) hce hcv hcl ?_
  refine W.eq (g2 := F0 m 15 ls [.ref q9]) rfl ?_
  refine W.widen (k := 1) (n := 6) (Nat.le_of_ble_eq_true rfl) (Nat.le_of_ble_eq_true rfl) ?_
  refine lv_astore (lv' := [(5, .ref q9), (0, .ref h0), (1, .int p0), (2, .int p1), (3, .int p2), (4, .ref o)]) hx hb dL_sequence_15 hl (by decide) rfl (fun ls hl => ?_)
  refine lv_iconst (v := 1) hx hb dL_sequence_17 (by decide) ?_
  exact k_iret E hK hP hD hS () [0, 1] (by decide) rfl rfl (Nat.le_of_ble_eq_true rfl) (Nat.le_of_ble_eq_true rfl) dL_sequence_18

def O_L_listedLinks : List Cond := [.methodLink RL 61 yX9_listedLinks, .instanceMethod yX9_listedLinks, .selects RX9 yX9_listedLinks yX9_listedLinks, .initialized RX9, .classLink RL 19 "java/lang/IndexOutOfBoundsException"]
def W_L_listedLinks : List Cond := .codeWith yL_listedLinks cL_listedLinks 6 (some .int) [(0, 12, 15, 19)] :: (O_L_listedLinks ++ W_X9_listedLinks)
theorem m_L_listedLinks_O : ∀ w ∈ O_L_listedLinks, w ∈ W_L_listedLinks := fun _ h => List.mem_cons_of_mem _ (List.mem_append_left _ h)
theorem m_L_listedLinks_WX9_listedLinks : ∀ w ∈ W_X9_listedLinks, w ∈ W_L_listedLinks := fun _ h => List.mem_cons_of_mem _ (List.mem_append_right _ h)
theorem gdO_L_listedLinks : O_L_listedLinks.all goodWord = true := by decide +kernel
theorem gd_L_listedLinks : W_L_listedLinks.all goodWord = true := k_all_cons rfl (k_all_app gdO_L_listedLinks gd_X9_listedLinks)
set_option maxHeartbeats 4000000 in
set_option maxRecDepth 100000 in
theorem c_L_listedLinks (l : Launch) (hfl : l.stackTraces = false) (D : va_G) (cI cZ cJ : ClassId) (h0 : Nat) (ad : Nat → Nat) (p0 : Int32) (p1 : Int32) (p2 : Int32) (o : Nat) : kMw l yL_listedLinks W_L_listedLinks { frames := 9, cells := 1, slots := 6, locals := 200 } 1 6 D (kT cI cZ cJ) [.ref h0, .int p0, .int p1, .int p2, .ref o] [(h0, .inr (9, [.ref (ad 0), .ref (ad 1), .ref (ad 2), .ref (ad 3), .ref (ad 4), .ref (ad 5), .ref (ad 6)])), ((ad 0), .inr (8, [.int 0, .int 0, .ref (ad 7), .ref (ad 8), .ref (ad 9), .ref (ad 10), .ref (ad 11), .ref (ad 12), .ref (ad 13), .ref (ad 14), .ref (ad 15), .ref (ad 16)]))] (S := Unit) (fun r _ => r = 1) (fun _ => [(h0, .inr (9, [.ref (ad 0), .ref (ad 1), .ref (ad 2), .ref (ad 3), .ref (ad 4), .ref (ad 5), .ref (ad 6)])), ((ad 0), .inr (8, [.int 0, .int 0, .ref (ad 7), .ref (ad 8), .ref (ad 9), .ref (ad 10), .ref (ad 11), .ref (ad 12), .ref (ad 13), .ref (ad 14), .ref (ad 15), .ref (ad 16)]))]) := by
  refine kMw_of (lv := [(0, .ref h0), (1, .int p0), (2, .int p1), (3, .int p2), (4, .ref o)]) RL "listedLinks" (by decide +kernel) rfl rfl rfl (Nat.le_of_ble_eq_true rfl) rfl ?_
  intro p e s m below meth c A H locs ls E hT hX hA hK hP hD hS hl
  obtain ⟨hx, hb, hr, hts, hown, hlocks, hml, hin, hN⟩ := id E
  refine lv_aload hx hb dL_listedLinks_0 (lv_at hl 4 rfl) ?_
  refine lv_iconst (v := 0) hx hb dL_listedLinks_2 (by decide) ?_
  refine lv_aload_n hx hb dL_listedLinks_3 rfl (lv_at hl 0 rfl) ?_
  refine lv_iload_n hx hb dL_listedLinks_4 rfl (lv_at hl 1 rfl) ?_
  refine lv_iload_n hx hb dL_listedLinks_5 rfl (lv_at hl 2 rfl) ?_
  refine lv_iload_n hx hb dL_listedLinks_6 rfl (lv_at hl 3 rfl) ?_
  refine kXV (As := [.int p0, .int p1, .int p2]) (rest := [.int 0, .ref o]) (wr := []) (w3 := [(h0, .inr (9, [.ref (ad 0), .ref (ad 1), .ref (ad 2), .ref (ad 3), .ref (ad 4), .ref (ad 5), .ref (ad 6)])), ((ad 0), .inr (8, [.int 0, .int 0, .ref (ad 7), .ref (ad 8), .ref (ad 9), .ref (ad 10), .ref (ad 11), .ref (ad 12), .ref (ad 13), .ref (ad 14), .ref (ad 15), .ref (ad 16)]))]) ⟨hx, hb, hml, hown, hts⟩ hN (c_X9_listedLinks l hfl D cI cZ cJ h0 ad p0 p1 p2) (cwV 3 hts (k_gV (fun w h => m_L_listedLinks_O w ((by decide +kernel : ∀ w ∈ ([.methodLink RL 61 yX9_listedLinks, .instanceMethod yX9_listedLinks, .selects RX9 yX9_listedLinks yX9_listedLinks, .initialized RX9] : List Cond), w ∈ O_L_listedLinks) w h)) m_L_listedLinks_WX9_listedLinks gd_X9_listedLinks) rfl rfl rfl (by decide +kernel) ⟨Nat.le_of_ble_eq_true rfl, Nat.le_of_ble_eq_true rfl⟩) hX hK hP hD hS hA [0, 1] [] [0, 1] rfl rfl ⟨by decide, by decide, by decide⟩ (by decide) rfl 9 0 rfl rfl rfl rfl hl.1 rfl (Nat.le_of_ble_eq_true rfl) dL_listedLinks_7 ⟨Nat.le_of_ble_eq_true rfl, Nat.le_of_ble_eq_true rfl⟩ (fun ce q9 H locs hP hD hS hce hcv hcl => ?_)
  have hP : va_P D vwCl [(h0, .inr (9, [.ref (ad 0), .ref (ad 1), .ref (ad 2), .ref (ad 3), .ref (ad 4), .ref (ad 5), .ref (ad 6)])), ((ad 0), .inr (8, [.int 0, .int 0, .ref (ad 7), .ref (ad 8), .ref (ad 9), .ref (ad 10), .ref (ad 11), .ref (ad 12), .ref (ad 13), .ref (ad 14), .ref (ad 15), .ref (ad 16)]))] H := hP
  have hD : va_D A [(h0, .inr (9, [.ref (ad 0), .ref (ad 1), .ref (ad 2), .ref (ad 3), .ref (ad 4), .ref (ad 5), .ref (ad 6)])), ((ad 0), .inr (8, [.int 0, .int 0, .ref (ad 7), .ref (ad 8), .ref (ad 9), .ref (ad 10), .ref (ad 11), .ref (ad 12), .ref (ad 13), .ref (ad 14), .ref (ad 15), .ref (ad 16)]))] := hD
  refine vx_catch hown [] (⟨0, 12, 15, 19⟩ : ExceptionTableEntry) [] (by rw [hT]; rfl) (fun z hz => nomatch hz) (by decide) (by decide) (hts (.classLink RL 19 "java/lang/IndexOutOfBoundsException") (m_L_listedLinks_O _ (by decide +kernel))) (va_Nw.use rfl (hX.2.2.2.1 _ (by decide +kernel))) hce hcv hcl ?_
  refine W.eq (g2 := F0 m 15 ls [.ref q9]) rfl ?_
  refine W.widen (k := 1) (n := 6) (Nat.le_of_ble_eq_true rfl) (Nat.le_of_ble_eq_true rfl) ?_
  refine lv_astore (lv' := [(5, .ref q9), (0, .ref h0), (1, .int p0), (2, .int p1), (3, .int p2), (4, .ref o)]) hx hb dL_listedLinks_15 hl (by decide) rfl (fun ls hl => ?_)
  refine lv_iconst (v := 1) hx hb dL_listedLinks_17 (by decide) ?_
  exact k_iret E hK hP hD hS () [0, 1] (by decide) rfl rfl (Nat.le_of_ble_eq_true rfl) (Nat.le_of_ble_eq_true rfl) dL_listedLinks_18

def O_L_summary : List Cond := [.methodLink RL 64 yX9_summary, .instanceMethod yX9_summary, .selects RX9 yX9_summary yX9_summary, .initialized RX9, .classLink RL 19 "java/lang/IndexOutOfBoundsException"]
def W_L_summary : List Cond := .codeWith yL_summary cL_summary 7 (some .int) [(0, 14, 17, 19)] :: (O_L_summary ++ W_X9_summary)
theorem m_L_summary_O : ∀ w ∈ O_L_summary, w ∈ W_L_summary := fun _ h => List.mem_cons_of_mem _ (List.mem_append_left _ h)
theorem m_L_summary_WX9_summary : ∀ w ∈ W_X9_summary, w ∈ W_L_summary := fun _ h => List.mem_cons_of_mem _ (List.mem_append_right _ h)
theorem gdO_L_summary : O_L_summary.all goodWord = true := by decide +kernel
theorem gd_L_summary : W_L_summary.all goodWord = true := k_all_cons rfl (k_all_app gdO_L_summary gd_X9_summary)
set_option maxHeartbeats 4000000 in
set_option maxRecDepth 100000 in
theorem c_L_summary (l : Launch) (hfl : l.stackTraces = false) (D : va_G) (cI cZ cJ : ClassId) (h0 : Nat) (ad : Nat → Nat) (p0 : Int32) (p1 : Int32) (p2 : Int32) (p3 : Int32) (o : Nat) : kMw l yL_summary W_L_summary { frames := 9, cells := 1, slots := 6, locals := 200 } 1 6 D (kT cI cZ cJ) [.ref h0, .int p0, .int p1, .int p2, .int p3, .ref o] [(h0, .inr (9, [.ref (ad 0), .ref (ad 1), .ref (ad 2), .ref (ad 3), .ref (ad 4), .ref (ad 5), .ref (ad 6)])), ((ad 0), .inr (8, [.int 0, .int 0, .ref (ad 7), .ref (ad 8), .ref (ad 9), .ref (ad 10), .ref (ad 11), .ref (ad 12), .ref (ad 13), .ref (ad 14), .ref (ad 15), .ref (ad 16)]))] (S := Unit) (fun r _ => r = 1) (fun _ => [(h0, .inr (9, [.ref (ad 0), .ref (ad 1), .ref (ad 2), .ref (ad 3), .ref (ad 4), .ref (ad 5), .ref (ad 6)])), ((ad 0), .inr (8, [.int 0, .int 0, .ref (ad 7), .ref (ad 8), .ref (ad 9), .ref (ad 10), .ref (ad 11), .ref (ad 12), .ref (ad 13), .ref (ad 14), .ref (ad 15), .ref (ad 16)]))]) := by
  refine kMw_of (lv := [(0, .ref h0), (1, .int p0), (2, .int p1), (3, .int p2), (4, .int p3), (5, .ref o)]) RL "summary" (by decide +kernel) rfl rfl rfl (Nat.le_of_ble_eq_true rfl) rfl ?_
  intro p e s m below meth c A H locs ls E hT hX hA hK hP hD hS hl
  obtain ⟨hx, hb, hr, hts, hown, hlocks, hml, hin, hN⟩ := id E
  refine lv_aload hx hb dL_summary_0 (lv_at hl 5 rfl) ?_
  refine lv_iconst (v := 0) hx hb dL_summary_2 (by decide) ?_
  refine lv_aload_n hx hb dL_summary_3 rfl (lv_at hl 0 rfl) ?_
  refine lv_iload_n hx hb dL_summary_4 rfl (lv_at hl 1 rfl) ?_
  refine lv_iload_n hx hb dL_summary_5 rfl (lv_at hl 2 rfl) ?_
  refine lv_iload_n hx hb dL_summary_6 rfl (lv_at hl 3 rfl) ?_
  refine lv_iload hx hb dL_summary_7 (lv_at hl 4 rfl) ?_
  refine kXV (As := [.int p0, .int p1, .int p2, .int p3]) (rest := [.int 0, .ref o]) (wr := []) (w3 := [(h0, .inr (9, [.ref (ad 0), .ref (ad 1), .ref (ad 2), .ref (ad 3), .ref (ad 4), .ref (ad 5), .ref (ad 6)])), ((ad 0), .inr (8, [.int 0, .int 0, .ref (ad 7), .ref (ad 8), .ref (ad 9), .ref (ad 10), .ref (ad 11), .ref (ad 12), .ref (ad 13), .ref (ad 14), .ref (ad 15), .ref (ad 16)]))]) ⟨hx, hb, hml, hown, hts⟩ hN (c_X9_summary l hfl D cI cZ cJ h0 ad p0 p1 p2 p3) (cwV 4 hts (k_gV (fun w h => m_L_summary_O w ((by decide +kernel : ∀ w ∈ ([.methodLink RL 64 yX9_summary, .instanceMethod yX9_summary, .selects RX9 yX9_summary yX9_summary, .initialized RX9] : List Cond), w ∈ O_L_summary) w h)) m_L_summary_WX9_summary gd_X9_summary) rfl rfl rfl (by decide +kernel) ⟨Nat.le_of_ble_eq_true rfl, Nat.le_of_ble_eq_true rfl⟩) hX hK hP hD hS hA [0, 1] [] [0, 1] rfl rfl ⟨by decide, by decide, by decide⟩ (by decide) rfl 9 0 rfl rfl rfl rfl hl.1 rfl (Nat.le_of_ble_eq_true rfl) dL_summary_9 ⟨Nat.le_of_ble_eq_true rfl, Nat.le_of_ble_eq_true rfl⟩ (fun ce q9 H locs hP hD hS hce hcv hcl => ?_)
  have hP : va_P D vwCl [(h0, .inr (9, [.ref (ad 0), .ref (ad 1), .ref (ad 2), .ref (ad 3), .ref (ad 4), .ref (ad 5), .ref (ad 6)])), ((ad 0), .inr (8, [.int 0, .int 0, .ref (ad 7), .ref (ad 8), .ref (ad 9), .ref (ad 10), .ref (ad 11), .ref (ad 12), .ref (ad 13), .ref (ad 14), .ref (ad 15), .ref (ad 16)]))] H := hP
  have hD : va_D A [(h0, .inr (9, [.ref (ad 0), .ref (ad 1), .ref (ad 2), .ref (ad 3), .ref (ad 4), .ref (ad 5), .ref (ad 6)])), ((ad 0), .inr (8, [.int 0, .int 0, .ref (ad 7), .ref (ad 8), .ref (ad 9), .ref (ad 10), .ref (ad 11), .ref (ad 12), .ref (ad 13), .ref (ad 14), .ref (ad 15), .ref (ad 16)]))] := hD
  refine vx_catch hown [] (⟨0, 14, 17, 19⟩ : ExceptionTableEntry) [] (by rw [hT]; rfl) (fun z hz => nomatch hz) (by decide) (by decide) (hts (.classLink RL 19 "java/lang/IndexOutOfBoundsException") (m_L_summary_O _ (by decide +kernel))) (va_Nw.use rfl (hX.2.2.2.1 _ (by decide +kernel))) hce hcv hcl ?_
  refine W.eq (g2 := F0 m 17 ls [.ref q9]) rfl ?_
  refine W.widen (k := 1) (n := 6) (Nat.le_of_ble_eq_true rfl) (Nat.le_of_ble_eq_true rfl) ?_
  refine lv_astore (lv' := [(6, .ref q9), (0, .ref h0), (1, .int p0), (2, .int p1), (3, .int p2), (4, .int p3), (5, .ref o)]) hx hb dL_summary_17 hl (by decide) rfl (fun ls hl => ?_)
  refine lv_iconst (v := 1) hx hb dL_summary_19 (by decide) ?_
  exact k_iret E hK hP hD hS () [0, 1] (by decide) rfl rfl (Nat.le_of_ble_eq_true rfl) (Nat.le_of_ble_eq_true rfl) dL_summary_20

def O_L_agree : List Cond := [.methodLink RL 67 yX9_agree, .instanceMethod yX9_agree, .selects RX9 yX9_agree yX9_agree, .initialized RX9, .classLink RL 19 "java/lang/IndexOutOfBoundsException"]
def W_L_agree : List Cond := .codeWith yL_agree cL_agree 6 (some .int) [(0, 19, 22, 19)] :: (O_L_agree ++ W_X9_agree)
theorem m_L_agree_O : ∀ w ∈ O_L_agree, w ∈ W_L_agree := fun _ h => List.mem_cons_of_mem _ (List.mem_append_left _ h)
theorem m_L_agree_WX9_agree : ∀ w ∈ W_X9_agree, w ∈ W_L_agree := fun _ h => List.mem_cons_of_mem _ (List.mem_append_right _ h)
theorem gdO_L_agree : O_L_agree.all goodWord = true := by decide +kernel
theorem gd_L_agree : W_L_agree.all goodWord = true := k_all_cons rfl (k_all_app gdO_L_agree gd_X9_agree)
set_option maxHeartbeats 4000000 in
set_option maxRecDepth 100000 in
theorem c_L_agree (l : Launch) (hfl : l.stackTraces = false) (D : va_G) (cI cZ cJ : ClassId) (h0 : Nat) (ad : Nat → Nat) (p0 : Int32) (p1 : Int32) (p2 : Int32) (o : Nat) : kMw l yL_agree W_L_agree { frames := 9, cells := 1, slots := 6, locals := 200 } 1 6 D (kT cI cZ cJ) [.ref h0, .int p0, .int p1, .int p2, .ref o] [(h0, .inr (9, [.ref (ad 0), .ref (ad 1), .ref (ad 2), .ref (ad 3), .ref (ad 4), .ref (ad 5), .ref (ad 6)])), ((ad 0), .inr (8, [.int 0, .int 0, .ref (ad 7), .ref (ad 8), .ref (ad 9), .ref (ad 10), .ref (ad 11), .ref (ad 12), .ref (ad 13), .ref (ad 14), .ref (ad 15), .ref (ad 16)]))] (S := Unit) (fun r _ => r = 1) (fun _ => [(h0, .inr (9, [.ref (ad 0), .ref (ad 1), .ref (ad 2), .ref (ad 3), .ref (ad 4), .ref (ad 5), .ref (ad 6)])), ((ad 0), .inr (8, [.int 0, .int 0, .ref (ad 7), .ref (ad 8), .ref (ad 9), .ref (ad 10), .ref (ad 11), .ref (ad 12), .ref (ad 13), .ref (ad 14), .ref (ad 15), .ref (ad 16)]))]) := by
  refine kMw_of (lv := [(0, .ref h0), (1, .int p0), (2, .int p1), (3, .int p2), (4, .ref o)]) RL "agree" (by decide +kernel) rfl rfl rfl (Nat.le_of_ble_eq_true rfl) rfl ?_
  intro p e s m below meth c A H locs ls E hT hX hA hK hP hD hS hl
  obtain ⟨hx, hb, hr, hts, hown, hlocks, hml, hin, hN⟩ := id E
  refine lv_aload hx hb dL_agree_0 (lv_at hl 4 rfl) ?_
  refine lv_iconst (v := 0) hx hb dL_agree_2 (by decide) ?_
  refine lv_aload_n hx hb dL_agree_3 rfl (lv_at hl 0 rfl) ?_
  refine lv_iload_n hx hb dL_agree_4 rfl (lv_at hl 1 rfl) ?_
  refine lv_iload_n hx hb dL_agree_5 rfl (lv_at hl 2 rfl) ?_
  refine lv_iload_n hx hb dL_agree_6 rfl (lv_at hl 3 rfl) ?_
  refine kXV (As := [.int p0, .int p1, .int p2]) (rest := [.int 0, .ref o]) (wr := []) (w3 := [(h0, .inr (9, [.ref (ad 0), .ref (ad 1), .ref (ad 2), .ref (ad 3), .ref (ad 4), .ref (ad 5), .ref (ad 6)])), ((ad 0), .inr (8, [.int 0, .int 0, .ref (ad 7), .ref (ad 8), .ref (ad 9), .ref (ad 10), .ref (ad 11), .ref (ad 12), .ref (ad 13), .ref (ad 14), .ref (ad 15), .ref (ad 16)]))]) ⟨hx, hb, hml, hown, hts⟩ hN (c_X9_agree l hfl D cI cZ cJ h0 ad p0 p1 p2) (cwV 3 hts (k_gV (fun w h => m_L_agree_O w ((by decide +kernel : ∀ w ∈ ([.methodLink RL 67 yX9_agree, .instanceMethod yX9_agree, .selects RX9 yX9_agree yX9_agree, .initialized RX9] : List Cond), w ∈ O_L_agree) w h)) m_L_agree_WX9_agree gd_X9_agree) rfl rfl rfl (by decide +kernel) ⟨Nat.le_of_ble_eq_true rfl, Nat.le_of_ble_eq_true rfl⟩) hX hK hP hD hS hA [0, 1] [] [0, 1] rfl rfl ⟨by decide, by decide, by decide⟩ (by decide) rfl 9 0 rfl rfl rfl rfl hl.1 rfl (Nat.le_of_ble_eq_true rfl) dL_agree_7 ⟨Nat.le_of_ble_eq_true rfl, Nat.le_of_ble_eq_true rfl⟩ (fun ce q9 H locs hP hD hS hce hcv hcl => ?_)
  have hP : va_P D vwCl [(h0, .inr (9, [.ref (ad 0), .ref (ad 1), .ref (ad 2), .ref (ad 3), .ref (ad 4), .ref (ad 5), .ref (ad 6)])), ((ad 0), .inr (8, [.int 0, .int 0, .ref (ad 7), .ref (ad 8), .ref (ad 9), .ref (ad 10), .ref (ad 11), .ref (ad 12), .ref (ad 13), .ref (ad 14), .ref (ad 15), .ref (ad 16)]))] H := hP
  have hD : va_D A [(h0, .inr (9, [.ref (ad 0), .ref (ad 1), .ref (ad 2), .ref (ad 3), .ref (ad 4), .ref (ad 5), .ref (ad 6)])), ((ad 0), .inr (8, [.int 0, .int 0, .ref (ad 7), .ref (ad 8), .ref (ad 9), .ref (ad 10), .ref (ad 11), .ref (ad 12), .ref (ad 13), .ref (ad 14), .ref (ad 15), .ref (ad 16)]))] := hD
  refine vx_catch hown [] (⟨0, 19, 22, 19⟩ : ExceptionTableEntry) [] (by rw [hT]; rfl) (fun z hz => nomatch hz) (by decide) (by decide) (hts (.classLink RL 19 "java/lang/IndexOutOfBoundsException") (m_L_agree_O _ (by decide +kernel))) (va_Nw.use rfl (hX.2.2.2.1 _ (by decide +kernel))) hce hcv hcl ?_
  refine W.eq (g2 := F0 m 22 ls [.ref q9]) rfl ?_
  refine W.widen (k := 1) (n := 6) (Nat.le_of_ble_eq_true rfl) (Nat.le_of_ble_eq_true rfl) ?_
  refine lv_astore (lv' := [(5, .ref q9), (0, .ref h0), (1, .int p0), (2, .int p1), (3, .int p2), (4, .ref o)]) hx hb dL_agree_22 hl (by decide) rfl (fun ls hl => ?_)
  refine lv_iconst (v := 1) hx hb dL_agree_24 (by decide) ?_
  exact k_iret E hK hP hD hS () [0, 1] (by decide) rfl rfl (Nat.le_of_ble_eq_true rfl) (Nat.le_of_ble_eq_true rfl) dL_agree_25

def O_L_distance : List Cond := [.methodLink RL 71 yX9_distance, .instanceMethod yX9_distance, .selects RX9 yX9_distance yX9_distance, .initialized RX9, .classLink RL 19 "java/lang/IndexOutOfBoundsException"]
def W_L_distance : List Cond := .codeWith yL_distance cL_distance 6 (some .int) [(0, 12, 15, 19)] :: (O_L_distance ++ W_X9_distance)
theorem m_L_distance_O : ∀ w ∈ O_L_distance, w ∈ W_L_distance := fun _ h => List.mem_cons_of_mem _ (List.mem_append_left _ h)
theorem m_L_distance_WX9_distance : ∀ w ∈ W_X9_distance, w ∈ W_L_distance := fun _ h => List.mem_cons_of_mem _ (List.mem_append_right _ h)
theorem gdO_L_distance : O_L_distance.all goodWord = true := by decide +kernel
theorem gd_L_distance : W_L_distance.all goodWord = true := k_all_cons rfl (k_all_app gdO_L_distance gd_X9_distance)
set_option maxHeartbeats 4000000 in
set_option maxRecDepth 100000 in
theorem c_L_distance (l : Launch) (hfl : l.stackTraces = false) (D : va_G) (cI cZ cJ : ClassId) (h0 : Nat) (ad : Nat → Nat) (p0 : Int32) (p1 : Int32) (p2 : Int32) (o : Nat) : kMw l yL_distance W_L_distance { frames := 9, cells := 1, slots := 6, locals := 200 } 1 6 D (kT cI cZ cJ) [.ref h0, .int p0, .int p1, .int p2, .ref o] [(h0, .inr (9, [.ref (ad 0), .ref (ad 1), .ref (ad 2), .ref (ad 3), .ref (ad 4), .ref (ad 5), .ref (ad 6)])), ((ad 0), .inr (8, [.int 0, .int 0, .ref (ad 7), .ref (ad 8), .ref (ad 9), .ref (ad 10), .ref (ad 11), .ref (ad 12), .ref (ad 13), .ref (ad 14), .ref (ad 15), .ref (ad 16)]))] (S := Unit) (fun r _ => r = 1) (fun _ => [(h0, .inr (9, [.ref (ad 0), .ref (ad 1), .ref (ad 2), .ref (ad 3), .ref (ad 4), .ref (ad 5), .ref (ad 6)])), ((ad 0), .inr (8, [.int 0, .int 0, .ref (ad 7), .ref (ad 8), .ref (ad 9), .ref (ad 10), .ref (ad 11), .ref (ad 12), .ref (ad 13), .ref (ad 14), .ref (ad 15), .ref (ad 16)]))]) := by
  refine kMw_of (lv := [(0, .ref h0), (1, .int p0), (2, .int p1), (3, .int p2), (4, .ref o)]) RL "distance" (by decide +kernel) rfl rfl rfl (Nat.le_of_ble_eq_true rfl) rfl ?_
  intro p e s m below meth c A H locs ls E hT hX hA hK hP hD hS hl
  obtain ⟨hx, hb, hr, hts, hown, hlocks, hml, hin, hN⟩ := id E
  refine lv_aload hx hb dL_distance_0 (lv_at hl 4 rfl) ?_
  refine lv_iconst (v := 0) hx hb dL_distance_2 (by decide) ?_
  refine lv_aload_n hx hb dL_distance_3 rfl (lv_at hl 0 rfl) ?_
  refine lv_iload_n hx hb dL_distance_4 rfl (lv_at hl 1 rfl) ?_
  refine lv_iload_n hx hb dL_distance_5 rfl (lv_at hl 2 rfl) ?_
  refine lv_iload_n hx hb dL_distance_6 rfl (lv_at hl 3 rfl) ?_
  refine kXV (As := [.int p0, .int p1, .int p2]) (rest := [.int 0, .ref o]) (wr := []) (w3 := [(h0, .inr (9, [.ref (ad 0), .ref (ad 1), .ref (ad 2), .ref (ad 3), .ref (ad 4), .ref (ad 5), .ref (ad 6)])), ((ad 0), .inr (8, [.int 0, .int 0, .ref (ad 7), .ref (ad 8), .ref (ad 9), .ref (ad 10), .ref (ad 11), .ref (ad 12), .ref (ad 13), .ref (ad 14), .ref (ad 15), .ref (ad 16)]))]) ⟨hx, hb, hml, hown, hts⟩ hN (c_X9_distance l hfl D cI cZ cJ h0 ad p0 p1 p2) (cwV 3 hts (k_gV (fun w h => m_L_distance_O w ((by decide +kernel : ∀ w ∈ ([.methodLink RL 71 yX9_distance, .instanceMethod yX9_distance, .selects RX9 yX9_distance yX9_distance, .initialized RX9] : List Cond), w ∈ O_L_distance) w h)) m_L_distance_WX9_distance gd_X9_distance) rfl rfl rfl (by decide +kernel) ⟨Nat.le_of_ble_eq_true rfl, Nat.le_of_ble_eq_true rfl⟩) hX hK hP hD hS hA [0, 1] [] [0, 1] rfl rfl ⟨by decide, by decide, by decide⟩ (by decide) rfl 9 0 rfl rfl rfl rfl hl.1 rfl (Nat.le_of_ble_eq_true rfl) dL_distance_7 ⟨Nat.le_of_ble_eq_true rfl, Nat.le_of_ble_eq_true rfl⟩ (fun ce q9 H locs hP hD hS hce hcv hcl => ?_)
  have hP : va_P D vwCl [(h0, .inr (9, [.ref (ad 0), .ref (ad 1), .ref (ad 2), .ref (ad 3), .ref (ad 4), .ref (ad 5), .ref (ad 6)])), ((ad 0), .inr (8, [.int 0, .int 0, .ref (ad 7), .ref (ad 8), .ref (ad 9), .ref (ad 10), .ref (ad 11), .ref (ad 12), .ref (ad 13), .ref (ad 14), .ref (ad 15), .ref (ad 16)]))] H := hP
  have hD : va_D A [(h0, .inr (9, [.ref (ad 0), .ref (ad 1), .ref (ad 2), .ref (ad 3), .ref (ad 4), .ref (ad 5), .ref (ad 6)])), ((ad 0), .inr (8, [.int 0, .int 0, .ref (ad 7), .ref (ad 8), .ref (ad 9), .ref (ad 10), .ref (ad 11), .ref (ad 12), .ref (ad 13), .ref (ad 14), .ref (ad 15), .ref (ad 16)]))] := hD
  refine vx_catch hown [] (⟨0, 12, 15, 19⟩ : ExceptionTableEntry) [] (by rw [hT]; rfl) (fun z hz => nomatch hz) (by decide) (by decide) (hts (.classLink RL 19 "java/lang/IndexOutOfBoundsException") (m_L_distance_O _ (by decide +kernel))) (va_Nw.use rfl (hX.2.2.2.1 _ (by decide +kernel))) hce hcv hcl ?_
  refine W.eq (g2 := F0 m 15 ls [.ref q9]) rfl ?_
  refine W.widen (k := 1) (n := 6) (Nat.le_of_ble_eq_true rfl) (Nat.le_of_ble_eq_true rfl) ?_
  refine lv_astore (lv' := [(5, .ref q9), (0, .ref h0), (1, .int p0), (2, .int p1), (3, .int p2), (4, .ref o)]) hx hb dL_distance_15 hl (by decide) rfl (fun ls hl => ?_)
  refine lv_iconst (v := 1) hx hb dL_distance_17 (by decide) ?_
  exact k_iret E hK hP hD hS () [0, 1] (by decide) rfl rfl (Nat.le_of_ble_eq_true rfl) (Nat.le_of_ble_eq_true rfl) dL_distance_18

def O_L_firstLinkCount : List Cond := [.methodLink RL 74 yX9_firstLinkCount, .instanceMethod yX9_firstLinkCount, .selects RX9 yX9_firstLinkCount yX9_firstLinkCount, .initialized RX9, .classLink RL 19 "java/lang/IndexOutOfBoundsException"]
def W_L_firstLinkCount : List Cond := .codeWith yL_firstLinkCount cL_firstLinkCount 6 (some .int) [(0, 12, 15, 19)] :: (O_L_firstLinkCount ++ W_X9_firstLinkCount)
theorem m_L_firstLinkCount_O : ∀ w ∈ O_L_firstLinkCount, w ∈ W_L_firstLinkCount := fun _ h => List.mem_cons_of_mem _ (List.mem_append_left _ h)
theorem m_L_firstLinkCount_WX9_firstLinkCount : ∀ w ∈ W_X9_firstLinkCount, w ∈ W_L_firstLinkCount := fun _ h => List.mem_cons_of_mem _ (List.mem_append_right _ h)
theorem gdO_L_firstLinkCount : O_L_firstLinkCount.all goodWord = true := by decide +kernel
theorem gd_L_firstLinkCount : W_L_firstLinkCount.all goodWord = true := k_all_cons rfl (k_all_app gdO_L_firstLinkCount gd_X9_firstLinkCount)
set_option maxHeartbeats 4000000 in
set_option maxRecDepth 100000 in
theorem c_L_firstLinkCount (l : Launch) (hfl : l.stackTraces = false) (D : va_G) (cI cZ cJ : ClassId) (h0 : Nat) (ad : Nat → Nat) (p0 : Int32) (p1 : Int32) (p2 : Int32) (o : Nat) : kMw l yL_firstLinkCount W_L_firstLinkCount { frames := 9, cells := 1, slots := 6, locals := 200 } 1 6 D (kT cI cZ cJ) [.ref h0, .int p0, .int p1, .int p2, .ref o] [(h0, .inr (9, [.ref (ad 0), .ref (ad 1), .ref (ad 2), .ref (ad 3), .ref (ad 4), .ref (ad 5), .ref (ad 6)])), ((ad 0), .inr (8, [.int 0, .int 0, .ref (ad 7), .ref (ad 8), .ref (ad 9), .ref (ad 10), .ref (ad 11), .ref (ad 12), .ref (ad 13), .ref (ad 14), .ref (ad 15), .ref (ad 16)]))] (S := Unit) (fun r _ => r = 1) (fun _ => [(h0, .inr (9, [.ref (ad 0), .ref (ad 1), .ref (ad 2), .ref (ad 3), .ref (ad 4), .ref (ad 5), .ref (ad 6)])), ((ad 0), .inr (8, [.int 0, .int 0, .ref (ad 7), .ref (ad 8), .ref (ad 9), .ref (ad 10), .ref (ad 11), .ref (ad 12), .ref (ad 13), .ref (ad 14), .ref (ad 15), .ref (ad 16)]))]) := by
  refine kMw_of (lv := [(0, .ref h0), (1, .int p0), (2, .int p1), (3, .int p2), (4, .ref o)]) RL "firstLinkCount" (by decide +kernel) rfl rfl rfl (Nat.le_of_ble_eq_true rfl) rfl ?_
  intro p e s m below meth c A H locs ls E hT hX hA hK hP hD hS hl
  obtain ⟨hx, hb, hr, hts, hown, hlocks, hml, hin, hN⟩ := id E
  refine lv_aload hx hb dL_firstLinkCount_0 (lv_at hl 4 rfl) ?_
  refine lv_iconst (v := 0) hx hb dL_firstLinkCount_2 (by decide) ?_
  refine lv_aload_n hx hb dL_firstLinkCount_3 rfl (lv_at hl 0 rfl) ?_
  refine lv_iload_n hx hb dL_firstLinkCount_4 rfl (lv_at hl 1 rfl) ?_
  refine lv_iload_n hx hb dL_firstLinkCount_5 rfl (lv_at hl 2 rfl) ?_
  refine lv_iload_n hx hb dL_firstLinkCount_6 rfl (lv_at hl 3 rfl) ?_
  refine kXV (As := [.int p0, .int p1, .int p2]) (rest := [.int 0, .ref o]) (wr := []) (w3 := [(h0, .inr (9, [.ref (ad 0), .ref (ad 1), .ref (ad 2), .ref (ad 3), .ref (ad 4), .ref (ad 5), .ref (ad 6)])), ((ad 0), .inr (8, [.int 0, .int 0, .ref (ad 7), .ref (ad 8), .ref (ad 9), .ref (ad 10), .ref (ad 11), .ref (ad 12), .ref (ad 13), .ref (ad 14), .ref (ad 15), .ref (ad 16)]))]) ⟨hx, hb, hml, hown, hts⟩ hN (c_X9_firstLinkCount l hfl D cI cZ cJ h0 ad p0 p1 p2) (cwV 3 hts (k_gV (fun w h => m_L_firstLinkCount_O w ((by decide +kernel : ∀ w ∈ ([.methodLink RL 74 yX9_firstLinkCount, .instanceMethod yX9_firstLinkCount, .selects RX9 yX9_firstLinkCount yX9_firstLinkCount, .initialized RX9] : List Cond), w ∈ O_L_firstLinkCount) w h)) m_L_firstLinkCount_WX9_firstLinkCount gd_X9_firstLinkCount) rfl rfl rfl (by decide +kernel) ⟨Nat.le_of_ble_eq_true rfl, Nat.le_of_ble_eq_true rfl⟩) hX hK hP hD hS hA [0, 1] [] [0, 1] rfl rfl ⟨by decide, by decide, by decide⟩ (by decide) rfl 9 0 rfl rfl rfl rfl hl.1 rfl (Nat.le_of_ble_eq_true rfl) dL_firstLinkCount_7 ⟨Nat.le_of_ble_eq_true rfl, Nat.le_of_ble_eq_true rfl⟩ (fun ce q9 H locs hP hD hS hce hcv hcl => ?_)
  have hP : va_P D vwCl [(h0, .inr (9, [.ref (ad 0), .ref (ad 1), .ref (ad 2), .ref (ad 3), .ref (ad 4), .ref (ad 5), .ref (ad 6)])), ((ad 0), .inr (8, [.int 0, .int 0, .ref (ad 7), .ref (ad 8), .ref (ad 9), .ref (ad 10), .ref (ad 11), .ref (ad 12), .ref (ad 13), .ref (ad 14), .ref (ad 15), .ref (ad 16)]))] H := hP
  have hD : va_D A [(h0, .inr (9, [.ref (ad 0), .ref (ad 1), .ref (ad 2), .ref (ad 3), .ref (ad 4), .ref (ad 5), .ref (ad 6)])), ((ad 0), .inr (8, [.int 0, .int 0, .ref (ad 7), .ref (ad 8), .ref (ad 9), .ref (ad 10), .ref (ad 11), .ref (ad 12), .ref (ad 13), .ref (ad 14), .ref (ad 15), .ref (ad 16)]))] := hD
  refine vx_catch hown [] (⟨0, 12, 15, 19⟩ : ExceptionTableEntry) [] (by rw [hT]; rfl) (fun z hz => nomatch hz) (by decide) (by decide) (hts (.classLink RL 19 "java/lang/IndexOutOfBoundsException") (m_L_firstLinkCount_O _ (by decide +kernel))) (va_Nw.use rfl (hX.2.2.2.1 _ (by decide +kernel))) hce hcv hcl ?_
  refine W.eq (g2 := F0 m 15 ls [.ref q9]) rfl ?_
  refine W.widen (k := 1) (n := 6) (Nat.le_of_ble_eq_true rfl) (Nat.le_of_ble_eq_true rfl) ?_
  refine lv_astore (lv' := [(5, .ref q9), (0, .ref h0), (1, .int p0), (2, .int p1), (3, .int p2), (4, .ref o)]) hx hb dL_firstLinkCount_15 hl (by decide) rfl (fun ls hl => ?_)
  refine lv_iconst (v := 1) hx hb dL_firstLinkCount_17 (by decide) ?_
  exact k_iret E hK hP hD hS () [0, 1] (by decide) rfl rfl (Nat.le_of_ble_eq_true rfl) (Nat.le_of_ble_eq_true rfl) dL_firstLinkCount_18

def O_L_firstLink : List Cond := [.methodLink RL 77 yX9_firstLink, .instanceMethod yX9_firstLink, .selects RX9 yX9_firstLink yX9_firstLink, .initialized RX9, .classLink RL 19 "java/lang/IndexOutOfBoundsException"]
def W_L_firstLink : List Cond := .codeWith yL_firstLink cL_firstLink 7 (some .int) [(0, 14, 17, 19), (0, 14, 21, 41)] :: (O_L_firstLink ++ W_X9_firstLink)
theorem m_L_firstLink_O : ∀ w ∈ O_L_firstLink, w ∈ W_L_firstLink := fun _ h => List.mem_cons_of_mem _ (List.mem_append_left _ h)
theorem m_L_firstLink_WX9_firstLink : ∀ w ∈ W_X9_firstLink, w ∈ W_L_firstLink := fun _ h => List.mem_cons_of_mem _ (List.mem_append_right _ h)
theorem gdO_L_firstLink : O_L_firstLink.all goodWord = true := by decide +kernel
theorem gd_L_firstLink : W_L_firstLink.all goodWord = true := k_all_cons rfl (k_all_app gdO_L_firstLink gd_X9_firstLink)
set_option maxHeartbeats 4000000 in
set_option maxRecDepth 100000 in
theorem c_L_firstLink (l : Launch) (hfl : l.stackTraces = false) (D : va_G) (cI cZ cJ : ClassId) (h0 : Nat) (ad : Nat → Nat) (p0 : Int32) (p1 : Int32) (p2 : Int32) (p3 : Int32) (o : Nat) : kMw l yL_firstLink W_L_firstLink { frames := 9, cells := 1, slots := 6, locals := 200 } 1 6 D (kT cI cZ cJ) [.ref h0, .int p0, .int p1, .int p2, .int p3, .ref o] [(h0, .inr (9, [.ref (ad 0), .ref (ad 1), .ref (ad 2), .ref (ad 3), .ref (ad 4), .ref (ad 5), .ref (ad 6)])), ((ad 0), .inr (8, [.int 0, .int 0, .ref (ad 7), .ref (ad 8), .ref (ad 9), .ref (ad 10), .ref (ad 11), .ref (ad 12), .ref (ad 13), .ref (ad 14), .ref (ad 15), .ref (ad 16)]))] (S := Unit) (fun r _ => r = 1) (fun _ => [(h0, .inr (9, [.ref (ad 0), .ref (ad 1), .ref (ad 2), .ref (ad 3), .ref (ad 4), .ref (ad 5), .ref (ad 6)])), ((ad 0), .inr (8, [.int 0, .int 0, .ref (ad 7), .ref (ad 8), .ref (ad 9), .ref (ad 10), .ref (ad 11), .ref (ad 12), .ref (ad 13), .ref (ad 14), .ref (ad 15), .ref (ad 16)]))]) := by
  refine kMw_of (lv := [(0, .ref h0), (1, .int p0), (2, .int p1), (3, .int p2), (4, .int p3), (5, .ref o)]) RL "firstLink" (by decide +kernel) rfl rfl rfl (Nat.le_of_ble_eq_true rfl) rfl ?_
  intro p e s m below meth c A H locs ls E hT hX hA hK hP hD hS hl
  obtain ⟨hx, hb, hr, hts, hown, hlocks, hml, hin, hN⟩ := id E
  refine lv_aload hx hb dL_firstLink_0 (lv_at hl 5 rfl) ?_
  refine lv_iconst (v := 0) hx hb dL_firstLink_2 (by decide) ?_
  refine lv_aload_n hx hb dL_firstLink_3 rfl (lv_at hl 0 rfl) ?_
  refine lv_iload_n hx hb dL_firstLink_4 rfl (lv_at hl 1 rfl) ?_
  refine lv_iload_n hx hb dL_firstLink_5 rfl (lv_at hl 2 rfl) ?_
  refine lv_iload_n hx hb dL_firstLink_6 rfl (lv_at hl 3 rfl) ?_
  refine lv_iload hx hb dL_firstLink_7 (lv_at hl 4 rfl) ?_
  refine kXV (As := [.int p0, .int p1, .int p2, .int p3]) (rest := [.int 0, .ref o]) (wr := []) (w3 := [(h0, .inr (9, [.ref (ad 0), .ref (ad 1), .ref (ad 2), .ref (ad 3), .ref (ad 4), .ref (ad 5), .ref (ad 6)])), ((ad 0), .inr (8, [.int 0, .int 0, .ref (ad 7), .ref (ad 8), .ref (ad 9), .ref (ad 10), .ref (ad 11), .ref (ad 12), .ref (ad 13), .ref (ad 14), .ref (ad 15), .ref (ad 16)]))]) ⟨hx, hb, hml, hown, hts⟩ hN (c_X9_firstLink l hfl D cI cZ cJ h0 ad p0 p1 p2 p3) (cwV 4 hts (k_gV (fun w h => m_L_firstLink_O w ((by decide +kernel : ∀ w ∈ ([.methodLink RL 77 yX9_firstLink, .instanceMethod yX9_firstLink, .selects RX9 yX9_firstLink yX9_firstLink, .initialized RX9] : List Cond), w ∈ O_L_firstLink) w h)) m_L_firstLink_WX9_firstLink gd_X9_firstLink) rfl rfl rfl (by decide +kernel) ⟨Nat.le_of_ble_eq_true rfl, Nat.le_of_ble_eq_true rfl⟩) hX hK hP hD hS hA [0, 1] [] [0, 1] rfl rfl ⟨by decide, by decide, by decide⟩ (by decide) rfl 9 0 rfl rfl rfl rfl hl.1 rfl (Nat.le_of_ble_eq_true rfl) dL_firstLink_9 ⟨Nat.le_of_ble_eq_true rfl, Nat.le_of_ble_eq_true rfl⟩ (fun ce q9 H locs hP hD hS hce hcv hcl => ?_)
  have hP : va_P D vwCl [(h0, .inr (9, [.ref (ad 0), .ref (ad 1), .ref (ad 2), .ref (ad 3), .ref (ad 4), .ref (ad 5), .ref (ad 6)])), ((ad 0), .inr (8, [.int 0, .int 0, .ref (ad 7), .ref (ad 8), .ref (ad 9), .ref (ad 10), .ref (ad 11), .ref (ad 12), .ref (ad 13), .ref (ad 14), .ref (ad 15), .ref (ad 16)]))] H := hP
  have hD : va_D A [(h0, .inr (9, [.ref (ad 0), .ref (ad 1), .ref (ad 2), .ref (ad 3), .ref (ad 4), .ref (ad 5), .ref (ad 6)])), ((ad 0), .inr (8, [.int 0, .int 0, .ref (ad 7), .ref (ad 8), .ref (ad 9), .ref (ad 10), .ref (ad 11), .ref (ad 12), .ref (ad 13), .ref (ad 14), .ref (ad 15), .ref (ad 16)]))] := hD
  refine vx_catch hown [] (⟨0, 14, 17, 19⟩ : ExceptionTableEntry) [(⟨0, 14, 21, 41⟩ : ExceptionTableEntry)] (by rw [hT]; rfl) (fun z hz => nomatch hz) (by decide) (by decide) (hts (.classLink RL 19 "java/lang/IndexOutOfBoundsException") (m_L_firstLink_O _ (by decide +kernel))) (va_Nw.use rfl (hX.2.2.2.1 _ (by decide +kernel))) hce hcv hcl ?_
  refine W.eq (g2 := F0 m 17 ls [.ref q9]) rfl ?_
  refine W.widen (k := 1) (n := 6) (Nat.le_of_ble_eq_true rfl) (Nat.le_of_ble_eq_true rfl) ?_
  refine lv_astore (lv' := [(6, .ref q9), (0, .ref h0), (1, .int p0), (2, .int p1), (3, .int p2), (4, .int p3), (5, .ref o)]) hx hb dL_firstLink_17 hl (by decide) rfl (fun ls hl => ?_)
  refine lv_iconst (v := 1) hx hb dL_firstLink_19 (by decide) ?_
  exact k_iret E hK hP hD hS () [0, 1] (by decide) rfl rfl (Nat.le_of_ble_eq_true rfl) (Nat.le_of_ble_eq_true rfl) dL_firstLink_20

def O_L_routeKind : List Cond := [.methodLink RL 80 yX9_routeKind, .instanceMethod yX9_routeKind, .selects RX9 yX9_routeKind yX9_routeKind, .initialized RX9, .classLink RL 19 "java/lang/IndexOutOfBoundsException"]
def W_L_routeKind : List Cond := .codeWith yL_routeKind cL_routeKind 5 (some .int) [(0, 10, 13, 19)] :: (O_L_routeKind ++ W_X9_routeKind)
theorem m_L_routeKind_O : ∀ w ∈ O_L_routeKind, w ∈ W_L_routeKind := fun _ h => List.mem_cons_of_mem _ (List.mem_append_left _ h)
theorem m_L_routeKind_WX9_routeKind : ∀ w ∈ W_X9_routeKind, w ∈ W_L_routeKind := fun _ h => List.mem_cons_of_mem _ (List.mem_append_right _ h)
theorem gdO_L_routeKind : O_L_routeKind.all goodWord = true := by decide +kernel
theorem gd_L_routeKind : W_L_routeKind.all goodWord = true := k_all_cons rfl (k_all_app gdO_L_routeKind gd_X9_routeKind)
set_option maxHeartbeats 4000000 in
set_option maxRecDepth 100000 in
theorem c_L_routeKind (l : Launch) (hfl : l.stackTraces = false) (D : va_G) (cI cZ cJ : ClassId) (h0 : Nat) (ad : Nat → Nat) (p0 : Int32) (p1 : Int32) (o : Nat) : kMw l yL_routeKind W_L_routeKind { frames := 9, cells := 1, slots := 6, locals := 200 } 1 6 D (kT cI cZ cJ) [.ref h0, .int p0, .int p1, .ref o] [(h0, .inr (9, [.ref (ad 0), .ref (ad 1), .ref (ad 2), .ref (ad 3), .ref (ad 4), .ref (ad 5), .ref (ad 6)])), ((ad 0), .inr (8, [.int 0, .int 0, .ref (ad 7), .ref (ad 8), .ref (ad 9), .ref (ad 10), .ref (ad 11), .ref (ad 12), .ref (ad 13), .ref (ad 14), .ref (ad 15), .ref (ad 16)]))] (S := Unit) (fun r _ => r = 1) (fun _ => [(h0, .inr (9, [.ref (ad 0), .ref (ad 1), .ref (ad 2), .ref (ad 3), .ref (ad 4), .ref (ad 5), .ref (ad 6)])), ((ad 0), .inr (8, [.int 0, .int 0, .ref (ad 7), .ref (ad 8), .ref (ad 9), .ref (ad 10), .ref (ad 11), .ref (ad 12), .ref (ad 13), .ref (ad 14), .ref (ad 15), .ref (ad 16)]))]) := by
  refine kMw_of (lv := [(0, .ref h0), (1, .int p0), (2, .int p1), (3, .ref o)]) RL "routeKind" (by decide +kernel) rfl rfl rfl (Nat.le_of_ble_eq_true rfl) rfl ?_
  intro p e s m below meth c A H locs ls E hT hX hA hK hP hD hS hl
  obtain ⟨hx, hb, hr, hts, hown, hlocks, hml, hin, hN⟩ := id E
  refine lv_aload_n hx hb dL_routeKind_0 rfl (lv_at hl 3 rfl) ?_
  refine lv_iconst (v := 0) hx hb dL_routeKind_1 (by decide) ?_
  refine lv_aload_n hx hb dL_routeKind_2 rfl (lv_at hl 0 rfl) ?_
  refine lv_iload_n hx hb dL_routeKind_3 rfl (lv_at hl 1 rfl) ?_
  refine lv_iload_n hx hb dL_routeKind_4 rfl (lv_at hl 2 rfl) ?_
  refine kXV (As := [.int p0, .int p1]) (rest := [.int 0, .ref o]) (wr := []) (w3 := [(h0, .inr (9, [.ref (ad 0), .ref (ad 1), .ref (ad 2), .ref (ad 3), .ref (ad 4), .ref (ad 5), .ref (ad 6)])), ((ad 0), .inr (8, [.int 0, .int 0, .ref (ad 7), .ref (ad 8), .ref (ad 9), .ref (ad 10), .ref (ad 11), .ref (ad 12), .ref (ad 13), .ref (ad 14), .ref (ad 15), .ref (ad 16)]))]) ⟨hx, hb, hml, hown, hts⟩ hN (c_X9_routeKind l hfl D cI cZ cJ h0 ad p0 p1) (cwV 2 hts (k_gV (fun w h => m_L_routeKind_O w ((by decide +kernel : ∀ w ∈ ([.methodLink RL 80 yX9_routeKind, .instanceMethod yX9_routeKind, .selects RX9 yX9_routeKind yX9_routeKind, .initialized RX9] : List Cond), w ∈ O_L_routeKind) w h)) m_L_routeKind_WX9_routeKind gd_X9_routeKind) rfl rfl rfl (by decide +kernel) ⟨Nat.le_of_ble_eq_true rfl, Nat.le_of_ble_eq_true rfl⟩) hX hK hP hD hS hA [0, 1] [] [0, 1] rfl rfl ⟨by decide, by decide, by decide⟩ (by decide) rfl 9 0 rfl rfl rfl rfl hl.1 rfl (Nat.le_of_ble_eq_true rfl) dL_routeKind_5 ⟨Nat.le_of_ble_eq_true rfl, Nat.le_of_ble_eq_true rfl⟩ (fun ce q9 H locs hP hD hS hce hcv hcl => ?_)
  have hP : va_P D vwCl [(h0, .inr (9, [.ref (ad 0), .ref (ad 1), .ref (ad 2), .ref (ad 3), .ref (ad 4), .ref (ad 5), .ref (ad 6)])), ((ad 0), .inr (8, [.int 0, .int 0, .ref (ad 7), .ref (ad 8), .ref (ad 9), .ref (ad 10), .ref (ad 11), .ref (ad 12), .ref (ad 13), .ref (ad 14), .ref (ad 15), .ref (ad 16)]))] H := hP
  have hD : va_D A [(h0, .inr (9, [.ref (ad 0), .ref (ad 1), .ref (ad 2), .ref (ad 3), .ref (ad 4), .ref (ad 5), .ref (ad 6)])), ((ad 0), .inr (8, [.int 0, .int 0, .ref (ad 7), .ref (ad 8), .ref (ad 9), .ref (ad 10), .ref (ad 11), .ref (ad 12), .ref (ad 13), .ref (ad 14), .ref (ad 15), .ref (ad 16)]))] := hD
  refine vx_catch hown [] (⟨0, 10, 13, 19⟩ : ExceptionTableEntry) [] (by rw [hT]; rfl) (fun z hz => nomatch hz) (by decide) (by decide) (hts (.classLink RL 19 "java/lang/IndexOutOfBoundsException") (m_L_routeKind_O _ (by decide +kernel))) (va_Nw.use rfl (hX.2.2.2.1 _ (by decide +kernel))) hce hcv hcl ?_
  refine W.eq (g2 := F0 m 13 ls [.ref q9]) rfl ?_
  refine W.widen (k := 1) (n := 6) (Nat.le_of_ble_eq_true rfl) (Nat.le_of_ble_eq_true rfl) ?_
  refine lv_astore (lv' := [(4, .ref q9), (0, .ref h0), (1, .int p0), (2, .int p1), (3, .ref o)]) hx hb dL_routeKind_13 hl (by decide) rfl (fun ls hl => ?_)
  refine lv_iconst (v := 1) hx hb dL_routeKind_15 (by decide) ?_
  exact k_iret E hK hP hD hS () [0, 1] (by decide) rfl rfl (Nat.le_of_ble_eq_true rfl) (Nat.le_of_ble_eq_true rfl) dL_routeKind_16

def O_L_routeCost : List Cond := [.methodLink RL 83 yX9_routeCost, .instanceMethod yX9_routeCost, .selects RX9 yX9_routeCost yX9_routeCost, .initialized RX9, .classLink RL 19 "java/lang/IndexOutOfBoundsException"]
def W_L_routeCost : List Cond := .codeWith yL_routeCost cL_routeCost 5 (some .int) [(0, 10, 13, 19), (0, 10, 17, 41)] :: (O_L_routeCost ++ W_X9_routeCost)
theorem m_L_routeCost_O : ∀ w ∈ O_L_routeCost, w ∈ W_L_routeCost := fun _ h => List.mem_cons_of_mem _ (List.mem_append_left _ h)
theorem m_L_routeCost_WX9_routeCost : ∀ w ∈ W_X9_routeCost, w ∈ W_L_routeCost := fun _ h => List.mem_cons_of_mem _ (List.mem_append_right _ h)
theorem gdO_L_routeCost : O_L_routeCost.all goodWord = true := by decide +kernel
theorem gd_L_routeCost : W_L_routeCost.all goodWord = true := k_all_cons rfl (k_all_app gdO_L_routeCost gd_X9_routeCost)
set_option maxHeartbeats 4000000 in
set_option maxRecDepth 100000 in
theorem c_L_routeCost (l : Launch) (hfl : l.stackTraces = false) (D : va_G) (cI cZ cJ : ClassId) (h0 : Nat) (ad : Nat → Nat) (p0 : Int32) (p1 : Int32) (o : Nat) : kMw l yL_routeCost W_L_routeCost { frames := 9, cells := 1, slots := 6, locals := 200 } 1 6 D (kT cI cZ cJ) [.ref h0, .int p0, .int p1, .ref o] [(h0, .inr (9, [.ref (ad 0), .ref (ad 1), .ref (ad 2), .ref (ad 3), .ref (ad 4), .ref (ad 5), .ref (ad 6)])), ((ad 0), .inr (8, [.int 0, .int 0, .ref (ad 7), .ref (ad 8), .ref (ad 9), .ref (ad 10), .ref (ad 11), .ref (ad 12), .ref (ad 13), .ref (ad 14), .ref (ad 15), .ref (ad 16)]))] (S := Unit) (fun r _ => r = 1) (fun _ => [(h0, .inr (9, [.ref (ad 0), .ref (ad 1), .ref (ad 2), .ref (ad 3), .ref (ad 4), .ref (ad 5), .ref (ad 6)])), ((ad 0), .inr (8, [.int 0, .int 0, .ref (ad 7), .ref (ad 8), .ref (ad 9), .ref (ad 10), .ref (ad 11), .ref (ad 12), .ref (ad 13), .ref (ad 14), .ref (ad 15), .ref (ad 16)]))]) := by
  refine kMw_of (lv := [(0, .ref h0), (1, .int p0), (2, .int p1), (3, .ref o)]) RL "routeCost" (by decide +kernel) rfl rfl rfl (Nat.le_of_ble_eq_true rfl) rfl ?_
  intro p e s m below meth c A H locs ls E hT hX hA hK hP hD hS hl
  obtain ⟨hx, hb, hr, hts, hown, hlocks, hml, hin, hN⟩ := id E
  refine lv_aload_n hx hb dL_routeCost_0 rfl (lv_at hl 3 rfl) ?_
  refine lv_iconst (v := 0) hx hb dL_routeCost_1 (by decide) ?_
  refine lv_aload_n hx hb dL_routeCost_2 rfl (lv_at hl 0 rfl) ?_
  refine lv_iload_n hx hb dL_routeCost_3 rfl (lv_at hl 1 rfl) ?_
  refine lv_iload_n hx hb dL_routeCost_4 rfl (lv_at hl 2 rfl) ?_
  refine kXV (As := [.int p0, .int p1]) (rest := [.int 0, .ref o]) (wr := []) (w3 := [(h0, .inr (9, [.ref (ad 0), .ref (ad 1), .ref (ad 2), .ref (ad 3), .ref (ad 4), .ref (ad 5), .ref (ad 6)])), ((ad 0), .inr (8, [.int 0, .int 0, .ref (ad 7), .ref (ad 8), .ref (ad 9), .ref (ad 10), .ref (ad 11), .ref (ad 12), .ref (ad 13), .ref (ad 14), .ref (ad 15), .ref (ad 16)]))]) ⟨hx, hb, hml, hown, hts⟩ hN (c_X9_routeCost l hfl D cI cZ cJ h0 ad p0 p1) (cwV 2 hts (k_gV (fun w h => m_L_routeCost_O w ((by decide +kernel : ∀ w ∈ ([.methodLink RL 83 yX9_routeCost, .instanceMethod yX9_routeCost, .selects RX9 yX9_routeCost yX9_routeCost, .initialized RX9] : List Cond), w ∈ O_L_routeCost) w h)) m_L_routeCost_WX9_routeCost gd_X9_routeCost) rfl rfl rfl (by decide +kernel) ⟨Nat.le_of_ble_eq_true rfl, Nat.le_of_ble_eq_true rfl⟩) hX hK hP hD hS hA [0, 1] [] [0, 1] rfl rfl ⟨by decide, by decide, by decide⟩ (by decide) rfl 9 0 rfl rfl rfl rfl hl.1 rfl (Nat.le_of_ble_eq_true rfl) dL_routeCost_5 ⟨Nat.le_of_ble_eq_true rfl, Nat.le_of_ble_eq_true rfl⟩ (fun ce q9 H locs hP hD hS hce hcv hcl => ?_)
  have hP : va_P D vwCl [(h0, .inr (9, [.ref (ad 0), .ref (ad 1), .ref (ad 2), .ref (ad 3), .ref (ad 4), .ref (ad 5), .ref (ad 6)])), ((ad 0), .inr (8, [.int 0, .int 0, .ref (ad 7), .ref (ad 8), .ref (ad 9), .ref (ad 10), .ref (ad 11), .ref (ad 12), .ref (ad 13), .ref (ad 14), .ref (ad 15), .ref (ad 16)]))] H := hP
  have hD : va_D A [(h0, .inr (9, [.ref (ad 0), .ref (ad 1), .ref (ad 2), .ref (ad 3), .ref (ad 4), .ref (ad 5), .ref (ad 6)])), ((ad 0), .inr (8, [.int 0, .int 0, .ref (ad 7), .ref (ad 8), .ref (ad 9), .ref (ad 10), .ref (ad 11), .ref (ad 12), .ref (ad 13), .ref (ad 14), .ref (ad 15), .ref (ad 16)]))] := hD
  refine vx_catch hown [] (⟨0, 10, 13, 19⟩ : ExceptionTableEntry) [(⟨0, 10, 17, 41⟩ : ExceptionTableEntry)] (by rw [hT]; rfl) (fun z hz => nomatch hz) (by decide) (by decide) (hts (.classLink RL 19 "java/lang/IndexOutOfBoundsException") (m_L_routeCost_O _ (by decide +kernel))) (va_Nw.use rfl (hX.2.2.2.1 _ (by decide +kernel))) hce hcv hcl ?_
  refine W.eq (g2 := F0 m 13 ls [.ref q9]) rfl ?_
  refine W.widen (k := 1) (n := 6) (Nat.le_of_ble_eq_true rfl) (Nat.le_of_ble_eq_true rfl) ?_
  refine lv_astore (lv' := [(4, .ref q9), (0, .ref h0), (1, .int p0), (2, .int p1), (3, .ref o)]) hx hb dL_routeCost_13 hl (by decide) rfl (fun ls hl => ?_)
  refine lv_iconst (v := 1) hx hb dL_routeCost_15 (by decide) ?_
  exact k_iret E hK hP hD hS () [0, 1] (by decide) rfl rfl (Nat.le_of_ble_eq_true rfl) (Nat.le_of_ble_eq_true rfl) dL_routeCost_16

def O_L_isLocal : List Cond := [.methodLink RL 86 yX9_isLocal, .instanceMethod yX9_isLocal, .selects RX9 yX9_isLocal yX9_isLocal, .initialized RX9, .classLink RL 19 "java/lang/IndexOutOfBoundsException"]
def W_L_isLocal : List Cond := .codeWith yL_isLocal cL_isLocal 5 (some .int) [(0, 17, 20, 19)] :: (O_L_isLocal ++ W_X9_isLocal)
theorem m_L_isLocal_O : ∀ w ∈ O_L_isLocal, w ∈ W_L_isLocal := fun _ h => List.mem_cons_of_mem _ (List.mem_append_left _ h)
theorem m_L_isLocal_WX9_isLocal : ∀ w ∈ W_X9_isLocal, w ∈ W_L_isLocal := fun _ h => List.mem_cons_of_mem _ (List.mem_append_right _ h)
theorem gdO_L_isLocal : O_L_isLocal.all goodWord = true := by decide +kernel
theorem gd_L_isLocal : W_L_isLocal.all goodWord = true := k_all_cons rfl (k_all_app gdO_L_isLocal gd_X9_isLocal)
set_option maxHeartbeats 4000000 in
set_option maxRecDepth 100000 in
theorem c_L_isLocal (l : Launch) (hfl : l.stackTraces = false) (D : va_G) (cI cZ cJ : ClassId) (h0 : Nat) (ad : Nat → Nat) (p0 : Int32) (p1 : Int32) (o : Nat) : kMw l yL_isLocal W_L_isLocal { frames := 9, cells := 1, slots := 6, locals := 200 } 1 6 D (kT cI cZ cJ) [.ref h0, .int p0, .int p1, .ref o] [(h0, .inr (9, [.ref (ad 0), .ref (ad 1), .ref (ad 2), .ref (ad 3), .ref (ad 4), .ref (ad 5), .ref (ad 6)])), ((ad 0), .inr (8, [.int 0, .int 0, .ref (ad 7), .ref (ad 8), .ref (ad 9), .ref (ad 10), .ref (ad 11), .ref (ad 12), .ref (ad 13), .ref (ad 14), .ref (ad 15), .ref (ad 16)]))] (S := Unit) (fun r _ => r = 1) (fun _ => [(h0, .inr (9, [.ref (ad 0), .ref (ad 1), .ref (ad 2), .ref (ad 3), .ref (ad 4), .ref (ad 5), .ref (ad 6)])), ((ad 0), .inr (8, [.int 0, .int 0, .ref (ad 7), .ref (ad 8), .ref (ad 9), .ref (ad 10), .ref (ad 11), .ref (ad 12), .ref (ad 13), .ref (ad 14), .ref (ad 15), .ref (ad 16)]))]) := by
  refine kMw_of (lv := [(0, .ref h0), (1, .int p0), (2, .int p1), (3, .ref o)]) RL "isLocal" (by decide +kernel) rfl rfl rfl (Nat.le_of_ble_eq_true rfl) rfl ?_
  intro p e s m below meth c A H locs ls E hT hX hA hK hP hD hS hl
  obtain ⟨hx, hb, hr, hts, hown, hlocks, hml, hin, hN⟩ := id E
  refine lv_aload_n hx hb dL_isLocal_0 rfl (lv_at hl 3 rfl) ?_
  refine lv_iconst (v := 0) hx hb dL_isLocal_1 (by decide) ?_
  refine lv_aload_n hx hb dL_isLocal_2 rfl (lv_at hl 0 rfl) ?_
  refine lv_iload_n hx hb dL_isLocal_3 rfl (lv_at hl 1 rfl) ?_
  refine lv_iload_n hx hb dL_isLocal_4 rfl (lv_at hl 2 rfl) ?_
  refine kXV (As := [.int p0, .int p1]) (rest := [.int 0, .ref o]) (wr := []) (w3 := [(h0, .inr (9, [.ref (ad 0), .ref (ad 1), .ref (ad 2), .ref (ad 3), .ref (ad 4), .ref (ad 5), .ref (ad 6)])), ((ad 0), .inr (8, [.int 0, .int 0, .ref (ad 7), .ref (ad 8), .ref (ad 9), .ref (ad 10), .ref (ad 11), .ref (ad 12), .ref (ad 13), .ref (ad 14), .ref (ad 15), .ref (ad 16)]))]) ⟨hx, hb, hml, hown, hts⟩ hN (c_X9_isLocal l hfl D cI cZ cJ h0 ad p0 p1) (cwV 2 hts (k_gV (fun w h => m_L_isLocal_O w ((by decide +kernel : ∀ w ∈ ([.methodLink RL 86 yX9_isLocal, .instanceMethod yX9_isLocal, .selects RX9 yX9_isLocal yX9_isLocal, .initialized RX9] : List Cond), w ∈ O_L_isLocal) w h)) m_L_isLocal_WX9_isLocal gd_X9_isLocal) rfl rfl rfl (by decide +kernel) ⟨Nat.le_of_ble_eq_true rfl, Nat.le_of_ble_eq_true rfl⟩) hX hK hP hD hS hA [0, 1] [] [0, 1] rfl rfl ⟨by decide, by decide, by decide⟩ (by decide) rfl 9 0 rfl rfl rfl rfl hl.1 rfl (Nat.le_of_ble_eq_true rfl) dL_isLocal_5 ⟨Nat.le_of_ble_eq_true rfl, Nat.le_of_ble_eq_true rfl⟩ (fun ce q9 H locs hP hD hS hce hcv hcl => ?_)
  have hP : va_P D vwCl [(h0, .inr (9, [.ref (ad 0), .ref (ad 1), .ref (ad 2), .ref (ad 3), .ref (ad 4), .ref (ad 5), .ref (ad 6)])), ((ad 0), .inr (8, [.int 0, .int 0, .ref (ad 7), .ref (ad 8), .ref (ad 9), .ref (ad 10), .ref (ad 11), .ref (ad 12), .ref (ad 13), .ref (ad 14), .ref (ad 15), .ref (ad 16)]))] H := hP
  have hD : va_D A [(h0, .inr (9, [.ref (ad 0), .ref (ad 1), .ref (ad 2), .ref (ad 3), .ref (ad 4), .ref (ad 5), .ref (ad 6)])), ((ad 0), .inr (8, [.int 0, .int 0, .ref (ad 7), .ref (ad 8), .ref (ad 9), .ref (ad 10), .ref (ad 11), .ref (ad 12), .ref (ad 13), .ref (ad 14), .ref (ad 15), .ref (ad 16)]))] := hD
  refine vx_catch hown [] (⟨0, 17, 20, 19⟩ : ExceptionTableEntry) [] (by rw [hT]; rfl) (fun z hz => nomatch hz) (by decide) (by decide) (hts (.classLink RL 19 "java/lang/IndexOutOfBoundsException") (m_L_isLocal_O _ (by decide +kernel))) (va_Nw.use rfl (hX.2.2.2.1 _ (by decide +kernel))) hce hcv hcl ?_
  refine W.eq (g2 := F0 m 20 ls [.ref q9]) rfl ?_
  refine W.widen (k := 1) (n := 6) (Nat.le_of_ble_eq_true rfl) (Nat.le_of_ble_eq_true rfl) ?_
  refine lv_astore (lv' := [(4, .ref q9), (0, .ref h0), (1, .int p0), (2, .int p1), (3, .ref o)]) hx hb dL_isLocal_20 hl (by decide) rfl (fun ls hl => ?_)
  refine lv_iconst (v := 1) hx hb dL_isLocal_22 (by decide) ?_
  exact k_iret E hK hP hD hS () [0, 1] (by decide) rfl rfl (Nat.le_of_ble_eq_true rfl) (Nat.le_of_ble_eq_true rfl) dL_isLocal_23

def O_L_routeLinkCount : List Cond := [.methodLink RL 90 yX9_routeLinkCount, .instanceMethod yX9_routeLinkCount, .selects RX9 yX9_routeLinkCount yX9_routeLinkCount, .initialized RX9, .classLink RL 19 "java/lang/IndexOutOfBoundsException"]
def W_L_routeLinkCount : List Cond := .codeWith yL_routeLinkCount cL_routeLinkCount 5 (some .int) [(0, 10, 13, 19)] :: (O_L_routeLinkCount ++ W_X9_routeLinkCount)
theorem m_L_routeLinkCount_O : ∀ w ∈ O_L_routeLinkCount, w ∈ W_L_routeLinkCount := fun _ h => List.mem_cons_of_mem _ (List.mem_append_left _ h)
theorem m_L_routeLinkCount_WX9_routeLinkCount : ∀ w ∈ W_X9_routeLinkCount, w ∈ W_L_routeLinkCount := fun _ h => List.mem_cons_of_mem _ (List.mem_append_right _ h)
theorem gdO_L_routeLinkCount : O_L_routeLinkCount.all goodWord = true := by decide +kernel
theorem gd_L_routeLinkCount : W_L_routeLinkCount.all goodWord = true := k_all_cons rfl (k_all_app gdO_L_routeLinkCount gd_X9_routeLinkCount)
set_option maxHeartbeats 4000000 in
set_option maxRecDepth 100000 in
theorem c_L_routeLinkCount (l : Launch) (hfl : l.stackTraces = false) (D : va_G) (cI cZ cJ : ClassId) (h0 : Nat) (ad : Nat → Nat) (p0 : Int32) (p1 : Int32) (o : Nat) : kMw l yL_routeLinkCount W_L_routeLinkCount { frames := 9, cells := 1, slots := 6, locals := 200 } 1 6 D (kT cI cZ cJ) [.ref h0, .int p0, .int p1, .ref o] [(h0, .inr (9, [.ref (ad 0), .ref (ad 1), .ref (ad 2), .ref (ad 3), .ref (ad 4), .ref (ad 5), .ref (ad 6)])), ((ad 0), .inr (8, [.int 0, .int 0, .ref (ad 7), .ref (ad 8), .ref (ad 9), .ref (ad 10), .ref (ad 11), .ref (ad 12), .ref (ad 13), .ref (ad 14), .ref (ad 15), .ref (ad 16)]))] (S := Unit) (fun r _ => r = 1) (fun _ => [(h0, .inr (9, [.ref (ad 0), .ref (ad 1), .ref (ad 2), .ref (ad 3), .ref (ad 4), .ref (ad 5), .ref (ad 6)])), ((ad 0), .inr (8, [.int 0, .int 0, .ref (ad 7), .ref (ad 8), .ref (ad 9), .ref (ad 10), .ref (ad 11), .ref (ad 12), .ref (ad 13), .ref (ad 14), .ref (ad 15), .ref (ad 16)]))]) := by
  refine kMw_of (lv := [(0, .ref h0), (1, .int p0), (2, .int p1), (3, .ref o)]) RL "routeLinkCount" (by decide +kernel) rfl rfl rfl (Nat.le_of_ble_eq_true rfl) rfl ?_
  intro p e s m below meth c A H locs ls E hT hX hA hK hP hD hS hl
  obtain ⟨hx, hb, hr, hts, hown, hlocks, hml, hin, hN⟩ := id E
  refine lv_aload_n hx hb dL_routeLinkCount_0 rfl (lv_at hl 3 rfl) ?_
  refine lv_iconst (v := 0) hx hb dL_routeLinkCount_1 (by decide) ?_
  refine lv_aload_n hx hb dL_routeLinkCount_2 rfl (lv_at hl 0 rfl) ?_
  refine lv_iload_n hx hb dL_routeLinkCount_3 rfl (lv_at hl 1 rfl) ?_
  refine lv_iload_n hx hb dL_routeLinkCount_4 rfl (lv_at hl 2 rfl) ?_
  refine kXV (As := [.int p0, .int p1]) (rest := [.int 0, .ref o]) (wr := []) (w3 := [(h0, .inr (9, [.ref (ad 0), .ref (ad 1), .ref (ad 2), .ref (ad 3), .ref (ad 4), .ref (ad 5), .ref (ad 6)])), ((ad 0), .inr (8, [.int 0, .int 0, .ref (ad 7), .ref (ad 8), .ref (ad 9), .ref (ad 10), .ref (ad 11), .ref (ad 12), .ref (ad 13), .ref (ad 14), .ref (ad 15), .ref (ad 16)]))]) ⟨hx, hb, hml, hown, hts⟩ hN (c_X9_routeLinkCount l hfl D cI cZ cJ h0 ad p0 p1) (cwV 2 hts (k_gV (fun w h => m_L_routeLinkCount_O w ((by decide +kernel : ∀ w ∈ ([.methodLink RL 90 yX9_routeLinkCount, .instanceMethod yX9_routeLinkCount, .selects RX9 yX9_routeLinkCount yX9_routeLinkCount, .initialized RX9] : List Cond), w ∈ O_L_routeLinkCount) w h)) m_L_routeLinkCount_WX9_routeLinkCount gd_X9_routeLinkCount) rfl rfl rfl (by decide +kernel) ⟨Nat.le_of_ble_eq_true rfl, Nat.le_of_ble_eq_true rfl⟩) hX hK hP hD hS hA [0, 1] [] [0, 1] rfl rfl ⟨by decide, by decide, by decide⟩ (by decide) rfl 9 0 rfl rfl rfl rfl hl.1 rfl (Nat.le_of_ble_eq_true rfl) dL_routeLinkCount_5 ⟨Nat.le_of_ble_eq_true rfl, Nat.le_of_ble_eq_true rfl⟩ (fun ce q9 H locs hP hD hS hce hcv hcl => ?_)
  have hP : va_P D vwCl [(h0, .inr (9, [.ref (ad 0), .ref (ad 1), .ref (ad 2), .ref (ad 3), .ref (ad 4), .ref (ad 5), .ref (ad 6)])), ((ad 0), .inr (8, [.int 0, .int 0, .ref (ad 7), .ref (ad 8), .ref (ad 9), .ref (ad 10), .ref (ad 11), .ref (ad 12), .ref (ad 13), .ref (ad 14), .ref (ad 15), .ref (ad 16)]))] H := hP
  have hD : va_D A [(h0, .inr (9, [.ref (ad 0), .ref (ad 1), .ref (ad 2), .ref (ad 3), .ref (ad 4), .ref (ad 5), .ref (ad 6)])), ((ad 0), .inr (8, [.int 0, .int 0, .ref (ad 7), .ref (ad 8), .ref (ad 9), .ref (ad 10), .ref (ad 11), .ref (ad 12), .ref (ad 13), .ref (ad 14), .ref (ad 15), .ref (ad 16)]))] := hD
  refine vx_catch hown [] (⟨0, 10, 13, 19⟩ : ExceptionTableEntry) [] (by rw [hT]; rfl) (fun z hz => nomatch hz) (by decide) (by decide) (hts (.classLink RL 19 "java/lang/IndexOutOfBoundsException") (m_L_routeLinkCount_O _ (by decide +kernel))) (va_Nw.use rfl (hX.2.2.2.1 _ (by decide +kernel))) hce hcv hcl ?_
  refine W.eq (g2 := F0 m 13 ls [.ref q9]) rfl ?_
  refine W.widen (k := 1) (n := 6) (Nat.le_of_ble_eq_true rfl) (Nat.le_of_ble_eq_true rfl) ?_
  refine lv_astore (lv' := [(4, .ref q9), (0, .ref h0), (1, .int p0), (2, .int p1), (3, .ref o)]) hx hb dL_routeLinkCount_13 hl (by decide) rfl (fun ls hl => ?_)
  refine lv_iconst (v := 1) hx hb dL_routeLinkCount_15 (by decide) ?_
  exact k_iret E hK hP hD hS () [0, 1] (by decide) rfl rfl (Nat.le_of_ble_eq_true rfl) (Nat.le_of_ble_eq_true rfl) dL_routeLinkCount_16

def O_L_routeLink : List Cond := [.methodLink RL 93 yX9_routeLink, .instanceMethod yX9_routeLink, .selects RX9 yX9_routeLink yX9_routeLink, .initialized RX9, .classLink RL 19 "java/lang/IndexOutOfBoundsException"]
def W_L_routeLink : List Cond := .codeWith yL_routeLink cL_routeLink 6 (some .int) [(0, 12, 15, 19), (0, 12, 19, 41)] :: (O_L_routeLink ++ W_X9_routeLink)
theorem m_L_routeLink_O : ∀ w ∈ O_L_routeLink, w ∈ W_L_routeLink := fun _ h => List.mem_cons_of_mem _ (List.mem_append_left _ h)
theorem m_L_routeLink_WX9_routeLink : ∀ w ∈ W_X9_routeLink, w ∈ W_L_routeLink := fun _ h => List.mem_cons_of_mem _ (List.mem_append_right _ h)
theorem gdO_L_routeLink : O_L_routeLink.all goodWord = true := by decide +kernel
theorem gd_L_routeLink : W_L_routeLink.all goodWord = true := k_all_cons rfl (k_all_app gdO_L_routeLink gd_X9_routeLink)
set_option maxHeartbeats 4000000 in
set_option maxRecDepth 100000 in
theorem c_L_routeLink (l : Launch) (hfl : l.stackTraces = false) (D : va_G) (cI cZ cJ : ClassId) (h0 : Nat) (ad : Nat → Nat) (p0 : Int32) (p1 : Int32) (p2 : Int32) (o : Nat) : kMw l yL_routeLink W_L_routeLink { frames := 9, cells := 1, slots := 6, locals := 200 } 1 6 D (kT cI cZ cJ) [.ref h0, .int p0, .int p1, .int p2, .ref o] [(h0, .inr (9, [.ref (ad 0), .ref (ad 1), .ref (ad 2), .ref (ad 3), .ref (ad 4), .ref (ad 5), .ref (ad 6)])), ((ad 0), .inr (8, [.int 0, .int 0, .ref (ad 7), .ref (ad 8), .ref (ad 9), .ref (ad 10), .ref (ad 11), .ref (ad 12), .ref (ad 13), .ref (ad 14), .ref (ad 15), .ref (ad 16)]))] (S := Unit) (fun r _ => r = 1) (fun _ => [(h0, .inr (9, [.ref (ad 0), .ref (ad 1), .ref (ad 2), .ref (ad 3), .ref (ad 4), .ref (ad 5), .ref (ad 6)])), ((ad 0), .inr (8, [.int 0, .int 0, .ref (ad 7), .ref (ad 8), .ref (ad 9), .ref (ad 10), .ref (ad 11), .ref (ad 12), .ref (ad 13), .ref (ad 14), .ref (ad 15), .ref (ad 16)]))]) := by
  refine kMw_of (lv := [(0, .ref h0), (1, .int p0), (2, .int p1), (3, .int p2), (4, .ref o)]) RL "routeLink" (by decide +kernel) rfl rfl rfl (Nat.le_of_ble_eq_true rfl) rfl ?_
  intro p e s m below meth c A H locs ls E hT hX hA hK hP hD hS hl
  obtain ⟨hx, hb, hr, hts, hown, hlocks, hml, hin, hN⟩ := id E
  refine lv_aload hx hb dL_routeLink_0 (lv_at hl 4 rfl) ?_
  refine lv_iconst (v := 0) hx hb dL_routeLink_2 (by decide) ?_
  refine lv_aload_n hx hb dL_routeLink_3 rfl (lv_at hl 0 rfl) ?_
  refine lv_iload_n hx hb dL_routeLink_4 rfl (lv_at hl 1 rfl) ?_
  refine lv_iload_n hx hb dL_routeLink_5 rfl (lv_at hl 2 rfl) ?_
  refine lv_iload_n hx hb dL_routeLink_6 rfl (lv_at hl 3 rfl) ?_
  refine kXV (As := [.int p0, .int p1, .int p2]) (rest := [.int 0, .ref o]) (wr := []) (w3 := [(h0, .inr (9, [.ref (ad 0), .ref (ad 1), .ref (ad 2), .ref (ad 3), .ref (ad 4), .ref (ad 5), .ref (ad 6)])), ((ad 0), .inr (8, [.int 0, .int 0, .ref (ad 7), .ref (ad 8), .ref (ad 9), .ref (ad 10), .ref (ad 11), .ref (ad 12), .ref (ad 13), .ref (ad 14), .ref (ad 15), .ref (ad 16)]))]) ⟨hx, hb, hml, hown, hts⟩ hN (c_X9_routeLink l hfl D cI cZ cJ h0 ad p0 p1 p2) (cwV 3 hts (k_gV (fun w h => m_L_routeLink_O w ((by decide +kernel : ∀ w ∈ ([.methodLink RL 93 yX9_routeLink, .instanceMethod yX9_routeLink, .selects RX9 yX9_routeLink yX9_routeLink, .initialized RX9] : List Cond), w ∈ O_L_routeLink) w h)) m_L_routeLink_WX9_routeLink gd_X9_routeLink) rfl rfl rfl (by decide +kernel) ⟨Nat.le_of_ble_eq_true rfl, Nat.le_of_ble_eq_true rfl⟩) hX hK hP hD hS hA [0, 1] [] [0, 1] rfl rfl ⟨by decide, by decide, by decide⟩ (by decide) rfl 9 0 rfl rfl rfl rfl hl.1 rfl (Nat.le_of_ble_eq_true rfl) dL_routeLink_7 ⟨Nat.le_of_ble_eq_true rfl, Nat.le_of_ble_eq_true rfl⟩ (fun ce q9 H locs hP hD hS hce hcv hcl => ?_)
  have hP : va_P D vwCl [(h0, .inr (9, [.ref (ad 0), .ref (ad 1), .ref (ad 2), .ref (ad 3), .ref (ad 4), .ref (ad 5), .ref (ad 6)])), ((ad 0), .inr (8, [.int 0, .int 0, .ref (ad 7), .ref (ad 8), .ref (ad 9), .ref (ad 10), .ref (ad 11), .ref (ad 12), .ref (ad 13), .ref (ad 14), .ref (ad 15), .ref (ad 16)]))] H := hP
  have hD : va_D A [(h0, .inr (9, [.ref (ad 0), .ref (ad 1), .ref (ad 2), .ref (ad 3), .ref (ad 4), .ref (ad 5), .ref (ad 6)])), ((ad 0), .inr (8, [.int 0, .int 0, .ref (ad 7), .ref (ad 8), .ref (ad 9), .ref (ad 10), .ref (ad 11), .ref (ad 12), .ref (ad 13), .ref (ad 14), .ref (ad 15), .ref (ad 16)]))] := hD
  refine vx_catch hown [] (⟨0, 12, 15, 19⟩ : ExceptionTableEntry) [(⟨0, 12, 19, 41⟩ : ExceptionTableEntry)] (by rw [hT]; rfl) (fun z hz => nomatch hz) (by decide) (by decide) (hts (.classLink RL 19 "java/lang/IndexOutOfBoundsException") (m_L_routeLink_O _ (by decide +kernel))) (va_Nw.use rfl (hX.2.2.2.1 _ (by decide +kernel))) hce hcv hcl ?_
  refine W.eq (g2 := F0 m 15 ls [.ref q9]) rfl ?_
  refine W.widen (k := 1) (n := 6) (Nat.le_of_ble_eq_true rfl) (Nat.le_of_ble_eq_true rfl) ?_
  refine lv_astore (lv' := [(5, .ref q9), (0, .ref h0), (1, .int p0), (2, .int p1), (3, .int p2), (4, .ref o)]) hx hb dL_routeLink_15 hl (by decide) rfl (fun ls hl => ?_)
  refine lv_iconst (v := 1) hx hb dL_routeLink_17 (by decide) ?_
  exact k_iret E hK hP hD hS () [0, 1] (by decide) rfl rfl (Nat.le_of_ble_eq_true rfl) (Nat.le_of_ble_eq_true rfl) dL_routeLink_18

def O_L_changedRoutes : List Cond := [.methodLink RL 96 yX9_changedRoutes, .instanceMethod yX9_changedRoutes, .selects RX9 yX9_changedRoutes yX9_changedRoutes, .initialized RX9, .classLink RL 19 "java/lang/IndexOutOfBoundsException"]
def W_L_changedRoutes : List Cond := .codeWith yL_changedRoutes cL_changedRoutes 4 (some .int) [(0, 9, 12, 19)] :: (O_L_changedRoutes ++ W_X9_changedRoutes)
theorem m_L_changedRoutes_O : ∀ w ∈ O_L_changedRoutes, w ∈ W_L_changedRoutes := fun _ h => List.mem_cons_of_mem _ (List.mem_append_left _ h)
theorem m_L_changedRoutes_WX9_changedRoutes : ∀ w ∈ W_X9_changedRoutes, w ∈ W_L_changedRoutes := fun _ h => List.mem_cons_of_mem _ (List.mem_append_right _ h)
theorem gdO_L_changedRoutes : O_L_changedRoutes.all goodWord = true := by decide +kernel
theorem gd_L_changedRoutes : W_L_changedRoutes.all goodWord = true := k_all_cons rfl (k_all_app gdO_L_changedRoutes gd_X9_changedRoutes)
set_option maxHeartbeats 4000000 in
set_option maxRecDepth 100000 in
theorem c_L_changedRoutes (l : Launch) (hfl : l.stackTraces = false) (D : va_G) (cI cZ cJ : ClassId) (h0 : Nat) (ad : Nat → Nat) (p0 : Int32) (o : Nat) : kMw l yL_changedRoutes W_L_changedRoutes { frames := 9, cells := 1, slots := 6, locals := 200 } 1 6 D (kT cI cZ cJ) [.ref h0, .int p0, .ref o] [(h0, .inr (9, [.ref (ad 0), .ref (ad 1), .ref (ad 2), .ref (ad 3), .ref (ad 4), .ref (ad 5), .ref (ad 6)])), ((ad 0), .inr (8, [.int 0, .int 0, .ref (ad 7), .ref (ad 8), .ref (ad 9), .ref (ad 10), .ref (ad 11), .ref (ad 12), .ref (ad 13), .ref (ad 14), .ref (ad 15), .ref (ad 16)]))] (S := Unit) (fun r _ => r = 1) (fun _ => [(h0, .inr (9, [.ref (ad 0), .ref (ad 1), .ref (ad 2), .ref (ad 3), .ref (ad 4), .ref (ad 5), .ref (ad 6)])), ((ad 0), .inr (8, [.int 0, .int 0, .ref (ad 7), .ref (ad 8), .ref (ad 9), .ref (ad 10), .ref (ad 11), .ref (ad 12), .ref (ad 13), .ref (ad 14), .ref (ad 15), .ref (ad 16)]))]) := by
  refine kMw_of (lv := [(0, .ref h0), (1, .int p0), (2, .ref o)]) RL "changedRoutes" (by decide +kernel) rfl rfl rfl (Nat.le_of_ble_eq_true rfl) rfl ?_
  intro p e s m below meth c A H locs ls E hT hX hA hK hP hD hS hl
  obtain ⟨hx, hb, hr, hts, hown, hlocks, hml, hin, hN⟩ := id E
  refine lv_aload_n hx hb dL_changedRoutes_0 rfl (lv_at hl 2 rfl) ?_
  refine lv_iconst (v := 0) hx hb dL_changedRoutes_1 (by decide) ?_
  refine lv_aload_n hx hb dL_changedRoutes_2 rfl (lv_at hl 0 rfl) ?_
  refine lv_iload_n hx hb dL_changedRoutes_3 rfl (lv_at hl 1 rfl) ?_
  refine kXV (As := [.int p0]) (rest := [.int 0, .ref o]) (wr := []) (w3 := [(h0, .inr (9, [.ref (ad 0), .ref (ad 1), .ref (ad 2), .ref (ad 3), .ref (ad 4), .ref (ad 5), .ref (ad 6)])), ((ad 0), .inr (8, [.int 0, .int 0, .ref (ad 7), .ref (ad 8), .ref (ad 9), .ref (ad 10), .ref (ad 11), .ref (ad 12), .ref (ad 13), .ref (ad 14), .ref (ad 15), .ref (ad 16)]))]) ⟨hx, hb, hml, hown, hts⟩ hN (c_X9_changedRoutes l hfl D cI cZ cJ h0 ad p0) (cwV 1 hts (k_gV (fun w h => m_L_changedRoutes_O w ((by decide +kernel : ∀ w ∈ ([.methodLink RL 96 yX9_changedRoutes, .instanceMethod yX9_changedRoutes, .selects RX9 yX9_changedRoutes yX9_changedRoutes, .initialized RX9] : List Cond), w ∈ O_L_changedRoutes) w h)) m_L_changedRoutes_WX9_changedRoutes gd_X9_changedRoutes) rfl rfl rfl (by decide +kernel) ⟨Nat.le_of_ble_eq_true rfl, Nat.le_of_ble_eq_true rfl⟩) hX hK hP hD hS hA [0, 1] [] [0, 1] rfl rfl ⟨by decide, by decide, by decide⟩ (by decide) rfl 9 0 rfl rfl rfl rfl hl.1 rfl (Nat.le_of_ble_eq_true rfl) dL_changedRoutes_4 ⟨Nat.le_of_ble_eq_true rfl, Nat.le_of_ble_eq_true rfl⟩ (fun ce q9 H locs hP hD hS hce hcv hcl => ?_)
  have hP : va_P D vwCl [(h0, .inr (9, [.ref (ad 0), .ref (ad 1), .ref (ad 2), .ref (ad 3), .ref (ad 4), .ref (ad 5), .ref (ad 6)])), ((ad 0), .inr (8, [.int 0, .int 0, .ref (ad 7), .ref (ad 8), .ref (ad 9), .ref (ad 10), .ref (ad 11), .ref (ad 12), .ref (ad 13), .ref (ad 14), .ref (ad 15), .ref (ad 16)]))] H := hP
  have hD : va_D A [(h0, .inr (9, [.ref (ad 0), .ref (ad 1), .ref (ad 2), .ref (ad 3), .ref (ad 4), .ref (ad 5), .ref (ad 6)])), ((ad 0), .inr (8, [.int 0, .int 0, .ref (ad 7), .ref (ad 8), .ref (ad 9), .ref (ad 10), .ref (ad 11), .ref (ad 12), .ref (ad 13), .ref (ad 14), .ref (ad 15), .ref (ad 16)]))] := hD
  refine vx_catch hown [] (⟨0, 9, 12, 19⟩ : ExceptionTableEntry) [] (by rw [hT]; rfl) (fun z hz => nomatch hz) (by decide) (by decide) (hts (.classLink RL 19 "java/lang/IndexOutOfBoundsException") (m_L_changedRoutes_O _ (by decide +kernel))) (va_Nw.use rfl (hX.2.2.2.1 _ (by decide +kernel))) hce hcv hcl ?_
  refine W.eq (g2 := F0 m 12 ls [.ref q9]) rfl ?_
  refine W.widen (k := 1) (n := 6) (Nat.le_of_ble_eq_true rfl) (Nat.le_of_ble_eq_true rfl) ?_
  refine lv_astore_n (lv' := [(3, .ref q9), (0, .ref h0), (1, .int p0), (2, .ref o)]) hx hb dL_changedRoutes_12 rfl hl (by decide) rfl (fun ls hl => ?_)
  refine lv_iconst (v := 1) hx hb dL_changedRoutes_13 (by decide) ?_
  exact k_iret E hK hP hD hS () [0, 1] (by decide) rfl rfl (Nat.le_of_ble_eq_true rfl) (Nat.le_of_ble_eq_true rfl) dL_changedRoutes_14

def O_L_trace : List Cond := [.methodLink RL 99 yX9_trace, .instanceMethod yX9_trace, .selects RX9 yX9_trace yX9_trace, .initialized RX9, .classLink RL 19 "java/lang/IndexOutOfBoundsException"]
def W_L_trace : List Cond := .codeWith yL_trace cL_trace 5 (some .int) [(0, 10, 13, 19)] :: (O_L_trace ++ W_X9_trace)
theorem m_L_trace_O : ∀ w ∈ O_L_trace, w ∈ W_L_trace := fun _ h => List.mem_cons_of_mem _ (List.mem_append_left _ h)
theorem m_L_trace_WX9_trace : ∀ w ∈ W_X9_trace, w ∈ W_L_trace := fun _ h => List.mem_cons_of_mem _ (List.mem_append_right _ h)
theorem gdO_L_trace : O_L_trace.all goodWord = true := by decide +kernel
theorem gd_L_trace : W_L_trace.all goodWord = true := k_all_cons rfl (k_all_app gdO_L_trace gd_X9_trace)
set_option maxHeartbeats 4000000 in
set_option maxRecDepth 100000 in
theorem c_L_trace (l : Launch) (hfl : l.stackTraces = false) (D : va_G) (cI cZ cJ : ClassId) (h0 : Nat) (ad : Nat → Nat) (p0 : Int32) (p1 : Int32) (o : Nat) : kMw l yL_trace W_L_trace { frames := 9, cells := 1, slots := 6, locals := 200 } 1 6 D (kT cI cZ cJ) [.ref h0, .int p0, .int p1, .ref o] [(h0, .inr (9, [.ref (ad 0), .ref (ad 1), .ref (ad 2), .ref (ad 3), .ref (ad 4), .ref (ad 5), .ref (ad 6)])), ((ad 0), .inr (8, [.int 0, .int 0, .ref (ad 7), .ref (ad 8), .ref (ad 9), .ref (ad 10), .ref (ad 11), .ref (ad 12), .ref (ad 13), .ref (ad 14), .ref (ad 15), .ref (ad 16)]))] (S := Unit) (fun r _ => r = 1) (fun _ => [(h0, .inr (9, [.ref (ad 0), .ref (ad 1), .ref (ad 2), .ref (ad 3), .ref (ad 4), .ref (ad 5), .ref (ad 6)])), ((ad 0), .inr (8, [.int 0, .int 0, .ref (ad 7), .ref (ad 8), .ref (ad 9), .ref (ad 10), .ref (ad 11), .ref (ad 12), .ref (ad 13), .ref (ad 14), .ref (ad 15), .ref (ad 16)]))]) := by
  refine kMw_of (lv := [(0, .ref h0), (1, .int p0), (2, .int p1), (3, .ref o)]) RL "trace" (by decide +kernel) rfl rfl rfl (Nat.le_of_ble_eq_true rfl) rfl ?_
  intro p e s m below meth c A H locs ls E hT hX hA hK hP hD hS hl
  obtain ⟨hx, hb, hr, hts, hown, hlocks, hml, hin, hN⟩ := id E
  refine lv_aload_n hx hb dL_trace_0 rfl (lv_at hl 3 rfl) ?_
  refine lv_iconst (v := 0) hx hb dL_trace_1 (by decide) ?_
  refine lv_aload_n hx hb dL_trace_2 rfl (lv_at hl 0 rfl) ?_
  refine lv_iload_n hx hb dL_trace_3 rfl (lv_at hl 1 rfl) ?_
  refine lv_iload_n hx hb dL_trace_4 rfl (lv_at hl 2 rfl) ?_
  refine kXV (As := [.int p0, .int p1]) (rest := [.int 0, .ref o]) (wr := []) (w3 := [(h0, .inr (9, [.ref (ad 0), .ref (ad 1), .ref (ad 2), .ref (ad 3), .ref (ad 4), .ref (ad 5), .ref (ad 6)])), ((ad 0), .inr (8, [.int 0, .int 0, .ref (ad 7), .ref (ad 8), .ref (ad 9), .ref (ad 10), .ref (ad 11), .ref (ad 12), .ref (ad 13), .ref (ad 14), .ref (ad 15), .ref (ad 16)]))]) ⟨hx, hb, hml, hown, hts⟩ hN (c_X9_trace l hfl D cI cZ cJ h0 ad p0 p1) (cwV 2 hts (k_gV (fun w h => m_L_trace_O w ((by decide +kernel : ∀ w ∈ ([.methodLink RL 99 yX9_trace, .instanceMethod yX9_trace, .selects RX9 yX9_trace yX9_trace, .initialized RX9] : List Cond), w ∈ O_L_trace) w h)) m_L_trace_WX9_trace gd_X9_trace) rfl rfl rfl (by decide +kernel) ⟨Nat.le_of_ble_eq_true rfl, Nat.le_of_ble_eq_true rfl⟩) hX hK hP hD hS hA [0, 1] [] [0, 1] rfl rfl ⟨by decide, by decide, by decide⟩ (by decide) rfl 9 0 rfl rfl rfl rfl hl.1 rfl (Nat.le_of_ble_eq_true rfl) dL_trace_5 ⟨Nat.le_of_ble_eq_true rfl, Nat.le_of_ble_eq_true rfl⟩ (fun ce q9 H locs hP hD hS hce hcv hcl => ?_)
  have hP : va_P D vwCl [(h0, .inr (9, [.ref (ad 0), .ref (ad 1), .ref (ad 2), .ref (ad 3), .ref (ad 4), .ref (ad 5), .ref (ad 6)])), ((ad 0), .inr (8, [.int 0, .int 0, .ref (ad 7), .ref (ad 8), .ref (ad 9), .ref (ad 10), .ref (ad 11), .ref (ad 12), .ref (ad 13), .ref (ad 14), .ref (ad 15), .ref (ad 16)]))] H := hP
  have hD : va_D A [(h0, .inr (9, [.ref (ad 0), .ref (ad 1), .ref (ad 2), .ref (ad 3), .ref (ad 4), .ref (ad 5), .ref (ad 6)])), ((ad 0), .inr (8, [.int 0, .int 0, .ref (ad 7), .ref (ad 8), .ref (ad 9), .ref (ad 10), .ref (ad 11), .ref (ad 12), .ref (ad 13), .ref (ad 14), .ref (ad 15), .ref (ad 16)]))] := hD
  refine vx_catch hown [] (⟨0, 10, 13, 19⟩ : ExceptionTableEntry) [] (by rw [hT]; rfl) (fun z hz => nomatch hz) (by decide) (by decide) (hts (.classLink RL 19 "java/lang/IndexOutOfBoundsException") (m_L_trace_O _ (by decide +kernel))) (va_Nw.use rfl (hX.2.2.2.1 _ (by decide +kernel))) hce hcv hcl ?_
  refine W.eq (g2 := F0 m 13 ls [.ref q9]) rfl ?_
  refine W.widen (k := 1) (n := 6) (Nat.le_of_ble_eq_true rfl) (Nat.le_of_ble_eq_true rfl) ?_
  refine lv_astore (lv' := [(4, .ref q9), (0, .ref h0), (1, .int p0), (2, .int p1), (3, .ref o)]) hx hb dL_trace_13 hl (by decide) rfl (fun ls hl => ?_)
  refine lv_iconst (v := 1) hx hb dL_trace_15 (by decide) ?_
  exact k_iret E hK hP hD hS () [0, 1] (by decide) rfl rfl (Nat.le_of_ble_eq_true rfl) (Nat.le_of_ble_eq_true rfl) dL_trace_16

def O_L_addLink : List Cond := [.methodLink RL 15 yX9_addLink, .instanceMethod yX9_addLink, .selects RX9 yX9_addLink yX9_addLink, .initialized RX9, .classLink RL 19 "java/lang/IndexOutOfBoundsException"]
def W_L_addLink : List Cond := .codeWith yL_addLink cL_addLink 8 (some .int) [(0, 16, 19, 19), (0, 16, 23, 21), (0, 16, 27, 13)] :: (O_L_addLink ++ W_X9_addLink)
theorem m_L_addLink_O : ∀ w ∈ O_L_addLink, w ∈ W_L_addLink := fun _ h => List.mem_cons_of_mem _ (List.mem_append_left _ h)
theorem m_L_addLink_WX9_addLink : ∀ w ∈ W_X9_addLink, w ∈ W_L_addLink := fun _ h => List.mem_cons_of_mem _ (List.mem_append_right _ h)
theorem gdO_L_addLink : O_L_addLink.all goodWord = true := by decide +kernel
theorem gd_L_addLink : W_L_addLink.all goodWord = true := k_all_cons rfl (k_all_app gdO_L_addLink gd_X9_addLink)
set_option maxHeartbeats 4000000 in
set_option maxRecDepth 100000 in
theorem c_L_addLink (l : Launch) (hfl : l.stackTraces = false) (D : va_G) (cI cZ cJ : ClassId) (h0 : Nat) (ad : Nat → Nat) (p0 : Int32) (p1 : Int32) (p2 : Int32) (p3 : Int32) (p4 : Int32) (o : Nat) : kMw l yL_addLink W_L_addLink { frames := 9, cells := 1, slots := 6, locals := 200 } 1 6 D (kT cI cZ cJ) [.ref h0, .int p0, .int p1, .int p2, .int p3, .int p4, .ref o] [(h0, .inr (9, [.ref (ad 0), .ref (ad 1), .ref (ad 2), .ref (ad 3), .ref (ad 4), .ref (ad 5), .ref (ad 6)])), ((ad 0), .inr (8, [.int 0, .int 0, .ref (ad 7), .ref (ad 8), .ref (ad 9), .ref (ad 10), .ref (ad 11), .ref (ad 12), .ref (ad 13), .ref (ad 14), .ref (ad 15), .ref (ad 16)]))] (S := Unit) (fun r _ => r = 1) (fun _ => [(h0, .inr (9, [.ref (ad 0), .ref (ad 1), .ref (ad 2), .ref (ad 3), .ref (ad 4), .ref (ad 5), .ref (ad 6)])), ((ad 0), .inr (8, [.int 0, .int 0, .ref (ad 7), .ref (ad 8), .ref (ad 9), .ref (ad 10), .ref (ad 11), .ref (ad 12), .ref (ad 13), .ref (ad 14), .ref (ad 15), .ref (ad 16)]))]) := by
  refine kMw_of (lv := [(0, .ref h0), (1, .int p0), (2, .int p1), (3, .int p2), (4, .int p3), (5, .int p4), (6, .ref o)]) RL "addLink" (by decide +kernel) rfl rfl rfl (Nat.le_of_ble_eq_true rfl) rfl ?_
  intro p e s m below meth c A H locs ls E hT hX hA hK hP hD hS hl
  obtain ⟨hx, hb, hr, hts, hown, hlocks, hml, hin, hN⟩ := id E
  refine lv_aload hx hb dL_addLink_0 (lv_at hl 6 rfl) ?_
  refine lv_iconst (v := 0) hx hb dL_addLink_2 (by decide) ?_
  refine lv_aload_n hx hb dL_addLink_3 rfl (lv_at hl 0 rfl) ?_
  refine lv_iload_n hx hb dL_addLink_4 rfl (lv_at hl 1 rfl) ?_
  refine lv_iload_n hx hb dL_addLink_5 rfl (lv_at hl 2 rfl) ?_
  refine lv_iload_n hx hb dL_addLink_6 rfl (lv_at hl 3 rfl) ?_
  refine lv_iload hx hb dL_addLink_7 (lv_at hl 4 rfl) ?_
  refine lv_iload hx hb dL_addLink_9 (lv_at hl 5 rfl) ?_
  refine kXV (As := [.int p0, .int p1, .int p2, .int p3, .int p4]) (rest := [.int 0, .ref o]) (wr := []) (w3 := [(h0, .inr (9, [.ref (ad 0), .ref (ad 1), .ref (ad 2), .ref (ad 3), .ref (ad 4), .ref (ad 5), .ref (ad 6)])), ((ad 0), .inr (8, [.int 0, .int 0, .ref (ad 7), .ref (ad 8), .ref (ad 9), .ref (ad 10), .ref (ad 11), .ref (ad 12), .ref (ad 13), .ref (ad 14), .ref (ad 15), .ref (ad 16)]))]) ⟨hx, hb, hml, hown, hts⟩ hN (c_X9_addLink l hfl D cI cZ cJ h0 ad p0 p1 p2 p3 p4) (cwV 5 hts (k_gV (fun w h => m_L_addLink_O w ((by decide +kernel : ∀ w ∈ ([.methodLink RL 15 yX9_addLink, .instanceMethod yX9_addLink, .selects RX9 yX9_addLink yX9_addLink, .initialized RX9] : List Cond), w ∈ O_L_addLink) w h)) m_L_addLink_WX9_addLink gd_X9_addLink) rfl rfl rfl (by decide +kernel) ⟨Nat.le_of_ble_eq_true rfl, Nat.le_of_ble_eq_true rfl⟩) hX hK hP hD hS hA [0, 1] [] [0, 1] rfl rfl ⟨by decide, by decide, by decide⟩ (by decide) rfl 9 0 rfl rfl rfl rfl hl.1 rfl (Nat.le_of_ble_eq_true rfl) dL_addLink_11 ⟨Nat.le_of_ble_eq_true rfl, Nat.le_of_ble_eq_true rfl⟩ (fun ce q9 H locs hP hD hS hce hcv hcl => ?_)
  have hP : va_P D vwCl [(h0, .inr (9, [.ref (ad 0), .ref (ad 1), .ref (ad 2), .ref (ad 3), .ref (ad 4), .ref (ad 5), .ref (ad 6)])), ((ad 0), .inr (8, [.int 0, .int 0, .ref (ad 7), .ref (ad 8), .ref (ad 9), .ref (ad 10), .ref (ad 11), .ref (ad 12), .ref (ad 13), .ref (ad 14), .ref (ad 15), .ref (ad 16)]))] H := hP
  have hD : va_D A [(h0, .inr (9, [.ref (ad 0), .ref (ad 1), .ref (ad 2), .ref (ad 3), .ref (ad 4), .ref (ad 5), .ref (ad 6)])), ((ad 0), .inr (8, [.int 0, .int 0, .ref (ad 7), .ref (ad 8), .ref (ad 9), .ref (ad 10), .ref (ad 11), .ref (ad 12), .ref (ad 13), .ref (ad 14), .ref (ad 15), .ref (ad 16)]))] := hD
  refine vx_catch hown [] (⟨0, 16, 19, 19⟩ : ExceptionTableEntry) [(⟨0, 16, 23, 21⟩ : ExceptionTableEntry), (⟨0, 16, 27, 13⟩ : ExceptionTableEntry)] (by rw [hT]; rfl) (fun z hz => nomatch hz) (by decide) (by decide) (hts (.classLink RL 19 "java/lang/IndexOutOfBoundsException") (m_L_addLink_O _ (by decide +kernel))) (va_Nw.use rfl (hX.2.2.2.1 _ (by decide +kernel))) hce hcv hcl ?_
  refine W.eq (g2 := F0 m 19 ls [.ref q9]) rfl ?_
  refine W.widen (k := 1) (n := 6) (Nat.le_of_ble_eq_true rfl) (Nat.le_of_ble_eq_true rfl) ?_
  refine lv_astore (lv' := [(7, .ref q9), (0, .ref h0), (1, .int p0), (2, .int p1), (3, .int p2), (4, .int p3), (5, .int p4), (6, .ref o)]) hx hb dL_addLink_19 hl (by decide) rfl (fun ls hl => ?_)
  refine lv_iconst (v := 1) hx hb dL_addLink_21 (by decide) ?_
  exact k_iret E hK hP hD hS () [0, 1] (by decide) rfl rfl (Nat.le_of_ble_eq_true rfl) (Nat.le_of_ble_eq_true rfl) dL_addLink_22

def O_L_tracedRouter : List Cond := [.methodLink RL 102 yX9_tracedRouter, .instanceMethod yX9_tracedRouter, .selects RX9 yX9_tracedRouter yX9_tracedRouter, .initialized RX9, .classLink RL 41 "java/util/NoSuchElementException"]
def W_L_tracedRouter : List Cond := .codeWith yL_tracedRouter cL_tracedRouter 4 (some .int) [(0, 9, 12, 41)] :: (O_L_tracedRouter ++ W_X9_tracedRouter)
theorem m_L_tracedRouter_O : ∀ w ∈ O_L_tracedRouter, w ∈ W_L_tracedRouter := fun _ h => List.mem_cons_of_mem _ (List.mem_append_left _ h)
theorem m_L_tracedRouter_WX9_tracedRouter : ∀ w ∈ W_X9_tracedRouter, w ∈ W_L_tracedRouter := fun _ h => List.mem_cons_of_mem _ (List.mem_append_right _ h)
theorem gdO_L_tracedRouter : O_L_tracedRouter.all goodWord = true := by decide +kernel
theorem gd_L_tracedRouter : W_L_tracedRouter.all goodWord = true := k_all_cons rfl (k_all_app gdO_L_tracedRouter gd_X9_tracedRouter)
set_option maxHeartbeats 4000000 in
set_option maxRecDepth 100000 in
theorem c_L_tracedRouter (l : Launch) (hfl : l.stackTraces = false) (D : va_G) (cI cZ cJ : ClassId) (h0 : Nat) (ad : Nat → Nat) (p0 : Int32) (o : Nat) : kMw l yL_tracedRouter W_L_tracedRouter { frames := 9, cells := 1, slots := 6, locals := 200 } 1 6 D (kT cI cZ cJ) [.ref h0, .int p0, .ref o] [(h0, .inr (9, [.ref (ad 0), .ref (ad 1), .ref (ad 2), .ref (ad 3), .ref (ad 4), .ref (ad 5), .ref (ad 6)])), ((ad 6), .inr (4, [.int 0, .ref (ad 36), .ref (ad 0), .ref (ad 4)]))] (S := Unit) (fun r _ => r = 1) (fun _ => [(h0, .inr (9, [.ref (ad 0), .ref (ad 1), .ref (ad 2), .ref (ad 3), .ref (ad 4), .ref (ad 5), .ref (ad 6)])), ((ad 6), .inr (4, [.int 0, .ref (ad 36), .ref (ad 0), .ref (ad 4)]))]) := by
  refine kMw_of (lv := [(0, .ref h0), (1, .int p0), (2, .ref o)]) RL "tracedRouter" (by decide +kernel) rfl rfl rfl (Nat.le_of_ble_eq_true rfl) rfl ?_
  intro p e s m below meth c A H locs ls E hT hX hA hK hP hD hS hl
  obtain ⟨hx, hb, hr, hts, hown, hlocks, hml, hin, hN⟩ := id E
  refine lv_aload_n hx hb dL_tracedRouter_0 rfl (lv_at hl 2 rfl) ?_
  refine lv_iconst (v := 0) hx hb dL_tracedRouter_1 (by decide) ?_
  refine lv_aload_n hx hb dL_tracedRouter_2 rfl (lv_at hl 0 rfl) ?_
  refine lv_iload_n hx hb dL_tracedRouter_3 rfl (lv_at hl 1 rfl) ?_
  refine kXV (As := [.int p0]) (rest := [.int 0, .ref o]) (wr := []) (w3 := [(h0, .inr (9, [.ref (ad 0), .ref (ad 1), .ref (ad 2), .ref (ad 3), .ref (ad 4), .ref (ad 5), .ref (ad 6)])), ((ad 6), .inr (4, [.int 0, .ref (ad 36), .ref (ad 0), .ref (ad 4)]))]) ⟨hx, hb, hml, hown, hts⟩ hN (c_X9_tracedRouter l hfl D cI cZ cJ h0 ad p0) (cwV 1 hts (k_gV (fun w h => m_L_tracedRouter_O w ((by decide +kernel : ∀ w ∈ ([.methodLink RL 102 yX9_tracedRouter, .instanceMethod yX9_tracedRouter, .selects RX9 yX9_tracedRouter yX9_tracedRouter, .initialized RX9] : List Cond), w ∈ O_L_tracedRouter) w h)) m_L_tracedRouter_WX9_tracedRouter gd_X9_tracedRouter) rfl rfl rfl (by decide +kernel) ⟨Nat.le_of_ble_eq_true rfl, Nat.le_of_ble_eq_true rfl⟩) hX hK hP hD hS hA [0, 1] [] [0, 1] rfl rfl ⟨by decide, by decide, by decide⟩ (by decide) rfl 9 0 rfl rfl rfl rfl hl.1 rfl (Nat.le_of_ble_eq_true rfl) dL_tracedRouter_4 ⟨Nat.le_of_ble_eq_true rfl, Nat.le_of_ble_eq_true rfl⟩ (fun ce q9 H locs hP hD hS hce hcv hcl => ?_)
  have hP : va_P D vwCl [(h0, .inr (9, [.ref (ad 0), .ref (ad 1), .ref (ad 2), .ref (ad 3), .ref (ad 4), .ref (ad 5), .ref (ad 6)])), ((ad 6), .inr (4, [.int 0, .ref (ad 36), .ref (ad 0), .ref (ad 4)]))] H := hP
  have hD : va_D A [(h0, .inr (9, [.ref (ad 0), .ref (ad 1), .ref (ad 2), .ref (ad 3), .ref (ad 4), .ref (ad 5), .ref (ad 6)])), ((ad 6), .inr (4, [.int 0, .ref (ad 36), .ref (ad 0), .ref (ad 4)]))] := hD
  refine vx_catch hown [] (⟨0, 9, 12, 41⟩ : ExceptionTableEntry) [] (by rw [hT]; rfl) (fun z hz => nomatch hz) (by decide) (by decide) (hts (.classLink RL 41 "java/util/NoSuchElementException") (m_L_tracedRouter_O _ (by decide +kernel))) (va_Nw.use rfl (hX.2.2.2.1 _ (by decide +kernel))) hce hcv hcl ?_
  refine W.eq (g2 := F0 m 12 ls [.ref q9]) rfl ?_
  refine W.widen (k := 1) (n := 6) (Nat.le_of_ble_eq_true rfl) (Nat.le_of_ble_eq_true rfl) ?_
  refine lv_astore_n (lv' := [(3, .ref q9), (0, .ref h0), (1, .int p0), (2, .ref o)]) hx hb dL_tracedRouter_12 rfl hl (by decide) rfl (fun ls hl => ?_)
  refine lv_iconst (v := 1) hx hb dL_tracedRouter_13 (by decide) ?_
  exact k_iret E hK hP hD hS () [0, 1] (by decide) rfl rfl (Nat.le_of_ble_eq_true rfl) (Nat.le_of_ble_eq_true rfl) dL_tracedRouter_14

def O_L_addRouter : List Cond := [.methodLink RL 7 yX9_addRouter, .instanceMethod yX9_addRouter, .selects RX9 yX9_addRouter yX9_addRouter, .initialized RX9]
def W_L_addRouter : List Cond := .codeWith yL_addRouter cL_addRouter 3 (some .int) [(0, 8, 11, 13)] :: (O_L_addRouter ++ W_X9_addRouter)
theorem m_L_addRouter_O : ∀ w ∈ O_L_addRouter, w ∈ W_L_addRouter := fun _ h => List.mem_cons_of_mem _ (List.mem_append_left _ h)
theorem m_L_addRouter_WX9_addRouter : ∀ w ∈ W_X9_addRouter, w ∈ W_L_addRouter := fun _ h => List.mem_cons_of_mem _ (List.mem_append_right _ h)
theorem gdO_L_addRouter : O_L_addRouter.all goodWord = true := by decide +kernel
theorem gd_L_addRouter : W_L_addRouter.all goodWord = true := k_all_cons rfl (k_all_app gdO_L_addRouter gd_X9_addRouter)
set_option maxHeartbeats 4000000 in
set_option maxRecDepth 100000 in
theorem c_L_addRouter (l : Launch) (hfl : l.stackTraces = false) (D : va_G) (cI cZ cJ : ClassId) (h0 : Nat) (ad : Nat → Nat) (o : Nat) : kMw l yL_addRouter W_L_addRouter { frames := 9, cells := 0, slots := 0, locals := 200 } 0 0 D (kT cI cZ cJ) [.ref h0, .ref o] [(h0, .inr (9, [.ref (ad 0), .ref (ad 1), .ref (ad 2), .ref (ad 3), .ref (ad 4), .ref (ad 5), .ref (ad 6)])), ((ad 0), .inr (8, [.int 0, .int 0, .ref (ad 7), .ref (ad 8), .ref (ad 9), .ref (ad 10), .ref (ad 11), .ref (ad 12), .ref (ad 13), .ref (ad 14), .ref (ad 15), .ref (ad 16)])), ((ad 7), .inl (cZ, 16, .inl (fun _ => 0))), (o, .inl (cJ, 1, .inr (.inl (fun _ => 0))))] (S := Unit) (fun r _ => r = 0) (fun _ => [(h0, .inr (9, [.ref (ad 0), .ref (ad 1), .ref (ad 2), .ref (ad 3), .ref (ad 4), .ref (ad 5), .ref (ad 6)])), ((ad 0), .inr (8, [.int 1, .int 0, .ref (ad 7), .ref (ad 8), .ref (ad 9), .ref (ad 10), .ref (ad 11), .ref (ad 12), .ref (ad 13), .ref (ad 14), .ref (ad 15), .ref (ad 16)])), ((ad 7), .inl (cZ, 16, .inl (upd (fun _ => 0) (0 : Int32).toNatClampNeg (vp_nar .boolean 1)))), (o, .inl (cJ, 1, .inr (.inl (vp_updL (fun _ => 0) (0 : Int32).toNatClampNeg 0))))]) := by
  refine kMw_of (lv := [(0, .ref h0), (1, .ref o)]) RL "addRouter" (by decide +kernel) rfl rfl rfl (Nat.le_of_ble_eq_true rfl) rfl ?_
  intro p e s m below meth c A H locs ls E hT hX hA hK hP hD hS hl
  obtain ⟨hx, hb, hr, hts, hown, hlocks, hml, hin, hN⟩ := id E
  refine lv_aload_n hx hb dL_addRouter_0 rfl (lv_at hl 1 rfl) ?_
  refine lv_iconst (v := 0) hx hb dL_addRouter_1 (by decide) ?_
  refine lv_aload_n hx hb dL_addRouter_2 rfl (lv_at hl 0 rfl) ?_
  refine kVi (As := []) (rest := [.int 0, .ref o]) (wr := [(o, .inl (cJ, 1, .inr (.inl (fun _ => 0))))]) (w2 := fun _ => [(h0, .inr (9, [.ref (ad 0), .ref (ad 1), .ref (ad 2), .ref (ad 3), .ref (ad 4), .ref (ad 5), .ref (ad 6)])), ((ad 0), .inr (8, [.int 1, .int 0, .ref (ad 7), .ref (ad 8), .ref (ad 9), .ref (ad 10), .ref (ad 11), .ref (ad 12), .ref (ad 13), .ref (ad 14), .ref (ad 15), .ref (ad 16)])), ((ad 7), .inl (cZ, 16, .inl (upd (fun _ => 0) (0 : Int32).toNatClampNeg (vp_nar .boolean 1)))), (o, .inl (cJ, 1, .inr (.inl (fun _ => 0))))]) ⟨hx, hb, hml, hown, hts⟩ hN (c_X9_addRouter l D cI cZ cJ h0 ad) (cwV 0 hts (k_gV (fun w h => m_L_addRouter_O w ((by decide +kernel : ∀ w ∈ ([.methodLink RL 7 yX9_addRouter, .instanceMethod yX9_addRouter, .selects RX9 yX9_addRouter yX9_addRouter, .initialized RX9] : List Cond), w ∈ O_L_addRouter) w h)) m_L_addRouter_WX9_addRouter gd_X9_addRouter) rfl rfl rfl (by decide +kernel) ⟨Nat.le_of_ble_eq_true rfl, Nat.le_of_ble_eq_true rfl⟩) hK hP hD hS hA [0, 1, 2] [3] [1, 2, 3, 0] rfl rfl ⟨by decide, by decide, by decide⟩ (by decide) (fun _ => rfl) 9 0 rfl rfl rfl rfl hl.1 rfl (Nat.le_of_ble_eq_true rfl) dL_addRouter_3 ⟨Nat.le_of_ble_eq_true rfl, Nat.le_of_ble_eq_true rfl⟩ (fun r u H locs hw hP hD hS => ?_)
  have hP : va_P D vwCl [(h0, .inr (9, [.ref (ad 0), .ref (ad 1), .ref (ad 2), .ref (ad 3), .ref (ad 4), .ref (ad 5), .ref (ad 6)])), ((ad 0), .inr (8, [.int 1, .int 0, .ref (ad 7), .ref (ad 8), .ref (ad 9), .ref (ad 10), .ref (ad 11), .ref (ad 12), .ref (ad 13), .ref (ad 14), .ref (ad 15), .ref (ad 16)])), ((ad 7), .inl (cZ, 16, .inl (upd (fun _ => 0) (0 : Int32).toNatClampNeg (vp_nar .boolean 1)))), (o, .inl (cJ, 1, .inr (.inl (fun _ => 0))))] H := hP
  have hD : va_D A [(h0, .inr (9, [.ref (ad 0), .ref (ad 1), .ref (ad 2), .ref (ad 3), .ref (ad 4), .ref (ad 5), .ref (ad 6)])), ((ad 0), .inr (8, [.int 1, .int 0, .ref (ad 7), .ref (ad 8), .ref (ad 9), .ref (ad 10), .ref (ad 11), .ref (ad 12), .ref (ad 13), .ref (ad 14), .ref (ad 15), .ref (ad 16)])), ((ad 7), .inl (cZ, 16, .inl (upd (fun _ => 0) (0 : Int32).toNatClampNeg (vp_nar .boolean 1)))), (o, .inl (cJ, 1, .inr (.inl (fun _ => 0))))] := hD
  obtain rfl : r = 0 := hw
  refine lv_i2l (v := 0) hx hb dL_addRouter_6 (by decide) ?_
  refine va_last hx hb hK hP hD hS 3 2 rfl rfl (vp_in_iff.mpr (by decide)) dL_addRouter_7 (fun H locs hP hD hS => ?_)
  have hP : va_P D vwCl [(h0, .inr (9, [.ref (ad 0), .ref (ad 1), .ref (ad 2), .ref (ad 3), .ref (ad 4), .ref (ad 5), .ref (ad 6)])), ((ad 0), .inr (8, [.int 1, .int 0, .ref (ad 7), .ref (ad 8), .ref (ad 9), .ref (ad 10), .ref (ad 11), .ref (ad 12), .ref (ad 13), .ref (ad 14), .ref (ad 15), .ref (ad 16)])), ((ad 7), .inl (cZ, 16, .inl (upd (fun _ => 0) (0 : Int32).toNatClampNeg (vp_nar .boolean 1)))), (o, .inl (cJ, 1, .inr (.inl (vp_updL (fun _ => 0) (0 : Int32).toNatClampNeg 0))))] H := hP
  have hD : va_D A [(h0, .inr (9, [.ref (ad 0), .ref (ad 1), .ref (ad 2), .ref (ad 3), .ref (ad 4), .ref (ad 5), .ref (ad 6)])), ((ad 0), .inr (8, [.int 1, .int 0, .ref (ad 7), .ref (ad 8), .ref (ad 9), .ref (ad 10), .ref (ad 11), .ref (ad 12), .ref (ad 13), .ref (ad 14), .ref (ad 15), .ref (ad 16)])), ((ad 7), .inl (cZ, 16, .inl (upd (fun _ => 0) (0 : Int32).toNatClampNeg (vp_nar .boolean 1)))), (o, .inl (cJ, 1, .inr (.inl (vp_updL (fun _ => 0) (0 : Int32).toNatClampNeg 0))))] := hD
  refine lv_goto (tgt := 14) hx hb dL_addRouter_8 (by decide) ?_
  refine lv_iconst (v := 0) hx hb dL_addRouter_14 (by decide) ?_
  exact k_iret E hK hP hD hS () [0, 1, 2, 3] (by decide) rfl rfl (Nat.le_of_ble_eq_true rfl) (Nat.le_of_ble_eq_true rfl) dL_addRouter_15

def O_L_tick_x : List Cond := [.methodLink RL 50 yX9_tick, .instanceMethod yX9_tick, .selects RX9 yX9_tick yX9_tick, .initialized RX9, .classLink RL 21 "java/lang/IllegalArgumentException"]
def W_L_tick_x : List Cond := .codeWith yL_tick cL_tick 4 (some .int) [(0, 9, 12, 21)] :: (O_L_tick_x ++ W_X9_tick_x)
theorem m_L_tick_x_O : ∀ w ∈ O_L_tick_x, w ∈ W_L_tick_x := fun _ h => List.mem_cons_of_mem _ (List.mem_append_left _ h)
theorem m_L_tick_x_WX9_tick_x : ∀ w ∈ W_X9_tick_x, w ∈ W_L_tick_x := fun _ h => List.mem_cons_of_mem _ (List.mem_append_right _ h)
theorem gdO_L_tick_x : O_L_tick_x.all goodWord = true := by decide +kernel
theorem gd_L_tick_x : W_L_tick_x.all goodWord = true := k_all_cons rfl (k_all_app gdO_L_tick_x gd_X9_tick_x)
set_option maxHeartbeats 4000000 in
set_option maxRecDepth 100000 in
theorem c_L_tick_x (l : Launch) (hfl : l.stackTraces = false) (D : va_G) (cI cZ cJ : ClassId) (h0 : Nat) (ad : Nat → Nat) (p0 : Int32) (o : Nat) (hp : p0 < 1 ∨ 60 < p0) : kMw l yL_tick W_L_tick_x { frames := 9, cells := 1, slots := 6, locals := 200 } 1 6 D (kT cI cZ cJ) [.ref h0, .int p0, .ref o] [(h0, .inr (9, [.ref (ad 0), .ref (ad 1), .ref (ad 2), .ref (ad 3), .ref (ad 4), .ref (ad 5), .ref (ad 6)])), ((ad 0), .inr (8, [.int 0, .int 0, .ref (ad 7), .ref (ad 8), .ref (ad 9), .ref (ad 10), .ref (ad 11), .ref (ad 12), .ref (ad 13), .ref (ad 14), .ref (ad 15), .ref (ad 16)]))] (S := Unit) (fun r _ => r = 1) (fun _ => [(h0, .inr (9, [.ref (ad 0), .ref (ad 1), .ref (ad 2), .ref (ad 3), .ref (ad 4), .ref (ad 5), .ref (ad 6)])), ((ad 0), .inr (8, [.int 0, .int 0, .ref (ad 7), .ref (ad 8), .ref (ad 9), .ref (ad 10), .ref (ad 11), .ref (ad 12), .ref (ad 13), .ref (ad 14), .ref (ad 15), .ref (ad 16)]))]) := by
  refine kMw_of (lv := [(0, .ref h0), (1, .int p0), (2, .ref o)]) RL "tick" (by decide +kernel) rfl rfl rfl (Nat.le_of_ble_eq_true rfl) rfl ?_
  intro p e s m below meth c A H locs ls E hT hX hA hK hP hD hS hl
  obtain ⟨hx, hb, hr, hts, hown, hlocks, hml, hin, hN⟩ := id E
  refine lv_aload_n hx hb dL_tick_0 rfl (lv_at hl 2 rfl) ?_
  refine lv_iconst (v := 0) hx hb dL_tick_1 (by decide) ?_
  refine lv_aload_n hx hb dL_tick_2 rfl (lv_at hl 0 rfl) ?_
  refine lv_iload_n hx hb dL_tick_3 rfl (lv_at hl 1 rfl) ?_
  refine kXV (As := [.int p0]) (rest := [.int 0, .ref o]) (wr := []) (w3 := [(h0, .inr (9, [.ref (ad 0), .ref (ad 1), .ref (ad 2), .ref (ad 3), .ref (ad 4), .ref (ad 5), .ref (ad 6)])), ((ad 0), .inr (8, [.int 0, .int 0, .ref (ad 7), .ref (ad 8), .ref (ad 9), .ref (ad 10), .ref (ad 11), .ref (ad 12), .ref (ad 13), .ref (ad 14), .ref (ad 15), .ref (ad 16)]))]) ⟨hx, hb, hml, hown, hts⟩ hN (c_X9_tick_x l hfl D cI cZ cJ h0 ad p0 hp) (cwV 1 hts (k_gV (fun w h => m_L_tick_x_O w ((by decide +kernel : ∀ w ∈ ([.methodLink RL 50 yX9_tick, .instanceMethod yX9_tick, .selects RX9 yX9_tick yX9_tick, .initialized RX9] : List Cond), w ∈ O_L_tick_x) w h)) m_L_tick_x_WX9_tick_x gd_X9_tick_x) rfl rfl rfl (by decide +kernel) ⟨Nat.le_of_ble_eq_true rfl, Nat.le_of_ble_eq_true rfl⟩) hX hK hP hD hS hA [0, 1] [] [0, 1] rfl rfl ⟨by decide, by decide, by decide⟩ (by decide) rfl 9 0 rfl rfl rfl rfl hl.1 rfl (Nat.le_of_ble_eq_true rfl) dL_tick_4 ⟨Nat.le_of_ble_eq_true rfl, Nat.le_of_ble_eq_true rfl⟩ (fun ce q9 H locs hP hD hS hce hcv hcl => ?_)
  have hP : va_P D vwCl [(h0, .inr (9, [.ref (ad 0), .ref (ad 1), .ref (ad 2), .ref (ad 3), .ref (ad 4), .ref (ad 5), .ref (ad 6)])), ((ad 0), .inr (8, [.int 0, .int 0, .ref (ad 7), .ref (ad 8), .ref (ad 9), .ref (ad 10), .ref (ad 11), .ref (ad 12), .ref (ad 13), .ref (ad 14), .ref (ad 15), .ref (ad 16)]))] H := hP
  have hD : va_D A [(h0, .inr (9, [.ref (ad 0), .ref (ad 1), .ref (ad 2), .ref (ad 3), .ref (ad 4), .ref (ad 5), .ref (ad 6)])), ((ad 0), .inr (8, [.int 0, .int 0, .ref (ad 7), .ref (ad 8), .ref (ad 9), .ref (ad 10), .ref (ad 11), .ref (ad 12), .ref (ad 13), .ref (ad 14), .ref (ad 15), .ref (ad 16)]))] := hD
  refine vx_catch hown [] (⟨0, 9, 12, 21⟩ : ExceptionTableEntry) [] (by rw [hT]; rfl) (fun z hz => nomatch hz) (by decide) (by decide) (hts (.classLink RL 21 "java/lang/IllegalArgumentException") (m_L_tick_x_O _ (by decide +kernel))) (va_Nw.use rfl (hX.2.2.2.1 _ (by decide +kernel))) hce hcv hcl ?_
  refine W.eq (g2 := F0 m 12 ls [.ref q9]) rfl ?_
  refine W.widen (k := 1) (n := 6) (Nat.le_of_ble_eq_true rfl) (Nat.le_of_ble_eq_true rfl) ?_
  refine lv_astore_n (lv' := [(3, .ref q9), (0, .ref h0), (1, .int p0), (2, .ref o)]) hx hb dL_tick_12 rfl hl (by decide) rfl (fun ls hl => ?_)
  refine lv_iconst (v := 1) hx hb dL_tick_13 (by decide) ?_
  exact k_iret E hK hP hD hS () [0, 1] (by decide) rfl rfl (Nat.le_of_ble_eq_true rfl) (Nat.le_of_ble_eq_true rfl) dL_tick_14

def O_L_tick : List Cond := [.methodLink RL 50 yX9_tick, .instanceMethod yX9_tick, .selects RX9 yX9_tick yX9_tick, .initialized RX9]
def W_L_tick : List Cond := .codeWith yL_tick cL_tick 4 (some .int) [(0, 9, 12, 21)] :: (O_L_tick ++ W_X9_tick)
theorem m_L_tick_O : ∀ w ∈ O_L_tick, w ∈ W_L_tick := fun _ h => List.mem_cons_of_mem _ (List.mem_append_left _ h)
theorem m_L_tick_WX9_tick : ∀ w ∈ W_X9_tick, w ∈ W_L_tick := fun _ h => List.mem_cons_of_mem _ (List.mem_append_right _ h)
theorem gdO_L_tick : O_L_tick.all goodWord = true := by decide +kernel
theorem gd_L_tick : W_L_tick.all goodWord = true := k_all_cons rfl (k_all_app gdO_L_tick gd_X9_tick)
set_option maxHeartbeats 4000000 in
set_option maxRecDepth 100000 in
theorem c_L_tick (l : Launch) (hfl : l.stackTraces = false) (D : va_G) (cI cZ cJ : ClassId) (h0 : Nat) (ad : Nat → Nat) (b1 : Nat) (b2 : Nat) (c1 : Nat) (c2 : Nat) (n : Nat) (now : Int32) (o : Nat) (hn1 : 1 ≤ n) (hn2 : n ≤ 60) : kMw l yL_tick W_L_tick { frames := 9, cells := 0, slots := 0, locals := 200 } 0 0 D (kT cI cZ cJ) [.ref h0, .int (nI n), .ref o] [(h0, .inr (9, [.ref (ad 0), .ref (ad 1), .ref (ad 2), .ref (ad 3), .ref (ad 4), .ref (ad 5), .ref (ad 6)])), ((ad 0), .inr (8, [.int 0, .int 0, .ref (ad 7), .ref (ad 8), .ref (ad 9), .ref (ad 10), .ref (ad 11), .ref (ad 12), .ref (ad 13), .ref (ad 14), .ref (ad 15), .ref (ad 16)])), ((ad 1), .inr (0, [.int now, .ref (ad 17), .ref (ad 18), .ref (ad 19), .ref (ad 20), .ref (ad 0)])), ((ad 2), .inr (2, [.ref (ad 21), .ref (ad 22), .ref (ad 23), .ref (ad 24), .ref (ad 25)])), ((ad 25), .inl (cI, 64, .inl (fun _ => 0))), ((ad 5), .inr (7, [.int 0, .ref b1, .ref b2, .ref (ad 35), .ref (ad 0), .ref (ad 1), .ref (ad 2), .ref (ad 3), .ref (ad 4)])), (b1, .inr (3, [.int 0, .ref c1])), (b2, .inr (3, [.int 0, .ref c2])), (o, .inl (cJ, 1, .inr (.inl (fun _ => 0))))] (S := Unit) (fun r _ => r = 0) (fun _ => [(o, .inl (cJ, 1, .inr (.inl (vp_updL (fun _ => 0) (0 : Int32).toNatClampNeg 0))))]) := by
  refine kMw_of (lv := [(0, .ref h0), (1, .int (nI n)), (2, .ref o)]) RL "tick" (by decide +kernel) rfl rfl rfl (Nat.le_of_ble_eq_true rfl) rfl ?_
  intro p e s m below meth c A H locs ls E hT hX hA hK hP hD hS hl
  obtain ⟨hx, hb, hr, hts, hown, hlocks, hml, hin, hN⟩ := id E
  refine lv_aload_n hx hb dL_tick_0 rfl (lv_at hl 2 rfl) ?_
  refine lv_iconst (v := 0) hx hb dL_tick_1 (by decide) ?_
  refine lv_aload_n hx hb dL_tick_2 rfl (lv_at hl 0 rfl) ?_
  refine lv_iload_n hx hb dL_tick_3 rfl (lv_at hl 1 rfl) ?_
  refine kVi (As := [.int (nI n)]) (rest := [.int 0, .ref o]) (wr := [(o, .inl (cJ, 1, .inr (.inl (fun _ => 0))))]) (w2 := fun u => [(h0, .inr (9, [.ref (ad 0), .ref (ad 1), .ref (ad 2), .ref (ad 3), .ref (ad 4), .ref (ad 5), .ref (ad 6)])), ((ad 0), .inr (8, [.int 0, .int 0, .ref (ad 7), .ref (ad 8), .ref (ad 9), .ref (ad 10), .ref (ad 11), .ref (ad 12), .ref (ad 13), .ref (ad 14), .ref (ad 15), .ref (ad 16)])), ((ad 1), .inr (0, [.int u.1, .ref (ad 17), .ref (ad 18), .ref (ad 19), .ref (ad 20), .ref (ad 0)])), ((ad 2), .inr (2, [.ref (ad 21), .ref (ad 22), .ref (ad 23), .ref (ad 24), .ref (ad 25)])), ((ad 25), .inl (cI, 64, .inl (fun _ => 0))), ((ad 5), .inr (7, [.int 0, .ref u.2.1, .ref u.2.2.1, .ref (ad 35), .ref (ad 0), .ref (ad 1), .ref (ad 2), .ref (ad 3), .ref (ad 4)])), (o, .inl (cJ, 1, .inr (.inl (fun _ => 0)))), (u.2.1, .inr (3, [.int 0, .ref u.2.2.2.1])), (u.2.2.1, .inr (3, [.int 0, .ref u.2.2.2.2]))]) ⟨hx, hb, hml, hown, hts⟩ hN (c_X9_tick l D cI cZ cJ h0 ad b1 b2 c1 c2 n now hn1 hn2) (cwV 1 hts (k_gV (fun w h => m_L_tick_O w ((by decide +kernel : ∀ w ∈ ([.methodLink RL 50 yX9_tick, .instanceMethod yX9_tick, .selects RX9 yX9_tick yX9_tick, .initialized RX9] : List Cond), w ∈ O_L_tick) w h)) m_L_tick_WX9_tick gd_X9_tick) rfl rfl rfl (by decide +kernel) ⟨Nat.le_of_ble_eq_true rfl, Nat.le_of_ble_eq_true rfl⟩) hK hP hD hS hA [0, 1, 2, 3, 4, 5, 6, 7] [8] [1, 2, 3, 4, 5, 6, 0, 7, 8] rfl rfl ⟨by decide, by decide, by decide⟩ (by decide) (fun _ => rfl) 9 0 rfl rfl rfl rfl hl.1 rfl (Nat.le_of_ble_eq_true rfl) dL_tick_4 ⟨Nat.le_of_ble_eq_true rfl, Nat.le_of_ble_eq_true rfl⟩ (fun r u H locs hw hP hD hS => ?_)
  obtain ⟨w_1, d_2, d_3, e_4, e_5⟩ := u
  have hP : va_P D vwCl [(h0, .inr (9, [.ref (ad 0), .ref (ad 1), .ref (ad 2), .ref (ad 3), .ref (ad 4), .ref (ad 5), .ref (ad 6)])), ((ad 0), .inr (8, [.int 0, .int 0, .ref (ad 7), .ref (ad 8), .ref (ad 9), .ref (ad 10), .ref (ad 11), .ref (ad 12), .ref (ad 13), .ref (ad 14), .ref (ad 15), .ref (ad 16)])), ((ad 1), .inr (0, [.int w_1, .ref (ad 17), .ref (ad 18), .ref (ad 19), .ref (ad 20), .ref (ad 0)])), ((ad 2), .inr (2, [.ref (ad 21), .ref (ad 22), .ref (ad 23), .ref (ad 24), .ref (ad 25)])), ((ad 25), .inl (cI, 64, .inl (fun _ => 0))), ((ad 5), .inr (7, [.int 0, .ref d_2, .ref d_3, .ref (ad 35), .ref (ad 0), .ref (ad 1), .ref (ad 2), .ref (ad 3), .ref (ad 4)])), (o, .inl (cJ, 1, .inr (.inl (fun _ => 0)))), (d_2, .inr (3, [.int 0, .ref e_4])), (d_3, .inr (3, [.int 0, .ref e_5]))] H := hP
  have hD : va_D A [(h0, .inr (9, [.ref (ad 0), .ref (ad 1), .ref (ad 2), .ref (ad 3), .ref (ad 4), .ref (ad 5), .ref (ad 6)])), ((ad 0), .inr (8, [.int 0, .int 0, .ref (ad 7), .ref (ad 8), .ref (ad 9), .ref (ad 10), .ref (ad 11), .ref (ad 12), .ref (ad 13), .ref (ad 14), .ref (ad 15), .ref (ad 16)])), ((ad 1), .inr (0, [.int w_1, .ref (ad 17), .ref (ad 18), .ref (ad 19), .ref (ad 20), .ref (ad 0)])), ((ad 2), .inr (2, [.ref (ad 21), .ref (ad 22), .ref (ad 23), .ref (ad 24), .ref (ad 25)])), ((ad 25), .inl (cI, 64, .inl (fun _ => 0))), ((ad 5), .inr (7, [.int 0, .ref d_2, .ref d_3, .ref (ad 35), .ref (ad 0), .ref (ad 1), .ref (ad 2), .ref (ad 3), .ref (ad 4)])), (o, .inl (cJ, 1, .inr (.inl (fun _ => 0)))), (d_2, .inr (3, [.int 0, .ref e_4])), (d_3, .inr (3, [.int 0, .ref e_5]))] := hD
  obtain rfl : r = 0 := hw
  refine lv_i2l (v := 0) hx hb dL_tick_7 (by decide) ?_
  refine va_last hx hb hK hP hD hS 6 2 rfl rfl (vp_in_iff.mpr (by decide)) dL_tick_8 (fun H locs hP hD hS => ?_)
  have hP : va_P D vwCl [(h0, .inr (9, [.ref (ad 0), .ref (ad 1), .ref (ad 2), .ref (ad 3), .ref (ad 4), .ref (ad 5), .ref (ad 6)])), ((ad 0), .inr (8, [.int 0, .int 0, .ref (ad 7), .ref (ad 8), .ref (ad 9), .ref (ad 10), .ref (ad 11), .ref (ad 12), .ref (ad 13), .ref (ad 14), .ref (ad 15), .ref (ad 16)])), ((ad 1), .inr (0, [.int w_1, .ref (ad 17), .ref (ad 18), .ref (ad 19), .ref (ad 20), .ref (ad 0)])), ((ad 2), .inr (2, [.ref (ad 21), .ref (ad 22), .ref (ad 23), .ref (ad 24), .ref (ad 25)])), ((ad 25), .inl (cI, 64, .inl (fun _ => 0))), ((ad 5), .inr (7, [.int 0, .ref d_2, .ref d_3, .ref (ad 35), .ref (ad 0), .ref (ad 1), .ref (ad 2), .ref (ad 3), .ref (ad 4)])), (o, .inl (cJ, 1, .inr (.inl (vp_updL (fun _ => 0) (0 : Int32).toNatClampNeg 0)))), (d_2, .inr (3, [.int 0, .ref e_4])), (d_3, .inr (3, [.int 0, .ref e_5]))] H := hP
  have hD : va_D A [(h0, .inr (9, [.ref (ad 0), .ref (ad 1), .ref (ad 2), .ref (ad 3), .ref (ad 4), .ref (ad 5), .ref (ad 6)])), ((ad 0), .inr (8, [.int 0, .int 0, .ref (ad 7), .ref (ad 8), .ref (ad 9), .ref (ad 10), .ref (ad 11), .ref (ad 12), .ref (ad 13), .ref (ad 14), .ref (ad 15), .ref (ad 16)])), ((ad 1), .inr (0, [.int w_1, .ref (ad 17), .ref (ad 18), .ref (ad 19), .ref (ad 20), .ref (ad 0)])), ((ad 2), .inr (2, [.ref (ad 21), .ref (ad 22), .ref (ad 23), .ref (ad 24), .ref (ad 25)])), ((ad 25), .inl (cI, 64, .inl (fun _ => 0))), ((ad 5), .inr (7, [.int 0, .ref d_2, .ref d_3, .ref (ad 35), .ref (ad 0), .ref (ad 1), .ref (ad 2), .ref (ad 3), .ref (ad 4)])), (o, .inl (cJ, 1, .inr (.inl (vp_updL (fun _ => 0) (0 : Int32).toNatClampNeg 0)))), (d_2, .inr (3, [.int 0, .ref e_4])), (d_3, .inr (3, [.int 0, .ref e_5]))] := hD
  refine lv_goto (tgt := 15) hx hb dL_tick_9 (by decide) ?_
  refine lv_iconst (v := 0) hx hb dL_tick_15 (by decide) ?_
  exact k_iret E hK hP hD hS () [6] (by decide) rfl rfl (Nat.le_of_ble_eq_true rfl) (Nat.le_of_ble_eq_true rfl) dL_tick_16

