theorem dX2_versionHeld_0 : decode cX2_versionHeld 0 = .ok (.aload_n 0, 1) := by decide +kernel
theorem dX2_versionHeld_1 : decode cX2_versionHeld 1 = .ok (.getfield 22, 3) := by decide +kernel
theorem dX2_versionHeld_4 : decode cX2_versionHeld 4 = .ok (.iload_n 1, 1) := by decide +kernel
theorem dX2_versionHeld_5 : decode cX2_versionHeld 5 = .ok (.sipush 1088, 3) := by decide +kernel
theorem dX2_versionHeld_8 : decode cX2_versionHeld 8 = .ok (.imul, 1) := by decide +kernel
theorem dX2_versionHeld_9 : decode cX2_versionHeld 9 = .ok (.iload_n 2, 1) := by decide +kernel
theorem dX2_versionHeld_10 : decode cX2_versionHeld 10 = .ok (.iadd, 1) := by decide +kernel
theorem dX2_versionHeld_11 : decode cX2_versionHeld 11 = .ok (.iaload, 1) := by decide +kernel
theorem dX2_versionHeld_12 : decode cX2_versionHeld 12 = .ok (.ireturn, 1) := by decide +kernel
theorem dX2_holdsSlot_0 : decode cX2_holdsSlot 0 = .ok (.aload_n 0, 1) := by decide +kernel
theorem dX2_holdsSlot_1 : decode cX2_holdsSlot 1 = .ok (.getfield 25, 3) := by decide +kernel
theorem dX2_holdsSlot_4 : decode cX2_holdsSlot 4 = .ok (.iload_n 1, 1) := by decide +kernel
theorem dX2_holdsSlot_5 : decode cX2_holdsSlot 5 = .ok (.iaload, 1) := by decide +kernel
theorem dX2_holdsSlot_6 : decode cX2_holdsSlot 6 = .ok (.ifCond .le 7, 3) := by decide +kernel
theorem dX2_holdsSlot_9 : decode cX2_holdsSlot 9 = .ok (.iconst 1, 1) := by decide +kernel
theorem dX2_holdsSlot_10 : decode cX2_holdsSlot 10 = .ok (.goto 4, 3) := by decide +kernel
theorem dX2_holdsSlot_13 : decode cX2_holdsSlot 13 = .ok (.iconst 0, 1) := by decide +kernel
theorem dX2_holdsSlot_14 : decode cX2_holdsSlot 14 = .ok (.ireturn, 1) := by decide +kernel
theorem dX2_replace_0 : decode cX2_replace 0 = .ok (.iload_n 1, 1) := by decide +kernel
theorem dX2_replace_1 : decode cX2_replace 1 = .ok (.sipush 1088, 3) := by decide +kernel
theorem dX2_replace_4 : decode cX2_replace 4 = .ok (.imul, 1) := by decide +kernel
theorem dX2_replace_5 : decode cX2_replace 5 = .ok (.iload_n 2, 1) := by decide +kernel
theorem dX2_replace_6 : decode cX2_replace 6 = .ok (.iadd, 1) := by decide +kernel
theorem dX2_replace_7 : decode cX2_replace 7 = .ok (.istore 4, 2) := by decide +kernel
theorem dX2_replace_9 : decode cX2_replace 9 = .ok (.aload_n 0, 1) := by decide +kernel
theorem dX2_replace_10 : decode cX2_replace 10 = .ok (.getfield 22, 3) := by decide +kernel
theorem dX2_replace_13 : decode cX2_replace 13 = .ok (.iload 4, 2) := by decide +kernel
theorem dX2_replace_15 : decode cX2_replace 15 = .ok (.iaload, 1) := by decide +kernel
theorem dX2_replace_16 : decode cX2_replace 16 = .ok (.istore 5, 2) := by decide +kernel
theorem dX2_replace_18 : decode cX2_replace 18 = .ok (.iload 5, 2) := by decide +kernel
theorem dX2_replace_20 : decode cX2_replace 20 = .ok (.iconst (-1), 1) := by decide +kernel
theorem dX2_replace_21 : decode cX2_replace 21 = .ok (.if_icmp .eq 17, 3) := by decide +kernel
theorem dX2_replace_24 : decode cX2_replace 24 = .ok (.aload_n 0, 1) := by decide +kernel
theorem dX2_replace_25 : decode cX2_replace 25 = .ok (.getfield 25, 3) := by decide +kernel
theorem dX2_replace_28 : decode cX2_replace 28 = .ok (.iload 5, 2) := by decide +kernel
theorem dX2_replace_30 : decode cX2_replace 30 = .ok (.bipush 63, 2) := by decide +kernel
theorem dX2_replace_32 : decode cX2_replace 32 = .ok (.iand, 1) := by decide +kernel
theorem dX2_replace_33 : decode cX2_replace 33 = .ok (.dup2, 1) := by decide +kernel
theorem dX2_replace_34 : decode cX2_replace 34 = .ok (.iaload, 1) := by decide +kernel
theorem dX2_replace_35 : decode cX2_replace 35 = .ok (.iconst 1, 1) := by decide +kernel
theorem dX2_replace_36 : decode cX2_replace 36 = .ok (.isub, 1) := by decide +kernel
theorem dX2_replace_37 : decode cX2_replace 37 = .ok (.iastore, 1) := by decide +kernel
theorem dX2_replace_38 : decode cX2_replace 38 = .ok (.iload_n 3, 1) := by decide +kernel
theorem dX2_replace_39 : decode cX2_replace 39 = .ok (.iconst (-1), 1) := by decide +kernel
theorem dX2_replace_40 : decode cX2_replace 40 = .ok (.if_icmp .eq 16, 3) := by decide +kernel
theorem dX2_replace_43 : decode cX2_replace 43 = .ok (.aload_n 0, 1) := by decide +kernel
theorem dX2_replace_44 : decode cX2_replace 44 = .ok (.getfield 25, 3) := by decide +kernel
theorem dX2_replace_47 : decode cX2_replace 47 = .ok (.iload_n 3, 1) := by decide +kernel
theorem dX2_replace_48 : decode cX2_replace 48 = .ok (.bipush 63, 2) := by decide +kernel
theorem dX2_replace_50 : decode cX2_replace 50 = .ok (.iand, 1) := by decide +kernel
theorem dX2_replace_51 : decode cX2_replace 51 = .ok (.dup2, 1) := by decide +kernel
theorem dX2_replace_52 : decode cX2_replace 52 = .ok (.iaload, 1) := by decide +kernel
theorem dX2_replace_53 : decode cX2_replace 53 = .ok (.iconst 1, 1) := by decide +kernel
theorem dX2_replace_54 : decode cX2_replace 54 = .ok (.iadd, 1) := by decide +kernel
theorem dX2_replace_55 : decode cX2_replace 55 = .ok (.iastore, 1) := by decide +kernel
theorem dX2_replace_56 : decode cX2_replace 56 = .ok (.aload_n 0, 1) := by decide +kernel
theorem dX2_replace_57 : decode cX2_replace 57 = .ok (.getfield 22, 3) := by decide +kernel
theorem dX2_replace_60 : decode cX2_replace 60 = .ok (.iload 4, 2) := by decide +kernel
theorem dX2_replace_62 : decode cX2_replace 62 = .ok (.iload_n 3, 1) := by decide +kernel
theorem dX2_replace_63 : decode cX2_replace 63 = .ok (.iastore, 1) := by decide +kernel
theorem dX2_replace_64 : decode cX2_replace 64 = .ok (.iload_n 2, 1) := by decide +kernel
theorem dX2_replace_65 : decode cX2_replace 65 = .ok (.sipush 272, 3) := by decide +kernel
theorem dX2_replace_68 : decode cX2_replace 68 = .ok (.idiv, 1) := by decide +kernel
theorem dX2_replace_69 : decode cX2_replace 69 = .ok (.istore 6, 2) := by decide +kernel
theorem dX2_replace_71 : decode cX2_replace 71 = .ok (.iload_n 2, 1) := by decide +kernel
theorem dX2_replace_72 : decode cX2_replace 72 = .ok (.iload 6, 2) := by decide +kernel
theorem dX2_replace_74 : decode cX2_replace 74 = .ok (.sipush 272, 3) := by decide +kernel
theorem dX2_replace_77 : decode cX2_replace 77 = .ok (.imul, 1) := by decide +kernel
theorem dX2_replace_78 : decode cX2_replace 78 = .ok (.isub, 1) := by decide +kernel
theorem dX2_replace_79 : decode cX2_replace 79 = .ok (.bipush 16, 2) := by decide +kernel
theorem dX2_replace_81 : decode cX2_replace 81 = .ok (.if_icmp .ge 15, 3) := by decide +kernel
theorem dX2_replace_84 : decode cX2_replace 84 = .ok (.aload_n 0, 1) := by decide +kernel
theorem dX2_replace_85 : decode cX2_replace 85 = .ok (.getfield 19, 3) := by decide +kernel
theorem dX2_replace_88 : decode cX2_replace 88 = .ok (.iload_n 1, 1) := by decide +kernel
theorem dX2_replace_89 : decode cX2_replace 89 = .ok (.iconst 4, 1) := by decide +kernel
theorem dX2_replace_90 : decode cX2_replace 90 = .ok (.imul, 1) := by decide +kernel
theorem dX2_replace_91 : decode cX2_replace 91 = .ok (.iload 6, 2) := by decide +kernel
theorem dX2_replace_93 : decode cX2_replace 93 = .ok (.iadd, 1) := by decide +kernel
theorem dX2_replace_94 : decode cX2_replace 94 = .ok (.iconst 1, 1) := by decide +kernel
theorem dX2_replace_95 : decode cX2_replace 95 = .ok (.bastore, 1) := by decide +kernel
theorem dX2_replace_96 : decode cX2_replace 96 = .ok (.return_, 1) := by decide +kernel
theorem dX2_sizeOf_0 : decode cX2_sizeOf 0 = .ok (.iconst 0, 1) := by decide +kernel
theorem dX2_sizeOf_1 : decode cX2_sizeOf 1 = .ok (.istore_n 3, 1) := by decide +kernel
theorem dX2_sizeOf_2 : decode cX2_sizeOf 2 = .ok (.iload_n 2, 1) := by decide +kernel
theorem dX2_sizeOf_3 : decode cX2_sizeOf 3 = .ok (.sipush 272, 3) := by decide +kernel
theorem dX2_sizeOf_6 : decode cX2_sizeOf 6 = .ok (.imul, 1) := by decide +kernel
theorem dX2_sizeOf_7 : decode cX2_sizeOf 7 = .ok (.istore 4, 2) := by decide +kernel
theorem dX2_sizeOf_9 : decode cX2_sizeOf 9 = .ok (.iload 4, 2) := by decide +kernel
theorem dX2_sizeOf_11 : decode cX2_sizeOf 11 = .ok (.istore 5, 2) := by decide +kernel
theorem dX2_sizeOf_13 : decode cX2_sizeOf 13 = .ok (.iload 5, 2) := by decide +kernel
theorem dX2_sizeOf_15 : decode cX2_sizeOf 15 = .ok (.iload 4, 2) := by decide +kernel
theorem dX2_sizeOf_17 : decode cX2_sizeOf 17 = .ok (.sipush 272, 3) := by decide +kernel
theorem dX2_sizeOf_20 : decode cX2_sizeOf 20 = .ok (.iadd, 1) := by decide +kernel
theorem dX2_sizeOf_21 : decode cX2_sizeOf 21 = .ok (.if_icmp .ge 23, 3) := by decide +kernel
theorem dX2_sizeOf_24 : decode cX2_sizeOf 24 = .ok (.aload_n 0, 1) := by decide +kernel
theorem dX2_sizeOf_25 : decode cX2_sizeOf 25 = .ok (.iload_n 1, 1) := by decide +kernel
theorem dX2_sizeOf_26 : decode cX2_sizeOf 26 = .ok (.iload 5, 2) := by decide +kernel
theorem dX2_sizeOf_28 : decode cX2_sizeOf 28 = .ok (.invokevirtual 34, 3) := by decide +kernel
theorem dX2_sizeOf_31 : decode cX2_sizeOf 31 = .ok (.iconst (-1), 1) := by decide +kernel
theorem dX2_sizeOf_32 : decode cX2_sizeOf 32 = .ok (.if_icmp .eq 6, 3) := by decide +kernel
theorem dX2_sizeOf_35 : decode cX2_sizeOf 35 = .ok (.iinc 3 1, 3) := by decide +kernel
theorem dX2_sizeOf_38 : decode cX2_sizeOf 38 = .ok (.iinc 5 1, 3) := by decide +kernel
theorem dX2_sizeOf_41 : decode cX2_sizeOf 41 = .ok (.goto (-28), 3) := by decide +kernel
theorem dX2_sizeOf_44 : decode cX2_sizeOf 44 = .ok (.iload_n 3, 1) := by decide +kernel
theorem dX2_sizeOf_45 : decode cX2_sizeOf 45 = .ok (.ireturn, 1) := by decide +kernel
theorem dX2_areEqual_0 : decode cX2_areEqual 0 = .ok (.iload_n 3, 1) := by decide +kernel
theorem dX2_areEqual_1 : decode cX2_areEqual 1 = .ok (.sipush 272, 3) := by decide +kernel
theorem dX2_areEqual_4 : decode cX2_areEqual 4 = .ok (.imul, 1) := by decide +kernel
theorem dX2_areEqual_5 : decode cX2_areEqual 5 = .ok (.istore 4, 2) := by decide +kernel
theorem dX2_areEqual_7 : decode cX2_areEqual 7 = .ok (.iload 4, 2) := by decide +kernel
theorem dX2_areEqual_9 : decode cX2_areEqual 9 = .ok (.istore 5, 2) := by decide +kernel
theorem dX2_areEqual_11 : decode cX2_areEqual 11 = .ok (.iload 5, 2) := by decide +kernel
theorem dX2_areEqual_13 : decode cX2_areEqual 13 = .ok (.iload 4, 2) := by decide +kernel
theorem dX2_areEqual_15 : decode cX2_areEqual 15 = .ok (.sipush 272, 3) := by decide +kernel
theorem dX2_areEqual_18 : decode cX2_areEqual 18 = .ok (.iadd, 1) := by decide +kernel
theorem dX2_areEqual_19 : decode cX2_areEqual 19 = .ok (.if_icmp .ge 28, 3) := by decide +kernel
theorem dX2_areEqual_22 : decode cX2_areEqual 22 = .ok (.aload_n 0, 1) := by decide +kernel
theorem dX2_areEqual_23 : decode cX2_areEqual 23 = .ok (.iload_n 1, 1) := by decide +kernel
theorem dX2_areEqual_24 : decode cX2_areEqual 24 = .ok (.iload 5, 2) := by decide +kernel
theorem dX2_areEqual_26 : decode cX2_areEqual 26 = .ok (.invokevirtual 34, 3) := by decide +kernel
theorem dX2_areEqual_29 : decode cX2_areEqual 29 = .ok (.aload_n 0, 1) := by decide +kernel
theorem dX2_areEqual_30 : decode cX2_areEqual 30 = .ok (.iload_n 2, 1) := by decide +kernel
theorem dX2_areEqual_31 : decode cX2_areEqual 31 = .ok (.iload 5, 2) := by decide +kernel
theorem dX2_areEqual_33 : decode cX2_areEqual 33 = .ok (.invokevirtual 34, 3) := by decide +kernel
theorem dX2_areEqual_36 : decode cX2_areEqual 36 = .ok (.if_icmp .eq 5, 3) := by decide +kernel
theorem dX2_areEqual_39 : decode cX2_areEqual 39 = .ok (.iconst 0, 1) := by decide +kernel
theorem dX2_areEqual_40 : decode cX2_areEqual 40 = .ok (.ireturn, 1) := by decide +kernel
theorem dX2_areEqual_41 : decode cX2_areEqual 41 = .ok (.iinc 5 1, 3) := by decide +kernel
theorem dX2_areEqual_44 : decode cX2_areEqual 44 = .ok (.goto (-33), 3) := by decide +kernel
theorem dX2_areEqual_47 : decode cX2_areEqual 47 = .ok (.iconst 1, 1) := by decide +kernel
theorem dX2_areEqual_48 : decode cX2_areEqual 48 = .ok (.ireturn, 1) := by decide +kernel
theorem dX2_forget_0 : decode cX2_forget 0 = .ok (.iconst 0, 1) := by decide +kernel
theorem dX2_forget_1 : decode cX2_forget 1 = .ok (.istore_n 2, 1) := by decide +kernel
theorem dX2_forget_2 : decode cX2_forget 2 = .ok (.iload_n 2, 1) := by decide +kernel
theorem dX2_forget_3 : decode cX2_forget 3 = .ok (.sipush 1088, 3) := by decide +kernel
theorem dX2_forget_6 : decode cX2_forget 6 = .ok (.if_icmp .ge 16, 3) := by decide +kernel
theorem dX2_forget_9 : decode cX2_forget 9 = .ok (.aload_n 0, 1) := by decide +kernel
theorem dX2_forget_10 : decode cX2_forget 10 = .ok (.iload_n 1, 1) := by decide +kernel
theorem dX2_forget_11 : decode cX2_forget 11 = .ok (.iload_n 2, 1) := by decide +kernel
theorem dX2_forget_12 : decode cX2_forget 12 = .ok (.iconst (-1), 1) := by decide +kernel
theorem dX2_forget_13 : decode cX2_forget 13 = .ok (.invokevirtual 38, 3) := by decide +kernel
theorem dX2_forget_16 : decode cX2_forget 16 = .ok (.iinc 2 1, 3) := by decide +kernel
theorem dX2_forget_19 : decode cX2_forget 19 = .ok (.goto (-17), 3) := by decide +kernel
theorem dX2_forget_22 : decode cX2_forget 22 = .ok (.iconst 0, 1) := by decide +kernel
theorem dX2_forget_23 : decode cX2_forget 23 = .ok (.istore_n 2, 1) := by decide +kernel
theorem dX2_forget_24 : decode cX2_forget 24 = .ok (.iload_n 2, 1) := by decide +kernel
theorem dX2_forget_25 : decode cX2_forget 25 = .ok (.iconst 4, 1) := by decide +kernel
theorem dX2_forget_26 : decode cX2_forget 26 = .ok (.if_icmp .ge 42, 3) := by decide +kernel
theorem dX2_forget_29 : decode cX2_forget 29 = .ok (.aload_n 0, 1) := by decide +kernel
theorem dX2_forget_30 : decode cX2_forget 30 = .ok (.iload_n 2, 1) := by decide +kernel
theorem dX2_forget_31 : decode cX2_forget 31 = .ok (.iload_n 1, 1) := by decide +kernel
theorem dX2_forget_32 : decode cX2_forget 32 = .ok (.invokestatic 42, 3) := by decide +kernel
theorem dX2_forget_35 : decode cX2_forget 35 = .ok (.invokevirtual 45, 3) := by decide +kernel
theorem dX2_forget_38 : decode cX2_forget 38 = .ok (.iconst 0, 1) := by decide +kernel
theorem dX2_forget_39 : decode cX2_forget 39 = .ok (.istore_n 3, 1) := by decide +kernel
theorem dX2_forget_40 : decode cX2_forget 40 = .ok (.iload_n 3, 1) := by decide +kernel
theorem dX2_forget_41 : decode cX2_forget 41 = .ok (.bipush 16, 2) := by decide +kernel
theorem dX2_forget_43 : decode cX2_forget 43 = .ok (.if_icmp .ge 19, 3) := by decide +kernel
theorem dX2_forget_46 : decode cX2_forget 46 = .ok (.aload_n 0, 1) := by decide +kernel
theorem dX2_forget_47 : decode cX2_forget 47 = .ok (.iload_n 2, 1) := by decide +kernel
theorem dX2_forget_48 : decode cX2_forget 48 = .ok (.iload_n 1, 1) := by decide +kernel
theorem dX2_forget_49 : decode cX2_forget 49 = .ok (.iload_n 3, 1) := by decide +kernel
theorem dX2_forget_50 : decode cX2_forget 50 = .ok (.invokestatic 49, 3) := by decide +kernel
theorem dX2_forget_53 : decode cX2_forget 53 = .ok (.invokevirtual 45, 3) := by decide +kernel
theorem dX2_forget_56 : decode cX2_forget 56 = .ok (.iinc 3 1, 3) := by decide +kernel
theorem dX2_forget_59 : decode cX2_forget 59 = .ok (.goto (-19), 3) := by decide +kernel
theorem dX2_forget_62 : decode cX2_forget 62 = .ok (.iinc 2 1, 3) := by decide +kernel
theorem dX2_forget_65 : decode cX2_forget 65 = .ok (.goto (-41), 3) := by decide +kernel
theorem dX2_forget_68 : decode cX2_forget 68 = .ok (.return_, 1) := by decide +kernel
theorem dX2_forgetKey_0 : decode cX2_forgetKey 0 = .ok (.aload_n 0, 1) := by decide +kernel
theorem dX2_forgetKey_1 : decode cX2_forgetKey 1 = .ok (.getfield 9, 3) := by decide +kernel
theorem dX2_forgetKey_4 : decode cX2_forgetKey 4 = .ok (.iload_n 1, 1) := by decide +kernel
theorem dX2_forgetKey_5 : decode cX2_forgetKey 5 = .ok (.iconst 0, 1) := by decide +kernel
theorem dX2_forgetKey_6 : decode cX2_forgetKey 6 = .ok (.iastore, 1) := by decide +kernel
theorem dX2_forgetKey_7 : decode cX2_forgetKey 7 = .ok (.aload_n 0, 1) := by decide +kernel
theorem dX2_forgetKey_8 : decode cX2_forgetKey 8 = .ok (.getfield 15, 3) := by decide +kernel
theorem dX2_forgetKey_11 : decode cX2_forgetKey 11 = .ok (.iload_n 1, 1) := by decide +kernel
theorem dX2_forgetKey_12 : decode cX2_forgetKey 12 = .ok (.iconst 0, 1) := by decide +kernel
theorem dX2_forgetKey_13 : decode cX2_forgetKey 13 = .ok (.bastore, 1) := by decide +kernel
theorem dX2_forgetKey_14 : decode cX2_forgetKey 14 = .ok (.return_, 1) := by decide +kernel
theorem dX9_routerKey_0 : decode cX9_routerKey 0 = .ok (.iload_n 0, 1) := by decide +kernel
theorem dX9_routerKey_1 : decode cX9_routerKey 1 = .ok (.sipush 272, 3) := by decide +kernel
theorem dX9_routerKey_4 : decode cX9_routerKey 4 = .ok (.imul, 1) := by decide +kernel
theorem dX9_routerKey_5 : decode cX9_routerKey 5 = .ok (.iload_n 1, 1) := by decide +kernel
theorem dX9_routerKey_6 : decode cX9_routerKey 6 = .ok (.iadd, 1) := by decide +kernel
theorem dX9_routerKey_7 : decode cX9_routerKey 7 = .ok (.ireturn, 1) := by decide +kernel
theorem dX9_summaryKey_0 : decode cX9_summaryKey 0 = .ok (.iload_n 0, 1) := by decide +kernel
theorem dX9_summaryKey_1 : decode cX9_summaryKey 1 = .ok (.sipush 272, 3) := by decide +kernel
theorem dX9_summaryKey_4 : decode cX9_summaryKey 4 = .ok (.imul, 1) := by decide +kernel
theorem dX9_summaryKey_5 : decode cX9_summaryKey 5 = .ok (.bipush 16, 2) := by decide +kernel
theorem dX9_summaryKey_7 : decode cX9_summaryKey 7 = .ok (.iadd, 1) := by decide +kernel
theorem dX9_summaryKey_8 : decode cX9_summaryKey 8 = .ok (.iload_n 1, 1) := by decide +kernel
theorem dX9_summaryKey_9 : decode cX9_summaryKey 9 = .ok (.bipush 16, 2) := by decide +kernel
theorem dX9_summaryKey_11 : decode cX9_summaryKey 11 = .ok (.imul, 1) := by decide +kernel
theorem dX9_summaryKey_12 : decode cX9_summaryKey 12 = .ok (.iadd, 1) := by decide +kernel
theorem dX9_summaryKey_13 : decode cX9_summaryKey 13 = .ok (.iload_n 2, 1) := by decide +kernel
theorem dX9_summaryKey_14 : decode cX9_summaryKey 14 = .ok (.iadd, 1) := by decide +kernel
theorem dX9_summaryKey_15 : decode cX9_summaryKey 15 = .ok (.ireturn, 1) := by decide +kernel
/-- how many of the first n places hold a version of a slot -/
def cnt (hd : Nat → Option Nat) (s : Nat) : Nat → Nat
  | 0 => 0
  | n + 1 => cnt hd s n + (match hd n with | none => 0 | some v => if v % 64 = s then 1 else 0)
def one (x : Option Nat) (s : Nat) : Nat := match x with | none => 0 | some v => if v % 64 = s then 1 else 0
theorem cnt_s {hd : Nat → Option Nat} {s n : Nat} : cnt hd s (n + 1) = cnt hd s n + one (hd n) s := rfl
theorem cnt_out {hd : Nat → Option Nat} {s k : Nat} {x : Option Nat} : ∀ n, n ≤ k → cnt (fs hd k x) s n = cnt hd s n
  | 0, _ => rfl
  | n + 1, h => by rw [cnt_s, cnt_s, cnt_out n (by omega), fs_n (by omega)]
theorem cnt_fs {hd : Nat → Option Nat} {s k : Nat} {x : Option Nat} : ∀ n, k < n → cnt (fs hd k x) s n + one (hd k) s = cnt hd s n + one x s
  | 0, h => absurd h (Nat.not_lt_zero _)
  | n + 1, h => by
    rw [cnt_s, cnt_s]
    by_cases e : k = n
    · subst e
      rw [cnt_out k (Nat.le_refl _), fs_s]
      omega
    · have := cnt_fs (hd := hd) (s := s) (k := k) (x := x) n (by omega)
      rw [fs_n (Ne.symm e)]
      omega
theorem one_le (x : Option Nat) (s : Nat) : one x s ≤ 1 := by
  unfold one
  split
  · omega
  · split <;> omega
theorem cnt_le {hd : Nat → Option Nat} {s : Nat} : ∀ n, cnt hd s n ≤ n
  | 0 => Nat.le_refl _
  | n + 1 => by
    rw [cnt_s]
    have h1 := cnt_le (hd := hd) (s := s) n
    have h2 := one_le (hd n) s
    omega
theorem cnt_pos {hd : Nat → Option Nat} {s k : Nat} : ∀ n, k < n → one (hd k) s ≤ cnt hd s n
  | 0, h => absurd h (Nat.not_lt_zero _)
  | n + 1, h => by
    rw [cnt_s]
    by_cases e : k = n
    · subst e; omega
    · have := cnt_pos (hd := hd) (s := s) (k := k) n (by omega)
      omega
/-- holdersOfSlot is what the databases say -/
def cn (hd : Nat → Option Nat) : Nat → Nat := fun s => cnt hd s 17408
theorem cn_lt (hd : Nat → Option Nat) (s : Nat) : cn hd s < 2 ^ 20 := Nat.lt_of_le_of_lt (cnt_le 17408) (by decide)
theorem cn_pos {hd : Nat → Option Nat} {k v : Nat} (hk : k < 17408) (h : hd k = some v) : 1 ≤ cn hd (v % 64) := by
  have h1 := cnt_pos (hd := hd) (s := v % 64) (k := k) 17408 hk
  rw [h] at h1
  simp [one] at h1
  exact h1
theorem cntN_none {hd : Nat → Option Nat} {k s n : Nat} {x : Option Nat} (hk : k < n) (h : hd k = none) : cnt (fs hd k x) s n = cnt hd s n + one x s := by
  have h1 := cnt_fs (hd := hd) (s := s) (k := k) (x := x) n hk
  have h2 : one none s = 0 := rfl
  rw [h, h2] at h1
  exact h1
theorem cntN_some {hd : Nat → Option Nat} {k s n v : Nat} {x : Option Nat} (hk : k < n) (h : hd k = some v) : cnt (fs hd k x) s n = fs (fun s => cnt hd s n) (v % 64) (cnt hd (v % 64) n - 1) s + one x s := by
  have h1 := cnt_fs (hd := hd) (s := s) (k := k) (x := x) n hk
  have h2 := cnt_pos (hd := hd) (s := v % 64) (k := k) n hk
  rw [h] at h1 h2
  by_cases e : s = v % 64
  · subst e
    rw [fs_s]
    have h3 : one (some v) (v % 64) = 1 := by simp [one]
    rw [h3] at h1 h2
    omega
  · rw [fs_n e]
    have h3 : one (some v) s = 0 := by simp [one, Ne.symm e]
    rw [h3] at h1
    exact h1
theorem cn_none {hd : Nat → Option Nat} {k : Nat} {x : Option Nat} (hk : k < 17408) (h : hd k = none) : cn (fs hd k x) = (fun s => cn hd s + one x s) := by
  funext s
  unfold cn
  exact cntN_none hk h
theorem cn_some {hd : Nat → Option Nat} {k v : Nat} {x : Option Nat} (hk : k < 17408) (h : hd k = some v) : cn (fs hd k x) = (fun s => fs (cn hd) (v % 64) (cn hd (v % 64) - 1) s + one x s) := by
  funext s
  unfold cn
  exact cntN_some hk h
theorem fs_one {f : Nat → Nat} {v : Nat} : (fun s => f s + one (some v) s) = fs f (v % 64) (f (v % 64) + 1) := by
  funext s
  by_cases e : s = v % 64
  · subst e; rw [fs_s]; simp [one]
  · rw [fs_n e]; simp [one, Ne.symm e]
theorem fun_one {f : Nat → Nat} : (fun s => f s + one none s) = f := by funext s; rfl
def rol (old : Nat → Bool) (r ky : Nat) : Nat → Bool := if ky - ky / 272 * 272 < 16 then fs old (r * 4 + ky / 272) true else old
def O_versionHeld : List Cond := [.fieldLink RX2 22 "RoutingDomain$Databases" "held" "[I"]
def W_versionHeld : List Cond := .code yX2_versionHeld cX2_versionHeld 3 (some .int) :: (O_versionHeld ++ wsX20)
theorem m_versionHeld_O : ∀ w ∈ O_versionHeld, w ∈ W_versionHeld := fun _ h => List.mem_cons_of_mem _ (List.mem_append_left _ h)
theorem m_versionHeld_C2 : ∀ w ∈ wsX20, w ∈ W_versionHeld := fun _ h => List.mem_cons_of_mem _ (List.mem_append_right _ h)
theorem gdO_versionHeld : O_versionHeld.all goodWord = true := by decide +kernel
theorem gd_versionHeld : W_versionHeld.all goodWord = true := k_all_cons rfl (k_all_app gdO_versionHeld gdC_2)
set_option maxHeartbeats 4000000 in
set_option maxRecDepth 100000 in
theorem c_versionHeld (l : Launch) (D : va_G) (cI cZ cJ : ClassId) (h0 : Nat) (ad : Nat → Nat) (hd : Nat → Option Nat) (r : Nat) (ky : Nat) (hr : r < 16) (hky : ky < 1088) : kMi l yX2_versionHeld W_versionHeld { frames := 0, cells := 0, slots := 0, locals := 0 } 0 0 D (kT cI cZ cJ) [.ref h0, .int (nI r), .int (nI ky)] [(h0, .inr (2, [.ref (ad 21), .ref (ad 22), .ref (ad 23), .ref (ad 24), .ref (ad 25)])), ((ad 24), .inl (cI, 17408, .inl (eO hd)))] (S := Unit) (fun res_ _ => res_ = (oI (hd (r * 1088 + ky)))) (fun _ => [(h0, .inr (2, [.ref (ad 21), .ref (ad 22), .ref (ad 23), .ref (ad 24), .ref (ad 25)])), ((ad 24), .inl (cI, 17408, .inl (eO hd)))]) := by
  refine kMi_of (lv := [(0, .ref h0), (1, .int (nI r)), (2, .int (nI ky))]) RX2 "versionHeld" (by decide +kernel) rfl rfl rfl (Nat.le_of_ble_eq_true rfl) rfl ?_
  intro p e s m below meth c A H locs ls E hA hK hP hD hS hl
  obtain ⟨hx, hb, hr_, hts, hown, hlocks, hml, hin, hN⟩ := id E
  refine lv_aload_n hx hb dX2_versionHeld_0 rfl (lv_at hl 0 rfl) ?_
  refine va_get (ci := 2) (v := .ref (ad 24)) (C := RX2) (T := TX2) (N := 5) hx hb hts m_versionHeld_C2 hown hK hP 0 rfl rfl 3 (by decide) (hts (.fieldLink RX2 22 "RoutingDomain$Databases" "held" "[I") (m_versionHeld_O _ (by decide +kernel))) (fun _ h9 => h9) rfl dX2_versionHeld_1 ?_
  refine lv_iload_n hx hb dX2_versionHeld_4 rfl (lv_at hl 1 rfl) ?_
  refine lv_sipush (v := 1088) hx hb dX2_versionHeld_5 (by decide) ?_
  refine lv_imul hx hb dX2_versionHeld_8 ?_
  refine lv_topi (fun y ey => ?_)
  obtain rfl : y = (nI (r * 1088)) := ey.trans (pk_mul r 1088)
  refine lv_iload_n hx hb dX2_versionHeld_9 rfl (lv_at hl 2 rfl) ?_
  refine lv_iadd hx hb dX2_versionHeld_10 ?_
  refine lv_topi (fun y ey => ?_)
  obtain rfl : y = (nI ((r * 1088) + ky)) := ey.trans (nI_add (r * 1088) ky)
  refine va_iald hx hb hK hP 1 0 rfl rfl (vp_in_nI (show ((r * 1088) + ky) < 17408 from by omega) (by decide)) dX2_versionHeld_11 ?_
  refine lv_topi (fun y ey => ?_)
  obtain rfl : y = (oI (hd ((r * 1088) + ky))) := ey.trans (ldO (f := hd) (j := ((r * 1088) + ky)) (by omega))
  rcases hv_11 : (hd ((r * 1088) + ky)) with _ | v_11
  · refine lv_topi (fun y ey => ?_)
    obtain rfl : y = (-1) := ey
    exact k_iret E hK hP hD hS () [0, 1] (by decide) rfl (by first | rfl | (simp [bI, oI, hv_11]; done) | (simp [bI, oI, hv_11]; rfl)) (Nat.le_of_ble_eq_true rfl) (Nat.le_of_ble_eq_true rfl) dX2_versionHeld_12
  · refine lv_topi (fun y ey => ?_)
    obtain rfl : y = (nI v_11) := ey
    exact k_iret E hK hP hD hS () [0, 1] (by decide) rfl (by first | rfl | (simp [bI, oI, hv_11]; done) | (simp [bI, oI, hv_11]; rfl)) (Nat.le_of_ble_eq_true rfl) (Nat.le_of_ble_eq_true rfl) dX2_versionHeld_12

def O_holdsSlot : List Cond := [.fieldLink RX2 25 "RoutingDomain$Databases" "holdersOfSlot" "[I"]
def W_holdsSlot : List Cond := .code yX2_holdsSlot cX2_holdsSlot 2 (some .boolean) :: (O_holdsSlot ++ wsX20)
theorem m_holdsSlot_O : ∀ w ∈ O_holdsSlot, w ∈ W_holdsSlot := fun _ h => List.mem_cons_of_mem _ (List.mem_append_left _ h)
theorem m_holdsSlot_C2 : ∀ w ∈ wsX20, w ∈ W_holdsSlot := fun _ h => List.mem_cons_of_mem _ (List.mem_append_right _ h)
theorem gdO_holdsSlot : O_holdsSlot.all goodWord = true := by decide +kernel
theorem gd_holdsSlot : W_holdsSlot.all goodWord = true := k_all_cons rfl (k_all_app gdO_holdsSlot gdC_2)
set_option maxHeartbeats 4000000 in
set_option maxRecDepth 100000 in
theorem c_holdsSlot (l : Launch) (D : va_G) (cI cZ cJ : ClassId) (h0 : Nat) (ad : Nat → Nat) (hd : Nat → Option Nat) (n : Nat) (hn : n < 64) : kMi l yX2_holdsSlot W_holdsSlot { frames := 0, cells := 0, slots := 0, locals := 0 } 0 0 D (kT cI cZ cJ) [.ref h0, .int (nI n)] [(h0, .inr (2, [.ref (ad 21), .ref (ad 22), .ref (ad 23), .ref (ad 24), .ref (ad 25)])), ((ad 25), .inl (cI, 64, .inl (eN (cn hd))))] (S := Unit) (fun res_ _ => res_ = (bI (decide (0 < cn hd n)))) (fun _ => [(h0, .inr (2, [.ref (ad 21), .ref (ad 22), .ref (ad 23), .ref (ad 24), .ref (ad 25)])), ((ad 25), .inl (cI, 64, .inl (eN (cn hd))))]) := by
  refine kMi_of (lv := [(0, .ref h0), (1, .int (nI n))]) RX2 "holdsSlot" (by decide +kernel) rfl rfl rfl (Nat.le_of_ble_eq_true rfl) rfl ?_
  intro p e s m below meth c A H locs ls E hA hK hP hD hS hl
  obtain ⟨hx, hb, hr_, hts, hown, hlocks, hml, hin, hN⟩ := id E
  have hq1 := cn_lt hd n
  refine lv_aload_n hx hb dX2_holdsSlot_0 rfl (lv_at hl 0 rfl) ?_
  refine va_get (ci := 2) (v := .ref (ad 25)) (C := RX2) (T := TX2) (N := 5) hx hb hts m_holdsSlot_C2 hown hK hP 0 rfl rfl 4 (by decide) (hts (.fieldLink RX2 25 "RoutingDomain$Databases" "holdersOfSlot" "[I") (m_holdsSlot_O _ (by decide +kernel))) (fun _ h9 => h9) rfl dX2_holdsSlot_1 ?_
  refine lv_iload_n hx hb dX2_holdsSlot_4 rfl (lv_at hl 1 rfl) ?_
  refine va_iald hx hb hK hP 1 0 rfl rfl (vp_in_nI (show n < 64 from by omega) (by decide)) dX2_holdsSlot_5 ?_
  refine lv_topi (fun y ey => ?_)
  obtain rfl : y = (nI ((cn hd) n)) := ey.trans (ldN (f := (cn hd)) (j := n) (by omega))
  refine lv_if_le (tgt := 13) hx hb dX2_holdsSlot_6 (by decide) (fun c_6 => ?_) (fun c_6 => ?_)
  · have n_6 : ((cn hd) n) ≤ 0 := (nI_leI (a := ((cn hd) n)) (b := 0) (by omega) (by omega)).mp c_6
    refine lv_iconst (v := 0) hx hb dX2_holdsSlot_13 (by decide) ?_
    exact k_zret E hK hP hD hS () [0, 1] (by decide) rfl (by first | rfl | (simp [bI, oI, n_6]; done) | (simp [bI, oI, n_6]; rfl)) (by decide) (Nat.le_of_ble_eq_true rfl) (Nat.le_of_ble_eq_true rfl) dX2_holdsSlot_14
  · have n_6 : ¬ ((cn hd) n) ≤ 0 := fun h => c_6 ((nI_leI (a := ((cn hd) n)) (b := 0) (by omega) (by omega)).mpr h)
    refine lv_iconst (v := 1) hx hb dX2_holdsSlot_9 (by decide) ?_
    refine lv_goto (tgt := 14) hx hb dX2_holdsSlot_10 (by decide) ?_
    exact k_zret E hK hP hD hS () [0, 1] (by decide) rfl (by first | rfl | (simp [bI, oI, n_6]; done) | (simp [bI, oI, n_6]; rfl)) (by decide) (Nat.le_of_ble_eq_true rfl) (Nat.le_of_ble_eq_true rfl) dX2_holdsSlot_14

def O_replN : List Cond := [.fieldLink RX2 22 "RoutingDomain$Databases" "held" "[I", .fieldLink RX2 19 "RoutingDomain$Databases" "pathsAreOld" "[Z", .fieldLink RX2 25 "RoutingDomain$Databases" "holdersOfSlot" "[I"]
def W_replN : List Cond := .code yX2_replace cX2_replace 7 none :: (O_replN ++ wsX20)
theorem m_replN_O : ∀ w ∈ O_replN, w ∈ W_replN := fun _ h => List.mem_cons_of_mem _ (List.mem_append_left _ h)
theorem m_replN_C2 : ∀ w ∈ wsX20, w ∈ W_replN := fun _ h => List.mem_cons_of_mem _ (List.mem_append_right _ h)
theorem gdO_replN : O_replN.all goodWord = true := by decide +kernel
theorem gd_replN : W_replN.all goodWord = true := k_all_cons rfl (k_all_app gdO_replN gdC_2)
set_option maxHeartbeats 4000000 in
set_option maxRecDepth 100000 in
theorem c_replN (l : Launch) (D : va_G) (cI cZ cJ : ClassId) (h0 : Nat) (ad : Nat → Nat) (old : Nat → Bool) (hd : Nat → Option Nat) (r : Nat) (ky : Nat) (hr : r < 16) (hky : ky < 1088) (hhd : ∀ j w, hd j = some w → w < 69632) : kMv l yX2_replace W_replN { frames := 0, cells := 0, slots := 0, locals := 0 } 0 0 D (kT cI cZ cJ) [.ref h0, .int (nI r), .int (nI ky), .int (-1)] [(h0, .inr (2, [.ref (ad 21), .ref (ad 22), .ref (ad 23), .ref (ad 24), .ref (ad 25)])), ((ad 23), .inl (cZ, 64, .inl (eB old))), ((ad 24), .inl (cI, 17408, .inl (eO hd))), ((ad 25), .inl (cI, 64, .inl (eN (cn hd))))] (S := Unit) (fun _ => True) (fun _ => [(h0, .inr (2, [.ref (ad 21), .ref (ad 22), .ref (ad 23), .ref (ad 24), .ref (ad 25)])), ((ad 23), .inl (cZ, 64, .inl (eB (rol old r ky)))), ((ad 24), .inl (cI, 17408, .inl (eO (fs hd (r * 1088 + ky) none)))), ((ad 25), .inl (cI, 64, .inl (eN (cn (fs hd (r * 1088 + ky) none)))))]) := by
  refine kMv_of (lv := [(0, .ref h0), (1, .int (nI r)), (2, .int (nI ky)), (3, .int (-1))]) RX2 "replace" (by decide +kernel) rfl rfl rfl (Nat.le_of_ble_eq_true rfl) rfl ?_
  intro p e s m below meth c A H locs ls E hA hK hP hD hS hl
  obtain ⟨hx, hb, hr_, hts, hown, hlocks, hml, hin, hN⟩ := id E
  refine lv_iload_n hx hb dX2_replace_0 rfl (lv_at hl 1 rfl) ?_
  refine lv_sipush (v := 1088) hx hb dX2_replace_1 (by decide) ?_
  refine lv_imul hx hb dX2_replace_4 ?_
  refine lv_topi (fun y ey => ?_)
  obtain rfl : y = (nI (r * 1088)) := ey.trans (pk_mul r 1088)
  refine lv_iload_n hx hb dX2_replace_5 rfl (lv_at hl 2 rfl) ?_
  refine lv_iadd hx hb dX2_replace_6 ?_
  refine lv_topi (fun y ey => ?_)
  obtain rfl : y = (nI ((r * 1088) + ky)) := ey.trans (nI_add (r * 1088) ky)
  refine lv_istore (lv' := [(4, .int (nI ((r * 1088) + ky))), (0, .ref h0), (1, .int (nI r)), (2, .int (nI ky)), (3, .int (-1))]) hx hb dX2_replace_7 hl (by decide) rfl (fun ls hl => ?_)
  refine lv_aload_n hx hb dX2_replace_9 rfl (lv_at hl 1 rfl) ?_
  refine va_get (ci := 2) (v := .ref (ad 24)) (C := RX2) (T := TX2) (N := 5) hx hb hts m_replN_C2 hown hK hP 0 rfl rfl 3 (by decide) (hts (.fieldLink RX2 22 "RoutingDomain$Databases" "held" "[I") (m_replN_O _ (by decide +kernel))) (fun _ h9 => h9) rfl dX2_replace_10 ?_
  refine lv_iload hx hb dX2_replace_13 (lv_at hl 0 rfl) ?_
  refine va_iald hx hb hK hP 2 0 rfl rfl (vp_in_nI (show ((r * 1088) + ky) < 17408 from by omega) (by decide)) dX2_replace_15 ?_
  refine lv_topi (fun y ey => ?_)
  obtain rfl : y = (oI (hd ((r * 1088) + ky))) := ey.trans (ldO (f := hd) (j := ((r * 1088) + ky)) (by omega))
  rcases hv_15 : (hd ((r * 1088) + ky)) with _ | v_15
  · refine lv_topi (fun y ey => ?_)
    obtain rfl : y = (-1) := ey
    refine lv_istore (lv' := [(5, .int (-1)), (4, .int (nI ((r * 1088) + ky))), (0, .ref h0), (1, .int (nI r)), (2, .int (nI ky)), (3, .int (-1))]) hx hb dX2_replace_16 hl (by decide) rfl (fun ls hl => ?_)
    refine lv_iload hx hb dX2_replace_18 (lv_at hl 0 rfl) ?_
    refine lv_iconst (v := (-1)) hx hb dX2_replace_20 (by decide) ?_
    refine lv_icmp_eq (tgt := 38) hx hb dX2_replace_21 (by decide) (fun _ => ?_) (fun c => absurd (by decide) c)
    refine lv_iload_n hx hb dX2_replace_38 rfl (lv_at hl 5 rfl) ?_
    refine lv_iconst (v := (-1)) hx hb dX2_replace_39 (by decide) ?_
    refine lv_icmp_eq (tgt := 56) hx hb dX2_replace_40 (by decide) (fun _ => ?_) (fun c => absurd (by decide) c)
    refine lv_aload_n hx hb dX2_replace_56 rfl (lv_at hl 2 rfl) ?_
    refine va_get (ci := 2) (v := .ref (ad 24)) (C := RX2) (T := TX2) (N := 5) hx hb hts m_replN_C2 hown hK hP 0 rfl rfl 3 (by decide) (hts (.fieldLink RX2 22 "RoutingDomain$Databases" "held" "[I") (m_replN_O _ (by decide +kernel))) (fun _ h9 => h9) rfl dX2_replace_57 ?_
    refine lv_iload hx hb dX2_replace_60 (lv_at hl 1 rfl) ?_
    refine lv_iload_n hx hb dX2_replace_62 rfl (lv_at hl 5 rfl) ?_
    refine va_iast hx hb hK hP hD hS 2 0 rfl rfl (vp_in_nI (show ((r * 1088) + ky) < 17408 from by omega) (by decide)) dX2_replace_63 (fun H locs hP hD hS => ?_)
    have hP : va_P D vwCl [(h0, .inr (2, [.ref (ad 21), .ref (ad 22), .ref (ad 23), .ref (ad 24), .ref (ad 25)])), ((ad 23), .inl (cZ, 64, .inl (eB old))), ((ad 24), .inl (cI, 17408, .inl (upd (eO hd) (nI ((r * 1088) + ky)).toNatClampNeg (oI none)))), ((ad 25), .inl (cI, 64, .inl (eN (cn hd))))] H := hP
    have hD : va_D A [(h0, .inr (2, [.ref (ad 21), .ref (ad 22), .ref (ad 23), .ref (ad 24), .ref (ad 25)])), ((ad 23), .inl (cZ, 64, .inl (eB old))), ((ad 24), .inl (cI, 17408, .inl (upd (eO hd) (nI ((r * 1088) + ky)).toNatClampNeg (oI none)))), ((ad 25), .inl (cI, 64, .inl (eN (cn hd))))] := hD
    rw [show (upd (eO hd) (nI ((r * 1088) + ky)).toNatClampNeg (oI none)) = (eO (fs hd ((r * 1088) + ky) none)) from stO (by omega)] at hP hD
    rw [show (cn hd) = cn (fs hd (r * 1088 + ky) none) from ((cn_none (by omega) hv_15).trans fun_one).symm] at hP hD
    refine lv_iload_n hx hb dX2_replace_64 rfl (lv_at hl 4 rfl) ?_
    refine lv_sipush (v := 272) hx hb dX2_replace_65 (by decide) ?_
    refine lv_idiv hx hb dX2_replace_68 (by decide) ?_
    refine lv_topi (fun y ey => ?_)
    obtain rfl : y = (nI (ky / 272)) := ey.trans (pk_div (a := ky) (d := 272) (by omega) (by decide) (by decide))
    refine lv_istore (lv' := [(6, .int (nI (ky / 272))), (5, .int (-1)), (4, .int (nI ((r * 1088) + ky))), (0, .ref h0), (1, .int (nI r)), (2, .int (nI ky)), (3, .int (-1))]) hx hb dX2_replace_69 hl (by decide) rfl (fun ls hl => ?_)
    refine lv_iload_n hx hb dX2_replace_71 rfl (lv_at hl 5 rfl) ?_
    refine lv_iload hx hb dX2_replace_72 (lv_at hl 0 rfl) ?_
    refine lv_sipush (v := 272) hx hb dX2_replace_74 (by decide) ?_
    refine lv_imul hx hb dX2_replace_77 ?_
    refine lv_topi (fun y ey => ?_)
    obtain rfl : y = (nI ((ky / 272) * 272)) := ey.trans (pk_mul (ky / 272) 272)
    refine lv_isub hx hb dX2_replace_78 ?_
    refine lv_topi (fun y ey => ?_)
    obtain rfl : y = (nI (ky - ((ky / 272) * 272))) := ey.trans (pk_sub (show ((ky / 272) * 272) ≤ ky from by omega))
    refine lv_bipush (v := 16) hx hb dX2_replace_79 (by decide) ?_
    refine lv_icmp_ge (tgt := 96) hx hb dX2_replace_81 (by decide) (fun c_81 => ?_) (fun c_81 => ?_)
    · have n_81 : 16 ≤ (ky - ((ky / 272) * 272)) := (nI_leI (a := 16) (b := (ky - ((ky / 272) * 272))) (by omega) (by omega)).mp c_81
      rw [show old = (rol old r ky) from (by first | rfl | (simp [itr_s, rol, hv_15, n_81]; done) | (unfold rol; split <;> first | rfl | (exfalso; omega)))] at hP hD
      rw [show (fs hd ((r * 1088) + ky) none) = (fs hd (r * 1088 + ky) none) from (by first | rfl | (simp [itr_s, rol, hv_15, n_81]; done) | (unfold rol; split <;> first | rfl | (exfalso; omega)))] at hP hD
      exact k_vret E hK hP hD hS () [0, 1, 2, 3] (by decide) rfl trivial (Nat.le_of_ble_eq_true rfl) (Nat.le_of_ble_eq_true rfl) dX2_replace_96
    · have n_81 : ¬ 16 ≤ (ky - ((ky / 272) * 272)) := fun h => c_81 ((nI_leI (a := 16) (b := (ky - ((ky / 272) * 272))) (by omega) (by omega)).mpr h)
      refine lv_aload_n hx hb dX2_replace_84 rfl (lv_at hl 3 rfl) ?_
      refine va_get (ci := 2) (v := .ref (ad 23)) (C := RX2) (T := TX2) (N := 5) hx hb hts m_replN_C2 hown hK hP 0 rfl rfl 2 (by decide) (hts (.fieldLink RX2 19 "RoutingDomain$Databases" "pathsAreOld" "[Z") (m_replN_O _ (by decide +kernel))) (fun _ h9 => h9) rfl dX2_replace_85 ?_
      refine lv_iload_n hx hb dX2_replace_88 rfl (lv_at hl 4 rfl) ?_
      refine lv_iconst (v := 4) hx hb dX2_replace_89 (by decide) ?_
      refine lv_imul hx hb dX2_replace_90 ?_
      refine lv_topi (fun y ey => ?_)
      obtain rfl : y = (nI (r * 4)) := ey.trans (pk_mul r 4)
      refine lv_iload hx hb dX2_replace_91 (lv_at hl 0 rfl) ?_
      refine lv_iadd hx hb dX2_replace_93 ?_
      refine lv_topi (fun y ey => ?_)
      obtain rfl : y = (nI ((r * 4) + (ky / 272))) := ey.trans (nI_add (r * 4) (ky / 272))
      refine lv_iconst (v := 1) hx hb dX2_replace_94 (by decide) ?_
      refine va_zast hx hb hK hP hD hS 1 1 rfl rfl (vp_in_nI (show ((r * 4) + (ky / 272)) < 64 from by omega) (by decide)) dX2_replace_95 (fun H locs hP hD hS => ?_)
      have hP : va_P D vwCl [(h0, .inr (2, [.ref (ad 21), .ref (ad 22), .ref (ad 23), .ref (ad 24), .ref (ad 25)])), ((ad 23), .inl (cZ, 64, .inl (upd (eB old) (nI ((r * 4) + (ky / 272))).toNatClampNeg (vp_nar .boolean (bI true))))), ((ad 24), .inl (cI, 17408, .inl (eO (fs hd ((r * 1088) + ky) none)))), ((ad 25), .inl (cI, 64, .inl (eN (cn (fs hd (r * 1088 + ky) none)))))] H := hP
      have hD : va_D A [(h0, .inr (2, [.ref (ad 21), .ref (ad 22), .ref (ad 23), .ref (ad 24), .ref (ad 25)])), ((ad 23), .inl (cZ, 64, .inl (upd (eB old) (nI ((r * 4) + (ky / 272))).toNatClampNeg (vp_nar .boolean (bI true))))), ((ad 24), .inl (cI, 17408, .inl (eO (fs hd ((r * 1088) + ky) none)))), ((ad 25), .inl (cI, 64, .inl (eN (cn (fs hd (r * 1088 + ky) none)))))] := hD
      rw [show (upd (eB old) (nI ((r * 4) + (ky / 272))).toNatClampNeg (vp_nar .boolean (bI true))) = (eB (fs old ((r * 4) + (ky / 272)) true)) from stB (by omega)] at hP hD
      rw [show (fs old ((r * 4) + (ky / 272)) true) = (rol old r ky) from (by first | rfl | (simp [itr_s, rol, hv_15, n_81]; done) | (unfold rol; split <;> first | rfl | (exfalso; omega)))] at hP hD
      rw [show (fs hd ((r * 1088) + ky) none) = (fs hd (r * 1088 + ky) none) from (by first | rfl | (simp [itr_s, rol, hv_15, n_81]; done) | (unfold rol; split <;> first | rfl | (exfalso; omega)))] at hP hD
      exact k_vret E hK hP hD hS () [0, 1, 2, 3] (by decide) rfl trivial (Nat.le_of_ble_eq_true rfl) (Nat.le_of_ble_eq_true rfl) dX2_replace_96
  · refine lv_topi (fun y ey => ?_)
    obtain rfl : y = (nI v_15) := ey
    have hf1 := hhd _ _ hv_15
    have hf2 := cn_pos (by omega) hv_15
    have hf3 := cn_lt hd (v_15 % 64)
    refine lv_istore (lv' := [(5, .int (nI v_15)), (4, .int (nI ((r * 1088) + ky))), (0, .ref h0), (1, .int (nI r)), (2, .int (nI ky)), (3, .int (-1))]) hx hb dX2_replace_16 hl (by decide) rfl (fun ls hl => ?_)
    refine lv_iload hx hb dX2_replace_18 (lv_at hl 0 rfl) ?_
    refine lv_iconst (v := (-1)) hx hb dX2_replace_20 (by decide) ?_
    refine lv_icmp_eq (tgt := 38) hx hb dX2_replace_21 (by decide) (fun c => absurd c (nI_m1 (v := v_15) (by omega))) (fun _ => ?_)
    refine lv_aload_n hx hb dX2_replace_24 rfl (lv_at hl 2 rfl) ?_
    refine va_get (ci := 2) (v := .ref (ad 25)) (C := RX2) (T := TX2) (N := 5) hx hb hts m_replN_C2 hown hK hP 0 rfl rfl 4 (by decide) (hts (.fieldLink RX2 25 "RoutingDomain$Databases" "holdersOfSlot" "[I") (m_replN_O _ (by decide +kernel))) (fun _ h9 => h9) rfl dX2_replace_25 ?_
    refine lv_iload hx hb dX2_replace_28 (lv_at hl 0 rfl) ?_
    refine lv_bipush (v := 63) hx hb dX2_replace_30 (by decide) ?_
    refine lv_iand hx hb dX2_replace_32 ?_
    refine lv_topi (fun y ey => ?_)
    obtain rfl : y = (nI (v_15 % 64)) := ey.trans (k_andN v_15 6)
    refine lv_dup2_11 hx hb dX2_replace_33 rfl rfl ?_
    refine va_iald hx hb hK hP 3 0 rfl rfl (vp_in_nI (show (v_15 % 64) < 64 from by omega) (by decide)) dX2_replace_34 ?_
    refine lv_topi (fun y ey => ?_)
    obtain rfl : y = (nI ((cn hd) (v_15 % 64))) := ey.trans (ldN (f := (cn hd)) (j := (v_15 % 64)) (by omega))
    refine lv_iconst (v := 1) hx hb dX2_replace_35 (by decide) ?_
    refine lv_isub hx hb dX2_replace_36 ?_
    refine lv_topi (fun y ey => ?_)
    obtain rfl : y = (nI (((cn hd) (v_15 % 64)) - 1)) := ey.trans (pk_sub (show 1 ≤ ((cn hd) (v_15 % 64)) from by omega))
    refine va_iast hx hb hK hP hD hS 3 0 rfl rfl (vp_in_nI (show (v_15 % 64) < 64 from by omega) (by decide)) dX2_replace_37 (fun H locs hP hD hS => ?_)
    have hP : va_P D vwCl [(h0, .inr (2, [.ref (ad 21), .ref (ad 22), .ref (ad 23), .ref (ad 24), .ref (ad 25)])), ((ad 23), .inl (cZ, 64, .inl (eB old))), ((ad 24), .inl (cI, 17408, .inl (eO hd))), ((ad 25), .inl (cI, 64, .inl (upd (eN (cn hd)) (nI (v_15 % 64)).toNatClampNeg (nI (((cn hd) (v_15 % 64)) - 1)))))] H := hP
    have hD : va_D A [(h0, .inr (2, [.ref (ad 21), .ref (ad 22), .ref (ad 23), .ref (ad 24), .ref (ad 25)])), ((ad 23), .inl (cZ, 64, .inl (eB old))), ((ad 24), .inl (cI, 17408, .inl (eO hd))), ((ad 25), .inl (cI, 64, .inl (upd (eN (cn hd)) (nI (v_15 % 64)).toNatClampNeg (nI (((cn hd) (v_15 % 64)) - 1)))))] := hD
    rw [show (upd (eN (cn hd)) (nI (v_15 % 64)).toNatClampNeg (nI (((cn hd) (v_15 % 64)) - 1))) = (eN (fs (cn hd) (v_15 % 64) (((cn hd) (v_15 % 64)) - 1))) from stN (by omega)] at hP hD
    refine lv_iload_n hx hb dX2_replace_38 rfl (lv_at hl 5 rfl) ?_
    refine lv_iconst (v := (-1)) hx hb dX2_replace_39 (by decide) ?_
    refine lv_icmp_eq (tgt := 56) hx hb dX2_replace_40 (by decide) (fun _ => ?_) (fun c => absurd (by decide) c)
    refine lv_aload_n hx hb dX2_replace_56 rfl (lv_at hl 2 rfl) ?_
    refine va_get (ci := 2) (v := .ref (ad 24)) (C := RX2) (T := TX2) (N := 5) hx hb hts m_replN_C2 hown hK hP 0 rfl rfl 3 (by decide) (hts (.fieldLink RX2 22 "RoutingDomain$Databases" "held" "[I") (m_replN_O _ (by decide +kernel))) (fun _ h9 => h9) rfl dX2_replace_57 ?_
    refine lv_iload hx hb dX2_replace_60 (lv_at hl 1 rfl) ?_
    refine lv_iload_n hx hb dX2_replace_62 rfl (lv_at hl 5 rfl) ?_
    refine va_iast hx hb hK hP hD hS 2 0 rfl rfl (vp_in_nI (show ((r * 1088) + ky) < 17408 from by omega) (by decide)) dX2_replace_63 (fun H locs hP hD hS => ?_)
    have hP : va_P D vwCl [(h0, .inr (2, [.ref (ad 21), .ref (ad 22), .ref (ad 23), .ref (ad 24), .ref (ad 25)])), ((ad 23), .inl (cZ, 64, .inl (eB old))), ((ad 24), .inl (cI, 17408, .inl (upd (eO hd) (nI ((r * 1088) + ky)).toNatClampNeg (oI none)))), ((ad 25), .inl (cI, 64, .inl (eN (fs (cn hd) (v_15 % 64) (((cn hd) (v_15 % 64)) - 1)))))] H := hP
    have hD : va_D A [(h0, .inr (2, [.ref (ad 21), .ref (ad 22), .ref (ad 23), .ref (ad 24), .ref (ad 25)])), ((ad 23), .inl (cZ, 64, .inl (eB old))), ((ad 24), .inl (cI, 17408, .inl (upd (eO hd) (nI ((r * 1088) + ky)).toNatClampNeg (oI none)))), ((ad 25), .inl (cI, 64, .inl (eN (fs (cn hd) (v_15 % 64) (((cn hd) (v_15 % 64)) - 1)))))] := hD
    rw [show (upd (eO hd) (nI ((r * 1088) + ky)).toNatClampNeg (oI none)) = (eO (fs hd ((r * 1088) + ky) none)) from stO (by omega)] at hP hD
    rw [show (fs (cn hd) (v_15 % 64) (((cn hd) (v_15 % 64)) - 1)) = cn (fs hd (r * 1088 + ky) none) from ((cn_some (by omega) hv_15).trans fun_one).symm] at hP hD
    refine lv_iload_n hx hb dX2_replace_64 rfl (lv_at hl 4 rfl) ?_
    refine lv_sipush (v := 272) hx hb dX2_replace_65 (by decide) ?_
    refine lv_idiv hx hb dX2_replace_68 (by decide) ?_
    refine lv_topi (fun y ey => ?_)
    obtain rfl : y = (nI (ky / 272)) := ey.trans (pk_div (a := ky) (d := 272) (by omega) (by decide) (by decide))
    refine lv_istore (lv' := [(6, .int (nI (ky / 272))), (5, .int (nI v_15)), (4, .int (nI ((r * 1088) + ky))), (0, .ref h0), (1, .int (nI r)), (2, .int (nI ky)), (3, .int (-1))]) hx hb dX2_replace_69 hl (by decide) rfl (fun ls hl => ?_)
    refine lv_iload_n hx hb dX2_replace_71 rfl (lv_at hl 5 rfl) ?_
    refine lv_iload hx hb dX2_replace_72 (lv_at hl 0 rfl) ?_
    refine lv_sipush (v := 272) hx hb dX2_replace_74 (by decide) ?_
    refine lv_imul hx hb dX2_replace_77 ?_
    refine lv_topi (fun y ey => ?_)
    obtain rfl : y = (nI ((ky / 272) * 272)) := ey.trans (pk_mul (ky / 272) 272)
    refine lv_isub hx hb dX2_replace_78 ?_
    refine lv_topi (fun y ey => ?_)
    obtain rfl : y = (nI (ky - ((ky / 272) * 272))) := ey.trans (pk_sub (show ((ky / 272) * 272) ≤ ky from by omega))
    refine lv_bipush (v := 16) hx hb dX2_replace_79 (by decide) ?_
    refine lv_icmp_ge (tgt := 96) hx hb dX2_replace_81 (by decide) (fun c_81 => ?_) (fun c_81 => ?_)
    · have n_81 : 16 ≤ (ky - ((ky / 272) * 272)) := (nI_leI (a := 16) (b := (ky - ((ky / 272) * 272))) (by omega) (by omega)).mp c_81
      rw [show old = (rol old r ky) from (by first | rfl | (simp [itr_s, rol, hv_15, n_81]; done) | (unfold rol; split <;> first | rfl | (exfalso; omega)))] at hP hD
      rw [show (fs hd ((r * 1088) + ky) none) = (fs hd (r * 1088 + ky) none) from (by first | rfl | (simp [itr_s, rol, hv_15, n_81]; done) | (unfold rol; split <;> first | rfl | (exfalso; omega)))] at hP hD
      exact k_vret E hK hP hD hS () [0, 1, 2, 3] (by decide) rfl trivial (Nat.le_of_ble_eq_true rfl) (Nat.le_of_ble_eq_true rfl) dX2_replace_96
    · have n_81 : ¬ 16 ≤ (ky - ((ky / 272) * 272)) := fun h => c_81 ((nI_leI (a := 16) (b := (ky - ((ky / 272) * 272))) (by omega) (by omega)).mpr h)
      refine lv_aload_n hx hb dX2_replace_84 rfl (lv_at hl 3 rfl) ?_
      refine va_get (ci := 2) (v := .ref (ad 23)) (C := RX2) (T := TX2) (N := 5) hx hb hts m_replN_C2 hown hK hP 0 rfl rfl 2 (by decide) (hts (.fieldLink RX2 19 "RoutingDomain$Databases" "pathsAreOld" "[Z") (m_replN_O _ (by decide +kernel))) (fun _ h9 => h9) rfl dX2_replace_85 ?_
      refine lv_iload_n hx hb dX2_replace_88 rfl (lv_at hl 4 rfl) ?_
      refine lv_iconst (v := 4) hx hb dX2_replace_89 (by decide) ?_
      refine lv_imul hx hb dX2_replace_90 ?_
      refine lv_topi (fun y ey => ?_)
      obtain rfl : y = (nI (r * 4)) := ey.trans (pk_mul r 4)
      refine lv_iload hx hb dX2_replace_91 (lv_at hl 0 rfl) ?_
      refine lv_iadd hx hb dX2_replace_93 ?_
      refine lv_topi (fun y ey => ?_)
      obtain rfl : y = (nI ((r * 4) + (ky / 272))) := ey.trans (nI_add (r * 4) (ky / 272))
      refine lv_iconst (v := 1) hx hb dX2_replace_94 (by decide) ?_
      refine va_zast hx hb hK hP hD hS 1 1 rfl rfl (vp_in_nI (show ((r * 4) + (ky / 272)) < 64 from by omega) (by decide)) dX2_replace_95 (fun H locs hP hD hS => ?_)
      have hP : va_P D vwCl [(h0, .inr (2, [.ref (ad 21), .ref (ad 22), .ref (ad 23), .ref (ad 24), .ref (ad 25)])), ((ad 23), .inl (cZ, 64, .inl (upd (eB old) (nI ((r * 4) + (ky / 272))).toNatClampNeg (vp_nar .boolean (bI true))))), ((ad 24), .inl (cI, 17408, .inl (eO (fs hd ((r * 1088) + ky) none)))), ((ad 25), .inl (cI, 64, .inl (eN (cn (fs hd (r * 1088 + ky) none)))))] H := hP
      have hD : va_D A [(h0, .inr (2, [.ref (ad 21), .ref (ad 22), .ref (ad 23), .ref (ad 24), .ref (ad 25)])), ((ad 23), .inl (cZ, 64, .inl (upd (eB old) (nI ((r * 4) + (ky / 272))).toNatClampNeg (vp_nar .boolean (bI true))))), ((ad 24), .inl (cI, 17408, .inl (eO (fs hd ((r * 1088) + ky) none)))), ((ad 25), .inl (cI, 64, .inl (eN (cn (fs hd (r * 1088 + ky) none)))))] := hD
      rw [show (upd (eB old) (nI ((r * 4) + (ky / 272))).toNatClampNeg (vp_nar .boolean (bI true))) = (eB (fs old ((r * 4) + (ky / 272)) true)) from stB (by omega)] at hP hD
      rw [show (fs old ((r * 4) + (ky / 272)) true) = (rol old r ky) from (by first | rfl | (simp [itr_s, rol, hv_15, n_81]; done) | (unfold rol; split <;> first | rfl | (exfalso; omega)))] at hP hD
      rw [show (fs hd ((r * 1088) + ky) none) = (fs hd (r * 1088 + ky) none) from (by first | rfl | (simp [itr_s, rol, hv_15, n_81]; done) | (unfold rol; split <;> first | rfl | (exfalso; omega)))] at hP hD
      exact k_vret E hK hP hD hS () [0, 1, 2, 3] (by decide) rfl trivial (Nat.le_of_ble_eq_true rfl) (Nat.le_of_ble_eq_true rfl) dX2_replace_96

def O_replS : List Cond := [.fieldLink RX2 22 "RoutingDomain$Databases" "held" "[I", .fieldLink RX2 25 "RoutingDomain$Databases" "holdersOfSlot" "[I", .fieldLink RX2 19 "RoutingDomain$Databases" "pathsAreOld" "[Z"]
def W_replS : List Cond := .code yX2_replace cX2_replace 7 none :: (O_replS ++ wsX20)
theorem m_replS_O : ∀ w ∈ O_replS, w ∈ W_replS := fun _ h => List.mem_cons_of_mem _ (List.mem_append_left _ h)
theorem m_replS_C2 : ∀ w ∈ wsX20, w ∈ W_replS := fun _ h => List.mem_cons_of_mem _ (List.mem_append_right _ h)
theorem gdO_replS : O_replS.all goodWord = true := by decide +kernel
theorem gd_replS : W_replS.all goodWord = true := k_all_cons rfl (k_all_app gdO_replS gdC_2)
set_option maxHeartbeats 4000000 in
set_option maxRecDepth 100000 in
theorem c_replS (l : Launch) (D : va_G) (cI cZ cJ : ClassId) (h0 : Nat) (ad : Nat → Nat) (old : Nat → Bool) (hd : Nat → Option Nat) (r : Nat) (ky : Nat) (v : Nat) (hr : r < 16) (hky : ky < 1088) (hv : v < 69632) (hhd : ∀ j w, hd j = some w → w < 69632) : kMv l yX2_replace W_replS { frames := 0, cells := 0, slots := 0, locals := 0 } 0 0 D (kT cI cZ cJ) [.ref h0, .int (nI r), .int (nI ky), .int (nI v)] [(h0, .inr (2, [.ref (ad 21), .ref (ad 22), .ref (ad 23), .ref (ad 24), .ref (ad 25)])), ((ad 23), .inl (cZ, 64, .inl (eB old))), ((ad 24), .inl (cI, 17408, .inl (eO hd))), ((ad 25), .inl (cI, 64, .inl (eN (cn hd))))] (S := Unit) (fun _ => True) (fun _ => [(h0, .inr (2, [.ref (ad 21), .ref (ad 22), .ref (ad 23), .ref (ad 24), .ref (ad 25)])), ((ad 23), .inl (cZ, 64, .inl (eB (rol old r ky)))), ((ad 24), .inl (cI, 17408, .inl (eO (fs hd (r * 1088 + ky) (some v))))), ((ad 25), .inl (cI, 64, .inl (eN (cn (fs hd (r * 1088 + ky) (some v))))))]) := by
  refine kMv_of (lv := [(0, .ref h0), (1, .int (nI r)), (2, .int (nI ky)), (3, .int (nI v))]) RX2 "replace" (by decide +kernel) rfl rfl rfl (Nat.le_of_ble_eq_true rfl) rfl ?_
  intro p e s m below meth c A H locs ls E hA hK hP hD hS hl
  obtain ⟨hx, hb, hr_, hts, hown, hlocks, hml, hin, hN⟩ := id E
  refine lv_iload_n hx hb dX2_replace_0 rfl (lv_at hl 1 rfl) ?_
  refine lv_sipush (v := 1088) hx hb dX2_replace_1 (by decide) ?_
  refine lv_imul hx hb dX2_replace_4 ?_
  refine lv_topi (fun y ey => ?_)
  obtain rfl : y = (nI (r * 1088)) := ey.trans (pk_mul r 1088)
  refine lv_iload_n hx hb dX2_replace_5 rfl (lv_at hl 2 rfl) ?_
  refine lv_iadd hx hb dX2_replace_6 ?_
  refine lv_topi (fun y ey => ?_)
  obtain rfl : y = (nI ((r * 1088) + ky)) := ey.trans (nI_add (r * 1088) ky)
  refine lv_istore (lv' := [(4, .int (nI ((r * 1088) + ky))), (0, .ref h0), (1, .int (nI r)), (2, .int (nI ky)), (3, .int (nI v))]) hx hb dX2_replace_7 hl (by decide) rfl (fun ls hl => ?_)
  refine lv_aload_n hx hb dX2_replace_9 rfl (lv_at hl 1 rfl) ?_
  refine va_get (ci := 2) (v := .ref (ad 24)) (C := RX2) (T := TX2) (N := 5) hx hb hts m_replS_C2 hown hK hP 0 rfl rfl 3 (by decide) (hts (.fieldLink RX2 22 "RoutingDomain$Databases" "held" "[I") (m_replS_O _ (by decide +kernel))) (fun _ h9 => h9) rfl dX2_replace_10 ?_
  refine lv_iload hx hb dX2_replace_13 (lv_at hl 0 rfl) ?_
  refine va_iald hx hb hK hP 2 0 rfl rfl (vp_in_nI (show ((r * 1088) + ky) < 17408 from by omega) (by decide)) dX2_replace_15 ?_
  refine lv_topi (fun y ey => ?_)
  obtain rfl : y = (oI (hd ((r * 1088) + ky))) := ey.trans (ldO (f := hd) (j := ((r * 1088) + ky)) (by omega))
  rcases hv_15 : (hd ((r * 1088) + ky)) with _ | v_15
  · refine lv_topi (fun y ey => ?_)
    obtain rfl : y = (-1) := ey
    refine lv_istore (lv' := [(5, .int (-1)), (4, .int (nI ((r * 1088) + ky))), (0, .ref h0), (1, .int (nI r)), (2, .int (nI ky)), (3, .int (nI v))]) hx hb dX2_replace_16 hl (by decide) rfl (fun ls hl => ?_)
    refine lv_iload hx hb dX2_replace_18 (lv_at hl 0 rfl) ?_
    refine lv_iconst (v := (-1)) hx hb dX2_replace_20 (by decide) ?_
    refine lv_icmp_eq (tgt := 38) hx hb dX2_replace_21 (by decide) (fun _ => ?_) (fun c => absurd (by decide) c)
    refine lv_iload_n hx hb dX2_replace_38 rfl (lv_at hl 5 rfl) ?_
    refine lv_iconst (v := (-1)) hx hb dX2_replace_39 (by decide) ?_
    refine lv_icmp_eq (tgt := 56) hx hb dX2_replace_40 (by decide) (fun c => absurd c (nI_m1 (v := v) (by omega))) (fun _ => ?_)
    refine lv_aload_n hx hb dX2_replace_43 rfl (lv_at hl 2 rfl) ?_
    refine va_get (ci := 2) (v := .ref (ad 25)) (C := RX2) (T := TX2) (N := 5) hx hb hts m_replS_C2 hown hK hP 0 rfl rfl 4 (by decide) (hts (.fieldLink RX2 25 "RoutingDomain$Databases" "holdersOfSlot" "[I") (m_replS_O _ (by decide +kernel))) (fun _ h9 => h9) rfl dX2_replace_44 ?_
    refine lv_iload_n hx hb dX2_replace_47 rfl (lv_at hl 5 rfl) ?_
    refine lv_bipush (v := 63) hx hb dX2_replace_48 (by decide) ?_
    refine lv_iand hx hb dX2_replace_50 ?_
    refine lv_topi (fun y ey => ?_)
    obtain rfl : y = (nI (v % 64)) := ey.trans (k_andN v 6)
    refine lv_dup2_11 hx hb dX2_replace_51 rfl rfl ?_
    refine va_iald hx hb hK hP 3 0 rfl rfl (vp_in_nI (show (v % 64) < 64 from by omega) (by decide)) dX2_replace_52 ?_
    refine lv_topi (fun y ey => ?_)
    obtain rfl : y = (nI ((cn hd) (v % 64))) := ey.trans (ldN (f := (cn hd)) (j := (v % 64)) (by omega))
    refine lv_iconst (v := 1) hx hb dX2_replace_53 (by decide) ?_
    refine lv_iadd hx hb dX2_replace_54 ?_
    refine lv_topi (fun y ey => ?_)
    obtain rfl : y = (nI (((cn hd) (v % 64)) + 1)) := ey.trans (nI_add ((cn hd) (v % 64)) 1)
    refine va_iast hx hb hK hP hD hS 3 0 rfl rfl (vp_in_nI (show (v % 64) < 64 from by omega) (by decide)) dX2_replace_55 (fun H locs hP hD hS => ?_)
    have hP : va_P D vwCl [(h0, .inr (2, [.ref (ad 21), .ref (ad 22), .ref (ad 23), .ref (ad 24), .ref (ad 25)])), ((ad 23), .inl (cZ, 64, .inl (eB old))), ((ad 24), .inl (cI, 17408, .inl (eO hd))), ((ad 25), .inl (cI, 64, .inl (upd (eN (cn hd)) (nI (v % 64)).toNatClampNeg (nI (((cn hd) (v % 64)) + 1)))))] H := hP
    have hD : va_D A [(h0, .inr (2, [.ref (ad 21), .ref (ad 22), .ref (ad 23), .ref (ad 24), .ref (ad 25)])), ((ad 23), .inl (cZ, 64, .inl (eB old))), ((ad 24), .inl (cI, 17408, .inl (eO hd))), ((ad 25), .inl (cI, 64, .inl (upd (eN (cn hd)) (nI (v % 64)).toNatClampNeg (nI (((cn hd) (v % 64)) + 1)))))] := hD
    rw [show (upd (eN (cn hd)) (nI (v % 64)).toNatClampNeg (nI (((cn hd) (v % 64)) + 1))) = (eN (fs (cn hd) (v % 64) (((cn hd) (v % 64)) + 1))) from stN (by omega)] at hP hD
    refine lv_aload_n hx hb dX2_replace_56 rfl (lv_at hl 2 rfl) ?_
    refine va_get (ci := 2) (v := .ref (ad 24)) (C := RX2) (T := TX2) (N := 5) hx hb hts m_replS_C2 hown hK hP 0 rfl rfl 3 (by decide) (hts (.fieldLink RX2 22 "RoutingDomain$Databases" "held" "[I") (m_replS_O _ (by decide +kernel))) (fun _ h9 => h9) rfl dX2_replace_57 ?_
    refine lv_iload hx hb dX2_replace_60 (lv_at hl 1 rfl) ?_
    refine lv_iload_n hx hb dX2_replace_62 rfl (lv_at hl 5 rfl) ?_
    refine va_iast hx hb hK hP hD hS 2 0 rfl rfl (vp_in_nI (show ((r * 1088) + ky) < 17408 from by omega) (by decide)) dX2_replace_63 (fun H locs hP hD hS => ?_)
    have hP : va_P D vwCl [(h0, .inr (2, [.ref (ad 21), .ref (ad 22), .ref (ad 23), .ref (ad 24), .ref (ad 25)])), ((ad 23), .inl (cZ, 64, .inl (eB old))), ((ad 24), .inl (cI, 17408, .inl (upd (eO hd) (nI ((r * 1088) + ky)).toNatClampNeg (oI (some v))))), ((ad 25), .inl (cI, 64, .inl (eN (fs (cn hd) (v % 64) (((cn hd) (v % 64)) + 1)))))] H := hP
    have hD : va_D A [(h0, .inr (2, [.ref (ad 21), .ref (ad 22), .ref (ad 23), .ref (ad 24), .ref (ad 25)])), ((ad 23), .inl (cZ, 64, .inl (eB old))), ((ad 24), .inl (cI, 17408, .inl (upd (eO hd) (nI ((r * 1088) + ky)).toNatClampNeg (oI (some v))))), ((ad 25), .inl (cI, 64, .inl (eN (fs (cn hd) (v % 64) (((cn hd) (v % 64)) + 1)))))] := hD
    rw [show (upd (eO hd) (nI ((r * 1088) + ky)).toNatClampNeg (oI (some v))) = (eO (fs hd ((r * 1088) + ky) (some v))) from stO (by omega)] at hP hD
    rw [show (fs (cn hd) (v % 64) (((cn hd) (v % 64)) + 1)) = cn (fs hd (r * 1088 + ky) (some v)) from ((cn_none (by omega) hv_15).trans fs_one).symm] at hP hD
    refine lv_iload_n hx hb dX2_replace_64 rfl (lv_at hl 4 rfl) ?_
    refine lv_sipush (v := 272) hx hb dX2_replace_65 (by decide) ?_
    refine lv_idiv hx hb dX2_replace_68 (by decide) ?_
    refine lv_topi (fun y ey => ?_)
    obtain rfl : y = (nI (ky / 272)) := ey.trans (pk_div (a := ky) (d := 272) (by omega) (by decide) (by decide))
    refine lv_istore (lv' := [(6, .int (nI (ky / 272))), (5, .int (-1)), (4, .int (nI ((r * 1088) + ky))), (0, .ref h0), (1, .int (nI r)), (2, .int (nI ky)), (3, .int (nI v))]) hx hb dX2_replace_69 hl (by decide) rfl (fun ls hl => ?_)
    refine lv_iload_n hx hb dX2_replace_71 rfl (lv_at hl 5 rfl) ?_
    refine lv_iload hx hb dX2_replace_72 (lv_at hl 0 rfl) ?_
    refine lv_sipush (v := 272) hx hb dX2_replace_74 (by decide) ?_
    refine lv_imul hx hb dX2_replace_77 ?_
    refine lv_topi (fun y ey => ?_)
    obtain rfl : y = (nI ((ky / 272) * 272)) := ey.trans (pk_mul (ky / 272) 272)
    refine lv_isub hx hb dX2_replace_78 ?_
    refine lv_topi (fun y ey => ?_)
    obtain rfl : y = (nI (ky - ((ky / 272) * 272))) := ey.trans (pk_sub (show ((ky / 272) * 272) ≤ ky from by omega))
    refine lv_bipush (v := 16) hx hb dX2_replace_79 (by decide) ?_
    refine lv_icmp_ge (tgt := 96) hx hb dX2_replace_81 (by decide) (fun c_81 => ?_) (fun c_81 => ?_)
    · have n_81 : 16 ≤ (ky - ((ky / 272) * 272)) := (nI_leI (a := 16) (b := (ky - ((ky / 272) * 272))) (by omega) (by omega)).mp c_81
      rw [show old = (rol old r ky) from (by first | rfl | (simp [itr_s, rol, hv_15, n_81]; done) | (unfold rol; split <;> first | rfl | (exfalso; omega)))] at hP hD
      rw [show (fs hd ((r * 1088) + ky) (some v)) = (fs hd (r * 1088 + ky) (some v)) from (by first | rfl | (simp [itr_s, rol, hv_15, n_81]; done) | (unfold rol; split <;> first | rfl | (exfalso; omega)))] at hP hD
      exact k_vret E hK hP hD hS () [0, 1, 2, 3] (by decide) rfl trivial (Nat.le_of_ble_eq_true rfl) (Nat.le_of_ble_eq_true rfl) dX2_replace_96
    · have n_81 : ¬ 16 ≤ (ky - ((ky / 272) * 272)) := fun h => c_81 ((nI_leI (a := 16) (b := (ky - ((ky / 272) * 272))) (by omega) (by omega)).mpr h)
      refine lv_aload_n hx hb dX2_replace_84 rfl (lv_at hl 3 rfl) ?_
      refine va_get (ci := 2) (v := .ref (ad 23)) (C := RX2) (T := TX2) (N := 5) hx hb hts m_replS_C2 hown hK hP 0 rfl rfl 2 (by decide) (hts (.fieldLink RX2 19 "RoutingDomain$Databases" "pathsAreOld" "[Z") (m_replS_O _ (by decide +kernel))) (fun _ h9 => h9) rfl dX2_replace_85 ?_
      refine lv_iload_n hx hb dX2_replace_88 rfl (lv_at hl 4 rfl) ?_
      refine lv_iconst (v := 4) hx hb dX2_replace_89 (by decide) ?_
      refine lv_imul hx hb dX2_replace_90 ?_
      refine lv_topi (fun y ey => ?_)
      obtain rfl : y = (nI (r * 4)) := ey.trans (pk_mul r 4)
      refine lv_iload hx hb dX2_replace_91 (lv_at hl 0 rfl) ?_
      refine lv_iadd hx hb dX2_replace_93 ?_
      refine lv_topi (fun y ey => ?_)
      obtain rfl : y = (nI ((r * 4) + (ky / 272))) := ey.trans (nI_add (r * 4) (ky / 272))
      refine lv_iconst (v := 1) hx hb dX2_replace_94 (by decide) ?_
      refine va_zast hx hb hK hP hD hS 1 1 rfl rfl (vp_in_nI (show ((r * 4) + (ky / 272)) < 64 from by omega) (by decide)) dX2_replace_95 (fun H locs hP hD hS => ?_)
      have hP : va_P D vwCl [(h0, .inr (2, [.ref (ad 21), .ref (ad 22), .ref (ad 23), .ref (ad 24), .ref (ad 25)])), ((ad 23), .inl (cZ, 64, .inl (upd (eB old) (nI ((r * 4) + (ky / 272))).toNatClampNeg (vp_nar .boolean (bI true))))), ((ad 24), .inl (cI, 17408, .inl (eO (fs hd ((r * 1088) + ky) (some v))))), ((ad 25), .inl (cI, 64, .inl (eN (cn (fs hd (r * 1088 + ky) (some v))))))] H := hP
      have hD : va_D A [(h0, .inr (2, [.ref (ad 21), .ref (ad 22), .ref (ad 23), .ref (ad 24), .ref (ad 25)])), ((ad 23), .inl (cZ, 64, .inl (upd (eB old) (nI ((r * 4) + (ky / 272))).toNatClampNeg (vp_nar .boolean (bI true))))), ((ad 24), .inl (cI, 17408, .inl (eO (fs hd ((r * 1088) + ky) (some v))))), ((ad 25), .inl (cI, 64, .inl (eN (cn (fs hd (r * 1088 + ky) (some v))))))] := hD
      rw [show (upd (eB old) (nI ((r * 4) + (ky / 272))).toNatClampNeg (vp_nar .boolean (bI true))) = (eB (fs old ((r * 4) + (ky / 272)) true)) from stB (by omega)] at hP hD
      rw [show (fs old ((r * 4) + (ky / 272)) true) = (rol old r ky) from (by first | rfl | (simp [itr_s, rol, hv_15, n_81]; done) | (unfold rol; split <;> first | rfl | (exfalso; omega)))] at hP hD
      rw [show (fs hd ((r * 1088) + ky) (some v)) = (fs hd (r * 1088 + ky) (some v)) from (by first | rfl | (simp [itr_s, rol, hv_15, n_81]; done) | (unfold rol; split <;> first | rfl | (exfalso; omega)))] at hP hD
      exact k_vret E hK hP hD hS () [0, 1, 2, 3] (by decide) rfl trivial (Nat.le_of_ble_eq_true rfl) (Nat.le_of_ble_eq_true rfl) dX2_replace_96
  · refine lv_topi (fun y ey => ?_)
    obtain rfl : y = (nI v_15) := ey
    have hf1 := hhd _ _ hv_15
    have hf2 := cn_pos (by omega) hv_15
    have hf3 := cn_lt hd (v_15 % 64)
    refine lv_istore (lv' := [(5, .int (nI v_15)), (4, .int (nI ((r * 1088) + ky))), (0, .ref h0), (1, .int (nI r)), (2, .int (nI ky)), (3, .int (nI v))]) hx hb dX2_replace_16 hl (by decide) rfl (fun ls hl => ?_)
    refine lv_iload hx hb dX2_replace_18 (lv_at hl 0 rfl) ?_
    refine lv_iconst (v := (-1)) hx hb dX2_replace_20 (by decide) ?_
    refine lv_icmp_eq (tgt := 38) hx hb dX2_replace_21 (by decide) (fun c => absurd c (nI_m1 (v := v_15) (by omega))) (fun _ => ?_)
    refine lv_aload_n hx hb dX2_replace_24 rfl (lv_at hl 2 rfl) ?_
    refine va_get (ci := 2) (v := .ref (ad 25)) (C := RX2) (T := TX2) (N := 5) hx hb hts m_replS_C2 hown hK hP 0 rfl rfl 4 (by decide) (hts (.fieldLink RX2 25 "RoutingDomain$Databases" "holdersOfSlot" "[I") (m_replS_O _ (by decide +kernel))) (fun _ h9 => h9) rfl dX2_replace_25 ?_
    refine lv_iload hx hb dX2_replace_28 (lv_at hl 0 rfl) ?_
    refine lv_bipush (v := 63) hx hb dX2_replace_30 (by decide) ?_
    refine lv_iand hx hb dX2_replace_32 ?_
    refine lv_topi (fun y ey => ?_)
    obtain rfl : y = (nI (v_15 % 64)) := ey.trans (k_andN v_15 6)
    refine lv_dup2_11 hx hb dX2_replace_33 rfl rfl ?_
    refine va_iald hx hb hK hP 3 0 rfl rfl (vp_in_nI (show (v_15 % 64) < 64 from by omega) (by decide)) dX2_replace_34 ?_
    refine lv_topi (fun y ey => ?_)
    obtain rfl : y = (nI ((cn hd) (v_15 % 64))) := ey.trans (ldN (f := (cn hd)) (j := (v_15 % 64)) (by omega))
    refine lv_iconst (v := 1) hx hb dX2_replace_35 (by decide) ?_
    refine lv_isub hx hb dX2_replace_36 ?_
    refine lv_topi (fun y ey => ?_)
    obtain rfl : y = (nI (((cn hd) (v_15 % 64)) - 1)) := ey.trans (pk_sub (show 1 ≤ ((cn hd) (v_15 % 64)) from by omega))
    refine va_iast hx hb hK hP hD hS 3 0 rfl rfl (vp_in_nI (show (v_15 % 64) < 64 from by omega) (by decide)) dX2_replace_37 (fun H locs hP hD hS => ?_)
    have hP : va_P D vwCl [(h0, .inr (2, [.ref (ad 21), .ref (ad 22), .ref (ad 23), .ref (ad 24), .ref (ad 25)])), ((ad 23), .inl (cZ, 64, .inl (eB old))), ((ad 24), .inl (cI, 17408, .inl (eO hd))), ((ad 25), .inl (cI, 64, .inl (upd (eN (cn hd)) (nI (v_15 % 64)).toNatClampNeg (nI (((cn hd) (v_15 % 64)) - 1)))))] H := hP
    have hD : va_D A [(h0, .inr (2, [.ref (ad 21), .ref (ad 22), .ref (ad 23), .ref (ad 24), .ref (ad 25)])), ((ad 23), .inl (cZ, 64, .inl (eB old))), ((ad 24), .inl (cI, 17408, .inl (eO hd))), ((ad 25), .inl (cI, 64, .inl (upd (eN (cn hd)) (nI (v_15 % 64)).toNatClampNeg (nI (((cn hd) (v_15 % 64)) - 1)))))] := hD
    rw [show (upd (eN (cn hd)) (nI (v_15 % 64)).toNatClampNeg (nI (((cn hd) (v_15 % 64)) - 1))) = (eN (fs (cn hd) (v_15 % 64) (((cn hd) (v_15 % 64)) - 1))) from stN (by omega)] at hP hD
    refine lv_iload_n hx hb dX2_replace_38 rfl (lv_at hl 5 rfl) ?_
    refine lv_iconst (v := (-1)) hx hb dX2_replace_39 (by decide) ?_
    refine lv_icmp_eq (tgt := 56) hx hb dX2_replace_40 (by decide) (fun c => absurd c (nI_m1 (v := v) (by omega))) (fun _ => ?_)
    refine lv_aload_n hx hb dX2_replace_43 rfl (lv_at hl 2 rfl) ?_
    refine va_get (ci := 2) (v := .ref (ad 25)) (C := RX2) (T := TX2) (N := 5) hx hb hts m_replS_C2 hown hK hP 0 rfl rfl 4 (by decide) (hts (.fieldLink RX2 25 "RoutingDomain$Databases" "holdersOfSlot" "[I") (m_replS_O _ (by decide +kernel))) (fun _ h9 => h9) rfl dX2_replace_44 ?_
    refine lv_iload_n hx hb dX2_replace_47 rfl (lv_at hl 5 rfl) ?_
    refine lv_bipush (v := 63) hx hb dX2_replace_48 (by decide) ?_
    refine lv_iand hx hb dX2_replace_50 ?_
    refine lv_topi (fun y ey => ?_)
    obtain rfl : y = (nI (v % 64)) := ey.trans (k_andN v 6)
    refine lv_dup2_11 hx hb dX2_replace_51 rfl rfl ?_
    refine va_iald hx hb hK hP 3 0 rfl rfl (vp_in_nI (show (v % 64) < 64 from by omega) (by decide)) dX2_replace_52 ?_
    refine lv_topi (fun y ey => ?_)
    obtain rfl : y = (nI ((fs (cn hd) (v_15 % 64) (((cn hd) (v_15 % 64)) - 1)) (v % 64))) := ey.trans (ldN (f := (fs (cn hd) (v_15 % 64) (((cn hd) (v_15 % 64)) - 1))) (j := (v % 64)) (by omega))
    refine lv_iconst (v := 1) hx hb dX2_replace_53 (by decide) ?_
    refine lv_iadd hx hb dX2_replace_54 ?_
    refine lv_topi (fun y ey => ?_)
    obtain rfl : y = (nI (((fs (cn hd) (v_15 % 64) (((cn hd) (v_15 % 64)) - 1)) (v % 64)) + 1)) := ey.trans (nI_add ((fs (cn hd) (v_15 % 64) (((cn hd) (v_15 % 64)) - 1)) (v % 64)) 1)
    refine va_iast hx hb hK hP hD hS 3 0 rfl rfl (vp_in_nI (show (v % 64) < 64 from by omega) (by decide)) dX2_replace_55 (fun H locs hP hD hS => ?_)
    have hP : va_P D vwCl [(h0, .inr (2, [.ref (ad 21), .ref (ad 22), .ref (ad 23), .ref (ad 24), .ref (ad 25)])), ((ad 23), .inl (cZ, 64, .inl (eB old))), ((ad 24), .inl (cI, 17408, .inl (eO hd))), ((ad 25), .inl (cI, 64, .inl (upd (eN (fs (cn hd) (v_15 % 64) (((cn hd) (v_15 % 64)) - 1))) (nI (v % 64)).toNatClampNeg (nI (((fs (cn hd) (v_15 % 64) (((cn hd) (v_15 % 64)) - 1)) (v % 64)) + 1)))))] H := hP
    have hD : va_D A [(h0, .inr (2, [.ref (ad 21), .ref (ad 22), .ref (ad 23), .ref (ad 24), .ref (ad 25)])), ((ad 23), .inl (cZ, 64, .inl (eB old))), ((ad 24), .inl (cI, 17408, .inl (eO hd))), ((ad 25), .inl (cI, 64, .inl (upd (eN (fs (cn hd) (v_15 % 64) (((cn hd) (v_15 % 64)) - 1))) (nI (v % 64)).toNatClampNeg (nI (((fs (cn hd) (v_15 % 64) (((cn hd) (v_15 % 64)) - 1)) (v % 64)) + 1)))))] := hD
    rw [show (upd (eN (fs (cn hd) (v_15 % 64) (((cn hd) (v_15 % 64)) - 1))) (nI (v % 64)).toNatClampNeg (nI (((fs (cn hd) (v_15 % 64) (((cn hd) (v_15 % 64)) - 1)) (v % 64)) + 1))) = (eN (fs (fs (cn hd) (v_15 % 64) (((cn hd) (v_15 % 64)) - 1)) (v % 64) (((fs (cn hd) (v_15 % 64) (((cn hd) (v_15 % 64)) - 1)) (v % 64)) + 1))) from stN (by omega)] at hP hD
    refine lv_aload_n hx hb dX2_replace_56 rfl (lv_at hl 2 rfl) ?_
    refine va_get (ci := 2) (v := .ref (ad 24)) (C := RX2) (T := TX2) (N := 5) hx hb hts m_replS_C2 hown hK hP 0 rfl rfl 3 (by decide) (hts (.fieldLink RX2 22 "RoutingDomain$Databases" "held" "[I") (m_replS_O _ (by decide +kernel))) (fun _ h9 => h9) rfl dX2_replace_57 ?_
    refine lv_iload hx hb dX2_replace_60 (lv_at hl 1 rfl) ?_
    refine lv_iload_n hx hb dX2_replace_62 rfl (lv_at hl 5 rfl) ?_
    refine va_iast hx hb hK hP hD hS 2 0 rfl rfl (vp_in_nI (show ((r * 1088) + ky) < 17408 from by omega) (by decide)) dX2_replace_63 (fun H locs hP hD hS => ?_)
    have hP : va_P D vwCl [(h0, .inr (2, [.ref (ad 21), .ref (ad 22), .ref (ad 23), .ref (ad 24), .ref (ad 25)])), ((ad 23), .inl (cZ, 64, .inl (eB old))), ((ad 24), .inl (cI, 17408, .inl (upd (eO hd) (nI ((r * 1088) + ky)).toNatClampNeg (oI (some v))))), ((ad 25), .inl (cI, 64, .inl (eN (fs (fs (cn hd) (v_15 % 64) (((cn hd) (v_15 % 64)) - 1)) (v % 64) (((fs (cn hd) (v_15 % 64) (((cn hd) (v_15 % 64)) - 1)) (v % 64)) + 1)))))] H := hP
    have hD : va_D A [(h0, .inr (2, [.ref (ad 21), .ref (ad 22), .ref (ad 23), .ref (ad 24), .ref (ad 25)])), ((ad 23), .inl (cZ, 64, .inl (eB old))), ((ad 24), .inl (cI, 17408, .inl (upd (eO hd) (nI ((r * 1088) + ky)).toNatClampNeg (oI (some v))))), ((ad 25), .inl (cI, 64, .inl (eN (fs (fs (cn hd) (v_15 % 64) (((cn hd) (v_15 % 64)) - 1)) (v % 64) (((fs (cn hd) (v_15 % 64) (((cn hd) (v_15 % 64)) - 1)) (v % 64)) + 1)))))] := hD
    rw [show (upd (eO hd) (nI ((r * 1088) + ky)).toNatClampNeg (oI (some v))) = (eO (fs hd ((r * 1088) + ky) (some v))) from stO (by omega)] at hP hD
    rw [show (fs (fs (cn hd) (v_15 % 64) (((cn hd) (v_15 % 64)) - 1)) (v % 64) (((fs (cn hd) (v_15 % 64) (((cn hd) (v_15 % 64)) - 1)) (v % 64)) + 1)) = cn (fs hd (r * 1088 + ky) (some v)) from ((cn_some (by omega) hv_15).trans fs_one).symm] at hP hD
    refine lv_iload_n hx hb dX2_replace_64 rfl (lv_at hl 4 rfl) ?_
    refine lv_sipush (v := 272) hx hb dX2_replace_65 (by decide) ?_
    refine lv_idiv hx hb dX2_replace_68 (by decide) ?_
    refine lv_topi (fun y ey => ?_)
    obtain rfl : y = (nI (ky / 272)) := ey.trans (pk_div (a := ky) (d := 272) (by omega) (by decide) (by decide))
    refine lv_istore (lv' := [(6, .int (nI (ky / 272))), (5, .int (nI v_15)), (4, .int (nI ((r * 1088) + ky))), (0, .ref h0), (1, .int (nI r)), (2, .int (nI ky)), (3, .int (nI v))]) hx hb dX2_replace_69 hl (by decide) rfl (fun ls hl => ?_)
    refine lv_iload_n hx hb dX2_replace_71 rfl (lv_at hl 5 rfl) ?_
    refine lv_iload hx hb dX2_replace_72 (lv_at hl 0 rfl) ?_
    refine lv_sipush (v := 272) hx hb dX2_replace_74 (by decide) ?_
    refine lv_imul hx hb dX2_replace_77 ?_
    refine lv_topi (fun y ey => ?_)
    obtain rfl : y = (nI ((ky / 272) * 272)) := ey.trans (pk_mul (ky / 272) 272)
    refine lv_isub hx hb dX2_replace_78 ?_
    refine lv_topi (fun y ey => ?_)
    obtain rfl : y = (nI (ky - ((ky / 272) * 272))) := ey.trans (pk_sub (show ((ky / 272) * 272) ≤ ky from by omega))
    refine lv_bipush (v := 16) hx hb dX2_replace_79 (by decide) ?_
    refine lv_icmp_ge (tgt := 96) hx hb dX2_replace_81 (by decide) (fun c_81 => ?_) (fun c_81 => ?_)
    · have n_81 : 16 ≤ (ky - ((ky / 272) * 272)) := (nI_leI (a := 16) (b := (ky - ((ky / 272) * 272))) (by omega) (by omega)).mp c_81
      rw [show old = (rol old r ky) from (by first | rfl | (simp [itr_s, rol, hv_15, n_81]; done) | (unfold rol; split <;> first | rfl | (exfalso; omega)))] at hP hD
      rw [show (fs hd ((r * 1088) + ky) (some v)) = (fs hd (r * 1088 + ky) (some v)) from (by first | rfl | (simp [itr_s, rol, hv_15, n_81]; done) | (unfold rol; split <;> first | rfl | (exfalso; omega)))] at hP hD
      exact k_vret E hK hP hD hS () [0, 1, 2, 3] (by decide) rfl trivial (Nat.le_of_ble_eq_true rfl) (Nat.le_of_ble_eq_true rfl) dX2_replace_96
    · have n_81 : ¬ 16 ≤ (ky - ((ky / 272) * 272)) := fun h => c_81 ((nI_leI (a := 16) (b := (ky - ((ky / 272) * 272))) (by omega) (by omega)).mpr h)
      refine lv_aload_n hx hb dX2_replace_84 rfl (lv_at hl 3 rfl) ?_
      refine va_get (ci := 2) (v := .ref (ad 23)) (C := RX2) (T := TX2) (N := 5) hx hb hts m_replS_C2 hown hK hP 0 rfl rfl 2 (by decide) (hts (.fieldLink RX2 19 "RoutingDomain$Databases" "pathsAreOld" "[Z") (m_replS_O _ (by decide +kernel))) (fun _ h9 => h9) rfl dX2_replace_85 ?_
      refine lv_iload_n hx hb dX2_replace_88 rfl (lv_at hl 4 rfl) ?_
      refine lv_iconst (v := 4) hx hb dX2_replace_89 (by decide) ?_
      refine lv_imul hx hb dX2_replace_90 ?_
      refine lv_topi (fun y ey => ?_)
      obtain rfl : y = (nI (r * 4)) := ey.trans (pk_mul r 4)
      refine lv_iload hx hb dX2_replace_91 (lv_at hl 0 rfl) ?_
      refine lv_iadd hx hb dX2_replace_93 ?_
      refine lv_topi (fun y ey => ?_)
      obtain rfl : y = (nI ((r * 4) + (ky / 272))) := ey.trans (nI_add (r * 4) (ky / 272))
      refine lv_iconst (v := 1) hx hb dX2_replace_94 (by decide) ?_
      refine va_zast hx hb hK hP hD hS 1 1 rfl rfl (vp_in_nI (show ((r * 4) + (ky / 272)) < 64 from by omega) (by decide)) dX2_replace_95 (fun H locs hP hD hS => ?_)
      have hP : va_P D vwCl [(h0, .inr (2, [.ref (ad 21), .ref (ad 22), .ref (ad 23), .ref (ad 24), .ref (ad 25)])), ((ad 23), .inl (cZ, 64, .inl (upd (eB old) (nI ((r * 4) + (ky / 272))).toNatClampNeg (vp_nar .boolean (bI true))))), ((ad 24), .inl (cI, 17408, .inl (eO (fs hd ((r * 1088) + ky) (some v))))), ((ad 25), .inl (cI, 64, .inl (eN (cn (fs hd (r * 1088 + ky) (some v))))))] H := hP
      have hD : va_D A [(h0, .inr (2, [.ref (ad 21), .ref (ad 22), .ref (ad 23), .ref (ad 24), .ref (ad 25)])), ((ad 23), .inl (cZ, 64, .inl (upd (eB old) (nI ((r * 4) + (ky / 272))).toNatClampNeg (vp_nar .boolean (bI true))))), ((ad 24), .inl (cI, 17408, .inl (eO (fs hd ((r * 1088) + ky) (some v))))), ((ad 25), .inl (cI, 64, .inl (eN (cn (fs hd (r * 1088 + ky) (some v))))))] := hD
      rw [show (upd (eB old) (nI ((r * 4) + (ky / 272))).toNatClampNeg (vp_nar .boolean (bI true))) = (eB (fs old ((r * 4) + (ky / 272)) true)) from stB (by omega)] at hP hD
      rw [show (fs old ((r * 4) + (ky / 272)) true) = (rol old r ky) from (by first | rfl | (simp [itr_s, rol, hv_15, n_81]; done) | (unfold rol; split <;> first | rfl | (exfalso; omega)))] at hP hD
      rw [show (fs hd ((r * 1088) + ky) (some v)) = (fs hd (r * 1088 + ky) (some v)) from (by first | rfl | (simp [itr_s, rol, hv_15, n_81]; done) | (unfold rol; split <;> first | rfl | (exfalso; omega)))] at hP hD
      exact k_vret E hK hP hD hS () [0, 1, 2, 3] (by decide) rfl trivial (Nat.le_of_ble_eq_true rfl) (Nat.le_of_ble_eq_true rfl) dX2_replace_96

def szB (hd : Nat → Option Nat) (r b : Nat) (i : Nat) (z : Nat) : Nat := match hd (r * 1088 + (b + i)) with | none => z | some _ => z + 1
theorem szB_le (hd : Nat → Option Nat) (r b i z : Nat) : szB hd r b i z ≤ z + 1 := by
  unfold szB
  split
  · omega
  · omega
theorem itr_sz (hd : Nat → Option Nat) (r b : Nat) : ∀ n, itr (szB hd r b) n 0 ≤ n
  | 0 => Nat.le_refl _
  | n + 1 => by
    rw [itr_s]
    have h := itr_sz hd r b n
    have h2 := szB_le hd r b n (itr (szB hd r b) n 0)
    omega
def fgH (r : Nat) (i : Nat) (h : Nat → Option Nat) : Nat → Option Nat := fs h (r * 1088 + i) none
def fgO (r : Nat) (i : Nat) (o : Nat → Bool) : Nat → Bool := rol o r i
theorem fgH_sub {r : Nat} {h : Nat → Option Nat} {j w : Nat} : ∀ n, itr (fgH r) n h j = some w → h j = some w
  | 0, e => e
  | n + 1, e => by
    rw [itr_s] at e
    unfold fgH at e
    by_cases q : j = r * 1088 + n
    · subst q; rw [fs_s] at e; exact absurd e (by simp)
    · rw [fs_n q] at e; exact fgH_sub n e
def fgK1 (r a : Nat) (n : Nat) (k : Nat → Nat) : Nat → Nat := fs k (a * 272 + 16 + r * 16 + n) 0
def fgK (r : Nat) (a : Nat) (k : Nat → Nat) : Nat → Nat := itr (fgK1 r a) 16 (fs k (a * 272 + r) 0)
def fgM1 (r a : Nat) (n : Nat) (k : Nat → Bool) : Nat → Bool := fs k (a * 272 + 16 + r * 16 + n) false
def fgM (r : Nat) (a : Nat) (k : Nat → Bool) : Nat → Bool := itr (fgM1 r a) 16 (fs k (a * 272 + r) false)
def O_routerKey : List Cond := []
def W_routerKey : List Cond := .code yX9_routerKey cX9_routerKey 2 (some .int) :: O_routerKey
theorem m_routerKey_O : ∀ w ∈ O_routerKey, w ∈ W_routerKey := fun _ h => List.mem_cons_of_mem _ h
theorem gdO_routerKey : O_routerKey.all goodWord = true := by decide +kernel
theorem gd_routerKey : W_routerKey.all goodWord = true := k_all_cons rfl gdO_routerKey
set_option maxHeartbeats 4000000 in
set_option maxRecDepth 100000 in
theorem c_routerKey (l : Launch) (D : va_G) (cI cZ cJ : ClassId) (a : Nat) (o : Nat) : kMi l yX9_routerKey W_routerKey { frames := 0, cells := 0, slots := 0, locals := 0 } 0 0 D (kT cI cZ cJ) [.int (nI a), .int (nI o)] [] (S := Unit) (fun res_ _ => res_ = (nI (a * 272 + o))) (fun _ => []) := by
  refine kMi_of (lv := [(0, .int (nI a)), (1, .int (nI o))]) RX9 "routerKey" (by decide +kernel) rfl rfl rfl (Nat.le_of_ble_eq_true rfl) rfl ?_
  intro p e s m below meth c A H locs ls E hA hK hP hD hS hl
  obtain ⟨hx, hb, hr_, hts, hown, hlocks, hml, hin, hN⟩ := id E
  refine lv_iload_n hx hb dX9_routerKey_0 rfl (lv_at hl 0 rfl) ?_
  refine lv_sipush (v := 272) hx hb dX9_routerKey_1 (by decide) ?_
  refine lv_imul hx hb dX9_routerKey_4 ?_
  refine lv_topi (fun y ey => ?_)
  obtain rfl : y = (nI (a * 272)) := ey.trans (pk_mul a 272)
  refine lv_iload_n hx hb dX9_routerKey_5 rfl (lv_at hl 1 rfl) ?_
  refine lv_iadd hx hb dX9_routerKey_6 ?_
  refine lv_topi (fun y ey => ?_)
  obtain rfl : y = (nI ((a * 272) + o)) := ey.trans (nI_add (a * 272) o)
  exact k_iret E hK hP hD hS () [] (by decide) rfl (by first | rfl | (simp [bI, oI]; done) | (simp [bI, oI]; rfl)) (Nat.le_of_ble_eq_true rfl) (Nat.le_of_ble_eq_true rfl) dX9_routerKey_7

def O_summaryKey : List Cond := []
def W_summaryKey : List Cond := .code yX9_summaryKey cX9_summaryKey 3 (some .int) :: O_summaryKey
theorem m_summaryKey_O : ∀ w ∈ O_summaryKey, w ∈ W_summaryKey := fun _ h => List.mem_cons_of_mem _ h
theorem gdO_summaryKey : O_summaryKey.all goodWord = true := by decide +kernel
theorem gd_summaryKey : W_summaryKey.all goodWord = true := k_all_cons rfl gdO_summaryKey
set_option maxHeartbeats 4000000 in
set_option maxRecDepth 100000 in
theorem c_summaryKey (l : Launch) (D : va_G) (cI cZ cJ : ClassId) (a : Nat) (o : Nat) (n : Nat) : kMi l yX9_summaryKey W_summaryKey { frames := 0, cells := 0, slots := 0, locals := 0 } 0 0 D (kT cI cZ cJ) [.int (nI a), .int (nI o), .int (nI n)] [] (S := Unit) (fun res_ _ => res_ = (nI (a * 272 + 16 + o * 16 + n))) (fun _ => []) := by
  refine kMi_of (lv := [(0, .int (nI a)), (1, .int (nI o)), (2, .int (nI n))]) RX9 "summaryKey" (by decide +kernel) rfl rfl rfl (Nat.le_of_ble_eq_true rfl) rfl ?_
  intro p e s m below meth c A H locs ls E hA hK hP hD hS hl
  obtain ⟨hx, hb, hr_, hts, hown, hlocks, hml, hin, hN⟩ := id E
  refine lv_iload_n hx hb dX9_summaryKey_0 rfl (lv_at hl 0 rfl) ?_
  refine lv_sipush (v := 272) hx hb dX9_summaryKey_1 (by decide) ?_
  refine lv_imul hx hb dX9_summaryKey_4 ?_
  refine lv_topi (fun y ey => ?_)
  obtain rfl : y = (nI (a * 272)) := ey.trans (pk_mul a 272)
  refine lv_bipush (v := 16) hx hb dX9_summaryKey_5 (by decide) ?_
  refine lv_iadd hx hb dX9_summaryKey_7 ?_
  refine lv_topi (fun y ey => ?_)
  obtain rfl : y = (nI ((a * 272) + 16)) := ey.trans (nI_add (a * 272) 16)
  refine lv_iload_n hx hb dX9_summaryKey_8 rfl (lv_at hl 1 rfl) ?_
  refine lv_bipush (v := 16) hx hb dX9_summaryKey_9 (by decide) ?_
  refine lv_imul hx hb dX9_summaryKey_11 ?_
  refine lv_topi (fun y ey => ?_)
  obtain rfl : y = (nI (o * 16)) := ey.trans (pk_mul o 16)
  refine lv_iadd hx hb dX9_summaryKey_12 ?_
  refine lv_topi (fun y ey => ?_)
  obtain rfl : y = (nI (((a * 272) + 16) + (o * 16))) := ey.trans (nI_add ((a * 272) + 16) (o * 16))
  refine lv_iload_n hx hb dX9_summaryKey_13 rfl (lv_at hl 2 rfl) ?_
  refine lv_iadd hx hb dX9_summaryKey_14 ?_
  refine lv_topi (fun y ey => ?_)
  obtain rfl : y = (nI ((((a * 272) + 16) + (o * 16)) + n)) := ey.trans (nI_add (((a * 272) + 16) + (o * 16)) n)
  exact k_iret E hK hP hD hS () [] (by decide) rfl (by first | rfl | (simp [bI, oI]; done) | (simp [bI, oI]; rfl)) (Nat.le_of_ble_eq_true rfl) (Nat.le_of_ble_eq_true rfl) dX9_summaryKey_15

def O_sizeOf : List Cond := [.methodLink RX2 34 yX2_versionHeld, .instanceMethod yX2_versionHeld, .selects RX2 yX2_versionHeld yX2_versionHeld, .initialized RX2]
def W_sizeOf : List Cond := .code yX2_sizeOf cX2_sizeOf 6 (some .int) :: (O_sizeOf ++ W_versionHeld)
theorem m_sizeOf_O : ∀ w ∈ O_sizeOf, w ∈ W_sizeOf := fun _ h => List.mem_cons_of_mem _ (List.mem_append_left _ h)
theorem m_sizeOf_WversionHeld : ∀ w ∈ W_versionHeld, w ∈ W_sizeOf := fun _ h => List.mem_cons_of_mem _ (List.mem_append_right _ h)
theorem gdO_sizeOf : O_sizeOf.all goodWord = true := by decide +kernel
theorem gd_sizeOf : W_sizeOf.all goodWord = true := k_all_cons rfl (k_all_app gdO_sizeOf gd_versionHeld)
set_option maxHeartbeats 4000000 in
set_option maxRecDepth 100000 in
theorem c_sizeOf (l : Launch) (D : va_G) (cI cZ cJ : ClassId) (h0 : Nat) (ad : Nat → Nat) (hd : Nat → Option Nat) (r : Nat) (a : Nat) (hr : r < 16) (ha : a < 4) (hhd : ∀ j w, hd j = some w → w < 69632) : kMi l yX2_sizeOf W_sizeOf { frames := 1, cells := 0, slots := 0, locals := 40 } 0 0 D (kT cI cZ cJ) [.ref h0, .int (nI r), .int (nI a)] [(h0, .inr (2, [.ref (ad 21), .ref (ad 22), .ref (ad 23), .ref (ad 24), .ref (ad 25)])), ((ad 24), .inl (cI, 17408, .inl (eO hd)))] (S := Unit) (fun res_ _ => res_ = (nI (itr (szB hd r (a * 272)) 272 0))) (fun _ => [(h0, .inr (2, [.ref (ad 21), .ref (ad 22), .ref (ad 23), .ref (ad 24), .ref (ad 25)])), ((ad 24), .inl (cI, 17408, .inl (eO hd)))]) := by
  refine kMi_of (lv := [(0, .ref h0), (1, .int (nI r)), (2, .int (nI a))]) RX2 "sizeOf" (by decide +kernel) rfl rfl rfl (Nat.le_of_ble_eq_true rfl) rfl ?_
  intro p e s m below meth c A H locs ls E hA hK hP hD hS hl
  obtain ⟨hx, hb, hr_, hts, hown, hlocks, hml, hin, hN⟩ := id E
  refine lv_iconst (v := 0) hx hb dX2_sizeOf_0 (by decide) ?_
  refine lv_istore_n (lv' := [(3, .int 0), (0, .ref h0), (1, .int (nI r)), (2, .int (nI a))]) hx hb dX2_sizeOf_1 rfl hl (by decide) rfl (fun ls hl => ?_)
  refine lv_iload_n hx hb dX2_sizeOf_2 rfl (lv_at hl 3 rfl) ?_
  refine lv_sipush (v := 272) hx hb dX2_sizeOf_3 (by decide) ?_
  refine lv_imul hx hb dX2_sizeOf_6 ?_
  refine lv_topi (fun y ey => ?_)
  obtain rfl : y = (nI (a * 272)) := ey.trans (pk_mul a 272)
  refine lv_istore (lv' := [(4, .int (nI (a * 272))), (3, .int 0), (0, .ref h0), (1, .int (nI r)), (2, .int (nI a))]) hx hb dX2_sizeOf_7 hl (by decide) rfl (fun ls hl => ?_)
  refine lv_iload hx hb dX2_sizeOf_9 (lv_at hl 0 rfl) ?_
  refine lv_istore (lv' := [(5, .int (nI (a * 272))), (4, .int (nI (a * 272))), (3, .int 0), (0, .ref h0), (1, .int (nI r)), (2, .int (nI a))]) hx hb dX2_sizeOf_11 hl (by decide) rfl (fun ls hl => ?_)
  refine k_loop (Nat) 13 6 (fun u => u ≤ 272) (fun u => 272 - u) (fun u => [(h0, .inr (2, [.ref (ad 21), .ref (ad 22), .ref (ad 23), .ref (ad 24), .ref (ad 25)])), ((ad 24), .inl (cI, 17408, .inl (eO hd)))]) (fun u => [(0, .ref h0), (1, .int (nI r)), (2, .int (nI a)), (3, .int (nI (itr (szB hd r (a * 272)) u 0))), (4, .int (nI (a * 272))), (5, .int (nI (a * 272 + u)))]) ?_ (0) (Nat.zero_le _) (hP.sub [0, 1] rfl) (hD.sub [0, 1] (by decide) rfl) hS (lv_sub hl [3, 4, 5, 2, 1, 0] rfl)
  intro i H locs ls hinv hP hD hS hl ih_13
  have hinv : i ≤ 272 := hinv
  have hP : va_P D vwCl [(h0, .inr (2, [.ref (ad 21), .ref (ad 22), .ref (ad 23), .ref (ad 24), .ref (ad 25)])), ((ad 24), .inl (cI, 17408, .inl (eO hd)))] H := hP
  have hD : va_D A [(h0, .inr (2, [.ref (ad 21), .ref (ad 22), .ref (ad 23), .ref (ad 24), .ref (ad 25)])), ((ad 24), .inl (cI, 17408, .inl (eO hd)))] := hD
  have hl : lv_has ls 6 [(0, .ref h0), (1, .int (nI r)), (2, .int (nI a)), (3, .int (nI (itr (szB hd r (a * 272)) i 0))), (4, .int (nI (a * 272))), (5, .int (nI (a * 272 + i)))] := hl
  refine lv_iload hx hb dX2_sizeOf_13 (lv_at hl 5 rfl) ?_
  refine lv_iload hx hb dX2_sizeOf_15 (lv_at hl 4 rfl) ?_
  refine lv_sipush (v := 272) hx hb dX2_sizeOf_17 (by decide) ?_
  refine lv_iadd hx hb dX2_sizeOf_20 ?_
  refine lv_topi (fun y ey => ?_)
  obtain rfl : y = (nI ((a * 272) + 272)) := ey.trans (nI_add (a * 272) 272)
  refine lv_icmp_ge (tgt := 44) hx hb dX2_sizeOf_21 (by decide) (fun c_21 => ?_) (fun c_21 => ?_)
  · have n_21 : ((a * 272) + 272) ≤ (a * 272 + i) := (nI_leI (a := ((a * 272) + 272)) (b := (a * 272 + i)) (by omega) (by omega)).mp c_21
    obtain rfl : i = 272 := by omega
    refine lv_iload_n hx hb dX2_sizeOf_44 rfl (lv_at hl 3 rfl) ?_
    exact k_iret E hK hP hD hS () [0, 1] (by decide) rfl (by first | rfl | (simp [szB, bI, oI, n_21]; done) | (simp [szB, bI, oI, n_21]; rfl)) (Nat.le_of_ble_eq_true rfl) (Nat.le_of_ble_eq_true rfl) dX2_sizeOf_45
  · have n_21 : ¬ ((a * 272) + 272) ≤ (a * 272 + i) := fun h => c_21 ((nI_leI (a := ((a * 272) + 272)) (b := (a * 272 + i)) (by omega) (by omega)).mpr h)
    refine lv_aload_n hx hb dX2_sizeOf_24 rfl (lv_at hl 0 rfl) ?_
    refine lv_iload_n hx hb dX2_sizeOf_25 rfl (lv_at hl 1 rfl) ?_
    refine lv_iload hx hb dX2_sizeOf_26 (lv_at hl 5 rfl) ?_
    refine kVi (As := [.int (nI r), .int (nI (a * 272 + i))]) (rest := []) (wr := []) (w2 := fun _ => [(h0, .inr (2, [.ref (ad 21), .ref (ad 22), .ref (ad 23), .ref (ad 24), .ref (ad 25)])), ((ad 24), .inl (cI, 17408, .inl (eO hd)))]) ⟨hx, hb, hml, hown, hts⟩ hN (c_versionHeld l D cI cZ cJ h0 ad hd r (a * 272 + i) hr (by omega)) (cwV 2 hts (k_gV (fun w h => m_sizeOf_O w ((by decide +kernel : ∀ w ∈ ([.methodLink RX2 34 yX2_versionHeld, .instanceMethod yX2_versionHeld, .selects RX2 yX2_versionHeld yX2_versionHeld, .initialized RX2] : List Cond), w ∈ O_sizeOf) w h)) m_sizeOf_WversionHeld gd_versionHeld) rfl rfl rfl (by decide +kernel) ⟨Nat.le_of_ble_eq_true rfl, Nat.le_of_ble_eq_true rfl⟩) hK hP hD hS hA [0, 1] [] [0, 1] rfl rfl ⟨by decide, by decide, by decide⟩ (by decide) (fun _ => rfl) 2 0 rfl rfl rfl rfl hl.1 rfl (Nat.le_of_ble_eq_true rfl) dX2_sizeOf_28 ⟨Nat.le_of_ble_eq_true rfl, Nat.le_of_ble_eq_true rfl⟩ (fun res_ u H locs hw hP hD hS => ?_)
    have hP : va_P D vwCl [(h0, .inr (2, [.ref (ad 21), .ref (ad 22), .ref (ad 23), .ref (ad 24), .ref (ad 25)])), ((ad 24), .inl (cI, 17408, .inl (eO hd)))] H := hP
    have hD : va_D A [(h0, .inr (2, [.ref (ad 21), .ref (ad 22), .ref (ad 23), .ref (ad 24), .ref (ad 25)])), ((ad 24), .inl (cI, 17408, .inl (eO hd)))] := hD
    obtain rfl : res_ = (oI (hd (r * 1088 + (a * 272 + i)))) := hw
    rcases hv_28 : (hd (r * 1088 + (a * 272 + i))) with _ | v_28
    · refine lv_topi (fun y ey => ?_)
      obtain rfl : y = (-1) := ey
      refine lv_iconst (v := (-1)) hx hb dX2_sizeOf_31 (by decide) ?_
      refine lv_icmp_eq (tgt := 38) hx hb dX2_sizeOf_32 (by decide) (fun _ => ?_) (fun c => absurd (by decide) c)
      refine lv_iinc (v := (nI ((a * 272 + i) + 1))) (lv' := [(5, .int (nI ((a * 272 + i) + 1))), (0, .ref h0), (1, .int (nI r)), (2, .int (nI a)), (3, .int (nI (itr (szB hd r (a * 272)) i 0))), (4, .int (nI (a * 272)))]) hx hb dX2_sizeOf_38 hl (k := 5) rfl (nI_add (a * 272 + i) 1) (by decide) rfl (fun ls hl => ?_)
      refine lv_goto (tgt := 13) hx hb dX2_sizeOf_41 (by decide) ?_
      rw [show ((itr (szB hd r (a * 272)) i 0) : Nat) = (itr (szB hd r (a * 272)) (i + 1) 0) from (by first | rfl | omega | (simp [itr_s, szB, n_21, hv_28]; done))] at hl
      rw [show (((a * 272 + i) + 1) : Nat) = (a * 272 + (i + 1)) from (by first | rfl | omega | (simp [itr_s, szB, n_21, hv_28]; done))] at hl
      exact ih_13 (i + 1) H locs ls (by show i + 1 ≤ 272; omega) (by show 272 - (i + 1) < 272 - i; omega) (hP.sub [0, 1] rfl) (hD.sub [0, 1] (by decide) rfl) hS (lv_sub hl [1, 2, 3, 4, 5, 0] rfl)
    · refine lv_topi (fun y ey => ?_)
      obtain rfl : y = (nI v_28) := ey
      have hf1 := hhd _ _ hv_28
      refine lv_iconst (v := (-1)) hx hb dX2_sizeOf_31 (by decide) ?_
      refine lv_icmp_eq (tgt := 38) hx hb dX2_sizeOf_32 (by decide) (fun c => absurd c (nI_m1 (v := v_28) (by omega))) (fun _ => ?_)
      refine lv_iinc (v := (nI ((itr (szB hd r (a * 272)) i 0) + 1))) (lv' := [(3, .int (nI ((itr (szB hd r (a * 272)) i 0) + 1))), (0, .ref h0), (1, .int (nI r)), (2, .int (nI a)), (4, .int (nI (a * 272))), (5, .int (nI (a * 272 + i)))]) hx hb dX2_sizeOf_35 hl (k := 3) rfl (nI_add (itr (szB hd r (a * 272)) i 0) 1) (by decide) rfl (fun ls hl => ?_)
      refine lv_iinc (v := (nI ((a * 272 + i) + 1))) (lv' := [(5, .int (nI ((a * 272 + i) + 1))), (3, .int (nI ((itr (szB hd r (a * 272)) i 0) + 1))), (0, .ref h0), (1, .int (nI r)), (2, .int (nI a)), (4, .int (nI (a * 272)))]) hx hb dX2_sizeOf_38 hl (k := 5) rfl (nI_add (a * 272 + i) 1) (by decide) rfl (fun ls hl => ?_)
      refine lv_goto (tgt := 13) hx hb dX2_sizeOf_41 (by decide) ?_
      rw [show (((itr (szB hd r (a * 272)) i 0) + 1) : Nat) = (itr (szB hd r (a * 272)) (i + 1) 0) from (by first | rfl | omega | (simp [itr_s, szB, n_21, hv_28]; done))] at hl
      rw [show (((a * 272 + i) + 1) : Nat) = (a * 272 + (i + 1)) from (by first | rfl | omega | (simp [itr_s, szB, n_21, hv_28]; done))] at hl
      exact ih_13 (i + 1) H locs ls (by show i + 1 ≤ 272; omega) (by show 272 - (i + 1) < 272 - i; omega) (hP.sub [0, 1] rfl) (hD.sub [0, 1] (by decide) rfl) hS (lv_sub hl [2, 3, 4, 1, 5, 0] rfl)

theorem k_all_s {P : Nat → Prop} {n : Nat} (h : ∀ j, j < n → P j) (h2 : P n) : ∀ j, j < n + 1 → P j := fun j hj => by
  rcases Nat.lt_or_ge j n with q | q
  · exact h j q
  · obtain rfl : j = n := by omega
    exact h2
def O_areEqual : List Cond := [.methodLink RX2 34 yX2_versionHeld, .instanceMethod yX2_versionHeld, .selects RX2 yX2_versionHeld yX2_versionHeld, .initialized RX2]
def W_areEqual : List Cond := .code yX2_areEqual cX2_areEqual 6 (some .boolean) :: (O_areEqual ++ W_versionHeld)
theorem m_areEqual_O : ∀ w ∈ O_areEqual, w ∈ W_areEqual := fun _ h => List.mem_cons_of_mem _ (List.mem_append_left _ h)
theorem m_areEqual_WversionHeld : ∀ w ∈ W_versionHeld, w ∈ W_areEqual := fun _ h => List.mem_cons_of_mem _ (List.mem_append_right _ h)
theorem gdO_areEqual : O_areEqual.all goodWord = true := by decide +kernel
theorem gd_areEqual : W_areEqual.all goodWord = true := k_all_cons rfl (k_all_app gdO_areEqual gd_versionHeld)
set_option maxHeartbeats 4000000 in
set_option maxRecDepth 100000 in
theorem c_areEqual (l : Launch) (D : va_G) (cI cZ cJ : ClassId) (h0 : Nat) (ad : Nat → Nat) (hd : Nat → Option Nat) (r : Nat) (o : Nat) (a : Nat) (hr : r < 16) (ho : o < 16) (ha : a < 4) (hhd : ∀ j w, hd j = some w → w < 69632) : kMi l yX2_areEqual W_areEqual { frames := 1, cells := 0, slots := 0, locals := 40 } 0 0 D (kT cI cZ cJ) [.ref h0, .int (nI r), .int (nI o), .int (nI a)] [(h0, .inr (2, [.ref (ad 21), .ref (ad 22), .ref (ad 23), .ref (ad 24), .ref (ad 25)])), ((ad 24), .inl (cI, 17408, .inl (eO hd)))] (S := Bool) (fun res_ u => res_ = bI u ∧ (u = true ↔ ∀ i, i < 272 → hd (r * 1088 + (a * 272 + i)) = hd (o * 1088 + (a * 272 + i)))) (fun u => [(h0, .inr (2, [.ref (ad 21), .ref (ad 22), .ref (ad 23), .ref (ad 24), .ref (ad 25)])), ((ad 24), .inl (cI, 17408, .inl (eO hd)))]) := by
  refine kMi_of (lv := [(0, .ref h0), (1, .int (nI r)), (2, .int (nI o)), (3, .int (nI a))]) RX2 "areEqual" (by decide +kernel) rfl rfl rfl (Nat.le_of_ble_eq_true rfl) rfl ?_
  intro p e s m below meth c A H locs ls E hA hK hP hD hS hl
  obtain ⟨hx, hb, hr_, hts, hown, hlocks, hml, hin, hN⟩ := id E
  refine lv_iload_n hx hb dX2_areEqual_0 rfl (lv_at hl 3 rfl) ?_
  refine lv_sipush (v := 272) hx hb dX2_areEqual_1 (by decide) ?_
  refine lv_imul hx hb dX2_areEqual_4 ?_
  refine lv_topi (fun y ey => ?_)
  obtain rfl : y = (nI (a * 272)) := ey.trans (pk_mul a 272)
  refine lv_istore (lv' := [(4, .int (nI (a * 272))), (0, .ref h0), (1, .int (nI r)), (2, .int (nI o)), (3, .int (nI a))]) hx hb dX2_areEqual_5 hl (by decide) rfl (fun ls hl => ?_)
  refine lv_iload hx hb dX2_areEqual_7 (lv_at hl 0 rfl) ?_
  refine lv_istore (lv' := [(5, .int (nI (a * 272))), (4, .int (nI (a * 272))), (0, .ref h0), (1, .int (nI r)), (2, .int (nI o)), (3, .int (nI a))]) hx hb dX2_areEqual_9 hl (by decide) rfl (fun ls hl => ?_)
  refine k_loop (Nat) 11 6 (fun u => u ≤ 272 ∧ ∀ j, j < u → hd (r * 1088 + (a * 272 + j)) = hd (o * 1088 + (a * 272 + j))) (fun u => 272 - u) (fun u => [(h0, .inr (2, [.ref (ad 21), .ref (ad 22), .ref (ad 23), .ref (ad 24), .ref (ad 25)])), ((ad 24), .inl (cI, 17408, .inl (eO hd)))]) (fun u => [(0, .ref h0), (1, .int (nI r)), (2, .int (nI o)), (3, .int (nI a)), (4, .int (nI (a * 272))), (5, .int (nI (a * 272 + u)))]) ?_ (0) (⟨Nat.zero_le _, fun j hj => absurd hj (Nat.not_lt_zero j)⟩) (hP.sub [0, 1] rfl) (hD.sub [0, 1] (by decide) rfl) hS (lv_sub hl [2, 3, 4, 5, 1, 0] rfl)
  intro i H locs ls hinv hP hD hS hl ih_11
  have hinv : i ≤ 272 ∧ ∀ j, j < i → hd (r * 1088 + (a * 272 + j)) = hd (o * 1088 + (a * 272 + j)) := hinv
  have hP : va_P D vwCl [(h0, .inr (2, [.ref (ad 21), .ref (ad 22), .ref (ad 23), .ref (ad 24), .ref (ad 25)])), ((ad 24), .inl (cI, 17408, .inl (eO hd)))] H := hP
  have hD : va_D A [(h0, .inr (2, [.ref (ad 21), .ref (ad 22), .ref (ad 23), .ref (ad 24), .ref (ad 25)])), ((ad 24), .inl (cI, 17408, .inl (eO hd)))] := hD
  have hl : lv_has ls 6 [(0, .ref h0), (1, .int (nI r)), (2, .int (nI o)), (3, .int (nI a)), (4, .int (nI (a * 272))), (5, .int (nI (a * 272 + i)))] := hl
  refine lv_iload hx hb dX2_areEqual_11 (lv_at hl 5 rfl) ?_
  refine lv_iload hx hb dX2_areEqual_13 (lv_at hl 4 rfl) ?_
  refine lv_sipush (v := 272) hx hb dX2_areEqual_15 (by decide) ?_
  refine lv_iadd hx hb dX2_areEqual_18 ?_
  refine lv_topi (fun y ey => ?_)
  obtain rfl : y = (nI ((a * 272) + 272)) := ey.trans (nI_add (a * 272) 272)
  refine lv_icmp_ge (tgt := 47) hx hb dX2_areEqual_19 (by decide) (fun c_19 => ?_) (fun c_19 => ?_)
  · have n_19 : ((a * 272) + 272) ≤ (a * 272 + i) := (nI_leI (a := ((a * 272) + 272)) (b := (a * 272 + i)) (by omega) (by omega)).mp c_19
    refine lv_iconst (v := 1) hx hb dX2_areEqual_47 (by decide) ?_
    have hie : i = 272 := by omega
    have hi2 := hinv.2
    rw [hie] at hi2
    exact k_zret E hK hP hD hS true [0, 1] (by decide) rfl ⟨rfl, ⟨fun _ => hi2, fun _ => rfl⟩⟩ (by decide) (Nat.le_of_ble_eq_true rfl) (Nat.le_of_ble_eq_true rfl) dX2_areEqual_48
  · have n_19 : ¬ ((a * 272) + 272) ≤ (a * 272 + i) := fun h => c_19 ((nI_leI (a := ((a * 272) + 272)) (b := (a * 272 + i)) (by omega) (by omega)).mpr h)
    refine lv_aload_n hx hb dX2_areEqual_22 rfl (lv_at hl 0 rfl) ?_
    refine lv_iload_n hx hb dX2_areEqual_23 rfl (lv_at hl 1 rfl) ?_
    refine lv_iload hx hb dX2_areEqual_24 (lv_at hl 5 rfl) ?_
    refine kVi (As := [.int (nI r), .int (nI (a * 272 + i))]) (rest := []) (wr := []) (w2 := fun _ => [(h0, .inr (2, [.ref (ad 21), .ref (ad 22), .ref (ad 23), .ref (ad 24), .ref (ad 25)])), ((ad 24), .inl (cI, 17408, .inl (eO hd)))]) ⟨hx, hb, hml, hown, hts⟩ hN (c_versionHeld l D cI cZ cJ h0 ad hd r (a * 272 + i) hr (by omega)) (cwV 2 hts (k_gV (fun w h => m_areEqual_O w ((by decide +kernel : ∀ w ∈ ([.methodLink RX2 34 yX2_versionHeld, .instanceMethod yX2_versionHeld, .selects RX2 yX2_versionHeld yX2_versionHeld, .initialized RX2] : List Cond), w ∈ O_areEqual) w h)) m_areEqual_WversionHeld gd_versionHeld) rfl rfl rfl (by decide +kernel) ⟨Nat.le_of_ble_eq_true rfl, Nat.le_of_ble_eq_true rfl⟩) hK hP hD hS hA [0, 1] [] [0, 1] rfl rfl ⟨by decide, by decide, by decide⟩ (by decide) (fun _ => rfl) 2 0 rfl rfl rfl rfl hl.1 rfl (Nat.le_of_ble_eq_true rfl) dX2_areEqual_26 ⟨Nat.le_of_ble_eq_true rfl, Nat.le_of_ble_eq_true rfl⟩ (fun res_ u H locs hw hP hD hS => ?_)
    have hP : va_P D vwCl [(h0, .inr (2, [.ref (ad 21), .ref (ad 22), .ref (ad 23), .ref (ad 24), .ref (ad 25)])), ((ad 24), .inl (cI, 17408, .inl (eO hd)))] H := hP
    have hD : va_D A [(h0, .inr (2, [.ref (ad 21), .ref (ad 22), .ref (ad 23), .ref (ad 24), .ref (ad 25)])), ((ad 24), .inl (cI, 17408, .inl (eO hd)))] := hD
    obtain rfl : res_ = (oI (hd (r * 1088 + (a * 272 + i)))) := hw
    refine lv_aload_n hx hb dX2_areEqual_29 rfl (lv_at hl 0 rfl) ?_
    refine lv_iload_n hx hb dX2_areEqual_30 rfl (lv_at hl 2 rfl) ?_
    refine lv_iload hx hb dX2_areEqual_31 (lv_at hl 5 rfl) ?_
    refine kVi (As := [.int (nI o), .int (nI (a * 272 + i))]) (rest := [.int (oI (hd (r * 1088 + (a * 272 + i))))]) (wr := []) (w2 := fun _ => [(h0, .inr (2, [.ref (ad 21), .ref (ad 22), .ref (ad 23), .ref (ad 24), .ref (ad 25)])), ((ad 24), .inl (cI, 17408, .inl (eO hd)))]) ⟨hx, hb, hml, hown, hts⟩ hN (c_versionHeld l D cI cZ cJ h0 ad hd o (a * 272 + i) ho (by omega)) (cwV 2 hts (k_gV (fun w h => m_areEqual_O w ((by decide +kernel : ∀ w ∈ ([.methodLink RX2 34 yX2_versionHeld, .instanceMethod yX2_versionHeld, .selects RX2 yX2_versionHeld yX2_versionHeld, .initialized RX2] : List Cond), w ∈ O_areEqual) w h)) m_areEqual_WversionHeld gd_versionHeld) rfl rfl rfl (by decide +kernel) ⟨Nat.le_of_ble_eq_true rfl, Nat.le_of_ble_eq_true rfl⟩) hK hP hD hS hA [0, 1] [] [0, 1] rfl rfl ⟨by decide, by decide, by decide⟩ (by decide) (fun _ => rfl) 2 0 rfl rfl rfl rfl hl.1 rfl (Nat.le_of_ble_eq_true rfl) dX2_areEqual_33 ⟨Nat.le_of_ble_eq_true rfl, Nat.le_of_ble_eq_true rfl⟩ (fun res_ u H locs hw hP hD hS => ?_)
    have hP : va_P D vwCl [(h0, .inr (2, [.ref (ad 21), .ref (ad 22), .ref (ad 23), .ref (ad 24), .ref (ad 25)])), ((ad 24), .inl (cI, 17408, .inl (eO hd)))] H := hP
    have hD : va_D A [(h0, .inr (2, [.ref (ad 21), .ref (ad 22), .ref (ad 23), .ref (ad 24), .ref (ad 25)])), ((ad 24), .inl (cI, 17408, .inl (eO hd)))] := hD
    obtain rfl : res_ = (oI (hd (o * 1088 + (a * 272 + i)))) := hw
    refine lv_icmp_eq (tgt := 41) hx hb dX2_areEqual_36 (by decide) (fun c_36 => ?_) (fun c_36 => ?_)
    · refine lv_iinc (v := (nI ((a * 272 + i) + 1))) (lv' := [(5, .int (nI ((a * 272 + i) + 1))), (0, .ref h0), (1, .int (nI r)), (2, .int (nI o)), (3, .int (nI a)), (4, .int (nI (a * 272)))]) hx hb dX2_areEqual_41 hl (k := 5) rfl (nI_add (a * 272 + i) 1) (by decide) rfl (fun ls hl => ?_)
      refine lv_goto (tgt := 11) hx hb dX2_areEqual_44 (by decide) ?_
      rw [show (((a * 272 + i) + 1) : Nat) = (a * 272 + (i + 1)) from (by first | rfl | omega | (simp [itr_s, n_19]; done))] at hl
      exact ih_11 (i + 1) H locs ls (⟨by show i + 1 ≤ 272; omega, k_all_s hinv.2 ((oI_inj (fun w hw => by have := hhd _ w hw; omega) (fun w hw => by have := hhd _ w hw; omega)).mp c_36)⟩) (by show 272 - (i + 1) < 272 - i; omega) (hP.sub [0, 1] rfl) (hD.sub [0, 1] (by decide) rfl) hS (lv_sub hl [1, 2, 3, 4, 5, 0] rfl)
    · refine lv_iconst (v := 0) hx hb dX2_areEqual_39 (by decide) ?_
      exact k_zret E hK hP hD hS false [0, 1] (by decide) rfl ⟨rfl, ⟨fun q => absurd q (by decide), fun q => absurd (congrArg oI (q i (by omega))) c_36⟩⟩ (by decide) (Nat.le_of_ble_eq_true rfl) (Nat.le_of_ble_eq_true rfl) dX2_areEqual_40

def O_forgetKey : List Cond := [.fieldLink RX2 9 "RoutingDomain$Databases" "knownSequences" "[I", .fieldLink RX2 15 "RoutingDomain$Databases" "mustRenew" "[Z"]
def W_forgetKey : List Cond := .code yX2_forgetKey cX2_forgetKey 2 none :: (O_forgetKey ++ wsX20)
theorem m_forgetKey_O : ∀ w ∈ O_forgetKey, w ∈ W_forgetKey := fun _ h => List.mem_cons_of_mem _ (List.mem_append_left _ h)
theorem m_forgetKey_C2 : ∀ w ∈ wsX20, w ∈ W_forgetKey := fun _ h => List.mem_cons_of_mem _ (List.mem_append_right _ h)
theorem gdO_forgetKey : O_forgetKey.all goodWord = true := by decide +kernel
theorem gd_forgetKey : W_forgetKey.all goodWord = true := k_all_cons rfl (k_all_app gdO_forgetKey gdC_2)
set_option maxHeartbeats 4000000 in
set_option maxRecDepth 100000 in
theorem c_forgetKey (l : Launch) (D : va_G) (cI cZ cJ : ClassId) (h0 : Nat) (ad : Nat → Nat) (ks : Nat → Nat) (mr : Nat → Bool) (ky : Nat) (hky : ky < 1088) : kMv l yX2_forgetKey W_forgetKey { frames := 0, cells := 0, slots := 0, locals := 0 } 0 0 D (kT cI cZ cJ) [.ref h0, .int (nI ky)] [(h0, .inr (2, [.ref (ad 21), .ref (ad 22), .ref (ad 23), .ref (ad 24), .ref (ad 25)])), ((ad 21), .inl (cI, 1088, .inl (eN ks))), ((ad 22), .inl (cZ, 1088, .inl (eB mr)))] (S := Unit) (fun _ => True) (fun _ => [(h0, .inr (2, [.ref (ad 21), .ref (ad 22), .ref (ad 23), .ref (ad 24), .ref (ad 25)])), ((ad 21), .inl (cI, 1088, .inl (eN (fs ks ky 0)))), ((ad 22), .inl (cZ, 1088, .inl (eB (fs mr ky false))))]) := by
  refine kMv_of (lv := [(0, .ref h0), (1, .int (nI ky))]) RX2 "forgetKey" (by decide +kernel) rfl rfl rfl (Nat.le_of_ble_eq_true rfl) rfl ?_
  intro p e s m below meth c A H locs ls E hA hK hP hD hS hl
  obtain ⟨hx, hb, hr_, hts, hown, hlocks, hml, hin, hN⟩ := id E
  refine lv_aload_n hx hb dX2_forgetKey_0 rfl (lv_at hl 0 rfl) ?_
  refine va_get (ci := 2) (v := .ref (ad 21)) (C := RX2) (T := TX2) (N := 5) hx hb hts m_forgetKey_C2 hown hK hP 0 rfl rfl 0 (by decide) (hts (.fieldLink RX2 9 "RoutingDomain$Databases" "knownSequences" "[I") (m_forgetKey_O _ (by decide +kernel))) (fun _ h9 => h9) rfl dX2_forgetKey_1 ?_
  refine lv_iload_n hx hb dX2_forgetKey_4 rfl (lv_at hl 1 rfl) ?_
  refine lv_iconst (v := 0) hx hb dX2_forgetKey_5 (by decide) ?_
  refine va_iast hx hb hK hP hD hS 1 0 rfl rfl (vp_in_nI (show ky < 1088 from by omega) (by decide)) dX2_forgetKey_6 (fun H locs hP hD hS => ?_)
  have hP : va_P D vwCl [(h0, .inr (2, [.ref (ad 21), .ref (ad 22), .ref (ad 23), .ref (ad 24), .ref (ad 25)])), ((ad 21), .inl (cI, 1088, .inl (upd (eN ks) (nI ky).toNatClampNeg (nI 0)))), ((ad 22), .inl (cZ, 1088, .inl (eB mr)))] H := hP
  have hD : va_D A [(h0, .inr (2, [.ref (ad 21), .ref (ad 22), .ref (ad 23), .ref (ad 24), .ref (ad 25)])), ((ad 21), .inl (cI, 1088, .inl (upd (eN ks) (nI ky).toNatClampNeg (nI 0)))), ((ad 22), .inl (cZ, 1088, .inl (eB mr)))] := hD
  rw [show (upd (eN ks) (nI ky).toNatClampNeg (nI 0)) = (eN (fs ks ky 0)) from stN (by omega)] at hP hD
  refine lv_aload_n hx hb dX2_forgetKey_7 rfl (lv_at hl 0 rfl) ?_
  refine va_get (ci := 2) (v := .ref (ad 22)) (C := RX2) (T := TX2) (N := 5) hx hb hts m_forgetKey_C2 hown hK hP 0 rfl rfl 1 (by decide) (hts (.fieldLink RX2 15 "RoutingDomain$Databases" "mustRenew" "[Z") (m_forgetKey_O _ (by decide +kernel))) (fun _ h9 => h9) rfl dX2_forgetKey_8 ?_
  refine lv_iload_n hx hb dX2_forgetKey_11 rfl (lv_at hl 1 rfl) ?_
  refine lv_iconst (v := 0) hx hb dX2_forgetKey_12 (by decide) ?_
  refine va_zast hx hb hK hP hD hS 2 1 rfl rfl (vp_in_nI (show ky < 1088 from by omega) (by decide)) dX2_forgetKey_13 (fun H locs hP hD hS => ?_)
  have hP : va_P D vwCl [(h0, .inr (2, [.ref (ad 21), .ref (ad 22), .ref (ad 23), .ref (ad 24), .ref (ad 25)])), ((ad 21), .inl (cI, 1088, .inl (eN (fs ks ky 0)))), ((ad 22), .inl (cZ, 1088, .inl (upd (eB mr) (nI ky).toNatClampNeg (vp_nar .boolean (bI false)))))] H := hP
  have hD : va_D A [(h0, .inr (2, [.ref (ad 21), .ref (ad 22), .ref (ad 23), .ref (ad 24), .ref (ad 25)])), ((ad 21), .inl (cI, 1088, .inl (eN (fs ks ky 0)))), ((ad 22), .inl (cZ, 1088, .inl (upd (eB mr) (nI ky).toNatClampNeg (vp_nar .boolean (bI false)))))] := hD
  rw [show (upd (eB mr) (nI ky).toNatClampNeg (vp_nar .boolean (bI false))) = (eB (fs mr ky false)) from stB (by omega)] at hP hD
  exact k_vret E hK hP hD hS () [0, 1, 2] (by decide) rfl trivial (Nat.le_of_ble_eq_true rfl) (Nat.le_of_ble_eq_true rfl) dX2_forgetKey_14

def O_dbForget : List Cond := [.initialized RX9, .static yX9_routerKey, .methodLink RX2 45 yX2_forgetKey, .instanceMethod yX2_forgetKey, .selects RX2 yX2_forgetKey yX2_forgetKey, .initialized RX2, .static yX9_summaryKey, .methodLink RX2 38 yX2_replace, .instanceMethod yX2_replace, .selects RX2 yX2_replace yX2_replace]
def W_dbForget : List Cond := .code yX2_forget cX2_forget 4 none :: (O_dbForget ++ (W_routerKey ++ (W_forgetKey ++ (W_summaryKey ++ W_replN))))
theorem m_dbForget_O : ∀ w ∈ O_dbForget, w ∈ W_dbForget := fun _ h => List.mem_cons_of_mem _ (List.mem_append_left _ h)
theorem m_dbForget_WrouterKey : ∀ w ∈ W_routerKey, w ∈ W_dbForget := fun _ h => List.mem_cons_of_mem _ (List.mem_append_right _ (List.mem_append_left _ h))
theorem m_dbForget_WforgetKey : ∀ w ∈ W_forgetKey, w ∈ W_dbForget := fun _ h => List.mem_cons_of_mem _ (List.mem_append_right _ (List.mem_append_right _ (List.mem_append_left _ h)))
theorem m_dbForget_WsummaryKey : ∀ w ∈ W_summaryKey, w ∈ W_dbForget := fun _ h => List.mem_cons_of_mem _ (List.mem_append_right _ (List.mem_append_right _ (List.mem_append_right _ (List.mem_append_left _ h))))
theorem m_dbForget_WreplN : ∀ w ∈ W_replN, w ∈ W_dbForget := fun _ h => List.mem_cons_of_mem _ (List.mem_append_right _ (List.mem_append_right _ (List.mem_append_right _ (List.mem_append_right _ h))))
theorem gdO_dbForget : O_dbForget.all goodWord = true := by decide +kernel
theorem gd_dbForget : W_dbForget.all goodWord = true := k_all_cons rfl (k_all_app gdO_dbForget (k_all_app gd_routerKey (k_all_app gd_forgetKey (k_all_app gd_summaryKey gd_replN))))
set_option maxHeartbeats 4000000 in
set_option maxRecDepth 100000 in
theorem c_dbForget (l : Launch) (D : va_G) (cI cZ cJ : ClassId) (h0 : Nat) (ad : Nat → Nat) (ks : Nat → Nat) (mr : Nat → Bool) (old : Nat → Bool) (hd : Nat → Option Nat) (r : Nat) (hr : r < 16) (hhd : ∀ j w, hd j = some w → w < 69632) : kMv l yX2_forget W_dbForget { frames := 2, cells := 0, slots := 0, locals := 60 } 0 0 D (kT cI cZ cJ) [.ref h0, .int (nI r)] [(h0, .inr (2, [.ref (ad 21), .ref (ad 22), .ref (ad 23), .ref (ad 24), .ref (ad 25)])), ((ad 21), .inl (cI, 1088, .inl (eN ks))), ((ad 22), .inl (cZ, 1088, .inl (eB mr))), ((ad 23), .inl (cZ, 64, .inl (eB old))), ((ad 24), .inl (cI, 17408, .inl (eO hd))), ((ad 25), .inl (cI, 64, .inl (eN (cn hd))))] (S := Unit) (fun _ => True) (fun _ => [(h0, .inr (2, [.ref (ad 21), .ref (ad 22), .ref (ad 23), .ref (ad 24), .ref (ad 25)])), ((ad 21), .inl (cI, 1088, .inl (eN (itr (fgK r) 4 ks)))), ((ad 22), .inl (cZ, 1088, .inl (eB (itr (fgM r) 4 mr)))), ((ad 23), .inl (cZ, 64, .inl (eB (itr (fgO r) 1088 old)))), ((ad 24), .inl (cI, 17408, .inl (eO (itr (fgH r) 1088 hd)))), ((ad 25), .inl (cI, 64, .inl (eN (cn (itr (fgH r) 1088 hd)))))]) := by
  refine kMv_of (lv := [(0, .ref h0), (1, .int (nI r))]) RX2 "forget" (by decide +kernel) rfl rfl rfl (Nat.le_of_ble_eq_true rfl) rfl ?_
  intro p e s m below meth c A H locs ls E hA hK hP hD hS hl
  obtain ⟨hx, hb, hr_, hts, hown, hlocks, hml, hin, hN⟩ := id E
  refine lv_iconst (v := 0) hx hb dX2_forget_0 (by decide) ?_
  refine lv_istore_n (lv' := [(2, .int 0), (0, .ref h0), (1, .int (nI r))]) hx hb dX2_forget_1 rfl hl (by decide) rfl (fun ls hl => ?_)
  refine k_loop (Nat) 2 4 (fun u => u ≤ 1088) (fun u => 1088 - u) (fun u => [(h0, .inr (2, [.ref (ad 21), .ref (ad 22), .ref (ad 23), .ref (ad 24), .ref (ad 25)])), ((ad 21), .inl (cI, 1088, .inl (eN ks))), ((ad 22), .inl (cZ, 1088, .inl (eB mr))), ((ad 23), .inl (cZ, 64, .inl (eB (itr (fgO r) u old)))), ((ad 24), .inl (cI, 17408, .inl (eO (itr (fgH r) u hd)))), ((ad 25), .inl (cI, 64, .inl (eN (cn (itr (fgH r) u hd)))))]) (fun u => [(0, .ref h0), (1, .int (nI r)), (2, .int (nI u))]) ?_ (0) (Nat.zero_le _) (hP.sub [0, 1, 2, 3, 4, 5] rfl) (hD.sub [0, 1, 2, 3, 4, 5] (by decide) rfl) hS (lv_sub hl [1, 2, 0] rfl)
  intro i H locs ls hinv hP hD hS hl ih_2
  have hinv : i ≤ 1088 := hinv
  have hP : va_P D vwCl [(h0, .inr (2, [.ref (ad 21), .ref (ad 22), .ref (ad 23), .ref (ad 24), .ref (ad 25)])), ((ad 21), .inl (cI, 1088, .inl (eN ks))), ((ad 22), .inl (cZ, 1088, .inl (eB mr))), ((ad 23), .inl (cZ, 64, .inl (eB (itr (fgO r) i old)))), ((ad 24), .inl (cI, 17408, .inl (eO (itr (fgH r) i hd)))), ((ad 25), .inl (cI, 64, .inl (eN (cn (itr (fgH r) i hd)))))] H := hP
  have hD : va_D A [(h0, .inr (2, [.ref (ad 21), .ref (ad 22), .ref (ad 23), .ref (ad 24), .ref (ad 25)])), ((ad 21), .inl (cI, 1088, .inl (eN ks))), ((ad 22), .inl (cZ, 1088, .inl (eB mr))), ((ad 23), .inl (cZ, 64, .inl (eB (itr (fgO r) i old)))), ((ad 24), .inl (cI, 17408, .inl (eO (itr (fgH r) i hd)))), ((ad 25), .inl (cI, 64, .inl (eN (cn (itr (fgH r) i hd)))))] := hD
  have hl : lv_has ls 4 [(0, .ref h0), (1, .int (nI r)), (2, .int (nI i))] := hl
  refine lv_iload_n hx hb dX2_forget_2 rfl (lv_at hl 2 rfl) ?_
  refine lv_sipush (v := 1088) hx hb dX2_forget_3 (by decide) ?_
  refine lv_icmp_ge (tgt := 22) hx hb dX2_forget_6 (by decide) (fun c_6 => ?_) (fun c_6 => ?_)
  · have n_6 : 1088 ≤ i := (nI_leI (a := 1088) (b := i) (by omega) (by omega)).mp c_6
    obtain rfl : i = 1088 := by omega
    refine lv_iconst (v := 0) hx hb dX2_forget_22 (by decide) ?_
    refine lv_istore_n (lv' := [(2, .int 0), (0, .ref h0), (1, .int (nI r))]) hx hb dX2_forget_23 rfl hl (by decide) rfl (fun ls hl => ?_)
    refine k_loop (Nat) 24 4 (fun u => u ≤ 4) (fun u => 4 - u) (fun u => [(h0, .inr (2, [.ref (ad 21), .ref (ad 22), .ref (ad 23), .ref (ad 24), .ref (ad 25)])), ((ad 21), .inl (cI, 1088, .inl (eN (itr (fgK r) u ks)))), ((ad 22), .inl (cZ, 1088, .inl (eB (itr (fgM r) u mr)))), ((ad 23), .inl (cZ, 64, .inl (eB (itr (fgO r) 1088 old)))), ((ad 24), .inl (cI, 17408, .inl (eO (itr (fgH r) 1088 hd)))), ((ad 25), .inl (cI, 64, .inl (eN (cn (itr (fgH r) 1088 hd)))))]) (fun u => [(0, .ref h0), (1, .int (nI r)), (2, .int (nI u))]) ?_ (0) (Nat.zero_le _) (hP.sub [0, 1, 2, 3, 4, 5] rfl) (hD.sub [0, 1, 2, 3, 4, 5] (by decide) rfl) hS (lv_sub hl [1, 2, 0] rfl)
    intro a H locs ls hinv hP hD hS hl ih_24
    have hinv : a ≤ 4 := hinv
    have hP : va_P D vwCl [(h0, .inr (2, [.ref (ad 21), .ref (ad 22), .ref (ad 23), .ref (ad 24), .ref (ad 25)])), ((ad 21), .inl (cI, 1088, .inl (eN (itr (fgK r) a ks)))), ((ad 22), .inl (cZ, 1088, .inl (eB (itr (fgM r) a mr)))), ((ad 23), .inl (cZ, 64, .inl (eB (itr (fgO r) 1088 old)))), ((ad 24), .inl (cI, 17408, .inl (eO (itr (fgH r) 1088 hd)))), ((ad 25), .inl (cI, 64, .inl (eN (cn (itr (fgH r) 1088 hd)))))] H := hP
    have hD : va_D A [(h0, .inr (2, [.ref (ad 21), .ref (ad 22), .ref (ad 23), .ref (ad 24), .ref (ad 25)])), ((ad 21), .inl (cI, 1088, .inl (eN (itr (fgK r) a ks)))), ((ad 22), .inl (cZ, 1088, .inl (eB (itr (fgM r) a mr)))), ((ad 23), .inl (cZ, 64, .inl (eB (itr (fgO r) 1088 old)))), ((ad 24), .inl (cI, 17408, .inl (eO (itr (fgH r) 1088 hd)))), ((ad 25), .inl (cI, 64, .inl (eN (cn (itr (fgH r) 1088 hd)))))] := hD
    have hl : lv_has ls 4 [(0, .ref h0), (1, .int (nI r)), (2, .int (nI a))] := hl
    refine lv_iload_n hx hb dX2_forget_24 rfl (lv_at hl 2 rfl) ?_
    refine lv_iconst (v := 4) hx hb dX2_forget_25 (by decide) ?_
    refine lv_icmp_ge (tgt := 68) hx hb dX2_forget_26 (by decide) (fun c_26 => ?_) (fun c_26 => ?_)
    · have n_26 : 4 ≤ a := (nI_leI (a := 4) (b := a) (by omega) (by omega)).mp c_26
      obtain rfl : a = 4 := by omega
      exact k_vret E hK hP hD hS () [0, 1, 2, 3, 4, 5] (by decide) rfl trivial (Nat.le_of_ble_eq_true rfl) (Nat.le_of_ble_eq_true rfl) dX2_forget_68
    · have n_26 : ¬ 4 ≤ a := fun h => c_26 ((nI_leI (a := 4) (b := a) (by omega) (by omega)).mpr h)
      refine lv_aload_n hx hb dX2_forget_29 rfl (lv_at hl 0 rfl) ?_
      refine lv_iload_n hx hb dX2_forget_30 rfl (lv_at hl 2 rfl) ?_
      refine lv_iload_n hx hb dX2_forget_31 rfl (lv_at hl 1 rfl) ?_
      refine kSNi (As := [.int (nI a), .int (nI r)]) (rest := [.ref h0]) (wr := [(h0, .inr (2, [.ref (ad 21), .ref (ad 22), .ref (ad 23), .ref (ad 24), .ref (ad 25)])), ((ad 21), .inl (cI, 1088, .inl (eN (itr (fgK r) a ks)))), ((ad 22), .inl (cZ, 1088, .inl (eB (itr (fgM r) a mr)))), ((ad 23), .inl (cZ, 64, .inl (eB (itr (fgO r) 1088 old)))), ((ad 24), .inl (cI, 17408, .inl (eO (itr (fgH r) 1088 hd)))), ((ad 25), .inl (cI, 64, .inl (eN (cn (itr (fgH r) 1088 hd)))))]) (w2 := fun _ => [(h0, .inr (2, [.ref (ad 21), .ref (ad 22), .ref (ad 23), .ref (ad 24), .ref (ad 25)])), ((ad 21), .inl (cI, 1088, .inl (eN (itr (fgK r) a ks)))), ((ad 22), .inl (cZ, 1088, .inl (eB (itr (fgM r) a mr)))), ((ad 23), .inl (cZ, 64, .inl (eB (itr (fgO r) 1088 old)))), ((ad 24), .inl (cI, 17408, .inl (eO (itr (fgH r) 1088 hd)))), ((ad 25), .inl (cI, 64, .inl (eN (cn (itr (fgH r) 1088 hd)))))]) ⟨hx, hb, hml, hown, hts⟩ hN (c_routerKey l D cI cZ cJ a r) ⟨va_cnB (host := "RoutingDomain") 2 hts (goodIn_sub m_dbForget_WrouterKey gd_routerKey) rfl rfl rfl (hN (_, 42, _, _) (by decide +kernel) : va_Nw (.methodLinkNest RX2 42 yX9_routerKey "RoutingDomain") s) (hts (.initialized RX9) (m_dbForget_O _ (by decide +kernel))) (by decide +kernel) ⟨Nat.le_of_ble_eq_true rfl, Nat.le_of_ble_eq_true rfl⟩, (hts (.static yX9_routerKey) (m_dbForget_O _ (by decide +kernel))), trivial⟩ hK hP hD hS hA [] [0, 1, 2, 3, 4, 5] [0, 1, 2, 3, 4, 5] rfl rfl ⟨by decide, by decide, by decide⟩ (by decide) (fun _ => rfl) rfl hl.1 rfl (Nat.le_of_ble_eq_true rfl) dX2_forget_32 ⟨Nat.le_of_ble_eq_true rfl, Nat.le_of_ble_eq_true rfl⟩ (fun res_ u H locs hw hP hD hS => ?_)
      have hP : va_P D vwCl [(h0, .inr (2, [.ref (ad 21), .ref (ad 22), .ref (ad 23), .ref (ad 24), .ref (ad 25)])), ((ad 21), .inl (cI, 1088, .inl (eN (itr (fgK r) a ks)))), ((ad 22), .inl (cZ, 1088, .inl (eB (itr (fgM r) a mr)))), ((ad 23), .inl (cZ, 64, .inl (eB (itr (fgO r) 1088 old)))), ((ad 24), .inl (cI, 17408, .inl (eO (itr (fgH r) 1088 hd)))), ((ad 25), .inl (cI, 64, .inl (eN (cn (itr (fgH r) 1088 hd)))))] H := hP
      have hD : va_D A [(h0, .inr (2, [.ref (ad 21), .ref (ad 22), .ref (ad 23), .ref (ad 24), .ref (ad 25)])), ((ad 21), .inl (cI, 1088, .inl (eN (itr (fgK r) a ks)))), ((ad 22), .inl (cZ, 1088, .inl (eB (itr (fgM r) a mr)))), ((ad 23), .inl (cZ, 64, .inl (eB (itr (fgO r) 1088 old)))), ((ad 24), .inl (cI, 17408, .inl (eO (itr (fgH r) 1088 hd)))), ((ad 25), .inl (cI, 64, .inl (eN (cn (itr (fgH r) 1088 hd)))))] := hD
      obtain rfl : res_ = (nI (a * 272 + r)) := hw
      refine kVv (As := [.int (nI (a * 272 + r))]) (rest := []) (wr := [((ad 23), .inl (cZ, 64, .inl (eB (itr (fgO r) 1088 old)))), ((ad 24), .inl (cI, 17408, .inl (eO (itr (fgH r) 1088 hd)))), ((ad 25), .inl (cI, 64, .inl (eN (cn (itr (fgH r) 1088 hd)))))]) (w2 := fun _ => [(h0, .inr (2, [.ref (ad 21), .ref (ad 22), .ref (ad 23), .ref (ad 24), .ref (ad 25)])), ((ad 21), .inl (cI, 1088, .inl (eN (fs (itr (fgK r) a ks) (a * 272 + r) 0)))), ((ad 22), .inl (cZ, 1088, .inl (eB (fs (itr (fgM r) a mr) (a * 272 + r) false)))), ((ad 23), .inl (cZ, 64, .inl (eB (itr (fgO r) 1088 old)))), ((ad 24), .inl (cI, 17408, .inl (eO (itr (fgH r) 1088 hd)))), ((ad 25), .inl (cI, 64, .inl (eN (cn (itr (fgH r) 1088 hd)))))]) ⟨hx, hb, hml, hown, hts⟩ hN (c_forgetKey l D cI cZ cJ h0 ad (itr (fgK r) a ks) (itr (fgM r) a mr) (a * 272 + r) (by omega)) (cwV 1 hts (k_gV (fun w h => m_dbForget_O w ((by decide +kernel : ∀ w ∈ ([.methodLink RX2 45 yX2_forgetKey, .instanceMethod yX2_forgetKey, .selects RX2 yX2_forgetKey yX2_forgetKey, .initialized RX2] : List Cond), w ∈ O_dbForget) w h)) m_dbForget_WforgetKey gd_forgetKey) rfl rfl rfl (by decide +kernel) ⟨Nat.le_of_ble_eq_true rfl, Nat.le_of_ble_eq_true rfl⟩) hK hP hD hS hA [0, 1, 2] [3, 4, 5] [3, 4, 5, 0, 1, 2] rfl rfl ⟨by decide, by decide, by decide⟩ (by decide) (fun _ => rfl) 2 0 rfl rfl rfl rfl hl.1 rfl (Nat.le_of_ble_eq_true rfl) dX2_forget_35 ⟨Nat.le_of_ble_eq_true rfl, Nat.le_of_ble_eq_true rfl⟩ (fun u H locs hw hP hD hS => ?_)
      have hP : va_P D vwCl [(h0, .inr (2, [.ref (ad 21), .ref (ad 22), .ref (ad 23), .ref (ad 24), .ref (ad 25)])), ((ad 21), .inl (cI, 1088, .inl (eN (fs (itr (fgK r) a ks) (a * 272 + r) 0)))), ((ad 22), .inl (cZ, 1088, .inl (eB (fs (itr (fgM r) a mr) (a * 272 + r) false)))), ((ad 23), .inl (cZ, 64, .inl (eB (itr (fgO r) 1088 old)))), ((ad 24), .inl (cI, 17408, .inl (eO (itr (fgH r) 1088 hd)))), ((ad 25), .inl (cI, 64, .inl (eN (cn (itr (fgH r) 1088 hd)))))] H := hP
      have hD : va_D A [(h0, .inr (2, [.ref (ad 21), .ref (ad 22), .ref (ad 23), .ref (ad 24), .ref (ad 25)])), ((ad 21), .inl (cI, 1088, .inl (eN (fs (itr (fgK r) a ks) (a * 272 + r) 0)))), ((ad 22), .inl (cZ, 1088, .inl (eB (fs (itr (fgM r) a mr) (a * 272 + r) false)))), ((ad 23), .inl (cZ, 64, .inl (eB (itr (fgO r) 1088 old)))), ((ad 24), .inl (cI, 17408, .inl (eO (itr (fgH r) 1088 hd)))), ((ad 25), .inl (cI, 64, .inl (eN (cn (itr (fgH r) 1088 hd)))))] := hD
      refine lv_iconst (v := 0) hx hb dX2_forget_38 (by decide) ?_
      refine lv_istore_n (lv' := [(3, .int 0), (0, .ref h0), (1, .int (nI r)), (2, .int (nI a))]) hx hb dX2_forget_39 rfl hl (by decide) rfl (fun ls hl => ?_)
      refine k_loop (Nat) 40 4 (fun u => u ≤ 16) (fun u => 16 - u) (fun u => [(h0, .inr (2, [.ref (ad 21), .ref (ad 22), .ref (ad 23), .ref (ad 24), .ref (ad 25)])), ((ad 21), .inl (cI, 1088, .inl (eN (itr (fgK1 r a) u (fs (itr (fgK r) a ks) (a * 272 + r) 0))))), ((ad 22), .inl (cZ, 1088, .inl (eB (itr (fgM1 r a) u (fs (itr (fgM r) a mr) (a * 272 + r) false))))), ((ad 23), .inl (cZ, 64, .inl (eB (itr (fgO r) 1088 old)))), ((ad 24), .inl (cI, 17408, .inl (eO (itr (fgH r) 1088 hd)))), ((ad 25), .inl (cI, 64, .inl (eN (cn (itr (fgH r) 1088 hd)))))]) (fun u => [(0, .ref h0), (1, .int (nI r)), (2, .int (nI a)), (3, .int (nI u))]) ?_ (0) (Nat.zero_le _) (hP.sub [0, 1, 2, 3, 4, 5] rfl) (hD.sub [0, 1, 2, 3, 4, 5] (by decide) rfl) hS (lv_sub hl [1, 2, 3, 0] rfl)
      intro n H locs ls hinv hP hD hS hl ih_40
      have hinv : n ≤ 16 := hinv
      have hP : va_P D vwCl [(h0, .inr (2, [.ref (ad 21), .ref (ad 22), .ref (ad 23), .ref (ad 24), .ref (ad 25)])), ((ad 21), .inl (cI, 1088, .inl (eN (itr (fgK1 r a) n (fs (itr (fgK r) a ks) (a * 272 + r) 0))))), ((ad 22), .inl (cZ, 1088, .inl (eB (itr (fgM1 r a) n (fs (itr (fgM r) a mr) (a * 272 + r) false))))), ((ad 23), .inl (cZ, 64, .inl (eB (itr (fgO r) 1088 old)))), ((ad 24), .inl (cI, 17408, .inl (eO (itr (fgH r) 1088 hd)))), ((ad 25), .inl (cI, 64, .inl (eN (cn (itr (fgH r) 1088 hd)))))] H := hP
      have hD : va_D A [(h0, .inr (2, [.ref (ad 21), .ref (ad 22), .ref (ad 23), .ref (ad 24), .ref (ad 25)])), ((ad 21), .inl (cI, 1088, .inl (eN (itr (fgK1 r a) n (fs (itr (fgK r) a ks) (a * 272 + r) 0))))), ((ad 22), .inl (cZ, 1088, .inl (eB (itr (fgM1 r a) n (fs (itr (fgM r) a mr) (a * 272 + r) false))))), ((ad 23), .inl (cZ, 64, .inl (eB (itr (fgO r) 1088 old)))), ((ad 24), .inl (cI, 17408, .inl (eO (itr (fgH r) 1088 hd)))), ((ad 25), .inl (cI, 64, .inl (eN (cn (itr (fgH r) 1088 hd)))))] := hD
      have hl : lv_has ls 4 [(0, .ref h0), (1, .int (nI r)), (2, .int (nI a)), (3, .int (nI n))] := hl
      refine lv_iload_n hx hb dX2_forget_40 rfl (lv_at hl 3 rfl) ?_
      refine lv_bipush (v := 16) hx hb dX2_forget_41 (by decide) ?_
      refine lv_icmp_ge (tgt := 62) hx hb dX2_forget_43 (by decide) (fun c_43 => ?_) (fun c_43 => ?_)
      · have n_43 : 16 ≤ n := (nI_leI (a := 16) (b := n) (by omega) (by omega)).mp c_43
        obtain rfl : n = 16 := by omega
        refine lv_iinc (v := (nI (a + 1))) (lv' := [(2, .int (nI (a + 1))), (0, .ref h0), (1, .int (nI r)), (3, .int (nI 16))]) hx hb dX2_forget_62 hl (k := 2) rfl (nI_add a 1) (by decide) rfl (fun ls hl => ?_)
        refine lv_goto (tgt := 24) hx hb dX2_forget_65 (by decide) ?_
        rw [show (itr (fgK1 r a) 16 (fs (itr (fgK r) a ks) (a * 272 + r) 0)) = (itr (fgK r) (a + 1) ks) from (by first | rfl | (simp [itr_s, n_6, n_26, n_43]; done))] at hP hD
        rw [show (itr (fgM1 r a) 16 (fs (itr (fgM r) a mr) (a * 272 + r) false)) = (itr (fgM r) (a + 1) mr) from (by first | rfl | (simp [itr_s, n_6, n_26, n_43]; done))] at hP hD
        exact ih_24 (a + 1) H locs ls (by show a + 1 ≤ 4; omega) (by show 4 - (a + 1) < 4 - a; omega) (hP.sub [0, 1, 2, 3, 4, 5] rfl) (hD.sub [0, 1, 2, 3, 4, 5] (by decide) rfl) hS (lv_sub hl [1, 2, 0] rfl)
      · have n_43 : ¬ 16 ≤ n := fun h => c_43 ((nI_leI (a := 16) (b := n) (by omega) (by omega)).mpr h)
        refine lv_aload_n hx hb dX2_forget_46 rfl (lv_at hl 0 rfl) ?_
        refine lv_iload_n hx hb dX2_forget_47 rfl (lv_at hl 2 rfl) ?_
        refine lv_iload_n hx hb dX2_forget_48 rfl (lv_at hl 1 rfl) ?_
        refine lv_iload_n hx hb dX2_forget_49 rfl (lv_at hl 3 rfl) ?_
        refine kSNi (As := [.int (nI a), .int (nI r), .int (nI n)]) (rest := [.ref h0]) (wr := [(h0, .inr (2, [.ref (ad 21), .ref (ad 22), .ref (ad 23), .ref (ad 24), .ref (ad 25)])), ((ad 21), .inl (cI, 1088, .inl (eN (itr (fgK1 r a) n (fs (itr (fgK r) a ks) (a * 272 + r) 0))))), ((ad 22), .inl (cZ, 1088, .inl (eB (itr (fgM1 r a) n (fs (itr (fgM r) a mr) (a * 272 + r) false))))), ((ad 23), .inl (cZ, 64, .inl (eB (itr (fgO r) 1088 old)))), ((ad 24), .inl (cI, 17408, .inl (eO (itr (fgH r) 1088 hd)))), ((ad 25), .inl (cI, 64, .inl (eN (cn (itr (fgH r) 1088 hd)))))]) (w2 := fun _ => [(h0, .inr (2, [.ref (ad 21), .ref (ad 22), .ref (ad 23), .ref (ad 24), .ref (ad 25)])), ((ad 21), .inl (cI, 1088, .inl (eN (itr (fgK1 r a) n (fs (itr (fgK r) a ks) (a * 272 + r) 0))))), ((ad 22), .inl (cZ, 1088, .inl (eB (itr (fgM1 r a) n (fs (itr (fgM r) a mr) (a * 272 + r) false))))), ((ad 23), .inl (cZ, 64, .inl (eB (itr (fgO r) 1088 old)))), ((ad 24), .inl (cI, 17408, .inl (eO (itr (fgH r) 1088 hd)))), ((ad 25), .inl (cI, 64, .inl (eN (cn (itr (fgH r) 1088 hd)))))]) ⟨hx, hb, hml, hown, hts⟩ hN (c_summaryKey l D cI cZ cJ a r n) ⟨va_cnB (host := "RoutingDomain") 3 hts (goodIn_sub m_dbForget_WsummaryKey gd_summaryKey) rfl rfl rfl (hN (_, 49, _, _) (by decide +kernel) : va_Nw (.methodLinkNest RX2 49 yX9_summaryKey "RoutingDomain") s) (hts (.initialized RX9) (m_dbForget_O _ (by decide +kernel))) (by decide +kernel) ⟨Nat.le_of_ble_eq_true rfl, Nat.le_of_ble_eq_true rfl⟩, (hts (.static yX9_summaryKey) (m_dbForget_O _ (by decide +kernel))), trivial⟩ hK hP hD hS hA [] [0, 1, 2, 3, 4, 5] [0, 1, 2, 3, 4, 5] rfl rfl ⟨by decide, by decide, by decide⟩ (by decide) (fun _ => rfl) rfl hl.1 rfl (Nat.le_of_ble_eq_true rfl) dX2_forget_50 ⟨Nat.le_of_ble_eq_true rfl, Nat.le_of_ble_eq_true rfl⟩ (fun res_ u H locs hw hP hD hS => ?_)
        have hP : va_P D vwCl [(h0, .inr (2, [.ref (ad 21), .ref (ad 22), .ref (ad 23), .ref (ad 24), .ref (ad 25)])), ((ad 21), .inl (cI, 1088, .inl (eN (itr (fgK1 r a) n (fs (itr (fgK r) a ks) (a * 272 + r) 0))))), ((ad 22), .inl (cZ, 1088, .inl (eB (itr (fgM1 r a) n (fs (itr (fgM r) a mr) (a * 272 + r) false))))), ((ad 23), .inl (cZ, 64, .inl (eB (itr (fgO r) 1088 old)))), ((ad 24), .inl (cI, 17408, .inl (eO (itr (fgH r) 1088 hd)))), ((ad 25), .inl (cI, 64, .inl (eN (cn (itr (fgH r) 1088 hd)))))] H := hP
        have hD : va_D A [(h0, .inr (2, [.ref (ad 21), .ref (ad 22), .ref (ad 23), .ref (ad 24), .ref (ad 25)])), ((ad 21), .inl (cI, 1088, .inl (eN (itr (fgK1 r a) n (fs (itr (fgK r) a ks) (a * 272 + r) 0))))), ((ad 22), .inl (cZ, 1088, .inl (eB (itr (fgM1 r a) n (fs (itr (fgM r) a mr) (a * 272 + r) false))))), ((ad 23), .inl (cZ, 64, .inl (eB (itr (fgO r) 1088 old)))), ((ad 24), .inl (cI, 17408, .inl (eO (itr (fgH r) 1088 hd)))), ((ad 25), .inl (cI, 64, .inl (eN (cn (itr (fgH r) 1088 hd)))))] := hD
        obtain rfl : res_ = (nI (a * 272 + 16 + r * 16 + n)) := hw
        refine kVv (As := [.int (nI (a * 272 + 16 + r * 16 + n))]) (rest := []) (wr := [((ad 23), .inl (cZ, 64, .inl (eB (itr (fgO r) 1088 old)))), ((ad 24), .inl (cI, 17408, .inl (eO (itr (fgH r) 1088 hd)))), ((ad 25), .inl (cI, 64, .inl (eN (cn (itr (fgH r) 1088 hd)))))]) (w2 := fun _ => [(h0, .inr (2, [.ref (ad 21), .ref (ad 22), .ref (ad 23), .ref (ad 24), .ref (ad 25)])), ((ad 21), .inl (cI, 1088, .inl (eN (fs (itr (fgK1 r a) n (fs (itr (fgK r) a ks) (a * 272 + r) 0)) (a * 272 + 16 + r * 16 + n) 0)))), ((ad 22), .inl (cZ, 1088, .inl (eB (fs (itr (fgM1 r a) n (fs (itr (fgM r) a mr) (a * 272 + r) false)) (a * 272 + 16 + r * 16 + n) false)))), ((ad 23), .inl (cZ, 64, .inl (eB (itr (fgO r) 1088 old)))), ((ad 24), .inl (cI, 17408, .inl (eO (itr (fgH r) 1088 hd)))), ((ad 25), .inl (cI, 64, .inl (eN (cn (itr (fgH r) 1088 hd)))))]) ⟨hx, hb, hml, hown, hts⟩ hN (c_forgetKey l D cI cZ cJ h0 ad (itr (fgK1 r a) n (fs (itr (fgK r) a ks) (a * 272 + r) 0)) (itr (fgM1 r a) n (fs (itr (fgM r) a mr) (a * 272 + r) false)) (a * 272 + 16 + r * 16 + n) (by omega)) (cwV 1 hts (k_gV (fun w h => m_dbForget_O w ((by decide +kernel : ∀ w ∈ ([.methodLink RX2 45 yX2_forgetKey, .instanceMethod yX2_forgetKey, .selects RX2 yX2_forgetKey yX2_forgetKey, .initialized RX2] : List Cond), w ∈ O_dbForget) w h)) m_dbForget_WforgetKey gd_forgetKey) rfl rfl rfl (by decide +kernel) ⟨Nat.le_of_ble_eq_true rfl, Nat.le_of_ble_eq_true rfl⟩) hK hP hD hS hA [0, 1, 2] [3, 4, 5] [3, 4, 5, 0, 1, 2] rfl rfl ⟨by decide, by decide, by decide⟩ (by decide) (fun _ => rfl) 2 0 rfl rfl rfl rfl hl.1 rfl (Nat.le_of_ble_eq_true rfl) dX2_forget_53 ⟨Nat.le_of_ble_eq_true rfl, Nat.le_of_ble_eq_true rfl⟩ (fun u H locs hw hP hD hS => ?_)
        have hP : va_P D vwCl [(h0, .inr (2, [.ref (ad 21), .ref (ad 22), .ref (ad 23), .ref (ad 24), .ref (ad 25)])), ((ad 21), .inl (cI, 1088, .inl (eN (fs (itr (fgK1 r a) n (fs (itr (fgK r) a ks) (a * 272 + r) 0)) (a * 272 + 16 + r * 16 + n) 0)))), ((ad 22), .inl (cZ, 1088, .inl (eB (fs (itr (fgM1 r a) n (fs (itr (fgM r) a mr) (a * 272 + r) false)) (a * 272 + 16 + r * 16 + n) false)))), ((ad 23), .inl (cZ, 64, .inl (eB (itr (fgO r) 1088 old)))), ((ad 24), .inl (cI, 17408, .inl (eO (itr (fgH r) 1088 hd)))), ((ad 25), .inl (cI, 64, .inl (eN (cn (itr (fgH r) 1088 hd)))))] H := hP
        have hD : va_D A [(h0, .inr (2, [.ref (ad 21), .ref (ad 22), .ref (ad 23), .ref (ad 24), .ref (ad 25)])), ((ad 21), .inl (cI, 1088, .inl (eN (fs (itr (fgK1 r a) n (fs (itr (fgK r) a ks) (a * 272 + r) 0)) (a * 272 + 16 + r * 16 + n) 0)))), ((ad 22), .inl (cZ, 1088, .inl (eB (fs (itr (fgM1 r a) n (fs (itr (fgM r) a mr) (a * 272 + r) false)) (a * 272 + 16 + r * 16 + n) false)))), ((ad 23), .inl (cZ, 64, .inl (eB (itr (fgO r) 1088 old)))), ((ad 24), .inl (cI, 17408, .inl (eO (itr (fgH r) 1088 hd)))), ((ad 25), .inl (cI, 64, .inl (eN (cn (itr (fgH r) 1088 hd)))))] := hD
        refine lv_iinc (v := (nI (n + 1))) (lv' := [(3, .int (nI (n + 1))), (0, .ref h0), (1, .int (nI r)), (2, .int (nI a))]) hx hb dX2_forget_56 hl (k := 3) rfl (nI_add n 1) (by decide) rfl (fun ls hl => ?_)
        refine lv_goto (tgt := 40) hx hb dX2_forget_59 (by decide) ?_
        rw [show (fs (itr (fgK1 r a) n (fs (itr (fgK r) a ks) (a * 272 + r) 0)) (a * 272 + 16 + r * 16 + n) 0) = (itr (fgK1 r a) (n + 1) (fs (itr (fgK r) a ks) (a * 272 + r) 0)) from (by first | rfl | (simp [itr_s, n_6, n_26, n_43]; done))] at hP hD
        rw [show (fs (itr (fgM1 r a) n (fs (itr (fgM r) a mr) (a * 272 + r) false)) (a * 272 + 16 + r * 16 + n) false) = (itr (fgM1 r a) (n + 1) (fs (itr (fgM r) a mr) (a * 272 + r) false)) from (by first | rfl | (simp [itr_s, n_6, n_26, n_43]; done))] at hP hD
        exact ih_40 (n + 1) H locs ls (by show n + 1 ≤ 16; omega) (by show 16 - (n + 1) < 16 - n; omega) (hP.sub [0, 1, 2, 3, 4, 5] rfl) (hD.sub [0, 1, 2, 3, 4, 5] (by decide) rfl) hS (lv_sub hl [1, 2, 3, 0] rfl)
  · have n_6 : ¬ 1088 ≤ i := fun h => c_6 ((nI_leI (a := 1088) (b := i) (by omega) (by omega)).mpr h)
    refine lv_aload_n hx hb dX2_forget_9 rfl (lv_at hl 0 rfl) ?_
    refine lv_iload_n hx hb dX2_forget_10 rfl (lv_at hl 1 rfl) ?_
    refine lv_iload_n hx hb dX2_forget_11 rfl (lv_at hl 2 rfl) ?_
    refine lv_iconst (v := (-1)) hx hb dX2_forget_12 (by decide) ?_
    refine kVv (As := [.int (nI r), .int (nI i), .int (-1)]) (rest := []) (wr := [((ad 21), .inl (cI, 1088, .inl (eN ks))), ((ad 22), .inl (cZ, 1088, .inl (eB mr)))]) (w2 := fun _ => [(h0, .inr (2, [.ref (ad 21), .ref (ad 22), .ref (ad 23), .ref (ad 24), .ref (ad 25)])), ((ad 21), .inl (cI, 1088, .inl (eN ks))), ((ad 22), .inl (cZ, 1088, .inl (eB mr))), ((ad 23), .inl (cZ, 64, .inl (eB (rol (itr (fgO r) i old) r i)))), ((ad 24), .inl (cI, 17408, .inl (eO (fs (itr (fgH r) i hd) (r * 1088 + i) none)))), ((ad 25), .inl (cI, 64, .inl (eN (cn (fs (itr (fgH r) i hd) (r * 1088 + i) none)))))]) ⟨hx, hb, hml, hown, hts⟩ hN (c_replN l D cI cZ cJ h0 ad (itr (fgO r) i old) (itr (fgH r) i hd) r i hr (by omega) (fun j w hw => hhd j w (fgH_sub i hw))) (cwV 3 hts (k_gV (fun w h => m_dbForget_O w ((by decide +kernel : ∀ w ∈ ([.methodLink RX2 38 yX2_replace, .instanceMethod yX2_replace, .selects RX2 yX2_replace yX2_replace, .initialized RX2] : List Cond), w ∈ O_dbForget) w h)) m_dbForget_WreplN gd_replN) rfl rfl rfl (by decide +kernel) ⟨Nat.le_of_ble_eq_true rfl, Nat.le_of_ble_eq_true rfl⟩) hK hP hD hS hA [0, 3, 4, 5] [1, 2] [2, 0, 1, 3, 4, 5] rfl rfl ⟨by decide, by decide, by decide⟩ (by decide) (fun _ => rfl) 2 0 rfl rfl rfl rfl hl.1 rfl (Nat.le_of_ble_eq_true rfl) dX2_forget_13 ⟨Nat.le_of_ble_eq_true rfl, Nat.le_of_ble_eq_true rfl⟩ (fun u H locs hw hP hD hS => ?_)
    have hP : va_P D vwCl [(h0, .inr (2, [.ref (ad 21), .ref (ad 22), .ref (ad 23), .ref (ad 24), .ref (ad 25)])), ((ad 21), .inl (cI, 1088, .inl (eN ks))), ((ad 22), .inl (cZ, 1088, .inl (eB mr))), ((ad 23), .inl (cZ, 64, .inl (eB (rol (itr (fgO r) i old) r i)))), ((ad 24), .inl (cI, 17408, .inl (eO (fs (itr (fgH r) i hd) (r * 1088 + i) none)))), ((ad 25), .inl (cI, 64, .inl (eN (cn (fs (itr (fgH r) i hd) (r * 1088 + i) none)))))] H := hP
    have hD : va_D A [(h0, .inr (2, [.ref (ad 21), .ref (ad 22), .ref (ad 23), .ref (ad 24), .ref (ad 25)])), ((ad 21), .inl (cI, 1088, .inl (eN ks))), ((ad 22), .inl (cZ, 1088, .inl (eB mr))), ((ad 23), .inl (cZ, 64, .inl (eB (rol (itr (fgO r) i old) r i)))), ((ad 24), .inl (cI, 17408, .inl (eO (fs (itr (fgH r) i hd) (r * 1088 + i) none)))), ((ad 25), .inl (cI, 64, .inl (eN (cn (fs (itr (fgH r) i hd) (r * 1088 + i) none)))))] := hD
    refine lv_iinc (v := (nI (i + 1))) (lv' := [(2, .int (nI (i + 1))), (0, .ref h0), (1, .int (nI r))]) hx hb dX2_forget_16 hl (k := 2) rfl (nI_add i 1) (by decide) rfl (fun ls hl => ?_)
    refine lv_goto (tgt := 2) hx hb dX2_forget_19 (by decide) ?_
    rw [show (rol (itr (fgO r) i old) r i) = (itr (fgO r) (i + 1) old) from (by first | rfl | (simp [itr_s, n_6]; done))] at hP hD
    rw [show (fs (itr (fgH r) i hd) (r * 1088 + i) none) = (itr (fgH r) (i + 1) hd) from (by first | rfl | (simp [itr_s, n_6]; done))] at hP hD
    exact ih_2 (i + 1) H locs ls (by show i + 1 ≤ 1088; omega) (by show 1088 - (i + 1) < 1088 - i; omega) (hP.sub [0, 1, 2, 3, 4, 5] rfl) (hD.sub [0, 1, 2, 3, 4, 5] (by decide) rfl) hS (lv_sub hl [1, 2, 0] rfl)

