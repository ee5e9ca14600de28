theorem dX4_follow_0 : decode cX4_follow 0 = .ok (.iload_n 1, 1) := by decide +kernel
theorem dX4_follow_1 : decode cX4_follow 1 = .ok (.istore_n 3, 1) := by decide +kernel
theorem dX4_follow_2 : decode cX4_follow 2 = .ok (.iconst 0, 1) := by decide +kernel
theorem dX4_follow_3 : decode cX4_follow 3 = .ok (.istore 4, 2) := by decide +kernel
theorem dX4_follow_5 : decode cX4_follow 5 = .ok (.iload 4, 2) := by decide +kernel
theorem dX4_follow_7 : decode cX4_follow 7 = .ok (.bipush 32, 2) := by decide +kernel
theorem dX4_follow_9 : decode cX4_follow 9 = .ok (.if_icmp .gt 137, 3) := by decide +kernel
theorem dX4_follow_12 : decode cX4_follow 12 = .ok (.aload_n 0, 1) := by decide +kernel
theorem dX4_follow_13 : decode cX4_follow 13 = .ok (.getfield 9, 3) := by decide +kernel
theorem dX4_follow_16 : decode cX4_follow 16 = .ok (.iload 4, 2) := by decide +kernel
theorem dX4_follow_18 : decode cX4_follow 18 = .ok (.iload_n 3, 1) := by decide +kernel
theorem dX4_follow_19 : decode cX4_follow 19 = .ok (.iastore, 1) := by decide +kernel
theorem dX4_follow_20 : decode cX4_follow 20 = .ok (.aload_n 0, 1) := by decide +kernel
theorem dX4_follow_21 : decode cX4_follow 21 = .ok (.iload 4, 2) := by decide +kernel
theorem dX4_follow_23 : decode cX4_follow 23 = .ok (.iconst 1, 1) := by decide +kernel
theorem dX4_follow_24 : decode cX4_follow 24 = .ok (.iadd, 1) := by decide +kernel
theorem dX4_follow_25 : decode cX4_follow 25 = .ok (.putfield 23, 3) := by decide +kernel
theorem dX4_follow_28 : decode cX4_follow 28 = .ok (.iload_n 3, 1) := by decide +kernel
theorem dX4_follow_29 : decode cX4_follow 29 = .ok (.iload_n 2, 1) := by decide +kernel
theorem dX4_follow_30 : decode cX4_follow 30 = .ok (.invokestatic 27, 3) := by decide +kernel
theorem dX4_follow_33 : decode cX4_follow 33 = .ok (.istore 5, 2) := by decide +kernel
theorem dX4_follow_35 : decode cX4_follow 35 = .ok (.aload_n 0, 1) := by decide +kernel
theorem dX4_follow_36 : decode cX4_follow 36 = .ok (.getfield 19, 3) := by decide +kernel
theorem dX4_follow_39 : decode cX4_follow 39 = .ok (.getfield 31, 3) := by decide +kernel
theorem dX4_follow_42 : decode cX4_follow 42 = .ok (.iload 5, 2) := by decide +kernel
theorem dX4_follow_44 : decode cX4_follow 44 = .ok (.baload, 1) := by decide +kernel
theorem dX4_follow_45 : decode cX4_follow 45 = .ok (.ifCond .eq 6, 3) := by decide +kernel
theorem dX4_follow_48 : decode cX4_follow 48 = .ok (.iload 4, 2) := by decide +kernel
theorem dX4_follow_50 : decode cX4_follow 50 = .ok (.ireturn, 1) := by decide +kernel
theorem dX4_follow_51 : decode cX4_follow 51 = .ok (.aload_n 0, 1) := by decide +kernel
theorem dX4_follow_52 : decode cX4_follow 52 = .ok (.getfield 19, 3) := by decide +kernel
theorem dX4_follow_55 : decode cX4_follow 55 = .ok (.getfield 37, 3) := by decide +kernel
theorem dX4_follow_58 : decode cX4_follow 58 = .ok (.iload 5, 2) := by decide +kernel
theorem dX4_follow_60 : decode cX4_follow 60 = .ok (.laload, 1) := by decide +kernel
theorem dX4_follow_61 : decode cX4_follow 61 = .ok (.iconst 0, 1) := by decide +kernel
theorem dX4_follow_62 : decode cX4_follow 62 = .ok (.invokestatic 41, 3) := by decide +kernel
theorem dX4_follow_65 : decode cX4_follow 65 = .ok (.istore 6, 2) := by decide +kernel
theorem dX4_follow_67 : decode cX4_follow 67 = .ok (.iload 6, 2) := by decide +kernel
theorem dX4_follow_69 : decode cX4_follow 69 = .ok (.iconst (-1), 1) := by decide +kernel
theorem dX4_follow_70 : decode cX4_follow 70 = .ok (.if_icmp .ne 5, 3) := by decide +kernel
theorem dX4_follow_73 : decode cX4_follow 73 = .ok (.iconst (-1), 1) := by decide +kernel
theorem dX4_follow_74 : decode cX4_follow 74 = .ok (.ireturn, 1) := by decide +kernel
theorem dX4_follow_75 : decode cX4_follow 75 = .ok (.aload_n 0, 1) := by decide +kernel
theorem dX4_follow_76 : decode cX4_follow 76 = .ok (.getfield 15, 3) := by decide +kernel
theorem dX4_follow_79 : decode cX4_follow 79 = .ok (.iload 6, 2) := by decide +kernel
theorem dX4_follow_81 : decode cX4_follow 81 = .ok (.invokevirtual 45, 3) := by decide +kernel
theorem dX4_follow_84 : decode cX4_follow 84 = .ok (.ifCond .ne 6, 3) := by decide +kernel
theorem dX4_follow_87 : decode cX4_follow 87 = .ok (.bipush (-2), 2) := by decide +kernel
theorem dX4_follow_89 : decode cX4_follow 89 = .ok (.ireturn, 1) := by decide +kernel
theorem dX4_follow_90 : decode cX4_follow 90 = .ok (.aload_n 0, 1) := by decide +kernel
theorem dX4_follow_91 : decode cX4_follow 91 = .ok (.getfield 15, 3) := by decide +kernel
theorem dX4_follow_94 : decode cX4_follow 94 = .ok (.getfield 51, 3) := by decide +kernel
theorem dX4_follow_97 : decode cX4_follow 97 = .ok (.iload 6, 2) := by decide +kernel
theorem dX4_follow_99 : decode cX4_follow 99 = .ok (.iconst 2, 1) := by decide +kernel
theorem dX4_follow_100 : decode cX4_follow 100 = .ok (.imul, 1) := by decide +kernel
theorem dX4_follow_101 : decode cX4_follow 101 = .ok (.iaload, 1) := by decide +kernel
theorem dX4_follow_102 : decode cX4_follow 102 = .ok (.iload_n 3, 1) := by decide +kernel
theorem dX4_follow_103 : decode cX4_follow 103 = .ok (.if_icmp .ne 7, 3) := by decide +kernel
theorem dX4_follow_106 : decode cX4_follow 106 = .ok (.iconst 1, 1) := by decide +kernel
theorem dX4_follow_107 : decode cX4_follow 107 = .ok (.goto 4, 3) := by decide +kernel
theorem dX4_follow_110 : decode cX4_follow 110 = .ok (.iconst 0, 1) := by decide +kernel
theorem dX4_follow_111 : decode cX4_follow 111 = .ok (.istore 7, 2) := by decide +kernel
theorem dX4_follow_113 : decode cX4_follow 113 = .ok (.aload_n 0, 1) := by decide +kernel
theorem dX4_follow_114 : decode cX4_follow 114 = .ok (.getfield 15, 3) := by decide +kernel
theorem dX4_follow_117 : decode cX4_follow 117 = .ok (.getfield 51, 3) := by decide +kernel
theorem dX4_follow_120 : decode cX4_follow 120 = .ok (.iload 7, 2) := by decide +kernel
theorem dX4_follow_122 : decode cX4_follow 122 = .ok (.ifCond .eq 12, 3) := by decide +kernel
theorem dX4_follow_125 : decode cX4_follow 125 = .ok (.iload 6, 2) := by decide +kernel
theorem dX4_follow_127 : decode cX4_follow 127 = .ok (.iconst 2, 1) := by decide +kernel
theorem dX4_follow_128 : decode cX4_follow 128 = .ok (.imul, 1) := by decide +kernel
theorem dX4_follow_129 : decode cX4_follow 129 = .ok (.iconst 1, 1) := by decide +kernel
theorem dX4_follow_130 : decode cX4_follow 130 = .ok (.iadd, 1) := by decide +kernel
theorem dX4_follow_131 : decode cX4_follow 131 = .ok (.goto 7, 3) := by decide +kernel
theorem dX4_follow_134 : decode cX4_follow 134 = .ok (.iload 6, 2) := by decide +kernel
theorem dX4_follow_136 : decode cX4_follow 136 = .ok (.iconst 2, 1) := by decide +kernel
theorem dX4_follow_137 : decode cX4_follow 137 = .ok (.imul, 1) := by decide +kernel
theorem dX4_follow_138 : decode cX4_follow 138 = .ok (.iaload, 1) := by decide +kernel
theorem dX4_follow_139 : decode cX4_follow 139 = .ok (.istore_n 3, 1) := by decide +kernel
theorem dX4_follow_140 : decode cX4_follow 140 = .ok (.iinc 4 1, 3) := by decide +kernel
theorem dX4_follow_143 : decode cX4_follow 143 = .ok (.goto (-138), 3) := by decide +kernel
theorem dX4_follow_146 : decode cX4_follow 146 = .ok (.bipush (-3), 2) := by decide +kernel
theorem dX4_follow_148 : decode cX4_follow 148 = .ok (.ireturn, 1) := by decide +kernel
theorem dX9_linkAt_0 : decode cX9_linkAt 0 = .ok (.iload_n 2, 1) := by decide +kernel
theorem dX9_linkAt_1 : decode cX9_linkAt 1 = .ok (.istore_n 3, 1) := by decide +kernel
theorem dX9_linkAt_2 : decode cX9_linkAt 2 = .ok (.iconst 0, 1) := by decide +kernel
theorem dX9_linkAt_3 : decode cX9_linkAt 3 = .ok (.istore 4, 2) := by decide +kernel
theorem dX9_linkAt_5 : decode cX9_linkAt 5 = .ok (.iload 4, 2) := by decide +kernel
theorem dX9_linkAt_7 : decode cX9_linkAt 7 = .ok (.bipush 40, 2) := by decide +kernel
theorem dX9_linkAt_9 : decode cX9_linkAt 9 = .ok (.if_icmp .ge 30, 3) := by decide +kernel
theorem dX9_linkAt_12 : decode cX9_linkAt 12 = .ok (.lload_n 0, 1) := by decide +kernel
theorem dX9_linkAt_13 : decode cX9_linkAt 13 = .ok (.iload 4, 2) := by decide +kernel
theorem dX9_linkAt_15 : decode cX9_linkAt 15 = .ok (.lshr, 1) := by decide +kernel
theorem dX9_linkAt_16 : decode cX9_linkAt 16 = .ok (.lconst 1, 1) := by decide +kernel
theorem dX9_linkAt_17 : decode cX9_linkAt 17 = .ok (.land, 1) := by decide +kernel
theorem dX9_linkAt_18 : decode cX9_linkAt 18 = .ok (.lconst 0, 1) := by decide +kernel
theorem dX9_linkAt_19 : decode cX9_linkAt 19 = .ok (.lcmp, 1) := by decide +kernel
theorem dX9_linkAt_20 : decode cX9_linkAt 20 = .ok (.ifCond .eq 13, 3) := by decide +kernel
theorem dX9_linkAt_23 : decode cX9_linkAt 23 = .ok (.iload_n 3, 1) := by decide +kernel
theorem dX9_linkAt_24 : decode cX9_linkAt 24 = .ok (.ifCond .ne 6, 3) := by decide +kernel
theorem dX9_linkAt_27 : decode cX9_linkAt 27 = .ok (.iload 4, 2) := by decide +kernel
theorem dX9_linkAt_29 : decode cX9_linkAt 29 = .ok (.ireturn, 1) := by decide +kernel
theorem dX9_linkAt_33 : decode cX9_linkAt 33 = .ok (.iinc 4 1, 3) := by decide +kernel
theorem dX9_linkAt_36 : decode cX9_linkAt 36 = .ok (.goto (-31), 3) := by decide +kernel
theorem dX9_linkAt_39 : decode cX9_linkAt 39 = .ok (.iconst (-1), 1) := by decide +kernel
theorem dX9_linkAt_40 : decode cX9_linkAt 40 = .ok (.ireturn, 1) := by decide +kernel
/-- the smallest link of a set, from link k on, of n -/
def lbf (g : Nat) : Nat → Nat → Option Nat
  | 0, _ => none
  | n + 1, k => if g / 2 ^ k % 2 = 0 then lbf g n (k + 1) else some k
theorem lg_bit (a : Nat) : lg_cmp (lN (a &&& 1)) 0 = 0 ↔ a % 2 = 0 := by
  rw [lg_cmp_eq, show (0 : Int64) = lN 0 from rfl, lN_eq (by rw [Nat.and_one_is_mod]; omega) (by decide), Nat.and_one_is_mod]
/-- what becomes of a packet: 0 it arrives, 1 no route, 2 a link that is not usable, 3 too many links -/
def fwd (t : TP) (lcl : Nat → Bool) (li : Nat → Nat) (n : Nat) : Nat → Nat → Nat
  | 0, _ => 3
  | k + 1, x => if lcl (x * 16 + n) = true then 0 else match lbf (li (x * 16 + n)) 40 0 with
    | none => 1
    | some e => if tcc t e = true then fwd t lcl li n k (if tRp t (e * 2) = x then tRp t (e * 2 + 1) else tRp t (e * 2)) else 2
def O_linkAt : List Cond := []
def W_linkAt : List Cond := .code yX9_linkAt cX9_linkAt 5 (some .int) :: O_linkAt
theorem m_linkAt_O : ∀ w ∈ O_linkAt, w ∈ W_linkAt := fun _ h => List.mem_cons_of_mem _ h
theorem gdO_linkAt : O_linkAt.all goodWord = true := by decide +kernel
theorem gd_linkAt : W_linkAt.all goodWord = true := k_all_cons rfl gdO_linkAt
set_option maxHeartbeats 4000000 in
set_option maxRecDepth 100000 in
theorem c_linkAt (l : Launch) (D : va_G) (cI cZ cJ : ClassId) (g : Nat) (hg : g < 2 ^ 63) : kMi l yX9_linkAt W_linkAt { frames := 0, cells := 0, slots := 0, locals := 0 } 0 0 D (kT cI cZ cJ) [.long (lN g), .int 0] [] (S := Unit) (fun res_ _ => res_ = (oI (lbf g 40 0))) (fun _ => []) := by
  refine kMi_of (lv := [(0, .long (lN g)), (2, .int 0)]) RX9 "linkAt" (by decide +kernel) rfl rfl rfl (Nat.le_of_ble_eq_true rfl) rfl ?_
  intro p e s m below meth c A H locs ls E hA hK hP hD hS hl
  obtain ⟨hx, hb, hr_, hts, hown, hlocks, hml, hin, hN⟩ := id E
  refine lv_iload_n hx hb dX9_linkAt_0 rfl (lv_at hl 1 rfl) ?_
  refine lv_istore_n (lv' := [(3, .int 0), (0, .long (lN g)), (2, .int 0)]) hx hb dX9_linkAt_1 rfl hl (by decide) rfl (fun ls hl => ?_)
  refine lv_iconst (v := 0) hx hb dX9_linkAt_2 (by decide) ?_
  refine lv_istore (lv' := [(4, .int 0), (3, .int 0), (0, .long (lN g)), (2, .int 0)]) hx hb dX9_linkAt_3 hl (by decide) rfl (fun ls hl => ?_)
  refine k_loop (Nat) 5 5 (fun u => u ≤ 40 ∧ lbf g (40 - u) u = lbf g 40 0) (fun u => 40 - u) (fun u => []) (fun u => [(0, .long (lN g)), (2, .int 0), (3, .int 0), (4, .int (nI u))]) ?_ (0) (⟨Nat.zero_le _, rfl⟩) (hP.sub [] rfl) (hD.sub [] (by decide) rfl) hS (lv_sub hl [2, 3, 1, 0] rfl)
  intro i H locs ls hinv hP hD hS hl ih_5
  have hinv : i ≤ 40 ∧ lbf g (40 - i) i = lbf g 40 0 := hinv
  have hP : va_P D vwCl [] H := hP
  have hD : va_D A [] := hD
  have hl : lv_has ls 5 [(0, .long (lN g)), (2, .int 0), (3, .int 0), (4, .int (nI i))] := hl
  refine lv_iload hx hb dX9_linkAt_5 (lv_at hl 3 rfl) ?_
  refine lv_bipush (v := 40) hx hb dX9_linkAt_7 (by decide) ?_
  refine lv_icmp_ge (tgt := 39) hx hb dX9_linkAt_9 (by decide) (fun c_9 => ?_) (fun c_9 => ?_)
  · have n_9 : 40 ≤ i := (nI_leI (a := 40) (b := i) (by omega) (by omega)).mp c_9
    refine lv_iconst (v := (-1)) hx hb dX9_linkAt_39 (by decide) ?_
    exact k_iret E hK hP hD hS () [] (by decide) rfl (by show (-1 : Int32) = oI (lbf g 40 0); rw [← hinv.2, show 40 - i = 0 from by omega]; rfl) (Nat.le_of_ble_eq_true rfl) (Nat.le_of_ble_eq_true rfl) dX9_linkAt_40
  · have n_9 : ¬ 40 ≤ i := fun h => c_9 ((nI_leI (a := 40) (b := i) (by omega) (by omega)).mpr h)
    refine lv_lload_n hx hb dX9_linkAt_12 rfl (lv_at hl 0 rfl) ?_
    refine lv_iload hx hb dX9_linkAt_13 (lv_at hl 3 rfl) ?_
    refine lv_lshr (v := (lN (g / 2 ^ i))) hx hb dX9_linkAt_15 (k_shrL (a := g) hg i (by omega)) ?_
    refine lv_lconst (v := 1) hx hb dX9_linkAt_16 (by decide) ?_
    refine lv_land hx hb dX9_linkAt_17 ?_
    refine lv_topl (fun y ey => ?_)
    obtain rfl : y = (lN ((g / 2 ^ i) &&& 1)) := ey.trans (k_andL (g / 2 ^ i) 1)
    refine lv_lconst (v := 0) hx hb dX9_linkAt_18 (by decide) ?_
    refine W.lcmp hx hb dX9_linkAt_19 ?_
    refine lv_if_eq (tgt := 33) hx hb dX9_linkAt_20 (by decide) (fun c_20 => ?_) (fun c_20 => ?_)
    · have n_20 : g / 2 ^ i % 2 = 0 := (lg_bit _).mp c_20
      refine lv_iinc (v := (nI (i + 1))) (lv' := [(4, .int (nI (i + 1))), (0, .long (lN g)), (2, .int 0), (3, .int 0)]) hx hb dX9_linkAt_33 hl (k := 3) rfl (nI_add i 1) (by decide) rfl (fun ls hl => ?_)
      refine lv_goto (tgt := 5) hx hb dX9_linkAt_36 (by decide) ?_
      exact ih_5 (i + 1) H locs ls (⟨by show i + 1 ≤ 40; omega, by rw [← hinv.2, show 40 - i = (40 - (i + 1)) + 1 from by omega]; conv => rhs; rw [lbf]; rw [if_pos n_20]⟩) (by show 40 - (i + 1) < 40 - i; omega) (hP.sub [] rfl) (hD.sub [] (by decide) rfl) hS (lv_sub hl [1, 2, 3, 0] rfl)
    · have n_20 : ¬ g / 2 ^ i % 2 = 0 := fun h => c_20 ((lg_bit _).mpr h)
      refine lv_iload_n hx hb dX9_linkAt_23 rfl (lv_at hl 2 rfl) ?_
      refine lv_if_ne (tgt := 30) hx hb dX9_linkAt_24 (by decide) (fun c => absurd (by decide) c) (fun _ => ?_)
      refine lv_iload hx hb dX9_linkAt_27 (lv_at hl 3 rfl) ?_
      exact k_iret E hK hP hD hS () [] (by decide) rfl (by show nI i = oI (lbf g 40 0); rw [← hinv.2, show 40 - i = (40 - (i + 1)) + 1 from by omega, lbf, if_neg n_20]; rfl) (Nat.le_of_ble_eq_true rfl) (Nat.le_of_ble_eq_true rfl) dX9_linkAt_29

theorem lbf_lt {g : Nat} : ∀ {n k e : Nat}, lbf g n k = some e → k ≤ e ∧ e < k + n ∧ ¬ g / 2 ^ e % 2 = 0
  | 0, _, _, h => by cases h
  | n + 1, k, e, h => by
    rw [lbf] at h
    split at h
    · obtain ⟨h1, h2, h3⟩ := lbf_lt h
      exact ⟨by omega, by omega, h3⟩
    · next q => obtain rfl := Option.some.inj h; exact ⟨by omega, by omega, q⟩
def O_follow : List Cond := [.fieldLink RX4 9 "RoutingDomain$Packet" "visited" "[I", .fieldLink RX4 23 "RoutingDomain$Packet" "count" "I", .initialized RX9, .static yX9_routeAt, .fieldLink RX4 19 "RoutingDomain$Packet" "routes" "LRoutingDomain$Routes;", .fieldLink RX4 31 "RoutingDomain$Routes" "locals" "[Z", .fieldLink RX4 37 "RoutingDomain$Routes" "links" "[J", .static yX9_linkAt, .fieldLink RX4 15 "RoutingDomain$Packet" "topology" "LRoutingDomain$Topology;", .methodLink RX4 45 yX8_canCarry, .instanceMethod yX8_canCarry, .selects RX8 yX8_canCarry yX8_canCarry, .initialized RX8, .fieldLink RX4 51 "RoutingDomain$Topology" "routerOfPort" "[I"]
def W_follow : List Cond := .code yX4_follow cX4_follow 8 (some .int) :: (O_follow ++ (wsX40 ++ (W_routeAt ++ (wsX60 ++ (W_linkAt ++ (W_canCarry ++ wsX80))))))
theorem m_follow_O : ∀ w ∈ O_follow, w ∈ W_follow := fun _ h => List.mem_cons_of_mem _ (List.mem_append_left _ h)
theorem m_follow_C4 : ∀ w ∈ wsX40, w ∈ W_follow := fun _ h => List.mem_cons_of_mem _ (List.mem_append_right _ (List.mem_append_left _ h))
theorem m_follow_WrouteAt : ∀ w ∈ W_routeAt, w ∈ W_follow := fun _ h => List.mem_cons_of_mem _ (List.mem_append_right _ (List.mem_append_right _ (List.mem_append_left _ h)))
theorem m_follow_C6 : ∀ w ∈ wsX60, w ∈ W_follow := fun _ h => List.mem_cons_of_mem _ (List.mem_append_right _ (List.mem_append_right _ (List.mem_append_right _ (List.mem_append_left _ h))))
theorem m_follow_WlinkAt : ∀ w ∈ W_linkAt, w ∈ W_follow := fun _ h => List.mem_cons_of_mem _ (List.mem_append_right _ (List.mem_append_right _ (List.mem_append_right _ (List.mem_append_right _ (List.mem_append_left _ h)))))
theorem m_follow_WcanCarry : ∀ w ∈ W_canCarry, w ∈ W_follow := fun _ h => List.mem_cons_of_mem _ (List.mem_append_right _ (List.mem_append_right _ (List.mem_append_right _ (List.mem_append_right _ (List.mem_append_right _ (List.mem_append_left _ h))))))
theorem m_follow_C8 : ∀ w ∈ wsX80, w ∈ W_follow := fun _ h => List.mem_cons_of_mem _ (List.mem_append_right _ (List.mem_append_right _ (List.mem_append_right _ (List.mem_append_right _ (List.mem_append_right _ (List.mem_append_right _ h))))))
theorem gdO_follow : O_follow.all goodWord = true := by decide +kernel
theorem gd_follow : W_follow.all goodWord = true := k_all_cons rfl (k_all_app gdO_follow (k_all_app gdC_4 (k_all_app gd_routeAt (k_all_app gdC_6 (k_all_app gd_linkAt (k_all_app gd_canCarry gdC_8))))))
set_option maxHeartbeats 4000000 in
set_option maxRecDepth 100000 in
theorem c_follow (l : Launch) (D : va_G) (cI cZ cJ : ClassId) (h0 : Nat) (ad : Nat → Nat) (t : TP) (lc : Nat) (li : Nat → Nat) (lcl : Nat → Bool) (kc : Int32) (vis : Nat → Int32) (r : Nat) (n : Nat) (hr : r < 16) (hn : n < 16) (hli : ∀ j, li j < 2 ^ 63) (hT : TOK t) : kMi l yX4_follow W_follow { frames := 1, cells := 0, slots := 0, locals := 24 } 0 0 D (kT cI cZ cJ) [.ref h0, .int (nI r), .int (nI n)] [(h0, .inr (4, [.int kc, .ref (ad 38), .ref (ad 0), .ref (ad 4)])), ((ad 38), .inl (cI, 33, .inl vis)), ((ad 0), .inr (8, [.int (nI (tRc t)), .int (nI lc), .ref (ad 7), .ref (ad 8), .ref (ad 9), .ref (ad 10), .ref (ad 11), .ref (ad 12), .ref (ad 13), .ref (ad 14), .ref (ad 15), .ref (ad 16)])), ((ad 7), .inl (cZ, 16, .inl (eB (tRu t)))), ((ad 8), .inl (cZ, 40, .inl (eB (tLu t)))), ((ad 11), .inl (cI, 80, .inl (eN (tRp t)))), ((ad 4), .inr (6, [.ref (ad 28), .ref (ad 29), .ref (ad 30), .ref (ad 31), .ref (ad 32), .ref (ad 33), .ref (ad 34), .ref (ad 0), .ref (ad 1), .ref (ad 2), .ref (ad 3)])), ((ad 30), .inl (cJ, 256, .inr (.inl (eL li)))), ((ad 31), .inl (cZ, 256, .inl (eB lcl)))] (S := (Int32) × (Nat → Int32)) (fun res_ u => (fwd t lcl li n 33 r = 0 → ∃ h, h ≤ 32 ∧ res_ = nI h) ∧ (fwd t lcl li n 33 r = 1 → res_ = -1)) (fun u => [(h0, .inr (4, [.int u.1, .ref (ad 38), .ref (ad 0), .ref (ad 4)])), ((ad 38), .inl (cI, 33, .inl u.2)), ((ad 0), .inr (8, [.int (nI (tRc t)), .int (nI lc), .ref (ad 7), .ref (ad 8), .ref (ad 9), .ref (ad 10), .ref (ad 11), .ref (ad 12), .ref (ad 13), .ref (ad 14), .ref (ad 15), .ref (ad 16)])), ((ad 7), .inl (cZ, 16, .inl (eB (tRu t)))), ((ad 8), .inl (cZ, 40, .inl (eB (tLu t)))), ((ad 11), .inl (cI, 80, .inl (eN (tRp t)))), ((ad 4), .inr (6, [.ref (ad 28), .ref (ad 29), .ref (ad 30), .ref (ad 31), .ref (ad 32), .ref (ad 33), .ref (ad 34), .ref (ad 0), .ref (ad 1), .ref (ad 2), .ref (ad 3)])), ((ad 30), .inl (cJ, 256, .inr (.inl (eL li)))), ((ad 31), .inl (cZ, 256, .inl (eB lcl)))]) := by
  refine kMi_of (lv := [(0, .ref h0), (1, .int (nI r)), (2, .int (nI n))]) RX4 "follow" (by decide +kernel) rfl rfl rfl (Nat.le_of_ble_eq_true rfl) rfl ?_
  intro p e s m below meth c A H locs ls E hA hK hP hD hS hl
  obtain ⟨hx, hb, hr_, hts, hown, hlocks, hml, hin, hN⟩ := id E
  obtain ⟨hrc, hrp, hpo, hpc, hal, hmp, han⟩ := id hT
  refine lv_iload_n hx hb dX4_follow_0 rfl (lv_at hl 1 rfl) ?_
  refine lv_istore_n (lv' := [(3, .int (nI r)), (0, .ref h0), (1, .int (nI r)), (2, .int (nI n))]) hx hb dX4_follow_1 rfl hl (by decide) rfl (fun ls hl => ?_)
  refine lv_iconst (v := 0) hx hb dX4_follow_2 (by decide) ?_
  refine lv_istore (lv' := [(4, .int 0), (3, .int (nI r)), (0, .ref h0), (1, .int (nI r)), (2, .int (nI n))]) hx hb dX4_follow_3 hl (by decide) rfl (fun ls hl => ?_)
  refine k_loop (Nat × Nat × Int32 × (Nat → Int32)) 5 8 (fun u => u.1 ≤ 33 ∧ u.2.1 < 16 ∧ fwd t lcl li n (33 - u.1) u.2.1 = fwd t lcl li n 33 r) (fun u => 33 - u.1) (fun u => [(h0, .inr (4, [.int u.2.2.1, .ref (ad 38), .ref (ad 0), .ref (ad 4)])), ((ad 38), .inl (cI, 33, .inl u.2.2.2)), ((ad 0), .inr (8, [.int (nI (tRc t)), .int (nI lc), .ref (ad 7), .ref (ad 8), .ref (ad 9), .ref (ad 10), .ref (ad 11), .ref (ad 12), .ref (ad 13), .ref (ad 14), .ref (ad 15), .ref (ad 16)])), ((ad 7), .inl (cZ, 16, .inl (eB (tRu t)))), ((ad 8), .inl (cZ, 40, .inl (eB (tLu t)))), ((ad 11), .inl (cI, 80, .inl (eN (tRp t)))), ((ad 4), .inr (6, [.ref (ad 28), .ref (ad 29), .ref (ad 30), .ref (ad 31), .ref (ad 32), .ref (ad 33), .ref (ad 34), .ref (ad 0), .ref (ad 1), .ref (ad 2), .ref (ad 3)])), ((ad 30), .inl (cJ, 256, .inr (.inl (eL li)))), ((ad 31), .inl (cZ, 256, .inl (eB lcl)))]) (fun u => [(0, .ref h0), (2, .int (nI n)), (3, .int (nI u.2.1)), (4, .int (nI u.1))]) ?_ (0, r, kc, vis) (⟨Nat.zero_le _, hr, rfl⟩) (hP.sub [0, 1, 2, 3, 4, 5, 6, 7, 8] rfl) (hD.sub [0, 1, 2, 3, 4, 5, 6, 7, 8] (by decide) rfl) hS (lv_sub hl [2, 4, 1, 0] rfl)
  intro ⟨i, x, kc2, vis2⟩ H locs ls hinv hP hD hS hl ih_5
  have hinv : i ≤ 33 ∧ x < 16 ∧ fwd t lcl li n (33 - i) x = fwd t lcl li n 33 r := hinv
  have hP : va_P D vwCl [(h0, .inr (4, [.int kc2, .ref (ad 38), .ref (ad 0), .ref (ad 4)])), ((ad 38), .inl (cI, 33, .inl vis2)), ((ad 0), .inr (8, [.int (nI (tRc t)), .int (nI lc), .ref (ad 7), .ref (ad 8), .ref (ad 9), .ref (ad 10), .ref (ad 11), .ref (ad 12), .ref (ad 13), .ref (ad 14), .ref (ad 15), .ref (ad 16)])), ((ad 7), .inl (cZ, 16, .inl (eB (tRu t)))), ((ad 8), .inl (cZ, 40, .inl (eB (tLu t)))), ((ad 11), .inl (cI, 80, .inl (eN (tRp t)))), ((ad 4), .inr (6, [.ref (ad 28), .ref (ad 29), .ref (ad 30), .ref (ad 31), .ref (ad 32), .ref (ad 33), .ref (ad 34), .ref (ad 0), .ref (ad 1), .ref (ad 2), .ref (ad 3)])), ((ad 30), .inl (cJ, 256, .inr (.inl (eL li)))), ((ad 31), .inl (cZ, 256, .inl (eB lcl)))] H := hP
  have hD : va_D A [(h0, .inr (4, [.int kc2, .ref (ad 38), .ref (ad 0), .ref (ad 4)])), ((ad 38), .inl (cI, 33, .inl vis2)), ((ad 0), .inr (8, [.int (nI (tRc t)), .int (nI lc), .ref (ad 7), .ref (ad 8), .ref (ad 9), .ref (ad 10), .ref (ad 11), .ref (ad 12), .ref (ad 13), .ref (ad 14), .ref (ad 15), .ref (ad 16)])), ((ad 7), .inl (cZ, 16, .inl (eB (tRu t)))), ((ad 8), .inl (cZ, 40, .inl (eB (tLu t)))), ((ad 11), .inl (cI, 80, .inl (eN (tRp t)))), ((ad 4), .inr (6, [.ref (ad 28), .ref (ad 29), .ref (ad 30), .ref (ad 31), .ref (ad 32), .ref (ad 33), .ref (ad 34), .ref (ad 0), .ref (ad 1), .ref (ad 2), .ref (ad 3)])), ((ad 30), .inl (cJ, 256, .inr (.inl (eL li)))), ((ad 31), .inl (cZ, 256, .inl (eB lcl)))] := hD
  have hl : lv_has ls 8 [(0, .ref h0), (2, .int (nI n)), (3, .int (nI x)), (4, .int (nI i))] := hl
  obtain ⟨hi1, hx1, heq⟩ := hinv
  refine lv_iload hx hb dX4_follow_5 (lv_at hl 3 rfl) ?_
  refine lv_bipush (v := 32) hx hb dX4_follow_7 (by decide) ?_
  refine lv_icmp_gt (tgt := 146) hx hb dX4_follow_9 (by decide) (fun c_9 => ?_) (fun c_9 => ?_)
  · have n_9 : 32 < i := (nI_ltI (a := 32) (b := i) (by omega) (by omega)).mp c_9
    refine lv_bipush (v := (-3)) hx hb dX4_follow_146 (by decide) ?_
    have e0 : fwd t lcl li n 33 r = 3 := by rw [← heq, show 33 - i = 0 from by omega, fwd]
    exact k_iret E hK hP hD hS (kc2, vis2) [0, 1, 2, 3, 4, 5, 6, 7, 8] (by decide) rfl ⟨fun h => absurd (e0.symm.trans h) (by decide), fun h => absurd (e0.symm.trans h) (by decide)⟩ (Nat.le_of_ble_eq_true rfl) (Nat.le_of_ble_eq_true rfl) dX4_follow_148
  · have n_9 : ¬ 32 < i := fun h => c_9 ((nI_ltI (a := 32) (b := i) (by omega) (by omega)).mpr h)
    refine lv_aload_n hx hb dX4_follow_12 rfl (lv_at hl 0 rfl) ?_
    refine va_get (ci := 4) (v := .ref (ad 38)) (C := RX4) (T := TX4) (N := 4) hx hb hts m_follow_C4 hown hK hP 0 rfl rfl 1 (by decide) (hts (.fieldLink RX4 9 "RoutingDomain$Packet" "visited" "[I") (m_follow_O _ (by decide +kernel))) (fun _ h9 => h9) rfl dX4_follow_13 ?_
    refine lv_iload hx hb dX4_follow_16 (lv_at hl 3 rfl) ?_
    refine lv_iload_n hx hb dX4_follow_18 rfl (lv_at hl 2 rfl) ?_
    refine va_iast hx hb hK hP hD hS 1 0 rfl rfl (vp_in_nI (show i < 33 from by omega) (by decide)) dX4_follow_19 (fun H locs hP hD hS => ?_)
    have hP : va_P D vwCl [(h0, .inr (4, [.int kc2, .ref (ad 38), .ref (ad 0), .ref (ad 4)])), ((ad 38), .inl (cI, 33, .inl (upd vis2 (nI i).toNatClampNeg (nI x)))), ((ad 0), .inr (8, [.int (nI (tRc t)), .int (nI lc), .ref (ad 7), .ref (ad 8), .ref (ad 9), .ref (ad 10), .ref (ad 11), .ref (ad 12), .ref (ad 13), .ref (ad 14), .ref (ad 15), .ref (ad 16)])), ((ad 7), .inl (cZ, 16, .inl (eB (tRu t)))), ((ad 8), .inl (cZ, 40, .inl (eB (tLu t)))), ((ad 11), .inl (cI, 80, .inl (eN (tRp t)))), ((ad 4), .inr (6, [.ref (ad 28), .ref (ad 29), .ref (ad 30), .ref (ad 31), .ref (ad 32), .ref (ad 33), .ref (ad 34), .ref (ad 0), .ref (ad 1), .ref (ad 2), .ref (ad 3)])), ((ad 30), .inl (cJ, 256, .inr (.inl (eL li)))), ((ad 31), .inl (cZ, 256, .inl (eB lcl)))] H := hP
    have hD : va_D A [(h0, .inr (4, [.int kc2, .ref (ad 38), .ref (ad 0), .ref (ad 4)])), ((ad 38), .inl (cI, 33, .inl (upd vis2 (nI i).toNatClampNeg (nI x)))), ((ad 0), .inr (8, [.int (nI (tRc t)), .int (nI lc), .ref (ad 7), .ref (ad 8), .ref (ad 9), .ref (ad 10), .ref (ad 11), .ref (ad 12), .ref (ad 13), .ref (ad 14), .ref (ad 15), .ref (ad 16)])), ((ad 7), .inl (cZ, 16, .inl (eB (tRu t)))), ((ad 8), .inl (cZ, 40, .inl (eB (tLu t)))), ((ad 11), .inl (cI, 80, .inl (eN (tRp t)))), ((ad 4), .inr (6, [.ref (ad 28), .ref (ad 29), .ref (ad 30), .ref (ad 31), .ref (ad 32), .ref (ad 33), .ref (ad 34), .ref (ad 0), .ref (ad 1), .ref (ad 2), .ref (ad 3)])), ((ad 30), .inl (cJ, 256, .inr (.inl (eL li)))), ((ad 31), .inl (cZ, 256, .inl (eB lcl)))] := hD
    refine lv_aload_n hx hb dX4_follow_20 rfl (lv_at hl 0 rfl) ?_
    refine lv_iload hx hb dX4_follow_21 (lv_at hl 3 rfl) ?_
    refine lv_iconst (v := 1) hx hb dX4_follow_23 (by decide) ?_
    refine lv_iadd hx hb dX4_follow_24 ?_
    refine lv_topi (fun y ey => ?_)
    obtain rfl : y = (nI (i + 1)) := ey.trans (nI_add i 1)
    refine va_put (ci := 4) (v := .int (nI (i + 1))) (ty := .int) (C := RX4) (T := TX4) (N := 4) hx hb hts m_follow_C4 tyX4 tyX4_ok nmX4 hown hK hP hD hS 0 rfl rfl 0 (by decide) (hts (.fieldLink RX4 23 "RoutingDomain$Packet" "count" "I") (m_follow_O _ (by decide +kernel))) (fun _ h9 => h9) rfl (by decide +kernel) rfl rfl (Nat.le_of_ble_eq_true rfl) dX4_follow_25 (fun H locs hP hD hS => ?_)
    have hP : va_P D vwCl [(h0, .inr (4, [.int (nI (i + 1)), .ref (ad 38), .ref (ad 0), .ref (ad 4)])), ((ad 38), .inl (cI, 33, .inl (upd vis2 (nI i).toNatClampNeg (nI x)))), ((ad 0), .inr (8, [.int (nI (tRc t)), .int (nI lc), .ref (ad 7), .ref (ad 8), .ref (ad 9), .ref (ad 10), .ref (ad 11), .ref (ad 12), .ref (ad 13), .ref (ad 14), .ref (ad 15), .ref (ad 16)])), ((ad 7), .inl (cZ, 16, .inl (eB (tRu t)))), ((ad 8), .inl (cZ, 40, .inl (eB (tLu t)))), ((ad 11), .inl (cI, 80, .inl (eN (tRp t)))), ((ad 4), .inr (6, [.ref (ad 28), .ref (ad 29), .ref (ad 30), .ref (ad 31), .ref (ad 32), .ref (ad 33), .ref (ad 34), .ref (ad 0), .ref (ad 1), .ref (ad 2), .ref (ad 3)])), ((ad 30), .inl (cJ, 256, .inr (.inl (eL li)))), ((ad 31), .inl (cZ, 256, .inl (eB lcl)))] H := hP
    have hD : va_D A [(h0, .inr (4, [.int (nI (i + 1)), .ref (ad 38), .ref (ad 0), .ref (ad 4)])), ((ad 38), .inl (cI, 33, .inl (upd vis2 (nI i).toNatClampNeg (nI x)))), ((ad 0), .inr (8, [.int (nI (tRc t)), .int (nI lc), .ref (ad 7), .ref (ad 8), .ref (ad 9), .ref (ad 10), .ref (ad 11), .ref (ad 12), .ref (ad 13), .ref (ad 14), .ref (ad 15), .ref (ad 16)])), ((ad 7), .inl (cZ, 16, .inl (eB (tRu t)))), ((ad 8), .inl (cZ, 40, .inl (eB (tLu t)))), ((ad 11), .inl (cI, 80, .inl (eN (tRp t)))), ((ad 4), .inr (6, [.ref (ad 28), .ref (ad 29), .ref (ad 30), .ref (ad 31), .ref (ad 32), .ref (ad 33), .ref (ad 34), .ref (ad 0), .ref (ad 1), .ref (ad 2), .ref (ad 3)])), ((ad 30), .inl (cJ, 256, .inr (.inl (eL li)))), ((ad 31), .inl (cZ, 256, .inl (eB lcl)))] := hD
    refine lv_iload_n hx hb dX4_follow_28 rfl (lv_at hl 2 rfl) ?_
    refine lv_iload_n hx hb dX4_follow_29 rfl (lv_at hl 1 rfl) ?_
    refine kSNi (As := [.int (nI x), .int (nI n)]) (rest := []) (wr := [(h0, .inr (4, [.int (nI (i + 1)), .ref (ad 38), .ref (ad 0), .ref (ad 4)])), ((ad 38), .inl (cI, 33, .inl (upd vis2 (nI i).toNatClampNeg (nI x)))), ((ad 0), .inr (8, [.int (nI (tRc t)), .int (nI lc), .ref (ad 7), .ref (ad 8), .ref (ad 9), .ref (ad 10), .ref (ad 11), .ref (ad 12), .ref (ad 13), .ref (ad 14), .ref (ad 15), .ref (ad 16)])), ((ad 7), .inl (cZ, 16, .inl (eB (tRu t)))), ((ad 8), .inl (cZ, 40, .inl (eB (tLu t)))), ((ad 11), .inl (cI, 80, .inl (eN (tRp t)))), ((ad 4), .inr (6, [.ref (ad 28), .ref (ad 29), .ref (ad 30), .ref (ad 31), .ref (ad 32), .ref (ad 33), .ref (ad 34), .ref (ad 0), .ref (ad 1), .ref (ad 2), .ref (ad 3)])), ((ad 30), .inl (cJ, 256, .inr (.inl (eL li)))), ((ad 31), .inl (cZ, 256, .inl (eB lcl)))]) (w2 := fun _ => [(h0, .inr (4, [.int (nI (i + 1)), .ref (ad 38), .ref (ad 0), .ref (ad 4)])), ((ad 38), .inl (cI, 33, .inl (upd vis2 (nI i).toNatClampNeg (nI x)))), ((ad 0), .inr (8, [.int (nI (tRc t)), .int (nI lc), .ref (ad 7), .ref (ad 8), .ref (ad 9), .ref (ad 10), .ref (ad 11), .ref (ad 12), .ref (ad 13), .ref (ad 14), .ref (ad 15), .ref (ad 16)])), ((ad 7), .inl (cZ, 16, .inl (eB (tRu t)))), ((ad 8), .inl (cZ, 40, .inl (eB (tLu t)))), ((ad 11), .inl (cI, 80, .inl (eN (tRp t)))), ((ad 4), .inr (6, [.ref (ad 28), .ref (ad 29), .ref (ad 30), .ref (ad 31), .ref (ad 32), .ref (ad 33), .ref (ad 34), .ref (ad 0), .ref (ad 1), .ref (ad 2), .ref (ad 3)])), ((ad 30), .inl (cJ, 256, .inr (.inl (eL li)))), ((ad 31), .inl (cZ, 256, .inl (eB lcl)))]) ⟨hx, hb, hml, hown, hts⟩ hN (c_routeAt l D cI cZ cJ x n) ⟨va_cnB (host := "RoutingDomain") 2 hts (goodIn_sub m_follow_WrouteAt gd_routeAt) rfl rfl rfl (hN (_, 27, _, _) (by decide +kernel) : va_Nw (.methodLinkNest RX4 27 yX9_routeAt "RoutingDomain") s) (hts (.initialized RX9) (m_follow_O _ (by decide +kernel))) (by decide +kernel) ⟨Nat.le_of_ble_eq_true rfl, Nat.le_of_ble_eq_true rfl⟩, (hts (.static yX9_routeAt) (m_follow_O _ (by decide +kernel))), trivial⟩ hK hP hD hS hA [] [0, 1, 2, 3, 4, 5, 6, 7, 8] [0, 1, 2, 3, 4, 5, 6, 7, 8] rfl rfl ⟨by decide, by decide, by decide⟩ (by decide) (fun _ => rfl) rfl hl.1 rfl (Nat.le_of_ble_eq_true rfl) dX4_follow_30 ⟨Nat.le_of_ble_eq_true rfl, Nat.le_of_ble_eq_true rfl⟩ (fun res_ u H locs hw hP hD hS => ?_)
    have hP : va_P D vwCl [(h0, .inr (4, [.int (nI (i + 1)), .ref (ad 38), .ref (ad 0), .ref (ad 4)])), ((ad 38), .inl (cI, 33, .inl (upd vis2 (nI i).toNatClampNeg (nI x)))), ((ad 0), .inr (8, [.int (nI (tRc t)), .int (nI lc), .ref (ad 7), .ref (ad 8), .ref (ad 9), .ref (ad 10), .ref (ad 11), .ref (ad 12), .ref (ad 13), .ref (ad 14), .ref (ad 15), .ref (ad 16)])), ((ad 7), .inl (cZ, 16, .inl (eB (tRu t)))), ((ad 8), .inl (cZ, 40, .inl (eB (tLu t)))), ((ad 11), .inl (cI, 80, .inl (eN (tRp t)))), ((ad 4), .inr (6, [.ref (ad 28), .ref (ad 29), .ref (ad 30), .ref (ad 31), .ref (ad 32), .ref (ad 33), .ref (ad 34), .ref (ad 0), .ref (ad 1), .ref (ad 2), .ref (ad 3)])), ((ad 30), .inl (cJ, 256, .inr (.inl (eL li)))), ((ad 31), .inl (cZ, 256, .inl (eB lcl)))] H := hP
    have hD : va_D A [(h0, .inr (4, [.int (nI (i + 1)), .ref (ad 38), .ref (ad 0), .ref (ad 4)])), ((ad 38), .inl (cI, 33, .inl (upd vis2 (nI i).toNatClampNeg (nI x)))), ((ad 0), .inr (8, [.int (nI (tRc t)), .int (nI lc), .ref (ad 7), .ref (ad 8), .ref (ad 9), .ref (ad 10), .ref (ad 11), .ref (ad 12), .ref (ad 13), .ref (ad 14), .ref (ad 15), .ref (ad 16)])), ((ad 7), .inl (cZ, 16, .inl (eB (tRu t)))), ((ad 8), .inl (cZ, 40, .inl (eB (tLu t)))), ((ad 11), .inl (cI, 80, .inl (eN (tRp t)))), ((ad 4), .inr (6, [.ref (ad 28), .ref (ad 29), .ref (ad 30), .ref (ad 31), .ref (ad 32), .ref (ad 33), .ref (ad 34), .ref (ad 0), .ref (ad 1), .ref (ad 2), .ref (ad 3)])), ((ad 30), .inl (cJ, 256, .inr (.inl (eL li)))), ((ad 31), .inl (cZ, 256, .inl (eB lcl)))] := hD
    obtain rfl : res_ = (nI (x * 16 + n)) := hw
    refine lv_istore (lv' := [(5, .int (nI (x * 16 + n))), (0, .ref h0), (2, .int (nI n)), (3, .int (nI x)), (4, .int (nI i))]) hx hb dX4_follow_33 hl (by decide) rfl (fun ls hl => ?_)
    refine lv_aload_n hx hb dX4_follow_35 rfl (lv_at hl 1 rfl) ?_
    refine va_get (ci := 4) (v := .ref (ad 4)) (C := RX4) (T := TX4) (N := 4) hx hb hts m_follow_C4 hown hK hP 0 rfl rfl 3 (by decide) (hts (.fieldLink RX4 19 "RoutingDomain$Packet" "routes" "LRoutingDomain$Routes;") (m_follow_O _ (by decide +kernel))) (fun _ h9 => h9) rfl dX4_follow_36 ?_
    refine va_get (ci := 6) (v := .ref (ad 31)) (C := RX6) (T := TX6) (N := 11) hx hb hts m_follow_C6 hown hK hP 6 rfl rfl 3 (by decide) (hts (.fieldLink RX4 31 "RoutingDomain$Routes" "locals" "[Z") (m_follow_O _ (by decide +kernel))) (fun _ h9 => h9) rfl dX4_follow_39 ?_
    refine lv_iload hx hb dX4_follow_42 (lv_at hl 0 rfl) ?_
    refine va_zald hx hb hK hP 8 1 rfl rfl (vp_in_nI (show (x * 16 + n) < 256 from by omega) (by decide)) dX4_follow_44 ?_
    refine lv_topi (fun y ey => ?_)
    obtain rfl : y = (bI (lcl (x * 16 + n))) := ey.trans (ldB (f := lcl) (j := (x * 16 + n)) (by omega))
    refine lv_if_eq (tgt := 51) hx hb dX4_follow_45 (by decide) (fun c_45 => ?_) (fun c_45 => ?_)
    · have n_45 : (lcl (x * 16 + n)) = false := bI_0 c_45
      refine lv_aload_n hx hb dX4_follow_51 rfl (lv_at hl 1 rfl) ?_
      refine va_get (ci := 4) (v := .ref (ad 4)) (C := RX4) (T := TX4) (N := 4) hx hb hts m_follow_C4 hown hK hP 0 rfl rfl 3 (by decide) (hts (.fieldLink RX4 19 "RoutingDomain$Packet" "routes" "LRoutingDomain$Routes;") (m_follow_O _ (by decide +kernel))) (fun _ h9 => h9) rfl dX4_follow_52 ?_
      refine va_get (ci := 6) (v := .ref (ad 30)) (C := RX6) (T := TX6) (N := 11) hx hb hts m_follow_C6 hown hK hP 6 rfl rfl 2 (by decide) (hts (.fieldLink RX4 37 "RoutingDomain$Routes" "links" "[J") (m_follow_O _ (by decide +kernel))) (fun _ h9 => h9) rfl dX4_follow_55 ?_
      refine lv_iload hx hb dX4_follow_58 (lv_at hl 0 rfl) ?_
      refine va_lald hx hb hK hP 7 2 rfl rfl (vp_in_nI (show (x * 16 + n) < 256 from by omega) (by decide)) dX4_follow_60 ?_
      refine lv_topl (fun y ey => ?_)
      obtain rfl : y = (lN (li (x * 16 + n))) := ey.trans (ldL (f := li) (j := (x * 16 + n)) (by omega))
      refine lv_iconst (v := 0) hx hb dX4_follow_61 (by decide) ?_
      refine kSNi (As := [.long (lN (li (x * 16 + n))), .int 0]) (rest := []) (wr := [(h0, .inr (4, [.int (nI (i + 1)), .ref (ad 38), .ref (ad 0), .ref (ad 4)])), ((ad 38), .inl (cI, 33, .inl (upd vis2 (nI i).toNatClampNeg (nI x)))), ((ad 0), .inr (8, [.int (nI (tRc t)), .int (nI lc), .ref (ad 7), .ref (ad 8), .ref (ad 9), .ref (ad 10), .ref (ad 11), .ref (ad 12), .ref (ad 13), .ref (ad 14), .ref (ad 15), .ref (ad 16)])), ((ad 7), .inl (cZ, 16, .inl (eB (tRu t)))), ((ad 8), .inl (cZ, 40, .inl (eB (tLu t)))), ((ad 11), .inl (cI, 80, .inl (eN (tRp t)))), ((ad 4), .inr (6, [.ref (ad 28), .ref (ad 29), .ref (ad 30), .ref (ad 31), .ref (ad 32), .ref (ad 33), .ref (ad 34), .ref (ad 0), .ref (ad 1), .ref (ad 2), .ref (ad 3)])), ((ad 30), .inl (cJ, 256, .inr (.inl (eL li)))), ((ad 31), .inl (cZ, 256, .inl (eB lcl)))]) (w2 := fun _ => [(h0, .inr (4, [.int (nI (i + 1)), .ref (ad 38), .ref (ad 0), .ref (ad 4)])), ((ad 38), .inl (cI, 33, .inl (upd vis2 (nI i).toNatClampNeg (nI x)))), ((ad 0), .inr (8, [.int (nI (tRc t)), .int (nI lc), .ref (ad 7), .ref (ad 8), .ref (ad 9), .ref (ad 10), .ref (ad 11), .ref (ad 12), .ref (ad 13), .ref (ad 14), .ref (ad 15), .ref (ad 16)])), ((ad 7), .inl (cZ, 16, .inl (eB (tRu t)))), ((ad 8), .inl (cZ, 40, .inl (eB (tLu t)))), ((ad 11), .inl (cI, 80, .inl (eN (tRp t)))), ((ad 4), .inr (6, [.ref (ad 28), .ref (ad 29), .ref (ad 30), .ref (ad 31), .ref (ad 32), .ref (ad 33), .ref (ad 34), .ref (ad 0), .ref (ad 1), .ref (ad 2), .ref (ad 3)])), ((ad 30), .inl (cJ, 256, .inr (.inl (eL li)))), ((ad 31), .inl (cZ, 256, .inl (eB lcl)))]) ⟨hx, hb, hml, hown, hts⟩ hN (c_linkAt l D cI cZ cJ (li (x * 16 + n)) (hli _)) ⟨va_cnB (host := "RoutingDomain") 2 hts (goodIn_sub m_follow_WlinkAt gd_linkAt) rfl rfl rfl (hN (_, 41, _, _) (by decide +kernel) : va_Nw (.methodLinkNest RX4 41 yX9_linkAt "RoutingDomain") s) (hts (.initialized RX9) (m_follow_O _ (by decide +kernel))) (by decide +kernel) ⟨Nat.le_of_ble_eq_true rfl, Nat.le_of_ble_eq_true rfl⟩, (hts (.static yX9_linkAt) (m_follow_O _ (by decide +kernel))), trivial⟩ hK hP hD hS hA [] [0, 1, 2, 3, 4, 5, 6, 7, 8] [0, 1, 2, 3, 4, 5, 6, 7, 8] rfl rfl ⟨by decide, by decide, by decide⟩ (by decide) (fun _ => rfl) rfl hl.1 rfl (Nat.le_of_ble_eq_true rfl) dX4_follow_62 ⟨Nat.le_of_ble_eq_true rfl, Nat.le_of_ble_eq_true rfl⟩ (fun res_ u H locs hw hP hD hS => ?_)
      have hP : va_P D vwCl [(h0, .inr (4, [.int (nI (i + 1)), .ref (ad 38), .ref (ad 0), .ref (ad 4)])), ((ad 38), .inl (cI, 33, .inl (upd vis2 (nI i).toNatClampNeg (nI x)))), ((ad 0), .inr (8, [.int (nI (tRc t)), .int (nI lc), .ref (ad 7), .ref (ad 8), .ref (ad 9), .ref (ad 10), .ref (ad 11), .ref (ad 12), .ref (ad 13), .ref (ad 14), .ref (ad 15), .ref (ad 16)])), ((ad 7), .inl (cZ, 16, .inl (eB (tRu t)))), ((ad 8), .inl (cZ, 40, .inl (eB (tLu t)))), ((ad 11), .inl (cI, 80, .inl (eN (tRp t)))), ((ad 4), .inr (6, [.ref (ad 28), .ref (ad 29), .ref (ad 30), .ref (ad 31), .ref (ad 32), .ref (ad 33), .ref (ad 34), .ref (ad 0), .ref (ad 1), .ref (ad 2), .ref (ad 3)])), ((ad 30), .inl (cJ, 256, .inr (.inl (eL li)))), ((ad 31), .inl (cZ, 256, .inl (eB lcl)))] H := hP
      have hD : va_D A [(h0, .inr (4, [.int (nI (i + 1)), .ref (ad 38), .ref (ad 0), .ref (ad 4)])), ((ad 38), .inl (cI, 33, .inl (upd vis2 (nI i).toNatClampNeg (nI x)))), ((ad 0), .inr (8, [.int (nI (tRc t)), .int (nI lc), .ref (ad 7), .ref (ad 8), .ref (ad 9), .ref (ad 10), .ref (ad 11), .ref (ad 12), .ref (ad 13), .ref (ad 14), .ref (ad 15), .ref (ad 16)])), ((ad 7), .inl (cZ, 16, .inl (eB (tRu t)))), ((ad 8), .inl (cZ, 40, .inl (eB (tLu t)))), ((ad 11), .inl (cI, 80, .inl (eN (tRp t)))), ((ad 4), .inr (6, [.ref (ad 28), .ref (ad 29), .ref (ad 30), .ref (ad 31), .ref (ad 32), .ref (ad 33), .ref (ad 34), .ref (ad 0), .ref (ad 1), .ref (ad 2), .ref (ad 3)])), ((ad 30), .inl (cJ, 256, .inr (.inl (eL li)))), ((ad 31), .inl (cZ, 256, .inl (eB lcl)))] := hD
      obtain rfl : res_ = (oI (lbf (li (x * 16 + n)) 40 0)) := hw
      rcases hv_62 : (lbf (li (x * 16 + n)) 40 0) with _ | v_62
      · refine lv_topi (fun y ey => ?_)
        obtain rfl : y = (-1) := ey
        refine lv_istore (lv' := [(6, .int (-1)), (5, .int (nI (x * 16 + n))), (0, .ref h0), (2, .int (nI n)), (3, .int (nI x)), (4, .int (nI i))]) hx hb dX4_follow_65 hl (by decide) rfl (fun ls hl => ?_)
        refine lv_iload hx hb dX4_follow_67 (lv_at hl 0 rfl) ?_
        refine lv_iconst (v := (-1)) hx hb dX4_follow_69 (by decide) ?_
        refine lv_icmp_ne (tgt := 75) hx hb dX4_follow_70 (by decide) (fun c => absurd (by decide) c) (fun _ => ?_)
        refine lv_iconst (v := (-1)) hx hb dX4_follow_73 (by decide) ?_
        have e0 : fwd t lcl li n 33 r = 1 := by rw [← heq, show 33 - i = (33 - (i + 1)) + 1 from by omega, fwd]; rw [if_neg (by rw [n_45]; decide), hv_62]
        exact k_iret E hK hP hD hS ((nI (i + 1)), (upd vis2 (nI i).toNatClampNeg (nI x))) [0, 1, 2, 3, 4, 5, 6, 7, 8] (by decide) rfl ⟨fun h => absurd (e0.symm.trans h) (by decide), fun _ => rfl⟩ (Nat.le_of_ble_eq_true rfl) (Nat.le_of_ble_eq_true rfl) dX4_follow_74
      · refine lv_topi (fun y ey => ?_)
        obtain rfl : y = (nI v_62) := ey
        have hq1 := (lbf_lt hv_62).2.1
        have hq2 := hrp (v_62 * 2)
        refine lv_istore (lv' := [(6, .int (nI v_62)), (5, .int (nI (x * 16 + n))), (0, .ref h0), (2, .int (nI n)), (3, .int (nI x)), (4, .int (nI i))]) hx hb dX4_follow_65 hl (by decide) rfl (fun ls hl => ?_)
        refine lv_iload hx hb dX4_follow_67 (lv_at hl 0 rfl) ?_
        refine lv_iconst (v := (-1)) hx hb dX4_follow_69 (by decide) ?_
        refine lv_icmp_ne (tgt := 75) hx hb dX4_follow_70 (by decide) (fun _ => ?_) (fun c => absurd c (nI_m1 (v := v_62) (by omega)))
        refine lv_aload_n hx hb dX4_follow_75 rfl (lv_at hl 2 rfl) ?_
        refine va_get (ci := 4) (v := .ref (ad 0)) (C := RX4) (T := TX4) (N := 4) hx hb hts m_follow_C4 hown hK hP 0 rfl rfl 2 (by decide) (hts (.fieldLink RX4 15 "RoutingDomain$Packet" "topology" "LRoutingDomain$Topology;") (m_follow_O _ (by decide +kernel))) (fun _ h9 => h9) rfl dX4_follow_76 ?_
        refine lv_iload hx hb dX4_follow_79 (lv_at hl 0 rfl) ?_
        refine kVi (As := [.int (nI v_62)]) (rest := []) (wr := [(h0, .inr (4, [.int (nI (i + 1)), .ref (ad 38), .ref (ad 0), .ref (ad 4)])), ((ad 38), .inl (cI, 33, .inl (upd vis2 (nI i).toNatClampNeg (nI x)))), ((ad 4), .inr (6, [.ref (ad 28), .ref (ad 29), .ref (ad 30), .ref (ad 31), .ref (ad 32), .ref (ad 33), .ref (ad 34), .ref (ad 0), .ref (ad 1), .ref (ad 2), .ref (ad 3)])), ((ad 30), .inl (cJ, 256, .inr (.inl (eL li)))), ((ad 31), .inl (cZ, 256, .inl (eB lcl)))]) (w2 := fun _ => [(h0, .inr (4, [.int (nI (i + 1)), .ref (ad 38), .ref (ad 0), .ref (ad 4)])), ((ad 38), .inl (cI, 33, .inl (upd vis2 (nI i).toNatClampNeg (nI x)))), ((ad 0), .inr (8, [.int (nI (tRc t)), .int (nI lc), .ref (ad 7), .ref (ad 8), .ref (ad 9), .ref (ad 10), .ref (ad 11), .ref (ad 12), .ref (ad 13), .ref (ad 14), .ref (ad 15), .ref (ad 16)])), ((ad 7), .inl (cZ, 16, .inl (eB (tRu t)))), ((ad 8), .inl (cZ, 40, .inl (eB (tLu t)))), ((ad 11), .inl (cI, 80, .inl (eN (tRp t)))), ((ad 4), .inr (6, [.ref (ad 28), .ref (ad 29), .ref (ad 30), .ref (ad 31), .ref (ad 32), .ref (ad 33), .ref (ad 34), .ref (ad 0), .ref (ad 1), .ref (ad 2), .ref (ad 3)])), ((ad 30), .inl (cJ, 256, .inr (.inl (eL li)))), ((ad 31), .inl (cZ, 256, .inl (eB lcl)))]) ⟨hx, hb, hml, hown, hts⟩ hN (c_canCarry l D cI cZ cJ (ad 0) ad (tRc t) lc (tRu t) (tLu t) (tRp t) v_62 (by omega) hrp) (cwV 1 hts (k_gV (fun w h => m_follow_O w ((by decide +kernel : ∀ w ∈ ([.methodLink RX4 45 yX8_canCarry, .instanceMethod yX8_canCarry, .selects RX8 yX8_canCarry yX8_canCarry, .initialized RX8] : List Cond), w ∈ O_follow) w h)) m_follow_WcanCarry gd_canCarry) rfl rfl rfl (by decide +kernel) ⟨Nat.le_of_ble_eq_true rfl, Nat.le_of_ble_eq_true rfl⟩) hK hP hD hS hA [2, 3, 4, 5] [0, 1, 6, 7, 8] [0, 1, 5, 6, 7, 8, 2, 3, 4] rfl rfl ⟨by decide, by decide, by decide⟩ (by decide) (fun _ => rfl) 8 0 rfl rfl rfl rfl hl.1 rfl (Nat.le_of_ble_eq_true rfl) dX4_follow_81 ⟨Nat.le_of_ble_eq_true rfl, Nat.le_of_ble_eq_true rfl⟩ (fun res_ u H locs hw hP hD hS => ?_)
        have hP : va_P D vwCl [(h0, .inr (4, [.int (nI (i + 1)), .ref (ad 38), .ref (ad 0), .ref (ad 4)])), ((ad 38), .inl (cI, 33, .inl (upd vis2 (nI i).toNatClampNeg (nI x)))), ((ad 0), .inr (8, [.int (nI (tRc t)), .int (nI lc), .ref (ad 7), .ref (ad 8), .ref (ad 9), .ref (ad 10), .ref (ad 11), .ref (ad 12), .ref (ad 13), .ref (ad 14), .ref (ad 15), .ref (ad 16)])), ((ad 7), .inl (cZ, 16, .inl (eB (tRu t)))), ((ad 8), .inl (cZ, 40, .inl (eB (tLu t)))), ((ad 11), .inl (cI, 80, .inl (eN (tRp t)))), ((ad 4), .inr (6, [.ref (ad 28), .ref (ad 29), .ref (ad 30), .ref (ad 31), .ref (ad 32), .ref (ad 33), .ref (ad 34), .ref (ad 0), .ref (ad 1), .ref (ad 2), .ref (ad 3)])), ((ad 30), .inl (cJ, 256, .inr (.inl (eL li)))), ((ad 31), .inl (cZ, 256, .inl (eB lcl)))] H := hP
        have hD : va_D A [(h0, .inr (4, [.int (nI (i + 1)), .ref (ad 38), .ref (ad 0), .ref (ad 4)])), ((ad 38), .inl (cI, 33, .inl (upd vis2 (nI i).toNatClampNeg (nI x)))), ((ad 0), .inr (8, [.int (nI (tRc t)), .int (nI lc), .ref (ad 7), .ref (ad 8), .ref (ad 9), .ref (ad 10), .ref (ad 11), .ref (ad 12), .ref (ad 13), .ref (ad 14), .ref (ad 15), .ref (ad 16)])), ((ad 7), .inl (cZ, 16, .inl (eB (tRu t)))), ((ad 8), .inl (cZ, 40, .inl (eB (tLu t)))), ((ad 11), .inl (cI, 80, .inl (eN (tRp t)))), ((ad 4), .inr (6, [.ref (ad 28), .ref (ad 29), .ref (ad 30), .ref (ad 31), .ref (ad 32), .ref (ad 33), .ref (ad 34), .ref (ad 0), .ref (ad 1), .ref (ad 2), .ref (ad 3)])), ((ad 30), .inl (cJ, 256, .inr (.inl (eL li)))), ((ad 31), .inl (cZ, 256, .inl (eB lcl)))] := hD
        obtain rfl : res_ = (bI (cc (tRu t) (tLu t) (tRp t) v_62)) := hw
        refine lv_if_ne (tgt := 90) hx hb dX4_follow_84 (by decide) (fun c_84 => ?_) (fun c_84 => ?_)
        · have n_84 : (cc (tRu t) (tLu t) (tRp t) v_62) = true := bI_1 c_84
          refine lv_aload_n hx hb dX4_follow_90 rfl (lv_at hl 2 rfl) ?_
          refine va_get (ci := 4) (v := .ref (ad 0)) (C := RX4) (T := TX4) (N := 4) hx hb hts m_follow_C4 hown hK hP 0 rfl rfl 2 (by decide) (hts (.fieldLink RX4 15 "RoutingDomain$Packet" "topology" "LRoutingDomain$Topology;") (m_follow_O _ (by decide +kernel))) (fun _ h9 => h9) rfl dX4_follow_91 ?_
          refine va_get (ci := 8) (v := .ref (ad 11)) (C := RX8) (T := TX8) (N := 12) hx hb hts m_follow_C8 hown hK hP 2 rfl rfl 6 (by decide) (hts (.fieldLink RX4 51 "RoutingDomain$Topology" "routerOfPort" "[I") (m_follow_O _ (by decide +kernel))) (fun _ h9 => h9) rfl dX4_follow_94 ?_
          refine lv_iload hx hb dX4_follow_97 (lv_at hl 0 rfl) ?_
          refine lv_iconst (v := 2) hx hb dX4_follow_99 (by decide) ?_
          refine lv_imul hx hb dX4_follow_100 ?_
          refine lv_topi (fun y ey => ?_)
          obtain rfl : y = (nI (v_62 * 2)) := ey.trans (pk_mul v_62 2)
          refine va_iald hx hb hK hP 5 0 rfl rfl (vp_in_nI (show (v_62 * 2) < 80 from by omega) (by decide)) dX4_follow_101 ?_
          refine lv_topi (fun y ey => ?_)
          obtain rfl : y = (nI ((tRp t) (v_62 * 2))) := ey.trans (ldN (f := (tRp t)) (j := (v_62 * 2)) (by omega))
          refine lv_iload_n hx hb dX4_follow_102 rfl (lv_at hl 4 rfl) ?_
          refine lv_icmp_ne (tgt := 110) hx hb dX4_follow_103 (by decide) (fun c_103 => ?_) (fun c_103 => ?_)
          · have n_103 : ¬ ((tRp t) (v_62 * 2)) = x := fun h => c_103 ((nI_eq (a := ((tRp t) (v_62 * 2))) (b := x) (by omega) (by omega)).mpr h)
            refine lv_iconst (v := 0) hx hb dX4_follow_110 (by decide) ?_
            refine lv_istore (lv' := [(7, .int 0), (6, .int (nI v_62)), (5, .int (nI (x * 16 + n))), (0, .ref h0), (2, .int (nI n)), (3, .int (nI x)), (4, .int (nI i))]) hx hb dX4_follow_111 hl (by decide) rfl (fun ls hl => ?_)
            refine lv_aload_n hx hb dX4_follow_113 rfl (lv_at hl 3 rfl) ?_
            refine va_get (ci := 4) (v := .ref (ad 0)) (C := RX4) (T := TX4) (N := 4) hx hb hts m_follow_C4 hown hK hP 0 rfl rfl 2 (by decide) (hts (.fieldLink RX4 15 "RoutingDomain$Packet" "topology" "LRoutingDomain$Topology;") (m_follow_O _ (by decide +kernel))) (fun _ h9 => h9) rfl dX4_follow_114 ?_
            refine va_get (ci := 8) (v := .ref (ad 11)) (C := RX8) (T := TX8) (N := 12) hx hb hts m_follow_C8 hown hK hP 2 rfl rfl 6 (by decide) (hts (.fieldLink RX4 51 "RoutingDomain$Topology" "routerOfPort" "[I") (m_follow_O _ (by decide +kernel))) (fun _ h9 => h9) rfl dX4_follow_117 ?_
            refine lv_iload hx hb dX4_follow_120 (lv_at hl 0 rfl) ?_
            refine lv_if_eq (tgt := 134) hx hb dX4_follow_122 (by decide) (fun _ => ?_) (fun c => absurd (by decide) c)
            refine lv_iload hx hb dX4_follow_134 (lv_at hl 1 rfl) ?_
            refine lv_iconst (v := 2) hx hb dX4_follow_136 (by decide) ?_
            refine lv_imul hx hb dX4_follow_137 ?_
            refine lv_topi (fun y ey => ?_)
            obtain rfl : y = (nI (v_62 * 2)) := ey.trans (pk_mul v_62 2)
            refine va_iald hx hb hK hP 5 0 rfl rfl (vp_in_nI (show (v_62 * 2) < 80 from by omega) (by decide)) dX4_follow_138 ?_
            refine lv_topi (fun y ey => ?_)
            obtain rfl : y = (nI ((tRp t) (v_62 * 2))) := ey.trans (ldN (f := (tRp t)) (j := (v_62 * 2)) (by omega))
            refine lv_istore_n (lv' := [(3, .int (nI ((tRp t) (v_62 * 2)))), (7, .int 0), (6, .int (nI v_62)), (5, .int (nI (x * 16 + n))), (0, .ref h0), (2, .int (nI n)), (4, .int (nI i))]) hx hb dX4_follow_139 rfl hl (by decide) rfl (fun ls hl => ?_)
            refine lv_iinc (v := (nI (i + 1))) (lv' := [(4, .int (nI (i + 1))), (3, .int (nI ((tRp t) (v_62 * 2)))), (7, .int 0), (6, .int (nI v_62)), (5, .int (nI (x * 16 + n))), (0, .ref h0), (2, .int (nI n))]) hx hb dX4_follow_140 hl (k := 6) rfl (nI_add i 1) (by decide) rfl (fun ls hl => ?_)
            refine lv_goto (tgt := 5) hx hb dX4_follow_143 (by decide) ?_
            exact ih_5 (i + 1, ((tRp t) (v_62 * 2)), (nI (i + 1)), (upd vis2 (nI i).toNatClampNeg (nI x))) H locs ls (⟨by show i + 1 ≤ 33; omega, hrp _, by rw [← heq, show 33 - i = (33 - (i + 1)) + 1 from by omega]; conv => rhs; rw [fwd]; rw [if_neg (by rw [n_45]; decide), hv_62]; dsimp only; rw [if_pos (show tcc t v_62 = true from n_84), if_neg n_103]⟩) (by show 33 - (i + 1) < 33 - i; omega) (hP.sub [0, 1, 2, 3, 4, 5, 6, 7, 8] rfl) (hD.sub [0, 1, 2, 3, 4, 5, 6, 7, 8] (by decide) rfl) hS (lv_sub hl [5, 6, 1, 0] rfl)
          · have n_103 : ((tRp t) (v_62 * 2)) = x := (nI_eq (a := ((tRp t) (v_62 * 2))) (b := x) (by omega) (by omega)).mp c_103
            refine lv_iconst (v := 1) hx hb dX4_follow_106 (by decide) ?_
            refine lv_goto (tgt := 111) hx hb dX4_follow_107 (by decide) ?_
            refine lv_istore (lv' := [(7, .int 1), (6, .int (nI v_62)), (5, .int (nI (x * 16 + n))), (0, .ref h0), (2, .int (nI n)), (3, .int (nI x)), (4, .int (nI i))]) hx hb dX4_follow_111 hl (by decide) rfl (fun ls hl => ?_)
            refine lv_aload_n hx hb dX4_follow_113 rfl (lv_at hl 3 rfl) ?_
            refine va_get (ci := 4) (v := .ref (ad 0)) (C := RX4) (T := TX4) (N := 4) hx hb hts m_follow_C4 hown hK hP 0 rfl rfl 2 (by decide) (hts (.fieldLink RX4 15 "RoutingDomain$Packet" "topology" "LRoutingDomain$Topology;") (m_follow_O _ (by decide +kernel))) (fun _ h9 => h9) rfl dX4_follow_114 ?_
            refine va_get (ci := 8) (v := .ref (ad 11)) (C := RX8) (T := TX8) (N := 12) hx hb hts m_follow_C8 hown hK hP 2 rfl rfl 6 (by decide) (hts (.fieldLink RX4 51 "RoutingDomain$Topology" "routerOfPort" "[I") (m_follow_O _ (by decide +kernel))) (fun _ h9 => h9) rfl dX4_follow_117 ?_
            refine lv_iload hx hb dX4_follow_120 (lv_at hl 0 rfl) ?_
            refine lv_if_eq (tgt := 134) hx hb dX4_follow_122 (by decide) (fun c => absurd c (by decide)) (fun _ => ?_)
            refine lv_iload hx hb dX4_follow_125 (lv_at hl 1 rfl) ?_
            refine lv_iconst (v := 2) hx hb dX4_follow_127 (by decide) ?_
            refine lv_imul hx hb dX4_follow_128 ?_
            refine lv_topi (fun y ey => ?_)
            obtain rfl : y = (nI (v_62 * 2)) := ey.trans (pk_mul v_62 2)
            refine lv_iconst (v := 1) hx hb dX4_follow_129 (by decide) ?_
            refine lv_iadd hx hb dX4_follow_130 ?_
            refine lv_topi (fun y ey => ?_)
            obtain rfl : y = (nI ((v_62 * 2) + 1)) := ey.trans (nI_add (v_62 * 2) 1)
            refine lv_goto (tgt := 138) hx hb dX4_follow_131 (by decide) ?_
            refine va_iald hx hb hK hP 5 0 rfl rfl (vp_in_nI (show ((v_62 * 2) + 1) < 80 from by omega) (by decide)) dX4_follow_138 ?_
            refine lv_topi (fun y ey => ?_)
            obtain rfl : y = (nI ((tRp t) ((v_62 * 2) + 1))) := ey.trans (ldN (f := (tRp t)) (j := ((v_62 * 2) + 1)) (by omega))
            refine lv_istore_n (lv' := [(3, .int (nI ((tRp t) ((v_62 * 2) + 1)))), (7, .int 1), (6, .int (nI v_62)), (5, .int (nI (x * 16 + n))), (0, .ref h0), (2, .int (nI n)), (4, .int (nI i))]) hx hb dX4_follow_139 rfl hl (by decide) rfl (fun ls hl => ?_)
            refine lv_iinc (v := (nI (i + 1))) (lv' := [(4, .int (nI (i + 1))), (3, .int (nI ((tRp t) ((v_62 * 2) + 1)))), (7, .int 1), (6, .int (nI v_62)), (5, .int (nI (x * 16 + n))), (0, .ref h0), (2, .int (nI n))]) hx hb dX4_follow_140 hl (k := 6) rfl (nI_add i 1) (by decide) rfl (fun ls hl => ?_)
            refine lv_goto (tgt := 5) hx hb dX4_follow_143 (by decide) ?_
            exact ih_5 (i + 1, ((tRp t) ((v_62 * 2) + 1)), (nI (i + 1)), (upd vis2 (nI i).toNatClampNeg (nI x))) H locs ls (⟨by show i + 1 ≤ 33; omega, hrp _, by rw [← heq, show 33 - i = (33 - (i + 1)) + 1 from by omega]; conv => rhs; rw [fwd]; rw [if_neg (by rw [n_45]; decide), hv_62]; dsimp only; rw [if_pos (show tcc t v_62 = true from n_84), if_pos n_103]⟩) (by show 33 - (i + 1) < 33 - i; omega) (hP.sub [0, 1, 2, 3, 4, 5, 6, 7, 8] rfl) (hD.sub [0, 1, 2, 3, 4, 5, 6, 7, 8] (by decide) rfl) hS (lv_sub hl [5, 6, 1, 0] rfl)
        · have n_84 : (cc (tRu t) (tLu t) (tRp t) v_62) = false := bI_0 c_84
          refine lv_bipush (v := (-2)) hx hb dX4_follow_87 (by decide) ?_
          have e0 : fwd t lcl li n 33 r = 2 := by rw [← heq, show 33 - i = (33 - (i + 1)) + 1 from by omega, fwd]; rw [if_neg (by rw [n_45]; decide), hv_62]; dsimp only; rw [if_neg (by rw [show tcc t v_62 = false from n_84]; decide)]
          exact k_iret E hK hP hD hS ((nI (i + 1)), (upd vis2 (nI i).toNatClampNeg (nI x))) [0, 1, 2, 3, 4, 5, 6, 7, 8] (by decide) rfl ⟨fun h => absurd (e0.symm.trans h) (by decide), fun h => absurd (e0.symm.trans h) (by decide)⟩ (Nat.le_of_ble_eq_true rfl) (Nat.le_of_ble_eq_true rfl) dX4_follow_89
    · have n_45 : (lcl (x * 16 + n)) = true := bI_1 c_45
      refine lv_iload hx hb dX4_follow_48 (lv_at hl 4 rfl) ?_
      have e0 : fwd t lcl li n 33 r = 0 := by rw [← heq, show 33 - i = (33 - (i + 1)) + 1 from by omega, fwd]; rw [if_pos n_45]
      exact k_iret E hK hP hD hS ((nI (i + 1)), (upd vis2 (nI i).toNatClampNeg (nI x))) [0, 1, 2, 3, 4, 5, 6, 7, 8] (by decide) rfl ⟨fun _ => ⟨i, by omega, rfl⟩, fun h => absurd (e0.symm.trans h) (by decide)⟩ (Nat.le_of_ble_eq_true rfl) (Nat.le_of_ble_eq_true rfl) dX4_follow_50

