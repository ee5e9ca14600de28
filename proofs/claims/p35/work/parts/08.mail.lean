theorem dX3_versionAt_0 : decode cX3_versionAt 0 = .ok (.aload_n 0, 1) := by decide +kernel
theorem dX3_versionAt_1 : decode cX3_versionAt 1 = .ok (.getfield 9, 3) := by decide +kernel
theorem dX3_versionAt_4 : decode cX3_versionAt 4 = .ok (.iload_n 1, 1) := by decide +kernel
theorem dX3_versionAt_5 : decode cX3_versionAt 5 = .ok (.iaload, 1) := by decide +kernel
theorem dX3_versionAt_6 : decode cX3_versionAt 6 = .ok (.bipush 7, 2) := by decide +kernel
theorem dX3_versionAt_8 : decode cX3_versionAt 8 = .ok (.ishr, 1) := by decide +kernel
theorem dX3_versionAt_9 : decode cX3_versionAt 9 = .ok (.ireturn, 1) := by decide +kernel
theorem dX3_portAt_0 : decode cX3_portAt 0 = .ok (.aload_n 0, 1) := by decide +kernel
theorem dX3_portAt_1 : decode cX3_portAt 1 = .ok (.getfield 9, 3) := by decide +kernel
theorem dX3_portAt_4 : decode cX3_portAt 4 = .ok (.iload_n 1, 1) := by decide +kernel
theorem dX3_portAt_5 : decode cX3_portAt 5 = .ok (.iaload, 1) := by decide +kernel
theorem dX3_portAt_6 : decode cX3_portAt 6 = .ok (.bipush 127, 2) := by decide +kernel
theorem dX3_portAt_8 : decode cX3_portAt 8 = .ok (.iand, 1) := by decide +kernel
theorem dX3_portAt_9 : decode cX3_portAt 9 = .ok (.ireturn, 1) := by decide +kernel
def O_versionAt : List Cond := [.fieldLink RX3 9 "RoutingDomain$Mail" "messages" "[I"]
def W_versionAt : List Cond := .code yX3_versionAt cX3_versionAt 2 (some .int) :: (O_versionAt ++ wsX30)
theorem m_versionAt_O : ∀ w ∈ O_versionAt, w ∈ W_versionAt := fun _ h => List.mem_cons_of_mem _ (List.mem_append_left _ h)
theorem m_versionAt_C3 : ∀ w ∈ wsX30, w ∈ W_versionAt := fun _ h => List.mem_cons_of_mem _ (List.mem_append_right _ h)
theorem gdO_versionAt : O_versionAt.all goodWord = true := by decide +kernel
theorem gd_versionAt : W_versionAt.all goodWord = true := k_all_cons rfl (k_all_app gdO_versionAt gdC_3)
set_option maxHeartbeats 4000000 in
set_option maxRecDepth 100000 in
theorem c_versionAt (l : Launch) (D : va_G) (cI cZ cJ : ClassId) (h0 : Nat) (a1 : Nat) (mc : Nat) (cap : Nat) (ms : Nat → Nat) (i : Nat) (hi : i < cap) (hcap : cap ≤ 2 ^ 20) (hms : ∀ j, ms j < 2 ^ 24) : kMi l yX3_versionAt W_versionAt { frames := 0, cells := 0, slots := 0, locals := 0 } 0 0 D (kT cI cZ cJ) [.ref h0, .int (nI i)] [(h0, .inr (3, [.int (nI mc), .ref a1])), (a1, .inl (cI, cap, .inl (eN ms)))] (S := Unit) (fun res_ _ => res_ = (nI (ms i / 128))) (fun _ => [(h0, .inr (3, [.int (nI mc), .ref a1])), (a1, .inl (cI, cap, .inl (eN ms)))]) := by
  refine kMi_of (lv := [(0, .ref h0), (1, .int (nI i))]) RX3 "versionAt" (by decide +kernel) rfl rfl rfl (Nat.le_of_ble_eq_true rfl) rfl ?_
  intro p e s m below meth c A H locs ls E hA hK hP hD hS hl
  obtain ⟨hx, hb, hr_, hts, hown, hlocks, hml, hin, hN⟩ := id E
  have hq1 := hms i
  refine lv_aload_n hx hb dX3_versionAt_0 rfl (lv_at hl 0 rfl) ?_
  refine va_get (ci := 3) (v := .ref a1) (C := RX3) (T := TX3) (N := 2) hx hb hts m_versionAt_C3 hown hK hP 0 rfl rfl 1 (by decide) (hts (.fieldLink RX3 9 "RoutingDomain$Mail" "messages" "[I") (m_versionAt_O _ (by decide +kernel))) (fun _ h9 => h9) rfl dX3_versionAt_1 ?_
  refine lv_iload_n hx hb dX3_versionAt_4 rfl (lv_at hl 1 rfl) ?_
  refine va_iald hx hb hK hP 1 0 rfl rfl (vp_in_nI hi (by omega)) dX3_versionAt_5 ?_
  refine lv_topi (fun y ey => ?_)
  obtain rfl : y = (nI (ms i)) := ey.trans (ldN (f := ms) (j := i) (by omega))
  refine lv_bipush (v := 7) hx hb dX3_versionAt_6 (by decide) ?_
  refine lv_ishr hx hb dX3_versionAt_8 ?_
  refine lv_topi (fun y ey => ?_)
  obtain rfl : y = (nI ((ms i) / 128)) := ey.trans (k_shr (a := (ms i)) (by omega) 7 (by decide))
  exact k_iret E hK hP hD hS () [0, 1] (by decide) rfl (by first | rfl | (simp [bI, oI]; done) | (simp [bI, oI]; rfl)) (Nat.le_of_ble_eq_true rfl) (Nat.le_of_ble_eq_true rfl) dX3_versionAt_9

def O_mailPortAt : List Cond := [.fieldLink RX3 9 "RoutingDomain$Mail" "messages" "[I"]
def W_mailPortAt : List Cond := .code yX3_portAt cX3_portAt 2 (some .int) :: (O_mailPortAt ++ wsX30)
theorem m_mailPortAt_O : ∀ w ∈ O_mailPortAt, w ∈ W_mailPortAt := fun _ h => List.mem_cons_of_mem _ (List.mem_append_left _ h)
theorem m_mailPortAt_C3 : ∀ w ∈ wsX30, w ∈ W_mailPortAt := fun _ h => List.mem_cons_of_mem _ (List.mem_append_right _ h)
theorem gdO_mailPortAt : O_mailPortAt.all goodWord = true := by decide +kernel
theorem gd_mailPortAt : W_mailPortAt.all goodWord = true := k_all_cons rfl (k_all_app gdO_mailPortAt gdC_3)
set_option maxHeartbeats 4000000 in
set_option maxRecDepth 100000 in
theorem c_mailPortAt (l : Launch) (D : va_G) (cI cZ cJ : ClassId) (h0 : Nat) (a1 : Nat) (mc : Nat) (cap : Nat) (ms : Nat → Nat) (i : Nat) (hi : i < cap) (hcap : cap ≤ 2 ^ 20) : kMi l yX3_portAt W_mailPortAt { frames := 0, cells := 0, slots := 0, locals := 0 } 0 0 D (kT cI cZ cJ) [.ref h0, .int (nI i)] [(h0, .inr (3, [.int (nI mc), .ref a1])), (a1, .inl (cI, cap, .inl (eN ms)))] (S := Unit) (fun res_ _ => res_ = (nI (ms i % 128))) (fun _ => [(h0, .inr (3, [.int (nI mc), .ref a1])), (a1, .inl (cI, cap, .inl (eN ms)))]) := by
  refine kMi_of (lv := [(0, .ref h0), (1, .int (nI i))]) RX3 "portAt" (by decide +kernel) rfl rfl rfl (Nat.le_of_ble_eq_true rfl) rfl ?_
  intro p e s m below meth c A H locs ls E hA hK hP hD hS hl
  obtain ⟨hx, hb, hr_, hts, hown, hlocks, hml, hin, hN⟩ := id E
  refine lv_aload_n hx hb dX3_portAt_0 rfl (lv_at hl 0 rfl) ?_
  refine va_get (ci := 3) (v := .ref a1) (C := RX3) (T := TX3) (N := 2) hx hb hts m_mailPortAt_C3 hown hK hP 0 rfl rfl 1 (by decide) (hts (.fieldLink RX3 9 "RoutingDomain$Mail" "messages" "[I") (m_mailPortAt_O _ (by decide +kernel))) (fun _ h9 => h9) rfl dX3_portAt_1 ?_
  refine lv_iload_n hx hb dX3_portAt_4 rfl (lv_at hl 1 rfl) ?_
  refine va_iald hx hb hK hP 1 0 rfl rfl (vp_in_nI hi (by omega)) dX3_portAt_5 ?_
  refine lv_topi (fun y ey => ?_)
  obtain rfl : y = (nI (ms i)) := ey.trans (ldN (f := ms) (j := i) (by omega))
  refine lv_bipush (v := 127) hx hb dX3_portAt_6 (by decide) ?_
  refine lv_iand hx hb dX3_portAt_8 ?_
  refine lv_topi (fun y ey => ?_)
  obtain rfl : y = (nI ((ms i) % 128)) := ey.trans (k_andN (ms i) 7)
  exact k_iret E hK hP hD hS () [0, 1] (by decide) rfl (by first | rfl | (simp [bI, oI]; done) | (simp [bI, oI]; rfl)) (Nat.le_of_ble_eq_true rfl) (Nat.le_of_ble_eq_true rfl) dX3_portAt_9

