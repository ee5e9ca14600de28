theorem dL_below_0 : decode cL_below 0 = .ok (.iload_n 0, 1) := by decide +kernel
theorem dL_below_1 : decode cL_below 1 = .ok (.ldc 7, 2) := by decide +kernel
theorem dL_below_3 : decode cL_below 3 = .ok (.iand, 1) := by decide +kernel
theorem dL_below_4 : decode cL_below 4 = .ok (.iload_n 1, 1) := by decide +kernel
theorem dL_below_5 : decode cL_below 5 = .ok (.irem, 1) := by decide +kernel
theorem dL_below_6 : decode cL_below 6 = .ok (.ireturn, 1) := by decide +kernel
def O_below : List Cond := [.constant RL 7 (2147483647)]
def W_below : List Cond := .code yL_below cL_below 2 (some .int) :: O_below
theorem m_below_O : ∀ w ∈ O_below, w ∈ W_below := fun _ h => List.mem_cons_of_mem _ h
theorem gdO_below : O_below.all goodWord = true := by decide +kernel
theorem gd_below : W_below.all goodWord = true := k_all_cons rfl gdO_below
set_option maxHeartbeats 4000000 in
set_option maxRecDepth 100000 in
theorem c_below (l : Launch) (D : va_G) (cI cZ cJ : ClassId) (v : Int32) (n : Nat) (hn0 : 0 < n) (hn : n < 2 ^ 31) : kMi l yL_below W_below { frames := 0, cells := 0, slots := 0, locals := 0 } 0 0 D (kT cI cZ cJ) [.int v, .int (nI n)] [] (S := Unit) (fun res_ _ => res_ = (nI (blw v n))) (fun _ => []) := by
  refine kMi_of (lv := [(0, .int v), (1, .int (nI n))]) RL "below" (by decide +kernel) rfl rfl rfl (Nat.le_of_ble_eq_true rfl) rfl ?_
  intro p e s m below meth c A H locs ls E hA hK hP hD hS hl
  obtain ⟨hx, hb, hr_, hts, hown, hlocks, hml, hin, hN⟩ := id E
  refine lv_iload_n hx hb dL_below_0 rfl (lv_at hl 0 rfl) ?_
  refine lv_ldc hx hb hown (hts (.constant RL 7 (2147483647)) (m_below_O _ (by decide +kernel))) dL_below_1 ?_
  refine lv_iand hx hb dL_below_3 ?_
  refine lv_topi (fun y ey => ?_)
  obtain rfl : y = (nI (v.toBitVec.toNat % 2 ^ 31)) := ey.trans (blw_m v)
  refine lv_iload_n hx hb dL_below_4 rfl (lv_at hl 1 rfl) ?_
  refine lv_irem hx hb dL_below_5 (nI_nez hn0 hn) ?_
  refine lv_topi (fun y ey => ?_)
  obtain rfl : y = (nI ((v.toBitVec.toNat % 2 ^ 31) % n)) := ey.trans (pk_rem (a := (v.toBitVec.toNat % 2 ^ 31)) (d := n) (Nat.mod_lt _ (by decide)) hn0 hn)
  exact k_iret E hK hP hD hS () [] (by decide) rfl (by first | rfl | (simp [bI, oI]; done) | (simp [bI, oI]; rfl)) (Nat.le_of_ble_eq_true rfl) (Nat.le_of_ble_eq_true rfl) dL_below_6

