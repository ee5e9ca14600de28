theorem dX5_forget_0 : decode cX5_forget 0 = .ok (.iconst 0, 1) := by decide +kernel
theorem dX5_forget_1 : decode cX5_forget 1 = .ok (.istore_n 2, 1) := by decide +kernel
theorem dX5_forget_2 : decode cX5_forget 2 = .ok (.iload_n 2, 1) := by decide +kernel
theorem dX5_forget_3 : decode cX5_forget 3 = .ok (.iconst 4, 1) := by decide +kernel
theorem dX5_forget_4 : decode cX5_forget 4 = .ok (.if_icmp .ge 18, 3) := by decide +kernel
theorem dX5_forget_7 : decode cX5_forget 7 = .ok (.aload_n 0, 1) := by decide +kernel
theorem dX5_forget_8 : decode cX5_forget 8 = .ok (.iload_n 1, 1) := by decide +kernel
theorem dX5_forget_9 : decode cX5_forget 9 = .ok (.iload_n 2, 1) := by decide +kernel
theorem dX5_forget_10 : decode cX5_forget 10 = .ok (.invokestatic 37, 3) := by decide +kernel
theorem dX5_forget_13 : decode cX5_forget 13 = .ok (.invokevirtual 41, 3) := by decide +kernel
theorem dX5_forget_16 : decode cX5_forget 16 = .ok (.iinc 2 1, 3) := by decide +kernel
theorem dX5_forget_19 : decode cX5_forget 19 = .ok (.goto (-17), 3) := by decide +kernel
theorem dX5_forget_22 : decode cX5_forget 22 = .ok (.return_, 1) := by decide +kernel
theorem dX5_clearRow_0 : decode cX5_clearRow 0 = .ok (.iload_n 1, 1) := by decide +kernel
theorem dX5_clearRow_1 : decode cX5_clearRow 1 = .ok (.istore_n 2, 1) := by decide +kernel
theorem dX5_clearRow_2 : decode cX5_clearRow 2 = .ok (.iload_n 2, 1) := by decide +kernel
theorem dX5_clearRow_3 : decode cX5_clearRow 3 = .ok (.iload_n 1, 1) := by decide +kernel
theorem dX5_clearRow_4 : decode cX5_clearRow 4 = .ok (.bipush 16, 2) := by decide +kernel
theorem dX5_clearRow_6 : decode cX5_clearRow 6 = .ok (.iadd, 1) := by decide +kernel
theorem dX5_clearRow_7 : decode cX5_clearRow 7 = .ok (.if_icmp .ge 23, 3) := by decide +kernel
theorem dX5_clearRow_10 : decode cX5_clearRow 10 = .ok (.aload_n 0, 1) := by decide +kernel
theorem dX5_clearRow_11 : decode cX5_clearRow 11 = .ok (.getfield 9, 3) := by decide +kernel
theorem dX5_clearRow_14 : decode cX5_clearRow 14 = .ok (.iload_n 2, 1) := by decide +kernel
theorem dX5_clearRow_15 : decode cX5_clearRow 15 = .ok (.iconst (-1), 1) := by decide +kernel
theorem dX5_clearRow_16 : decode cX5_clearRow 16 = .ok (.iastore, 1) := by decide +kernel
theorem dX5_clearRow_17 : decode cX5_clearRow 17 = .ok (.aload_n 0, 1) := by decide +kernel
theorem dX5_clearRow_18 : decode cX5_clearRow 18 = .ok (.getfield 15, 3) := by decide +kernel
theorem dX5_clearRow_21 : decode cX5_clearRow 21 = .ok (.iload_n 2, 1) := by decide +kernel
theorem dX5_clearRow_22 : decode cX5_clearRow 22 = .ok (.lconst 0, 1) := by decide +kernel
theorem dX5_clearRow_23 : decode cX5_clearRow 23 = .ok (.lastore, 1) := by decide +kernel
theorem dX5_clearRow_24 : decode cX5_clearRow 24 = .ok (.iinc 2 1, 3) := by decide +kernel
theorem dX5_clearRow_27 : decode cX5_clearRow 27 = .ok (.goto (-25), 3) := by decide +kernel
theorem dX5_clearRow_30 : decode cX5_clearRow 30 = .ok (.return_, 1) := by decide +kernel
theorem dX5_offer_0 : decode cX5_offer 0 = .ok (.aload_n 0, 1) := by decide +kernel
theorem dX5_offer_1 : decode cX5_offer 1 = .ok (.getfield 9, 3) := by decide +kernel
theorem dX5_offer_4 : decode cX5_offer 4 = .ok (.iload_n 1, 1) := by decide +kernel
theorem dX5_offer_5 : decode cX5_offer 5 = .ok (.iaload, 1) := by decide +kernel
theorem dX5_offer_6 : decode cX5_offer 6 = .ok (.iconst (-1), 1) := by decide +kernel
theorem dX5_offer_7 : decode cX5_offer 7 = .ok (.if_icmp .eq 13, 3) := by decide +kernel
theorem dX5_offer_10 : decode cX5_offer 10 = .ok (.iload_n 2, 1) := by decide +kernel
theorem dX5_offer_11 : decode cX5_offer 11 = .ok (.aload_n 0, 1) := by decide +kernel
theorem dX5_offer_12 : decode cX5_offer 12 = .ok (.getfield 9, 3) := by decide +kernel
theorem dX5_offer_15 : decode cX5_offer 15 = .ok (.iload_n 1, 1) := by decide +kernel
theorem dX5_offer_16 : decode cX5_offer 16 = .ok (.iaload, 1) := by decide +kernel
theorem dX5_offer_17 : decode cX5_offer 17 = .ok (.if_icmp .ge 20, 3) := by decide +kernel
theorem dX5_offer_20 : decode cX5_offer 20 = .ok (.aload_n 0, 1) := by decide +kernel
theorem dX5_offer_21 : decode cX5_offer 21 = .ok (.getfield 9, 3) := by decide +kernel
theorem dX5_offer_24 : decode cX5_offer 24 = .ok (.iload_n 1, 1) := by decide +kernel
theorem dX5_offer_25 : decode cX5_offer 25 = .ok (.iload_n 2, 1) := by decide +kernel
theorem dX5_offer_26 : decode cX5_offer 26 = .ok (.iastore, 1) := by decide +kernel
theorem dX5_offer_27 : decode cX5_offer 27 = .ok (.aload_n 0, 1) := by decide +kernel
theorem dX5_offer_28 : decode cX5_offer 28 = .ok (.getfield 15, 3) := by decide +kernel
theorem dX5_offer_31 : decode cX5_offer 31 = .ok (.iload_n 1, 1) := by decide +kernel
theorem dX5_offer_32 : decode cX5_offer 32 = .ok (.lload_n 3, 1) := by decide +kernel
theorem dX5_offer_33 : decode cX5_offer 33 = .ok (.lastore, 1) := by decide +kernel
theorem dX5_offer_34 : decode cX5_offer 34 = .ok (.goto 23, 3) := by decide +kernel
theorem dX5_offer_37 : decode cX5_offer 37 = .ok (.iload_n 2, 1) := by decide +kernel
theorem dX5_offer_38 : decode cX5_offer 38 = .ok (.aload_n 0, 1) := by decide +kernel
theorem dX5_offer_39 : decode cX5_offer 39 = .ok (.getfield 9, 3) := by decide +kernel
theorem dX5_offer_42 : decode cX5_offer 42 = .ok (.iload_n 1, 1) := by decide +kernel
theorem dX5_offer_43 : decode cX5_offer 43 = .ok (.iaload, 1) := by decide +kernel
theorem dX5_offer_44 : decode cX5_offer 44 = .ok (.if_icmp .ne 13, 3) := by decide +kernel
theorem dX5_offer_47 : decode cX5_offer 47 = .ok (.aload_n 0, 1) := by decide +kernel
theorem dX5_offer_48 : decode cX5_offer 48 = .ok (.getfield 15, 3) := by decide +kernel
theorem dX5_offer_51 : decode cX5_offer 51 = .ok (.iload_n 1, 1) := by decide +kernel
theorem dX5_offer_52 : decode cX5_offer 52 = .ok (.dup2, 1) := by decide +kernel
theorem dX5_offer_53 : decode cX5_offer 53 = .ok (.laload, 1) := by decide +kernel
theorem dX5_offer_54 : decode cX5_offer 54 = .ok (.lload_n 3, 1) := by decide +kernel
theorem dX5_offer_55 : decode cX5_offer 55 = .ok (.lor, 1) := by decide +kernel
theorem dX5_offer_56 : decode cX5_offer 56 = .ok (.lastore, 1) := by decide +kernel
theorem dX5_offer_57 : decode cX5_offer 57 = .ok (.return_, 1) := by decide +kernel
theorem dX9_rowOfPaths_0 : decode cX9_rowOfPaths 0 = .ok (.iload_n 0, 1) := by decide +kernel
theorem dX9_rowOfPaths_1 : decode cX9_rowOfPaths 1 = .ok (.iconst 4, 1) := by decide +kernel
theorem dX9_rowOfPaths_2 : decode cX9_rowOfPaths 2 = .ok (.imul, 1) := by decide +kernel
theorem dX9_rowOfPaths_3 : decode cX9_rowOfPaths 3 = .ok (.iload_n 1, 1) := by decide +kernel
theorem dX9_rowOfPaths_4 : decode cX9_rowOfPaths 4 = .ok (.iadd, 1) := by decide +kernel
theorem dX9_rowOfPaths_5 : decode cX9_rowOfPaths 5 = .ok (.bipush 16, 2) := by decide +kernel
theorem dX9_rowOfPaths_7 : decode cX9_rowOfPaths 7 = .ok (.imul, 1) := by decide +kernel
theorem dX9_rowOfPaths_8 : decode cX9_rowOfPaths 8 = .ok (.ireturn, 1) := by decide +kernel
def clD (w : Nat) (i : Nat) (f : Nat → Option Nat) : Nat → Option Nat := fs f (w + i) none
def clF (w : Nat) (i : Nat) (f : Nat → Nat) : Nat → Nat := fs f (w + i) 0
def fgD (r : Nat) (i : Nat) (f : Nat → Option Nat) : Nat → Option Nat := itr (clD ((r * 4 + i) * 16)) 16 f
def fgF (r : Nat) (i : Nat) (f : Nat → Nat) : Nat → Nat := itr (clF ((r * 4 + i) * 16)) 16 f
def O_rowOfPaths : List Cond := []
def W_rowOfPaths : List Cond := .code yX9_rowOfPaths cX9_rowOfPaths 2 (some .int) :: O_rowOfPaths
theorem m_rowOfPaths_O : ∀ w ∈ O_rowOfPaths, w ∈ W_rowOfPaths := fun _ h => List.mem_cons_of_mem _ h
theorem gdO_rowOfPaths : O_rowOfPaths.all goodWord = true := by decide +kernel
theorem gd_rowOfPaths : W_rowOfPaths.all goodWord = true := k_all_cons rfl gdO_rowOfPaths
set_option maxHeartbeats 4000000 in
set_option maxRecDepth 100000 in
theorem c_rowOfPaths (l : Launch) (D : va_G) (cI cZ cJ : ClassId) (r : Nat) (a : Nat) (hr : r < 16) (ha : a < 4) : kMi l yX9_rowOfPaths W_rowOfPaths { frames := 0, cells := 0, slots := 0, locals := 0 } 0 0 D (kT cI cZ cJ) [.int (nI r), .int (nI a)] [] (S := Unit) (fun res_ _ => res_ = (nI ((r * 4 + a) * 16))) (fun _ => []) := by
  refine kMi_of (lv := [(0, .int (nI r)), (1, .int (nI a))]) RX9 "rowOfPaths" (by decide +kernel) rfl rfl rfl (Nat.le_of_ble_eq_true rfl) rfl ?_
  intro p e s m below meth c A H locs ls E hA hK hP hD hS hl
  obtain ⟨hx, hb, hr_, hts, hown, hlocks, hml, hin, hN⟩ := id E
  refine lv_iload_n hx hb dX9_rowOfPaths_0 rfl (lv_at hl 0 rfl) ?_
  refine lv_iconst (v := 4) hx hb dX9_rowOfPaths_1 (by decide) ?_
  refine lv_imul hx hb dX9_rowOfPaths_2 ?_
  refine lv_topi (fun y ey => ?_)
  obtain rfl : y = (nI (r * 4)) := ey.trans (pk_mul r 4)
  refine lv_iload_n hx hb dX9_rowOfPaths_3 rfl (lv_at hl 1 rfl) ?_
  refine lv_iadd hx hb dX9_rowOfPaths_4 ?_
  refine lv_topi (fun y ey => ?_)
  obtain rfl : y = (nI ((r * 4) + a)) := ey.trans (nI_add (r * 4) a)
  refine lv_bipush (v := 16) hx hb dX9_rowOfPaths_5 (by decide) ?_
  refine lv_imul hx hb dX9_rowOfPaths_7 ?_
  refine lv_topi (fun y ey => ?_)
  obtain rfl : y = (nI (((r * 4) + a) * 16)) := ey.trans (pk_mul ((r * 4) + a) 16)
  exact k_iret E hK hP hD hS () [] (by decide) rfl (by first | rfl | (simp [bI, oI]; done) | (simp [bI, oI]; rfl)) (Nat.le_of_ble_eq_true rfl) (Nat.le_of_ble_eq_true rfl) dX9_rowOfPaths_8

def O_clearRow : List Cond := [.fieldLink RX5 9 "RoutingDomain$Paths" "distances" "[I", .fieldLink RX5 15 "RoutingDomain$Paths" "firstLinks" "[J"]
def W_clearRow : List Cond := .code yX5_clearRow cX5_clearRow 3 none :: (O_clearRow ++ wsX50)
theorem m_clearRow_O : ∀ w ∈ O_clearRow, w ∈ W_clearRow := fun _ h => List.mem_cons_of_mem _ (List.mem_append_left _ h)
theorem m_clearRow_C5 : ∀ w ∈ wsX50, w ∈ W_clearRow := fun _ h => List.mem_cons_of_mem _ (List.mem_append_right _ h)
theorem gdO_clearRow : O_clearRow.all goodWord = true := by decide +kernel
theorem gd_clearRow : W_clearRow.all goodWord = true := k_all_cons rfl (k_all_app gdO_clearRow gdC_5)
set_option maxHeartbeats 4000000 in
set_option maxRecDepth 100000 in
theorem c_clearRow (l : Launch) (D : va_G) (cI cZ cJ : ClassId) (h0 : Nat) (ad : Nat → Nat) (ds : Nat → Option Nat) (fk : Nat → Nat) (w : Nat) (hw_ : w ≤ 1008) : kMv l yX5_clearRow W_clearRow { frames := 0, cells := 0, slots := 0, locals := 0 } 0 0 D (kT cI cZ cJ) [.ref h0, .int (nI w)] [(h0, .inr (5, [.ref (ad 26), .ref (ad 27), .ref (ad 0), .ref (ad 1), .ref (ad 2)])), ((ad 26), .inl (cI, 1024, .inl (eO ds))), ((ad 27), .inl (cJ, 1024, .inr (.inl (eL fk))))] (S := Unit) (fun _ => True) (fun _ => [(h0, .inr (5, [.ref (ad 26), .ref (ad 27), .ref (ad 0), .ref (ad 1), .ref (ad 2)])), ((ad 26), .inl (cI, 1024, .inl (eO (itr (clD w) 16 ds)))), ((ad 27), .inl (cJ, 1024, .inr (.inl (eL (itr (clF w) 16 fk)))))]) := by
  refine kMv_of (lv := [(0, .ref h0), (1, .int (nI w))]) RX5 "clearRow" (by decide +kernel) rfl rfl rfl (Nat.le_of_ble_eq_true rfl) rfl ?_
  intro p e s m below meth c A H locs ls E hA hK hP hD hS hl
  obtain ⟨hx, hb, hr_, hts, hown, hlocks, hml, hin, hN⟩ := id E
  refine lv_iload_n hx hb dX5_clearRow_0 rfl (lv_at hl 1 rfl) ?_
  refine lv_istore_n (lv' := [(2, .int (nI w)), (0, .ref h0), (1, .int (nI w))]) hx hb dX5_clearRow_1 rfl hl (by decide) rfl (fun ls hl => ?_)
  refine k_loop (Nat) 2 3 (fun u => u ≤ 16) (fun u => 16 - u) (fun u => [(h0, .inr (5, [.ref (ad 26), .ref (ad 27), .ref (ad 0), .ref (ad 1), .ref (ad 2)])), ((ad 26), .inl (cI, 1024, .inl (eO (itr (clD w) u ds)))), ((ad 27), .inl (cJ, 1024, .inr (.inl (eL (itr (clF w) u fk)))))]) (fun u => [(0, .ref h0), (1, .int (nI w)), (2, .int (nI (w + u)))]) ?_ (0) (Nat.zero_le _) (hP.sub [0, 1, 2] rfl) (hD.sub [0, 1, 2] (by decide) rfl) hS (lv_sub hl [1, 2, 0] rfl)
  intro i H locs ls hinv hP hD hS hl ih_2
  have hinv : i ≤ 16 := hinv
  have hP : va_P D vwCl [(h0, .inr (5, [.ref (ad 26), .ref (ad 27), .ref (ad 0), .ref (ad 1), .ref (ad 2)])), ((ad 26), .inl (cI, 1024, .inl (eO (itr (clD w) i ds)))), ((ad 27), .inl (cJ, 1024, .inr (.inl (eL (itr (clF w) i fk)))))] H := hP
  have hD : va_D A [(h0, .inr (5, [.ref (ad 26), .ref (ad 27), .ref (ad 0), .ref (ad 1), .ref (ad 2)])), ((ad 26), .inl (cI, 1024, .inl (eO (itr (clD w) i ds)))), ((ad 27), .inl (cJ, 1024, .inr (.inl (eL (itr (clF w) i fk)))))] := hD
  have hl : lv_has ls 3 [(0, .ref h0), (1, .int (nI w)), (2, .int (nI (w + i)))] := hl
  refine lv_iload_n hx hb dX5_clearRow_2 rfl (lv_at hl 2 rfl) ?_
  refine lv_iload_n hx hb dX5_clearRow_3 rfl (lv_at hl 1 rfl) ?_
  refine lv_bipush (v := 16) hx hb dX5_clearRow_4 (by decide) ?_
  refine lv_iadd hx hb dX5_clearRow_6 ?_
  refine lv_topi (fun y ey => ?_)
  obtain rfl : y = (nI (w + 16)) := ey.trans (nI_add w 16)
  refine lv_icmp_ge (tgt := 30) hx hb dX5_clearRow_7 (by decide) (fun c_7 => ?_) (fun c_7 => ?_)
  · have n_7 : (w + 16) ≤ (w + i) := (nI_leI (a := (w + 16)) (b := (w + i)) (by omega) (by omega)).mp c_7
    obtain rfl : i = 16 := by omega
    exact k_vret E hK hP hD hS () [0, 1, 2] (by decide) rfl trivial (Nat.le_of_ble_eq_true rfl) (Nat.le_of_ble_eq_true rfl) dX5_clearRow_30
  · have n_7 : ¬ (w + 16) ≤ (w + i) := fun h => c_7 ((nI_leI (a := (w + 16)) (b := (w + i)) (by omega) (by omega)).mpr h)
    refine lv_aload_n hx hb dX5_clearRow_10 rfl (lv_at hl 0 rfl) ?_
    refine va_get (ci := 5) (v := .ref (ad 26)) (C := RX5) (T := TX5) (N := 5) hx hb hts m_clearRow_C5 hown hK hP 0 rfl rfl 0 (by decide) (hts (.fieldLink RX5 9 "RoutingDomain$Paths" "distances" "[I") (m_clearRow_O _ (by decide +kernel))) (fun _ h9 => h9) rfl dX5_clearRow_11 ?_
    refine lv_iload_n hx hb dX5_clearRow_14 rfl (lv_at hl 2 rfl) ?_
    refine lv_iconst (v := (-1)) hx hb dX5_clearRow_15 (by decide) ?_
    refine va_iast hx hb hK hP hD hS 1 0 rfl rfl (vp_in_nI (show (w + i) < 1024 from by omega) (by decide)) dX5_clearRow_16 (fun H locs hP hD hS => ?_)
    have hP : va_P D vwCl [(h0, .inr (5, [.ref (ad 26), .ref (ad 27), .ref (ad 0), .ref (ad 1), .ref (ad 2)])), ((ad 26), .inl (cI, 1024, .inl (upd (eO (itr (clD w) i ds)) (nI (w + i)).toNatClampNeg (oI none)))), ((ad 27), .inl (cJ, 1024, .inr (.inl (eL (itr (clF w) i fk)))))] H := hP
    have hD : va_D A [(h0, .inr (5, [.ref (ad 26), .ref (ad 27), .ref (ad 0), .ref (ad 1), .ref (ad 2)])), ((ad 26), .inl (cI, 1024, .inl (upd (eO (itr (clD w) i ds)) (nI (w + i)).toNatClampNeg (oI none)))), ((ad 27), .inl (cJ, 1024, .inr (.inl (eL (itr (clF w) i fk)))))] := hD
    rw [show (upd (eO (itr (clD w) i ds)) (nI (w + i)).toNatClampNeg (oI none)) = (eO (fs (itr (clD w) i ds) (w + i) none)) from stO (by omega)] at hP hD
    refine lv_aload_n hx hb dX5_clearRow_17 rfl (lv_at hl 0 rfl) ?_
    refine va_get (ci := 5) (v := .ref (ad 27)) (C := RX5) (T := TX5) (N := 5) hx hb hts m_clearRow_C5 hown hK hP 0 rfl rfl 1 (by decide) (hts (.fieldLink RX5 15 "RoutingDomain$Paths" "firstLinks" "[J") (m_clearRow_O _ (by decide +kernel))) (fun _ h9 => h9) rfl dX5_clearRow_18 ?_
    refine lv_iload_n hx hb dX5_clearRow_21 rfl (lv_at hl 2 rfl) ?_
    refine lv_lconst (v := 0) hx hb dX5_clearRow_22 (by decide) ?_
    refine va_last hx hb hK hP hD hS 2 2 rfl rfl (vp_in_nI (show (w + i) < 1024 from by omega) (by decide)) dX5_clearRow_23 (fun H locs hP hD hS => ?_)
    have hP : va_P D vwCl [(h0, .inr (5, [.ref (ad 26), .ref (ad 27), .ref (ad 0), .ref (ad 1), .ref (ad 2)])), ((ad 26), .inl (cI, 1024, .inl (eO (fs (itr (clD w) i ds) (w + i) none)))), ((ad 27), .inl (cJ, 1024, .inr (.inl (vp_updL (eL (itr (clF w) i fk)) (nI (w + i)).toNatClampNeg (lN 0)))))] H := hP
    have hD : va_D A [(h0, .inr (5, [.ref (ad 26), .ref (ad 27), .ref (ad 0), .ref (ad 1), .ref (ad 2)])), ((ad 26), .inl (cI, 1024, .inl (eO (fs (itr (clD w) i ds) (w + i) none)))), ((ad 27), .inl (cJ, 1024, .inr (.inl (vp_updL (eL (itr (clF w) i fk)) (nI (w + i)).toNatClampNeg (lN 0)))))] := hD
    rw [show (vp_updL (eL (itr (clF w) i fk)) (nI (w + i)).toNatClampNeg (lN 0)) = (eL (fs (itr (clF w) i fk) (w + i) 0)) from stL (by omega)] at hP hD
    refine lv_iinc (v := (nI ((w + i) + 1))) (lv' := [(2, .int (nI ((w + i) + 1))), (0, .ref h0), (1, .int (nI w))]) hx hb dX5_clearRow_24 hl (k := 2) rfl (nI_add (w + i) 1) (by decide) rfl (fun ls hl => ?_)
    refine lv_goto (tgt := 2) hx hb dX5_clearRow_27 (by decide) ?_
    rw [show (fs (itr (clD w) i ds) (w + i) none) = (itr (clD w) (i + 1) ds) from (by first | rfl | (simp [itr_s, clD, clF, n_7]; done) | (unfold clD; split <;> first | rfl | (exfalso; omega)) | (unfold clF; split <;> first | rfl | (exfalso; omega)))] at hP hD
    rw [show (fs (itr (clF w) i fk) (w + i) 0) = (itr (clF w) (i + 1) fk) from (by first | rfl | (simp [itr_s, clD, clF, n_7]; done) | (unfold clD; split <;> first | rfl | (exfalso; omega)) | (unfold clF; split <;> first | rfl | (exfalso; omega)))] at hP hD
    rw [show (((w + i) + 1) : Nat) = (w + (i + 1)) from (by first | rfl | omega | (simp [itr_s, clD, clF, n_7]; done))] at hl
    exact ih_2 (i + 1) H locs ls (by show i + 1 ≤ 16; omega) (by show 16 - (i + 1) < 16 - i; omega) (hP.sub [0, 1, 2] rfl) (hD.sub [0, 1, 2] (by decide) rfl) hS (lv_sub hl [1, 2, 0] rfl)

def O_pathsForget : List Cond := [.initialized RX9, .static yX9_rowOfPaths, .methodLink RX5 41 yX5_clearRow, .instanceMethod yX5_clearRow, .selects RX5 yX5_clearRow yX5_clearRow, .initialized RX5]
def W_pathsForget : List Cond := .code yX5_forget cX5_forget 3 none :: (O_pathsForget ++ (W_rowOfPaths ++ W_clearRow))
theorem m_pathsForget_O : ∀ w ∈ O_pathsForget, w ∈ W_pathsForget := fun _ h => List.mem_cons_of_mem _ (List.mem_append_left _ h)
theorem m_pathsForget_WrowOfPaths : ∀ w ∈ W_rowOfPaths, w ∈ W_pathsForget := fun _ h => List.mem_cons_of_mem _ (List.mem_append_right _ (List.mem_append_left _ h))
theorem m_pathsForget_WclearRow : ∀ w ∈ W_clearRow, w ∈ W_pathsForget := fun _ h => List.mem_cons_of_mem _ (List.mem_append_right _ (List.mem_append_right _ h))
theorem gdO_pathsForget : O_pathsForget.all goodWord = true := by decide +kernel
theorem gd_pathsForget : W_pathsForget.all goodWord = true := k_all_cons rfl (k_all_app gdO_pathsForget (k_all_app gd_rowOfPaths gd_clearRow))
set_option maxHeartbeats 4000000 in
set_option maxRecDepth 100000 in
theorem c_pathsForget (l : Launch) (D : va_G) (cI cZ cJ : ClassId) (h0 : Nat) (ad : Nat → Nat) (ds : Nat → Option Nat) (fk : Nat → Nat) (r : Nat) (hr : r < 16) : kMv l yX5_forget W_pathsForget { frames := 1, cells := 0, slots := 0, locals := 30 } 0 0 D (kT cI cZ cJ) [.ref h0, .int (nI r)] [(h0, .inr (5, [.ref (ad 26), .ref (ad 27), .ref (ad 0), .ref (ad 1), .ref (ad 2)])), ((ad 26), .inl (cI, 1024, .inl (eO ds))), ((ad 27), .inl (cJ, 1024, .inr (.inl (eL fk))))] (S := Unit) (fun _ => True) (fun _ => [(h0, .inr (5, [.ref (ad 26), .ref (ad 27), .ref (ad 0), .ref (ad 1), .ref (ad 2)])), ((ad 26), .inl (cI, 1024, .inl (eO (itr (fgD r) 4 ds)))), ((ad 27), .inl (cJ, 1024, .inr (.inl (eL (itr (fgF r) 4 fk)))))]) := by
  refine kMv_of (lv := [(0, .ref h0), (1, .int (nI r))]) RX5 "forget" (by decide +kernel) rfl rfl rfl (Nat.le_of_ble_eq_true rfl) rfl ?_
  intro p e s m below meth c A H locs ls E hA hK hP hD hS hl
  obtain ⟨hx, hb, hr_, hts, hown, hlocks, hml, hin, hN⟩ := id E
  refine lv_iconst (v := 0) hx hb dX5_forget_0 (by decide) ?_
  refine lv_istore_n (lv' := [(2, .int 0), (0, .ref h0), (1, .int (nI r))]) hx hb dX5_forget_1 rfl hl (by decide) rfl (fun ls hl => ?_)
  refine k_loop (Nat) 2 3 (fun u => u ≤ 4) (fun u => 4 - u) (fun u => [(h0, .inr (5, [.ref (ad 26), .ref (ad 27), .ref (ad 0), .ref (ad 1), .ref (ad 2)])), ((ad 26), .inl (cI, 1024, .inl (eO (itr (fgD r) u ds)))), ((ad 27), .inl (cJ, 1024, .inr (.inl (eL (itr (fgF r) u fk)))))]) (fun u => [(0, .ref h0), (1, .int (nI r)), (2, .int (nI u))]) ?_ (0) (Nat.zero_le _) (hP.sub [0, 1, 2] rfl) (hD.sub [0, 1, 2] (by decide) rfl) hS (lv_sub hl [1, 2, 0] rfl)
  intro i H locs ls hinv hP hD hS hl ih_2
  have hinv : i ≤ 4 := hinv
  have hP : va_P D vwCl [(h0, .inr (5, [.ref (ad 26), .ref (ad 27), .ref (ad 0), .ref (ad 1), .ref (ad 2)])), ((ad 26), .inl (cI, 1024, .inl (eO (itr (fgD r) i ds)))), ((ad 27), .inl (cJ, 1024, .inr (.inl (eL (itr (fgF r) i fk)))))] H := hP
  have hD : va_D A [(h0, .inr (5, [.ref (ad 26), .ref (ad 27), .ref (ad 0), .ref (ad 1), .ref (ad 2)])), ((ad 26), .inl (cI, 1024, .inl (eO (itr (fgD r) i ds)))), ((ad 27), .inl (cJ, 1024, .inr (.inl (eL (itr (fgF r) i fk)))))] := hD
  have hl : lv_has ls 3 [(0, .ref h0), (1, .int (nI r)), (2, .int (nI i))] := hl
  refine lv_iload_n hx hb dX5_forget_2 rfl (lv_at hl 2 rfl) ?_
  refine lv_iconst (v := 4) hx hb dX5_forget_3 (by decide) ?_
  refine lv_icmp_ge (tgt := 22) hx hb dX5_forget_4 (by decide) (fun c_4 => ?_) (fun c_4 => ?_)
  · have n_4 : 4 ≤ i := (nI_leI (a := 4) (b := i) (by omega) (by omega)).mp c_4
    obtain rfl : i = 4 := by omega
    exact k_vret E hK hP hD hS () [0, 1, 2] (by decide) rfl trivial (Nat.le_of_ble_eq_true rfl) (Nat.le_of_ble_eq_true rfl) dX5_forget_22
  · have n_4 : ¬ 4 ≤ i := fun h => c_4 ((nI_leI (a := 4) (b := i) (by omega) (by omega)).mpr h)
    refine lv_aload_n hx hb dX5_forget_7 rfl (lv_at hl 0 rfl) ?_
    refine lv_iload_n hx hb dX5_forget_8 rfl (lv_at hl 1 rfl) ?_
    refine lv_iload_n hx hb dX5_forget_9 rfl (lv_at hl 2 rfl) ?_
    refine kSNi (As := [.int (nI r), .int (nI i)]) (rest := [.ref h0]) (wr := [(h0, .inr (5, [.ref (ad 26), .ref (ad 27), .ref (ad 0), .ref (ad 1), .ref (ad 2)])), ((ad 26), .inl (cI, 1024, .inl (eO (itr (fgD r) i ds)))), ((ad 27), .inl (cJ, 1024, .inr (.inl (eL (itr (fgF r) i fk)))))]) (w2 := fun _ => [(h0, .inr (5, [.ref (ad 26), .ref (ad 27), .ref (ad 0), .ref (ad 1), .ref (ad 2)])), ((ad 26), .inl (cI, 1024, .inl (eO (itr (fgD r) i ds)))), ((ad 27), .inl (cJ, 1024, .inr (.inl (eL (itr (fgF r) i fk)))))]) ⟨hx, hb, hml, hown, hts⟩ hN (c_rowOfPaths l D cI cZ cJ r i hr (by omega)) ⟨va_cnB (host := "RoutingDomain") 2 hts (goodIn_sub m_pathsForget_WrowOfPaths gd_rowOfPaths) rfl rfl rfl (hN (_, 37, _, _) (by decide +kernel) : va_Nw (.methodLinkNest RX5 37 yX9_rowOfPaths "RoutingDomain") s) (hts (.initialized RX9) (m_pathsForget_O _ (by decide +kernel))) (by decide +kernel) ⟨Nat.le_of_ble_eq_true rfl, Nat.le_of_ble_eq_true rfl⟩, (hts (.static yX9_rowOfPaths) (m_pathsForget_O _ (by decide +kernel))), trivial⟩ hK hP hD hS hA [] [0, 1, 2] [0, 1, 2] rfl rfl ⟨by decide, by decide, by decide⟩ (by decide) (fun _ => rfl) rfl hl.1 rfl (Nat.le_of_ble_eq_true rfl) dX5_forget_10 ⟨Nat.le_of_ble_eq_true rfl, Nat.le_of_ble_eq_true rfl⟩ (fun res_ u H locs hw hP hD hS => ?_)
    have hP : va_P D vwCl [(h0, .inr (5, [.ref (ad 26), .ref (ad 27), .ref (ad 0), .ref (ad 1), .ref (ad 2)])), ((ad 26), .inl (cI, 1024, .inl (eO (itr (fgD r) i ds)))), ((ad 27), .inl (cJ, 1024, .inr (.inl (eL (itr (fgF r) i fk)))))] H := hP
    have hD : va_D A [(h0, .inr (5, [.ref (ad 26), .ref (ad 27), .ref (ad 0), .ref (ad 1), .ref (ad 2)])), ((ad 26), .inl (cI, 1024, .inl (eO (itr (fgD r) i ds)))), ((ad 27), .inl (cJ, 1024, .inr (.inl (eL (itr (fgF r) i fk)))))] := hD
    obtain rfl : res_ = (nI ((r * 4 + i) * 16)) := hw
    refine kVv (As := [.int (nI ((r * 4 + i) * 16))]) (rest := []) (wr := []) (w2 := fun _ => [(h0, .inr (5, [.ref (ad 26), .ref (ad 27), .ref (ad 0), .ref (ad 1), .ref (ad 2)])), ((ad 26), .inl (cI, 1024, .inl (eO (itr (clD ((r * 4 + i) * 16)) 16 (itr (fgD r) i ds))))), ((ad 27), .inl (cJ, 1024, .inr (.inl (eL (itr (clF ((r * 4 + i) * 16)) 16 (itr (fgF r) i fk))))))]) ⟨hx, hb, hml, hown, hts⟩ hN (c_clearRow l D cI cZ cJ h0 ad (itr (fgD r) i ds) (itr (fgF r) i fk) ((r * 4 + i) * 16) (by omega)) (cwV 1 hts (k_gV (fun w h => m_pathsForget_O w ((by decide +kernel : ∀ w ∈ ([.methodLink RX5 41 yX5_clearRow, .instanceMethod yX5_clearRow, .selects RX5 yX5_clearRow yX5_clearRow, .initialized RX5] : List Cond), w ∈ O_pathsForget) w h)) m_pathsForget_WclearRow gd_clearRow) rfl rfl rfl (by decide +kernel) ⟨Nat.le_of_ble_eq_true rfl, Nat.le_of_ble_eq_true rfl⟩) hK hP hD hS hA [0, 1, 2] [] [0, 1, 2] rfl rfl ⟨by decide, by decide, by decide⟩ (by decide) (fun _ => rfl) 5 0 rfl rfl rfl rfl hl.1 rfl (Nat.le_of_ble_eq_true rfl) dX5_forget_13 ⟨Nat.le_of_ble_eq_true rfl, Nat.le_of_ble_eq_true rfl⟩ (fun u H locs hw hP hD hS => ?_)
    have hP : va_P D vwCl [(h0, .inr (5, [.ref (ad 26), .ref (ad 27), .ref (ad 0), .ref (ad 1), .ref (ad 2)])), ((ad 26), .inl (cI, 1024, .inl (eO (itr (clD ((r * 4 + i) * 16)) 16 (itr (fgD r) i ds))))), ((ad 27), .inl (cJ, 1024, .inr (.inl (eL (itr (clF ((r * 4 + i) * 16)) 16 (itr (fgF r) i fk))))))] H := hP
    have hD : va_D A [(h0, .inr (5, [.ref (ad 26), .ref (ad 27), .ref (ad 0), .ref (ad 1), .ref (ad 2)])), ((ad 26), .inl (cI, 1024, .inl (eO (itr (clD ((r * 4 + i) * 16)) 16 (itr (fgD r) i ds))))), ((ad 27), .inl (cJ, 1024, .inr (.inl (eL (itr (clF ((r * 4 + i) * 16)) 16 (itr (fgF r) i fk))))))] := hD
    refine lv_iinc (v := (nI (i + 1))) (lv' := [(2, .int (nI (i + 1))), (0, .ref h0), (1, .int (nI r))]) hx hb dX5_forget_16 hl (k := 2) rfl (nI_add i 1) (by decide) rfl (fun ls hl => ?_)
    refine lv_goto (tgt := 2) hx hb dX5_forget_19 (by decide) ?_
    rw [show (itr (clD ((r * 4 + i) * 16)) 16 (itr (fgD r) i ds)) = (itr (fgD r) (i + 1) ds) from (by first | rfl | (simp [itr_s, fgD, fgF, n_4]; done) | (unfold fgD; split <;> first | rfl | (exfalso; omega)) | (unfold fgF; split <;> first | rfl | (exfalso; omega)))] at hP hD
    rw [show (itr (clF ((r * 4 + i) * 16)) 16 (itr (fgF r) i fk)) = (itr (fgF r) (i + 1) fk) from (by first | rfl | (simp [itr_s, fgD, fgF, n_4]; done) | (unfold fgD; split <;> first | rfl | (exfalso; omega)) | (unfold fgF; split <;> first | rfl | (exfalso; omega)))] at hP hD
    exact ih_2 (i + 1) H locs ls (by show i + 1 ≤ 4; omega) (by show 4 - (i + 1) < 4 - i; omega) (hP.sub [0, 1, 2] rfl) (hD.sub [0, 1, 2] (by decide) rfl) hS (lv_sub hl [1, 2, 0] rfl)

def ofD (ds : Nat → Option Nat) (q d : Nat) : Nat → Option Nat := match ds q with | none => fs ds q (some d) | some x => if d < x then fs ds q (some d) else ds
def ofF (ds : Nat → Option Nat) (fk : Nat → Nat) (q d g : Nat) : Nat → Nat := match ds q with | none => fs fk q g | some x => if d < x then fs fk q g else if d = x then fs fk q (fk q ||| g) else fk
def O_pathsOffer : List Cond := [.fieldLink RX5 9 "RoutingDomain$Paths" "distances" "[I", .fieldLink RX5 15 "RoutingDomain$Paths" "firstLinks" "[J"]
def W_pathsOffer : List Cond := .code yX5_offer cX5_offer 5 none :: (O_pathsOffer ++ wsX50)
theorem m_pathsOffer_O : ∀ w ∈ O_pathsOffer, w ∈ W_pathsOffer := fun _ h => List.mem_cons_of_mem _ (List.mem_append_left _ h)
theorem m_pathsOffer_C5 : ∀ w ∈ wsX50, w ∈ W_pathsOffer := fun _ h => List.mem_cons_of_mem _ (List.mem_append_right _ h)
theorem gdO_pathsOffer : O_pathsOffer.all goodWord = true := by decide +kernel
theorem gd_pathsOffer : W_pathsOffer.all goodWord = true := k_all_cons rfl (k_all_app gdO_pathsOffer gdC_5)
set_option maxHeartbeats 4000000 in
set_option maxRecDepth 100000 in
theorem c_pathsOffer (l : Launch) (D : va_G) (cI cZ cJ : ClassId) (h0 : Nat) (ad : Nat → Nat) (ds : Nat → Option Nat) (fk : Nat → Nat) (q : Nat) (d : Nat) (g : Nat) (hq_ : q < 1024) (hd_ : d < 2 ^ 30) (hds : ∀ j w, ds j = some w → w < 2 ^ 20) : kMv l yX5_offer W_pathsOffer { frames := 0, cells := 0, slots := 0, locals := 0 } 0 0 D (kT cI cZ cJ) [.ref h0, .int (nI q), .int (nI d), .long (lN g)] [(h0, .inr (5, [.ref (ad 26), .ref (ad 27), .ref (ad 0), .ref (ad 1), .ref (ad 2)])), ((ad 26), .inl (cI, 1024, .inl (eO ds))), ((ad 27), .inl (cJ, 1024, .inr (.inl (eL fk))))] (S := Unit) (fun _ => True) (fun _ => [(h0, .inr (5, [.ref (ad 26), .ref (ad 27), .ref (ad 0), .ref (ad 1), .ref (ad 2)])), ((ad 26), .inl (cI, 1024, .inl (eO (ofD ds q d)))), ((ad 27), .inl (cJ, 1024, .inr (.inl (eL (ofF ds fk q d g)))))]) := by
  refine kMv_of (lv := [(0, .ref h0), (1, .int (nI q)), (2, .int (nI d)), (3, .long (lN g))]) RX5 "offer" (by decide +kernel) rfl rfl rfl (Nat.le_of_ble_eq_true rfl) rfl ?_
  intro p e s m below meth c A H locs ls E hA hK hP hD hS hl
  obtain ⟨hx, hb, hr_, hts, hown, hlocks, hml, hin, hN⟩ := id E
  refine lv_aload_n hx hb dX5_offer_0 rfl (lv_at hl 0 rfl) ?_
  refine va_get (ci := 5) (v := .ref (ad 26)) (C := RX5) (T := TX5) (N := 5) hx hb hts m_pathsOffer_C5 hown hK hP 0 rfl rfl 0 (by decide) (hts (.fieldLink RX5 9 "RoutingDomain$Paths" "distances" "[I") (m_pathsOffer_O _ (by decide +kernel))) (fun _ h9 => h9) rfl dX5_offer_1 ?_
  refine lv_iload_n hx hb dX5_offer_4 rfl (lv_at hl 1 rfl) ?_
  refine va_iald hx hb hK hP 1 0 rfl rfl (vp_in_nI (show q < 1024 from by omega) (by decide)) dX5_offer_5 ?_
  refine lv_topi (fun y ey => ?_)
  obtain rfl : y = (oI (ds q)) := ey.trans (ldO (f := ds) (j := q) (by omega))
  rcases hv_5 : (ds q) with _ | v_5
  · refine lv_topi (fun y ey => ?_)
    obtain rfl : y = (-1) := ey
    refine lv_iconst (v := (-1)) hx hb dX5_offer_6 (by decide) ?_
    refine lv_icmp_eq (tgt := 20) hx hb dX5_offer_7 (by decide) (fun _ => ?_) (fun c => absurd (by decide) c)
    refine lv_aload_n hx hb dX5_offer_20 rfl (lv_at hl 0 rfl) ?_
    refine va_get (ci := 5) (v := .ref (ad 26)) (C := RX5) (T := TX5) (N := 5) hx hb hts m_pathsOffer_C5 hown hK hP 0 rfl rfl 0 (by decide) (hts (.fieldLink RX5 9 "RoutingDomain$Paths" "distances" "[I") (m_pathsOffer_O _ (by decide +kernel))) (fun _ h9 => h9) rfl dX5_offer_21 ?_
    refine lv_iload_n hx hb dX5_offer_24 rfl (lv_at hl 1 rfl) ?_
    refine lv_iload_n hx hb dX5_offer_25 rfl (lv_at hl 2 rfl) ?_
    refine va_iast hx hb hK hP hD hS 1 0 rfl rfl (vp_in_nI (show q < 1024 from by omega) (by decide)) dX5_offer_26 (fun H locs hP hD hS => ?_)
    have hP : va_P D vwCl [(h0, .inr (5, [.ref (ad 26), .ref (ad 27), .ref (ad 0), .ref (ad 1), .ref (ad 2)])), ((ad 26), .inl (cI, 1024, .inl (upd (eO ds) (nI q).toNatClampNeg (oI (some d))))), ((ad 27), .inl (cJ, 1024, .inr (.inl (eL fk))))] H := hP
    have hD : va_D A [(h0, .inr (5, [.ref (ad 26), .ref (ad 27), .ref (ad 0), .ref (ad 1), .ref (ad 2)])), ((ad 26), .inl (cI, 1024, .inl (upd (eO ds) (nI q).toNatClampNeg (oI (some d))))), ((ad 27), .inl (cJ, 1024, .inr (.inl (eL fk))))] := hD
    rw [show (upd (eO ds) (nI q).toNatClampNeg (oI (some d))) = (eO (fs ds q (some d))) from stO (by omega)] at hP hD
    refine lv_aload_n hx hb dX5_offer_27 rfl (lv_at hl 0 rfl) ?_
    refine va_get (ci := 5) (v := .ref (ad 27)) (C := RX5) (T := TX5) (N := 5) hx hb hts m_pathsOffer_C5 hown hK hP 0 rfl rfl 1 (by decide) (hts (.fieldLink RX5 15 "RoutingDomain$Paths" "firstLinks" "[J") (m_pathsOffer_O _ (by decide +kernel))) (fun _ h9 => h9) rfl dX5_offer_28 ?_
    refine lv_iload_n hx hb dX5_offer_31 rfl (lv_at hl 1 rfl) ?_
    refine lv_lload_n hx hb dX5_offer_32 rfl (lv_at hl 3 rfl) ?_
    refine va_last hx hb hK hP hD hS 2 2 rfl rfl (vp_in_nI (show q < 1024 from by omega) (by decide)) dX5_offer_33 (fun H locs hP hD hS => ?_)
    have hP : va_P D vwCl [(h0, .inr (5, [.ref (ad 26), .ref (ad 27), .ref (ad 0), .ref (ad 1), .ref (ad 2)])), ((ad 26), .inl (cI, 1024, .inl (eO (fs ds q (some d))))), ((ad 27), .inl (cJ, 1024, .inr (.inl (vp_updL (eL fk) (nI q).toNatClampNeg (lN g)))))] H := hP
    have hD : va_D A [(h0, .inr (5, [.ref (ad 26), .ref (ad 27), .ref (ad 0), .ref (ad 1), .ref (ad 2)])), ((ad 26), .inl (cI, 1024, .inl (eO (fs ds q (some d))))), ((ad 27), .inl (cJ, 1024, .inr (.inl (vp_updL (eL fk) (nI q).toNatClampNeg (lN g)))))] := hD
    rw [show (vp_updL (eL fk) (nI q).toNatClampNeg (lN g)) = (eL (fs fk q g)) from stL (by omega)] at hP hD
    refine lv_goto (tgt := 57) hx hb dX5_offer_34 (by decide) ?_
    rw [show (fs ds q (some d)) = (ofD ds q d) from (by first | rfl | (simp [itr_s, ofD, ofF, hv_5]; done) | (unfold ofD; split <;> first | rfl | (exfalso; omega)) | (unfold ofF; split <;> first | rfl | (exfalso; omega)))] at hP hD
    rw [show (fs fk q g) = (ofF ds fk q d g) from (by first | rfl | (simp [itr_s, ofD, ofF, hv_5]; done) | (unfold ofD; split <;> first | rfl | (exfalso; omega)) | (unfold ofF; split <;> first | rfl | (exfalso; omega)))] at hP hD
    exact k_vret E hK hP hD hS () [0, 1, 2] (by decide) rfl trivial (Nat.le_of_ble_eq_true rfl) (Nat.le_of_ble_eq_true rfl) dX5_offer_57
  · refine lv_topi (fun y ey => ?_)
    obtain rfl : y = (nI v_5) := ey
    have hf1 := hds _ _ hv_5
    refine lv_iconst (v := (-1)) hx hb dX5_offer_6 (by decide) ?_
    refine lv_icmp_eq (tgt := 20) hx hb dX5_offer_7 (by decide) (fun c => absurd c (nI_m1 (v := v_5) (by omega))) (fun _ => ?_)
    refine lv_iload_n hx hb dX5_offer_10 rfl (lv_at hl 2 rfl) ?_
    refine lv_aload_n hx hb dX5_offer_11 rfl (lv_at hl 0 rfl) ?_
    refine va_get (ci := 5) (v := .ref (ad 26)) (C := RX5) (T := TX5) (N := 5) hx hb hts m_pathsOffer_C5 hown hK hP 0 rfl rfl 0 (by decide) (hts (.fieldLink RX5 9 "RoutingDomain$Paths" "distances" "[I") (m_pathsOffer_O _ (by decide +kernel))) (fun _ h9 => h9) rfl dX5_offer_12 ?_
    refine lv_iload_n hx hb dX5_offer_15 rfl (lv_at hl 1 rfl) ?_
    refine va_iald hx hb hK hP 1 0 rfl rfl (vp_in_nI (show q < 1024 from by omega) (by decide)) dX5_offer_16 ?_
    refine lv_topi (fun y ey => ?_)
    obtain rfl : y = (oI (ds q)) := ey.trans (ldO (f := ds) (j := q) (by omega))
    refine lv_topi (fun y ey => ?_)
    obtain rfl : y = (nI v_5) := ey.trans (congrArg oI hv_5)
    refine lv_icmp_ge (tgt := 37) hx hb dX5_offer_17 (by decide) (fun c_17 => ?_) (fun c_17 => ?_)
    · have n_17 : v_5 ≤ d := (nI_leI (a := v_5) (b := d) (by omega) (by omega)).mp c_17
      have m_17 : ¬ d < v_5 := by omega
      refine lv_iload_n hx hb dX5_offer_37 rfl (lv_at hl 2 rfl) ?_
      refine lv_aload_n hx hb dX5_offer_38 rfl (lv_at hl 0 rfl) ?_
      refine va_get (ci := 5) (v := .ref (ad 26)) (C := RX5) (T := TX5) (N := 5) hx hb hts m_pathsOffer_C5 hown hK hP 0 rfl rfl 0 (by decide) (hts (.fieldLink RX5 9 "RoutingDomain$Paths" "distances" "[I") (m_pathsOffer_O _ (by decide +kernel))) (fun _ h9 => h9) rfl dX5_offer_39 ?_
      refine lv_iload_n hx hb dX5_offer_42 rfl (lv_at hl 1 rfl) ?_
      refine va_iald hx hb hK hP 1 0 rfl rfl (vp_in_nI (show q < 1024 from by omega) (by decide)) dX5_offer_43 ?_
      refine lv_topi (fun y ey => ?_)
      obtain rfl : y = (oI (ds q)) := ey.trans (ldO (f := ds) (j := q) (by omega))
      refine lv_topi (fun y ey => ?_)
      obtain rfl : y = (nI v_5) := ey.trans (congrArg oI hv_5)
      refine lv_icmp_ne (tgt := 57) hx hb dX5_offer_44 (by decide) (fun c_44 => ?_) (fun c_44 => ?_)
      · have n_44 : ¬ d = v_5 := fun h => c_44 ((nI_eq (a := d) (b := v_5) (by omega) (by omega)).mpr h)
        rw [show ds = (ofD ds q d) from (by first | rfl | (simp [itr_s, ofD, ofF, hv_5, n_17, m_17, n_44]; done) | (unfold ofD; split <;> first | rfl | (exfalso; omega)) | (unfold ofF; split <;> first | rfl | (exfalso; omega)))] at hP hD
        rw [show fk = (ofF ds fk q d g) from (by first | rfl | (simp [itr_s, ofD, ofF, hv_5, n_17, m_17, n_44]; done) | (unfold ofD; split <;> first | rfl | (exfalso; omega)) | (unfold ofF; split <;> first | rfl | (exfalso; omega)))] at hP hD
        exact k_vret E hK hP hD hS () [0, 1, 2] (by decide) rfl trivial (Nat.le_of_ble_eq_true rfl) (Nat.le_of_ble_eq_true rfl) dX5_offer_57
      · have n_44 : d = v_5 := (nI_eq (a := d) (b := v_5) (by omega) (by omega)).mp c_44
        refine lv_aload_n hx hb dX5_offer_47 rfl (lv_at hl 0 rfl) ?_
        refine va_get (ci := 5) (v := .ref (ad 27)) (C := RX5) (T := TX5) (N := 5) hx hb hts m_pathsOffer_C5 hown hK hP 0 rfl rfl 1 (by decide) (hts (.fieldLink RX5 15 "RoutingDomain$Paths" "firstLinks" "[J") (m_pathsOffer_O _ (by decide +kernel))) (fun _ h9 => h9) rfl dX5_offer_48 ?_
        refine lv_iload_n hx hb dX5_offer_51 rfl (lv_at hl 1 rfl) ?_
        refine lv_dup2_11 hx hb dX5_offer_52 rfl rfl ?_
        refine va_lald hx hb hK hP 2 2 rfl rfl (vp_in_nI (show q < 1024 from by omega) (by decide)) dX5_offer_53 ?_
        refine lv_topl (fun y ey => ?_)
        obtain rfl : y = (lN (fk q)) := ey.trans (ldL (f := fk) (j := q) (by omega))
        refine lv_lload_n hx hb dX5_offer_54 rfl (lv_at hl 3 rfl) ?_
        refine lv_lor hx hb dX5_offer_55 ?_
        refine lv_topl (fun y ey => ?_)
        obtain rfl : y = (lN ((fk q) ||| g)) := ey.trans (k_orL (fk q) g)
        refine va_last hx hb hK hP hD hS 2 2 rfl rfl (vp_in_nI (show q < 1024 from by omega) (by decide)) dX5_offer_56 (fun H locs hP hD hS => ?_)
        have hP : va_P D vwCl [(h0, .inr (5, [.ref (ad 26), .ref (ad 27), .ref (ad 0), .ref (ad 1), .ref (ad 2)])), ((ad 26), .inl (cI, 1024, .inl (eO ds))), ((ad 27), .inl (cJ, 1024, .inr (.inl (vp_updL (eL fk) (nI q).toNatClampNeg (lN ((fk q) ||| g))))))] H := hP
        have hD : va_D A [(h0, .inr (5, [.ref (ad 26), .ref (ad 27), .ref (ad 0), .ref (ad 1), .ref (ad 2)])), ((ad 26), .inl (cI, 1024, .inl (eO ds))), ((ad 27), .inl (cJ, 1024, .inr (.inl (vp_updL (eL fk) (nI q).toNatClampNeg (lN ((fk q) ||| g))))))] := hD
        rw [show (vp_updL (eL fk) (nI q).toNatClampNeg (lN ((fk q) ||| g))) = (eL (fs fk q ((fk q) ||| g))) from stL (by omega)] at hP hD
        rw [show ds = (ofD ds q d) from (by first | rfl | (simp [itr_s, ofD, ofF, hv_5, n_17, m_17, n_44]; done) | (unfold ofD; split <;> first | rfl | (exfalso; omega)) | (unfold ofF; split <;> first | rfl | (exfalso; omega)))] at hP hD
        rw [show (fs fk q ((fk q) ||| g)) = (ofF ds fk q d g) from (by first | rfl | (simp [itr_s, ofD, ofF, hv_5, n_17, m_17, n_44]; done) | (unfold ofD; split <;> first | rfl | (exfalso; omega)) | (unfold ofF; split <;> first | rfl | (exfalso; omega)))] at hP hD
        exact k_vret E hK hP hD hS () [0, 1, 2] (by decide) rfl trivial (Nat.le_of_ble_eq_true rfl) (Nat.le_of_ble_eq_true rfl) dX5_offer_57
    · have n_17 : ¬ v_5 ≤ d := fun h => c_17 ((nI_leI (a := v_5) (b := d) (by omega) (by omega)).mpr h)
      refine lv_aload_n hx hb dX5_offer_20 rfl (lv_at hl 0 rfl) ?_
      refine va_get (ci := 5) (v := .ref (ad 26)) (C := RX5) (T := TX5) (N := 5) hx hb hts m_pathsOffer_C5 hown hK hP 0 rfl rfl 0 (by decide) (hts (.fieldLink RX5 9 "RoutingDomain$Paths" "distances" "[I") (m_pathsOffer_O _ (by decide +kernel))) (fun _ h9 => h9) rfl dX5_offer_21 ?_
      refine lv_iload_n hx hb dX5_offer_24 rfl (lv_at hl 1 rfl) ?_
      refine lv_iload_n hx hb dX5_offer_25 rfl (lv_at hl 2 rfl) ?_
      refine va_iast hx hb hK hP hD hS 1 0 rfl rfl (vp_in_nI (show q < 1024 from by omega) (by decide)) dX5_offer_26 (fun H locs hP hD hS => ?_)
      have hP : va_P D vwCl [(h0, .inr (5, [.ref (ad 26), .ref (ad 27), .ref (ad 0), .ref (ad 1), .ref (ad 2)])), ((ad 26), .inl (cI, 1024, .inl (upd (eO ds) (nI q).toNatClampNeg (oI (some d))))), ((ad 27), .inl (cJ, 1024, .inr (.inl (eL fk))))] H := hP
      have hD : va_D A [(h0, .inr (5, [.ref (ad 26), .ref (ad 27), .ref (ad 0), .ref (ad 1), .ref (ad 2)])), ((ad 26), .inl (cI, 1024, .inl (upd (eO ds) (nI q).toNatClampNeg (oI (some d))))), ((ad 27), .inl (cJ, 1024, .inr (.inl (eL fk))))] := hD
      rw [show (upd (eO ds) (nI q).toNatClampNeg (oI (some d))) = (eO (fs ds q (some d))) from stO (by omega)] at hP hD
      refine lv_aload_n hx hb dX5_offer_27 rfl (lv_at hl 0 rfl) ?_
      refine va_get (ci := 5) (v := .ref (ad 27)) (C := RX5) (T := TX5) (N := 5) hx hb hts m_pathsOffer_C5 hown hK hP 0 rfl rfl 1 (by decide) (hts (.fieldLink RX5 15 "RoutingDomain$Paths" "firstLinks" "[J") (m_pathsOffer_O _ (by decide +kernel))) (fun _ h9 => h9) rfl dX5_offer_28 ?_
      refine lv_iload_n hx hb dX5_offer_31 rfl (lv_at hl 1 rfl) ?_
      refine lv_lload_n hx hb dX5_offer_32 rfl (lv_at hl 3 rfl) ?_
      refine va_last hx hb hK hP hD hS 2 2 rfl rfl (vp_in_nI (show q < 1024 from by omega) (by decide)) dX5_offer_33 (fun H locs hP hD hS => ?_)
      have hP : va_P D vwCl [(h0, .inr (5, [.ref (ad 26), .ref (ad 27), .ref (ad 0), .ref (ad 1), .ref (ad 2)])), ((ad 26), .inl (cI, 1024, .inl (eO (fs ds q (some d))))), ((ad 27), .inl (cJ, 1024, .inr (.inl (vp_updL (eL fk) (nI q).toNatClampNeg (lN g)))))] H := hP
      have hD : va_D A [(h0, .inr (5, [.ref (ad 26), .ref (ad 27), .ref (ad 0), .ref (ad 1), .ref (ad 2)])), ((ad 26), .inl (cI, 1024, .inl (eO (fs ds q (some d))))), ((ad 27), .inl (cJ, 1024, .inr (.inl (vp_updL (eL fk) (nI q).toNatClampNeg (lN g)))))] := hD
      rw [show (vp_updL (eL fk) (nI q).toNatClampNeg (lN g)) = (eL (fs fk q g)) from stL (by omega)] at hP hD
      refine lv_goto (tgt := 57) hx hb dX5_offer_34 (by decide) ?_
      rw [show (fs ds q (some d)) = (ofD ds q d) from (by first | rfl | (simp [itr_s, ofD, ofF, hv_5, n_17]; done) | (unfold ofD; split <;> first | rfl | (exfalso; omega)) | (unfold ofF; split <;> first | rfl | (exfalso; omega)))] at hP hD
      rw [show (fs fk q g) = (ofF ds fk q d g) from (by first | rfl | (simp [itr_s, ofD, ofF, hv_5, n_17]; done) | (unfold ofD; split <;> first | rfl | (exfalso; omega)) | (unfold ofF; split <;> first | rfl | (exfalso; omega)))] at hP hD
      exact k_vret E hK hP hD hS () [0, 1, 2] (by decide) rfl trivial (Nat.le_of_ble_eq_true rfl) (Nat.le_of_ble_eq_true rfl) dX5_offer_57

