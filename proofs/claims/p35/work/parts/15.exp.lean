theorem dX7_wakeAll_0 : decode cX7_wakeAll 0 = .ok (.aload_n 0, 1) := by decide +kernel
theorem dX7_wakeAll_1 : decode cX7_wakeAll 1 = .ok (.getfield 21, 3) := by decide +kernel
theorem dX7_wakeAll_4 : decode cX7_wakeAll 4 = .ok (.iconst 0, 1) := by decide +kernel
theorem dX7_wakeAll_5 : decode cX7_wakeAll 5 = .ok (.invokestatic 45, 3) := by decide +kernel
theorem dX7_wakeAll_8 : decode cX7_wakeAll 8 = .ok (.return_, 1) := by decide +kernel
theorem dX7_removeExpired_0 : decode cX7_removeExpired 0 = .ok (.aload_n 0, 1) := by decide +kernel
theorem dX7_removeExpired_1 : decode cX7_removeExpired 1 = .ok (.getfield 33, 3) := by decide +kernel
theorem dX7_removeExpired_4 : decode cX7_removeExpired 4 = .ok (.aload_n 0, 1) := by decide +kernel
theorem dX7_removeExpired_5 : decode cX7_removeExpired 5 = .ok (.getfield 29, 3) := by decide +kernel
theorem dX7_removeExpired_8 : decode cX7_removeExpired 8 = .ok (.getfield 51, 3) := by decide +kernel
theorem dX7_removeExpired_11 : decode cX7_removeExpired 11 = .ok (.bipush 60, 2) := by decide +kernel
theorem dX7_removeExpired_13 : decode cX7_removeExpired 13 = .ok (.isub, 1) := by decide +kernel
theorem dX7_removeExpired_14 : decode cX7_removeExpired 14 = .ok (.bipush 63, 2) := by decide +kernel
theorem dX7_removeExpired_16 : decode cX7_removeExpired 16 = .ok (.iand, 1) := by decide +kernel
theorem dX7_removeExpired_17 : decode cX7_removeExpired 17 = .ok (.invokevirtual 57, 3) := by decide +kernel
theorem dX7_removeExpired_20 : decode cX7_removeExpired 20 = .ok (.ifCond .ne 4, 3) := by decide +kernel
theorem dX7_removeExpired_23 : decode cX7_removeExpired 23 = .ok (.return_, 1) := by decide +kernel
theorem dX7_removeExpired_24 : decode cX7_removeExpired 24 = .ok (.iconst 0, 1) := by decide +kernel
theorem dX7_removeExpired_25 : decode cX7_removeExpired 25 = .ok (.istore_n 1, 1) := by decide +kernel
theorem dX7_removeExpired_26 : decode cX7_removeExpired 26 = .ok (.iload_n 1, 1) := by decide +kernel
theorem dX7_removeExpired_27 : decode cX7_removeExpired 27 = .ok (.aload_n 0, 1) := by decide +kernel
theorem dX7_removeExpired_28 : decode cX7_removeExpired 28 = .ok (.getfield 25, 3) := by decide +kernel
theorem dX7_removeExpired_31 : decode cX7_removeExpired 31 = .ok (.getfield 63, 3) := by decide +kernel
theorem dX7_removeExpired_34 : decode cX7_removeExpired 34 = .ok (.if_icmp .ge 69, 3) := by decide +kernel
theorem dX7_removeExpired_37 : decode cX7_removeExpired 37 = .ok (.iconst 0, 1) := by decide +kernel
theorem dX7_removeExpired_38 : decode cX7_removeExpired 38 = .ok (.istore_n 2, 1) := by decide +kernel
theorem dX7_removeExpired_39 : decode cX7_removeExpired 39 = .ok (.iload_n 2, 1) := by decide +kernel
theorem dX7_removeExpired_40 : decode cX7_removeExpired 40 = .ok (.sipush 1088, 3) := by decide +kernel
theorem dX7_removeExpired_43 : decode cX7_removeExpired 43 = .ok (.if_icmp .ge 54, 3) := by decide +kernel
theorem dX7_removeExpired_46 : decode cX7_removeExpired 46 = .ok (.aload_n 0, 1) := by decide +kernel
theorem dX7_removeExpired_47 : decode cX7_removeExpired 47 = .ok (.getfield 33, 3) := by decide +kernel
theorem dX7_removeExpired_50 : decode cX7_removeExpired 50 = .ok (.iload_n 1, 1) := by decide +kernel
theorem dX7_removeExpired_51 : decode cX7_removeExpired 51 = .ok (.iload_n 2, 1) := by decide +kernel
theorem dX7_removeExpired_52 : decode cX7_removeExpired 52 = .ok (.invokevirtual 68, 3) := by decide +kernel
theorem dX7_removeExpired_55 : decode cX7_removeExpired 55 = .ok (.istore_n 3, 1) := by decide +kernel
theorem dX7_removeExpired_56 : decode cX7_removeExpired 56 = .ok (.iload_n 3, 1) := by decide +kernel
theorem dX7_removeExpired_57 : decode cX7_removeExpired 57 = .ok (.iconst (-1), 1) := by decide +kernel
theorem dX7_removeExpired_58 : decode cX7_removeExpired 58 = .ok (.if_icmp .eq 33, 3) := by decide +kernel
theorem dX7_removeExpired_61 : decode cX7_removeExpired 61 = .ok (.aload_n 0, 1) := by decide +kernel
theorem dX7_removeExpired_62 : decode cX7_removeExpired 62 = .ok (.getfield 29, 3) := by decide +kernel
theorem dX7_removeExpired_65 : decode cX7_removeExpired 65 = .ok (.iload_n 3, 1) := by decide +kernel
theorem dX7_removeExpired_66 : decode cX7_removeExpired 66 = .ok (.invokevirtual 72, 3) := by decide +kernel
theorem dX7_removeExpired_69 : decode cX7_removeExpired 69 = .ok (.bipush 60, 2) := by decide +kernel
theorem dX7_removeExpired_71 : decode cX7_removeExpired 71 = .ok (.if_icmp .lt 20, 3) := by decide +kernel
theorem dX7_removeExpired_74 : decode cX7_removeExpired 74 = .ok (.aload_n 0, 1) := by decide +kernel
theorem dX7_removeExpired_75 : decode cX7_removeExpired 75 = .ok (.getfield 33, 3) := by decide +kernel
theorem dX7_removeExpired_78 : decode cX7_removeExpired 78 = .ok (.iload_n 1, 1) := by decide +kernel
theorem dX7_removeExpired_79 : decode cX7_removeExpired 79 = .ok (.iload_n 2, 1) := by decide +kernel
theorem dX7_removeExpired_80 : decode cX7_removeExpired 80 = .ok (.iconst (-1), 1) := by decide +kernel
theorem dX7_removeExpired_81 : decode cX7_removeExpired 81 = .ok (.invokevirtual 76, 3) := by decide +kernel
theorem dX7_removeExpired_84 : decode cX7_removeExpired 84 = .ok (.aload_n 0, 1) := by decide +kernel
theorem dX7_removeExpired_85 : decode cX7_removeExpired 85 = .ok (.getfield 21, 3) := by decide +kernel
theorem dX7_removeExpired_88 : decode cX7_removeExpired 88 = .ok (.iload_n 1, 1) := by decide +kernel
theorem dX7_removeExpired_89 : decode cX7_removeExpired 89 = .ok (.iconst 0, 1) := by decide +kernel
theorem dX7_removeExpired_90 : decode cX7_removeExpired 90 = .ok (.iastore, 1) := by decide +kernel
theorem dX7_removeExpired_91 : decode cX7_removeExpired 91 = .ok (.iinc 2 1, 3) := by decide +kernel
theorem dX7_removeExpired_94 : decode cX7_removeExpired 94 = .ok (.goto (-55), 3) := by decide +kernel
theorem dX7_removeExpired_97 : decode cX7_removeExpired 97 = .ok (.iinc 1 1, 3) := by decide +kernel
theorem dX7_removeExpired_100 : decode cX7_removeExpired 100 = .ok (.goto (-74), 3) := by decide +kernel
theorem dX7_removeExpired_103 : decode cX7_removeExpired 103 = .ok (.return_, 1) := by decide +kernel
theorem dJ7_fill_53178_0 : decode cJ7_fill_53178 0 = .ok (.iconst 0, 1) := by decide +kernel
theorem dJ7_fill_53178_1 : decode cJ7_fill_53178 1 = .ok (.istore_n 2, 1) := by decide +kernel
theorem dJ7_fill_53178_2 : decode cJ7_fill_53178 2 = .ok (.aload_n 0, 1) := by decide +kernel
theorem dJ7_fill_53178_3 : decode cJ7_fill_53178 3 = .ok (.arraylength, 1) := by decide +kernel
theorem dJ7_fill_53178_4 : decode cJ7_fill_53178 4 = .ok (.istore_n 3, 1) := by decide +kernel
theorem dJ7_fill_53178_5 : decode cJ7_fill_53178 5 = .ok (.iload_n 2, 1) := by decide +kernel
theorem dJ7_fill_53178_6 : decode cJ7_fill_53178 6 = .ok (.iload_n 3, 1) := by decide +kernel
theorem dJ7_fill_53178_7 : decode cJ7_fill_53178 7 = .ok (.if_icmp .ge 13, 3) := by decide +kernel
theorem dJ7_fill_53178_10 : decode cJ7_fill_53178 10 = .ok (.aload_n 0, 1) := by decide +kernel
theorem dJ7_fill_53178_11 : decode cJ7_fill_53178 11 = .ok (.iload_n 2, 1) := by decide +kernel
theorem dJ7_fill_53178_12 : decode cJ7_fill_53178 12 = .ok (.iload_n 1, 1) := by decide +kernel
theorem dJ7_fill_53178_13 : decode cJ7_fill_53178 13 = .ok (.iastore, 1) := by decide +kernel
theorem dJ7_fill_53178_14 : decode cJ7_fill_53178 14 = .ok (.iinc 2 1, 3) := by decide +kernel
theorem dJ7_fill_53178_17 : decode cJ7_fill_53178 17 = .ok (.goto (-12), 3) := by decide +kernel
theorem dJ7_fill_53178_20 : decode cJ7_fill_53178 20 = .ok (.return_, 1) := by decide +kernel
theorem k_cell {cA : ClassId} {n : Nat} {f g : Nat → Int32} (h : ∀ j, j < n → f j = g j) : vp_cell cA (n, .inl f) = vp_cell cA (n, .inl g) := by
  unfold vp_cell
  have e : (fun j : Fin n => Value.int (f j.val)) = (fun j : Fin n => Value.int (g j.val)) := funext fun j => by rw [h j.1 j.2]
  show arrV _ _ _ = arrV _ _ _
  unfold arrV
  rw [e]
theorem k_extP {D : va_G} {cl : List vw_C} {ww : va_W} {H : Heap} {cA : ClassId} {n a : Nat} {f g : Nat → Int32} (hP : va_P D cl ww H) (i : Nat) (hi : ww[i]? = some (a, .inl (cA, n, .inl f))) (h : ∀ j, j < n → f j = g j) : va_P D cl (ww.set i (a, .inl (cA, n, .inl g))) H := by
  intro k q hq
  rw [List.getElem?_set] at hq
  split at hq
  · next e =>
    subst e
    split at hq
    · obtain rfl := Option.some.inj hq
      have h1 := hP _ _ hi
      show H[a]? = some (vp_cell cA (n, .inl g))
      rw [← k_cell h]
      exact h1
    · cases hq
  · exact hP k q hq
theorem upd_fill {f : Nat → Int32} {i : Nat} {v : Int32} (hi : i < 2 ^ 31) : upd (fun j => if j < i then v else f j) (nI i).toNatClampNeg v = (fun j => if j < i + 1 then v else f j) := by
  funext j
  rw [nI_clamp hi]
  by_cases q : j = i
  · subst q; rw [pk_us, if_pos (by omega)]
  · rw [pk_un q]
    by_cases r : j < i
    · rw [if_pos r, if_pos (by omega)]
    · rw [if_neg r, if_neg (by omega)]
theorem fsN_b {h : Nat → Option Nat} {k B : Nat} (hh : ∀ j w, h j = some w → w < B) : ∀ j w, fs h k none j = some w → w < B := fun j w e => by
  by_cases q : j = k
  · subst q; rw [fs_s] at e; cases e
  · rw [fs_n q] at e; exact hh j w e
def fil (n : Nat) (p1 : Int32) (f : Nat → Int32) : Nat → Int32 := fun j => if j < n then p1 else f j
def O_fillF : List Cond := []
def W_fillF : List Cond := .code yJ7_fill_53178 cJ7_fill_53178 4 none :: O_fillF
theorem m_fillF_O : ∀ w ∈ O_fillF, w ∈ W_fillF := fun _ h => List.mem_cons_of_mem _ h
theorem gdO_fillF : O_fillF.all goodWord = true := by decide +kernel
theorem gd_fillF : W_fillF.all goodWord = true := k_all_cons rfl gdO_fillF
set_option maxHeartbeats 4000000 in
set_option maxRecDepth 100000 in
theorem c_fillF (l : Launch) (D : va_G) (cI cZ cJ : ClassId) (h0 : Nat) (n : Nat) (f : Nat → Int32) (p1 : Int32) (hn : n < 2 ^ 31) : kMv l yJ7_fill_53178 W_fillF { frames := 0, cells := 0, slots := 0, locals := 0 } 0 0 D (kT cI cZ cJ) [.ref h0, .int p1] [(h0, .inl (cI, n, .inl f))] (S := Unit) (fun _ => True) (fun _ => [(h0, .inl (cI, n, .inl (fil n p1 f)))]) := by
  refine kMv_of (lv := [(0, .ref h0), (1, .int p1)]) RJ7 "fill" (by decide +kernel) rfl rfl rfl (Nat.le_of_ble_eq_true rfl) rfl ?_
  intro p e s m below meth c A H locs ls E hA hK hP hD hS hl
  obtain ⟨hx, hb, hr_, hts, hown, hlocks, hml, hin, hN⟩ := id E
  refine lv_iconst (v := 0) hx hb dJ7_fill_53178_0 (by decide) ?_
  refine lv_istore_n (lv' := [(2, .int 0), (0, .ref h0), (1, .int p1)]) hx hb dJ7_fill_53178_1 rfl hl (by decide) rfl (fun ls hl => ?_)
  refine lv_aload_n hx hb dJ7_fill_53178_2 rfl (lv_at hl 1 rfl) ?_
  refine va_alen (v := nI n) hx hb hK hP 0 0 rfl rfl rfl dJ7_fill_53178_3 ?_
  refine lv_istore_n (lv' := [(3, .int (nI n)), (2, .int 0), (0, .ref h0), (1, .int p1)]) hx hb dJ7_fill_53178_4 rfl hl (by decide) rfl (fun ls hl => ?_)
  rw [show f = fil 0 p1 f from funext fun j => (if_neg (Nat.not_lt_zero j)).symm] at hP hD
  refine k_loop (Nat) 5 4 (fun u => u ≤ n) (fun u => n - u) (fun u => [(h0, .inl (cI, n, .inl (fil u p1 f)))]) (fun u => [(0, .ref h0), (1, .int p1), (2, .int (nI u)), (3, .int (nI n))]) ?_ (0) (Nat.zero_le _) (hP.sub [0] rfl) (hD.sub [0] (by decide) rfl) hS (lv_sub hl [2, 3, 1, 0] rfl)
  intro i H locs ls hinv hP hD hS hl ih_5
  have hinv : i ≤ n := hinv
  have hP : va_P D vwCl [(h0, .inl (cI, n, .inl (fil i p1 f)))] H := hP
  have hD : va_D A [(h0, .inl (cI, n, .inl (fil i p1 f)))] := hD
  have hl : lv_has ls 4 [(0, .ref h0), (1, .int p1), (2, .int (nI i)), (3, .int (nI n))] := hl
  refine lv_iload_n hx hb dJ7_fill_53178_5 rfl (lv_at hl 2 rfl) ?_
  refine lv_iload_n hx hb dJ7_fill_53178_6 rfl (lv_at hl 3 rfl) ?_
  refine lv_icmp_ge (tgt := 20) hx hb dJ7_fill_53178_7 (by decide) (fun c_7 => ?_) (fun c_7 => ?_)
  · have hin : i = n := by
      rcases Nat.lt_or_ge i n with q | q
      · exact absurd c_7 (nI_ge q hn)
      · omega
    rw [hin] at hP hD
    exact k_vret E hK hP hD hS () [0] (by decide) rfl trivial (Nat.le_of_ble_eq_true rfl) (Nat.le_of_ble_eq_true rfl) dJ7_fill_53178_20
  · have hlt : i < n := by
      rcases Nat.lt_or_ge i n with q | q
      · exact q
      · exact absurd (nI_le q (by omega)) c_7
    refine lv_aload_n hx hb dJ7_fill_53178_10 rfl (lv_at hl 0 rfl) ?_
    refine lv_iload_n hx hb dJ7_fill_53178_11 rfl (lv_at hl 2 rfl) ?_
    refine lv_iload_n hx hb dJ7_fill_53178_12 rfl (lv_at hl 1 rfl) ?_
    refine va_iast hx hb hK hP hD hS 0 0 rfl rfl (vp_in_nI hlt hn) dJ7_fill_53178_13 (fun H locs hP hD hS => ?_)
    have hP : va_P D vwCl [(h0, .inl (cI, n, .inl (upd (fil i p1 f) (nI i).toNatClampNeg p1)))] H := hP
    have hD : va_D A [(h0, .inl (cI, n, .inl (upd (fil i p1 f) (nI i).toNatClampNeg p1)))] := hD
    refine lv_iinc (v := (nI (i + 1))) (lv' := [(2, .int (nI (i + 1))), (0, .ref h0), (1, .int p1), (3, .int (nI n))]) hx hb dJ7_fill_53178_14 hl (k := 2) rfl (by rw [← nI_1]; rfl) (by decide) rfl (fun ls hl => ?_)
    refine lv_goto (tgt := 5) hx hb dJ7_fill_53178_17 (by decide) ?_
    rw [show (upd (fil i p1 f) (nI i).toNatClampNeg p1) = fil (i + 1) p1 f from upd_fill (by omega)] at hP hD
    exact ih_5 (i + 1) H locs ls (by show i + 1 ≤ n; omega) (by show n - (i + 1) < n - i; omega) (hP.sub [0] rfl) (hD.sub [0] (by decide) rfl) hS (lv_sub hl [1, 2, 0, 3] rfl)

def O_wakeAll : List Cond := [.fieldLink RX7 21 "RoutingDomain$Simulator" "nextWork" "[I", .methodLink RX7 45 yJ7_fill_53178, .static yJ7_fill_53178, .initialized RJ7]
def W_wakeAll : List Cond := .code yX7_wakeAll cX7_wakeAll 1 none :: (O_wakeAll ++ (wsX70 ++ W_fillF))
theorem m_wakeAll_O : ∀ w ∈ O_wakeAll, w ∈ W_wakeAll := fun _ h => List.mem_cons_of_mem _ (List.mem_append_left _ h)
theorem m_wakeAll_C7 : ∀ w ∈ wsX70, w ∈ W_wakeAll := fun _ h => List.mem_cons_of_mem _ (List.mem_append_right _ (List.mem_append_left _ h))
theorem m_wakeAll_WfillF : ∀ w ∈ W_fillF, w ∈ W_wakeAll := fun _ h => List.mem_cons_of_mem _ (List.mem_append_right _ (List.mem_append_right _ h))
theorem gdO_wakeAll : O_wakeAll.all goodWord = true := by decide +kernel
theorem gd_wakeAll : W_wakeAll.all goodWord = true := k_all_cons rfl (k_all_app gdO_wakeAll (k_all_app gdC_7 gd_fillF))
set_option maxHeartbeats 4000000 in
set_option maxRecDepth 100000 in
theorem c_wakeAll (l : Launch) (D : va_G) (cI cZ cJ : ClassId) (h0 : Nat) (ad : Nat → Nat) (ls0 : Int32) (sm : Nat) (am : Nat) (nw : Nat → Nat) : kMv l yX7_wakeAll W_wakeAll { frames := 1, cells := 0, slots := 0, locals := 30 } 0 0 D (kT cI cZ cJ) [.ref h0] [(h0, .inr (7, [.int ls0, .ref sm, .ref am, .ref (ad 37), .ref (ad 0), .ref (ad 1), .ref (ad 2), .ref (ad 3), .ref (ad 4)])), ((ad 37), .inl (cI, 16, .inl (eN nw)))] (S := Unit) (fun _ => True) (fun _ => [(h0, .inr (7, [.int ls0, .ref sm, .ref am, .ref (ad 37), .ref (ad 0), .ref (ad 1), .ref (ad 2), .ref (ad 3), .ref (ad 4)])), ((ad 37), .inl (cI, 16, .inl (eN (fun _ => 0))))]) := by
  refine kMv_of (lv := [(0, .ref h0)]) RX7 "wakeAll" (by decide +kernel) rfl rfl rfl (Nat.le_of_ble_eq_true rfl) rfl ?_
  intro p e s m below meth c A H locs ls E hA hK hP hD hS hl
  obtain ⟨hx, hb, hr_, hts, hown, hlocks, hml, hin, hN⟩ := id E
  refine lv_aload_n hx hb dX7_wakeAll_0 rfl (lv_at hl 0 rfl) ?_
  refine va_get (ci := 7) (v := .ref (ad 37)) (C := RX7) (T := TX7) (N := 9) hx hb hts m_wakeAll_C7 hown hK hP 0 rfl rfl 3 (by decide) (hts (.fieldLink RX7 21 "RoutingDomain$Simulator" "nextWork" "[I") (m_wakeAll_O _ (by decide +kernel))) (fun _ h9 => h9) rfl dX7_wakeAll_1 ?_
  refine lv_iconst (v := 0) hx hb dX7_wakeAll_4 (by decide) ?_
  refine kSv (As := [.ref (ad 37), .int 0]) (rest := []) (wr := [(h0, .inr (7, [.int ls0, .ref sm, .ref am, .ref (ad 37), .ref (ad 0), .ref (ad 1), .ref (ad 2), .ref (ad 3), .ref (ad 4)]))]) (w2 := fun _ => [(h0, .inr (7, [.int ls0, .ref sm, .ref am, .ref (ad 37), .ref (ad 0), .ref (ad 1), .ref (ad 2), .ref (ad 3), .ref (ad 4)])), ((ad 37), .inl (cI, 16, .inl (fil 16 0 (eN nw))))]) ⟨hx, hb, hml, hown, hts⟩ hN (c_fillF l D cI cZ cJ (ad 37) 16 (eN nw) 0 (by decide)) (va_cwS 2 hts (k_gS (fun w h => m_wakeAll_O w ((by decide +kernel : ∀ w ∈ ([.methodLink RX7 45 yJ7_fill_53178, .static yJ7_fill_53178, .initialized RJ7] : List Cond), w ∈ O_wakeAll) w h)) m_wakeAll_WfillF gd_fillF) rfl rfl rfl (by decide +kernel) ⟨Nat.le_of_ble_eq_true rfl, Nat.le_of_ble_eq_true rfl⟩) hK hP hD hS hA [1] [0] [0, 1] rfl rfl ⟨by decide, by decide, by decide⟩ (by decide) (fun _ => rfl) rfl hl.1 rfl (Nat.le_of_ble_eq_true rfl) dX7_wakeAll_5 ⟨Nat.le_of_ble_eq_true rfl, Nat.le_of_ble_eq_true rfl⟩ (fun u H locs hw hP hD hS => ?_)
  have hP : va_P D vwCl [(h0, .inr (7, [.int ls0, .ref sm, .ref am, .ref (ad 37), .ref (ad 0), .ref (ad 1), .ref (ad 2), .ref (ad 3), .ref (ad 4)])), ((ad 37), .inl (cI, 16, .inl (fil 16 0 (eN nw))))] H := hP
  have hD : va_D A [(h0, .inr (7, [.int ls0, .ref sm, .ref am, .ref (ad 37), .ref (ad 0), .ref (ad 1), .ref (ad 2), .ref (ad 3), .ref (ad 4)])), ((ad 37), .inl (cI, 16, .inl (fil 16 0 (eN nw))))] := hD
  have hP := k_extP (g := eN (fun _ => 0)) hP 1 rfl (fun j hj => if_pos hj)
  have hD := va_D.set (e := .inl (cI, 16, .inl (eN (fun _ => 0)))) hD (p := 1) rfl
  have hP : va_P D vwCl [(h0, .inr (7, [.int ls0, .ref sm, .ref am, .ref (ad 37), .ref (ad 0), .ref (ad 1), .ref (ad 2), .ref (ad 3), .ref (ad 4)])), ((ad 37), .inl (cI, 16, .inl (eN (fun _ => 0))))] H := hP
  have hD : va_D A [(h0, .inr (7, [.int ls0, .ref sm, .ref am, .ref (ad 37), .ref (ad 0), .ref (ad 1), .ref (ad 2), .ref (ad 3), .ref (ad 4)])), ((ad 37), .inl (cI, 16, .inl (eN (fun _ => 0))))] := hD
  exact k_vret E hK hP hD hS () [0, 1] (by decide) rfl trivial (Nat.le_of_ble_eq_true rfl) (Nat.le_of_ble_eq_true rfl) dX7_wakeAll_8

def O_removeExpired : List Cond := [.fieldLink RX7 33 "RoutingDomain$Simulator" "databases" "LRoutingDomain$Databases;", .fieldLink RX7 29 "RoutingDomain$Simulator" "advertisements" "LRoutingDomain$Advertisements;", .fieldLink RX7 51 "RoutingDomain$Advertisements" "now" "I", .methodLink RX7 57 yX2_holdsSlot, .instanceMethod yX2_holdsSlot, .selects RX2 yX2_holdsSlot yX2_holdsSlot, .initialized RX2, .fieldLink RX7 25 "RoutingDomain$Simulator" "topology" "LRoutingDomain$Topology;", .fieldLink RX7 63 "RoutingDomain$Topology" "routerCount" "I", .methodLink RX7 68 yX2_versionHeld, .instanceMethod yX2_versionHeld, .selects RX2 yX2_versionHeld yX2_versionHeld, .methodLink RX7 72 yX0_ageOf, .instanceMethod yX0_ageOf, .selects RX0 yX0_ageOf yX0_ageOf, .initialized RX0, .methodLink RX7 76 yX2_replace, .instanceMethod yX2_replace, .selects RX2 yX2_replace yX2_replace, .fieldLink RX7 21 "RoutingDomain$Simulator" "nextWork" "[I"]
def W_removeExpired : List Cond := .code yX7_removeExpired cX7_removeExpired 4 none :: (O_removeExpired ++ (wsX70 ++ (wsX00 ++ (W_holdsSlot ++ (wsX80 ++ (W_versionHeld ++ (W_ageOf ++ W_replN)))))))
theorem m_removeExpired_O : ∀ w ∈ O_removeExpired, w ∈ W_removeExpired := fun _ h => List.mem_cons_of_mem _ (List.mem_append_left _ h)
theorem m_removeExpired_C7 : ∀ w ∈ wsX70, w ∈ W_removeExpired := fun _ h => List.mem_cons_of_mem _ (List.mem_append_right _ (List.mem_append_left _ h))
theorem m_removeExpired_C0 : ∀ w ∈ wsX00, w ∈ W_removeExpired := fun _ h => List.mem_cons_of_mem _ (List.mem_append_right _ (List.mem_append_right _ (List.mem_append_left _ h)))
theorem m_removeExpired_WholdsSlot : ∀ w ∈ W_holdsSlot, w ∈ W_removeExpired := fun _ h => List.mem_cons_of_mem _ (List.mem_append_right _ (List.mem_append_right _ (List.mem_append_right _ (List.mem_append_left _ h))))
theorem m_removeExpired_C8 : ∀ w ∈ wsX80, w ∈ W_removeExpired := fun _ h => List.mem_cons_of_mem _ (List.mem_append_right _ (List.mem_append_right _ (List.mem_append_right _ (List.mem_append_right _ (List.mem_append_left _ h)))))
theorem m_removeExpired_WversionHeld : ∀ w ∈ W_versionHeld, w ∈ W_removeExpired := fun _ h => List.mem_cons_of_mem _ (List.mem_append_right _ (List.mem_append_right _ (List.mem_append_right _ (List.mem_append_right _ (List.mem_append_right _ (List.mem_append_left _ h))))))
theorem m_removeExpired_WageOf : ∀ w ∈ W_ageOf, w ∈ W_removeExpired := fun _ h => List.mem_cons_of_mem _ (List.mem_append_right _ (List.mem_append_right _ (List.mem_append_right _ (List.mem_append_right _ (List.mem_append_right _ (List.mem_append_right _ (List.mem_append_left _ h)))))))
theorem m_removeExpired_WreplN : ∀ w ∈ W_replN, w ∈ W_removeExpired := fun _ h => List.mem_cons_of_mem _ (List.mem_append_right _ (List.mem_append_right _ (List.mem_append_right _ (List.mem_append_right _ (List.mem_append_right _ (List.mem_append_right _ (List.mem_append_right _ h)))))))
theorem gdO_removeExpired : O_removeExpired.all goodWord = true := by decide +kernel
theorem gd_removeExpired : W_removeExpired.all goodWord = true := k_all_cons rfl (k_all_app gdO_removeExpired (k_all_app gdC_7 (k_all_app gdC_0 (k_all_app gd_holdsSlot (k_all_app gdC_8 (k_all_app gd_versionHeld (k_all_app gd_ageOf gd_replN)))))))
set_option maxHeartbeats 4000000 in
set_option maxRecDepth 100000 in
theorem c_removeExpired (l : Launch) (D : va_G) (cI cZ cJ : ClassId) (h0 : Nat) (ad : Nat → Nat) (t : TP) (lc : Nat) (ls0 : Int32) (sm : Nat) (am : Nat) (now : Nat) (old : Nat → Bool) (hd : Nat → Option Nat) (nw : Nat → Nat) (hnow : now < 2 ^ 20) (hhd : ∀ j w, hd j = some w → w < 69632) (hT : TOK t) : kMv l yX7_removeExpired W_removeExpired { frames := 2, cells := 0, slots := 0, locals := 100 } 0 0 D (kT cI cZ cJ) [.ref h0] [(h0, .inr (7, [.int ls0, .ref sm, .ref am, .ref (ad 37), .ref (ad 0), .ref (ad 1), .ref (ad 2), .ref (ad 3), .ref (ad 4)])), ((ad 0), .inr (8, [.int (nI (tRc t)), .int (nI lc), .ref (ad 7), .ref (ad 8), .ref (ad 9), .ref (ad 10), .ref (ad 11), .ref (ad 12), .ref (ad 13), .ref (ad 14), .ref (ad 15), .ref (ad 16)])), ((ad 1), .inr (0, [.int (nI now), .ref (ad 17), .ref (ad 18), .ref (ad 19), .ref (ad 20), .ref (ad 0)])), ((ad 2), .inr (2, [.ref (ad 21), .ref (ad 22), .ref (ad 23), .ref (ad 24), .ref (ad 25)])), ((ad 23), .inl (cZ, 64, .inl (eB old))), ((ad 24), .inl (cI, 17408, .inl (eO hd))), ((ad 25), .inl (cI, 64, .inl (eN (cn hd)))), ((ad 37), .inl (cI, 16, .inl (eN nw)))] (S := (Nat → Bool) × (Nat → Option Nat) × (Nat → Nat)) (fun u => (u.1, u.2.1, u.2.2) = exA (tRc t) now (old, hd, nw)) (fun u => [(h0, .inr (7, [.int ls0, .ref sm, .ref am, .ref (ad 37), .ref (ad 0), .ref (ad 1), .ref (ad 2), .ref (ad 3), .ref (ad 4)])), ((ad 0), .inr (8, [.int (nI (tRc t)), .int (nI lc), .ref (ad 7), .ref (ad 8), .ref (ad 9), .ref (ad 10), .ref (ad 11), .ref (ad 12), .ref (ad 13), .ref (ad 14), .ref (ad 15), .ref (ad 16)])), ((ad 1), .inr (0, [.int (nI now), .ref (ad 17), .ref (ad 18), .ref (ad 19), .ref (ad 20), .ref (ad 0)])), ((ad 2), .inr (2, [.ref (ad 21), .ref (ad 22), .ref (ad 23), .ref (ad 24), .ref (ad 25)])), ((ad 23), .inl (cZ, 64, .inl (eB u.1))), ((ad 24), .inl (cI, 17408, .inl (eO u.2.1))), ((ad 25), .inl (cI, 64, .inl (eN (cn u.2.1)))), ((ad 37), .inl (cI, 16, .inl (eN u.2.2)))]) := by
  refine kMv_of (lv := [(0, .ref h0)]) RX7 "removeExpired" (by decide +kernel) rfl rfl rfl (Nat.le_of_ble_eq_true rfl) rfl ?_
  intro p e s m below meth c A H locs ls E hA hK hP hD hS hl
  obtain ⟨hx, hb, hr_, hts, hown, hlocks, hml, hin, hN⟩ := id E
  obtain ⟨hrc, hrp, hpo, hpc, hal, hmp, han⟩ := id hT
  have hq5 : ag now 60 < 64 := Nat.mod_lt _ (by decide)
  refine lv_aload_n hx hb dX7_removeExpired_0 rfl (lv_at hl 0 rfl) ?_
  refine va_get (ci := 7) (v := .ref (ad 2)) (C := RX7) (T := TX7) (N := 9) hx hb hts m_removeExpired_C7 hown hK hP 0 rfl rfl 6 (by decide) (hts (.fieldLink RX7 33 "RoutingDomain$Simulator" "databases" "LRoutingDomain$Databases;") (m_removeExpired_O _ (by decide +kernel))) (fun _ h9 => h9) rfl dX7_removeExpired_1 ?_
  refine lv_aload_n hx hb dX7_removeExpired_4 rfl (lv_at hl 0 rfl) ?_
  refine va_get (ci := 7) (v := .ref (ad 1)) (C := RX7) (T := TX7) (N := 9) hx hb hts m_removeExpired_C7 hown hK hP 0 rfl rfl 5 (by decide) (hts (.fieldLink RX7 29 "RoutingDomain$Simulator" "advertisements" "LRoutingDomain$Advertisements;") (m_removeExpired_O _ (by decide +kernel))) (fun _ h9 => h9) rfl dX7_removeExpired_5 ?_
  refine va_get (ci := 0) (v := .int (nI now)) (C := RX0) (T := TX0) (N := 6) hx hb hts m_removeExpired_C0 hown hK hP 2 rfl rfl 0 (by decide) (hts (.fieldLink RX7 51 "RoutingDomain$Advertisements" "now" "I") (m_removeExpired_O _ (by decide +kernel))) (fun _ h9 => h9) rfl dX7_removeExpired_8 ?_
  refine lv_bipush (v := 60) hx hb dX7_removeExpired_11 (by decide) ?_
  refine lv_isub hx hb dX7_removeExpired_13 ?_
  refine lv_topi (fun y ey => ?_)
  obtain rfl : y = (nI now - nI 60) := ey.trans rfl
  refine lv_bipush (v := 63) hx hb dX7_removeExpired_14 (by decide) ?_
  refine lv_iand hx hb dX7_removeExpired_16 ?_
  refine lv_topi (fun y ey => ?_)
  obtain rfl : y = (nI (ag now 60)) := ey.trans (ag_sub now 60 hnow (by decide))
  refine kVi (As := [.int (nI (ag now 60))]) (rest := []) (wr := [(h0, .inr (7, [.int ls0, .ref sm, .ref am, .ref (ad 37), .ref (ad 0), .ref (ad 1), .ref (ad 2), .ref (ad 3), .ref (ad 4)])), ((ad 0), .inr (8, [.int (nI (tRc t)), .int (nI lc), .ref (ad 7), .ref (ad 8), .ref (ad 9), .ref (ad 10), .ref (ad 11), .ref (ad 12), .ref (ad 13), .ref (ad 14), .ref (ad 15), .ref (ad 16)])), ((ad 1), .inr (0, [.int (nI now), .ref (ad 17), .ref (ad 18), .ref (ad 19), .ref (ad 20), .ref (ad 0)])), ((ad 23), .inl (cZ, 64, .inl (eB old))), ((ad 24), .inl (cI, 17408, .inl (eO hd))), ((ad 37), .inl (cI, 16, .inl (eN nw)))]) (w2 := fun _ => [(h0, .inr (7, [.int ls0, .ref sm, .ref am, .ref (ad 37), .ref (ad 0), .ref (ad 1), .ref (ad 2), .ref (ad 3), .ref (ad 4)])), ((ad 0), .inr (8, [.int (nI (tRc t)), .int (nI lc), .ref (ad 7), .ref (ad 8), .ref (ad 9), .ref (ad 10), .ref (ad 11), .ref (ad 12), .ref (ad 13), .ref (ad 14), .ref (ad 15), .ref (ad 16)])), ((ad 1), .inr (0, [.int (nI now), .ref (ad 17), .ref (ad 18), .ref (ad 19), .ref (ad 20), .ref (ad 0)])), ((ad 2), .inr (2, [.ref (ad 21), .ref (ad 22), .ref (ad 23), .ref (ad 24), .ref (ad 25)])), ((ad 23), .inl (cZ, 64, .inl (eB old))), ((ad 24), .inl (cI, 17408, .inl (eO hd))), ((ad 25), .inl (cI, 64, .inl (eN (cn hd)))), ((ad 37), .inl (cI, 16, .inl (eN nw)))]) ⟨hx, hb, hml, hown, hts⟩ hN (c_holdsSlot l D cI cZ cJ (ad 2) ad hd (ag now 60) hq5) (cwV 1 hts (k_gV (fun w h => m_removeExpired_O w ((by decide +kernel : ∀ w ∈ ([.methodLink RX7 57 yX2_holdsSlot, .instanceMethod yX2_holdsSlot, .selects RX2 yX2_holdsSlot yX2_holdsSlot, .initialized RX2] : List Cond), w ∈ O_removeExpired) w h)) m_removeExpired_WholdsSlot gd_holdsSlot) rfl rfl rfl (by decide +kernel) ⟨Nat.le_of_ble_eq_true rfl, Nat.le_of_ble_eq_true rfl⟩) hK hP hD hS hA [3, 6] [0, 1, 2, 4, 5, 7] [0, 1, 2, 6, 3, 4, 7, 5] rfl rfl ⟨by decide, by decide, by decide⟩ (by decide) (fun _ => rfl) 2 0 rfl rfl rfl rfl hl.1 rfl (Nat.le_of_ble_eq_true rfl) dX7_removeExpired_17 ⟨Nat.le_of_ble_eq_true rfl, Nat.le_of_ble_eq_true rfl⟩ (fun res_ u H locs hw hP hD hS => ?_)
  have hP : va_P D vwCl [(h0, .inr (7, [.int ls0, .ref sm, .ref am, .ref (ad 37), .ref (ad 0), .ref (ad 1), .ref (ad 2), .ref (ad 3), .ref (ad 4)])), ((ad 0), .inr (8, [.int (nI (tRc t)), .int (nI lc), .ref (ad 7), .ref (ad 8), .ref (ad 9), .ref (ad 10), .ref (ad 11), .ref (ad 12), .ref (ad 13), .ref (ad 14), .ref (ad 15), .ref (ad 16)])), ((ad 1), .inr (0, [.int (nI now), .ref (ad 17), .ref (ad 18), .ref (ad 19), .ref (ad 20), .ref (ad 0)])), ((ad 2), .inr (2, [.ref (ad 21), .ref (ad 22), .ref (ad 23), .ref (ad 24), .ref (ad 25)])), ((ad 23), .inl (cZ, 64, .inl (eB old))), ((ad 24), .inl (cI, 17408, .inl (eO hd))), ((ad 25), .inl (cI, 64, .inl (eN (cn hd)))), ((ad 37), .inl (cI, 16, .inl (eN nw)))] H := hP
  have hD : va_D A [(h0, .inr (7, [.int ls0, .ref sm, .ref am, .ref (ad 37), .ref (ad 0), .ref (ad 1), .ref (ad 2), .ref (ad 3), .ref (ad 4)])), ((ad 0), .inr (8, [.int (nI (tRc t)), .int (nI lc), .ref (ad 7), .ref (ad 8), .ref (ad 9), .ref (ad 10), .ref (ad 11), .ref (ad 12), .ref (ad 13), .ref (ad 14), .ref (ad 15), .ref (ad 16)])), ((ad 1), .inr (0, [.int (nI now), .ref (ad 17), .ref (ad 18), .ref (ad 19), .ref (ad 20), .ref (ad 0)])), ((ad 2), .inr (2, [.ref (ad 21), .ref (ad 22), .ref (ad 23), .ref (ad 24), .ref (ad 25)])), ((ad 23), .inl (cZ, 64, .inl (eB old))), ((ad 24), .inl (cI, 17408, .inl (eO hd))), ((ad 25), .inl (cI, 64, .inl (eN (cn hd)))), ((ad 37), .inl (cI, 16, .inl (eN nw)))] := hD
  obtain rfl : res_ = (bI (decide (0 < cn hd (ag now 60)))) := hw
  refine lv_if_ne (tgt := 24) hx hb dX7_removeExpired_20 (by decide) (fun c_20 => ?_) (fun c_20 => ?_)
  · have n_20 : (decide (0 < cn hd (ag now 60))) = true := bI_1 c_20
    refine lv_iconst (v := 0) hx hb dX7_removeExpired_24 (by decide) ?_
    refine lv_istore_n (lv' := [(1, .int 0), (0, .ref h0)]) hx hb dX7_removeExpired_25 rfl hl (by decide) rfl (fun ls hl => ?_)
    refine k_loop (Nat × (Nat → Bool) × (Nat → Option Nat) × (Nat → Nat)) 26 4 (fun u => u.1 ≤ tRc t ∧ (u.2.1, u.2.2.1, u.2.2.2) = itr (ex2 now) u.1 (old, hd, nw) ∧ ∀ j w, u.2.2.1 j = some w → w < 69632) (fun u => tRc t - u.1) (fun u => [(h0, .inr (7, [.int ls0, .ref sm, .ref am, .ref (ad 37), .ref (ad 0), .ref (ad 1), .ref (ad 2), .ref (ad 3), .ref (ad 4)])), ((ad 0), .inr (8, [.int (nI (tRc t)), .int (nI lc), .ref (ad 7), .ref (ad 8), .ref (ad 9), .ref (ad 10), .ref (ad 11), .ref (ad 12), .ref (ad 13), .ref (ad 14), .ref (ad 15), .ref (ad 16)])), ((ad 1), .inr (0, [.int (nI now), .ref (ad 17), .ref (ad 18), .ref (ad 19), .ref (ad 20), .ref (ad 0)])), ((ad 2), .inr (2, [.ref (ad 21), .ref (ad 22), .ref (ad 23), .ref (ad 24), .ref (ad 25)])), ((ad 23), .inl (cZ, 64, .inl (eB u.2.1))), ((ad 24), .inl (cI, 17408, .inl (eO u.2.2.1))), ((ad 25), .inl (cI, 64, .inl (eN (cn u.2.2.1)))), ((ad 37), .inl (cI, 16, .inl (eN u.2.2.2)))]) (fun u => [(0, .ref h0), (1, .int (nI u.1))]) ?_ (0, old, hd, nw) (⟨Nat.zero_le _, rfl, hhd⟩) (hP.sub [0, 1, 2, 3, 4, 5, 6, 7] rfl) (hD.sub [0, 1, 2, 3, 4, 5, 6, 7] (by decide) rfl) hS (lv_sub hl [1, 0] rfl)
    intro ⟨r, o2, h2, n2⟩ H locs ls hinv hP hD hS hl ih_26
    have hinv : r ≤ tRc t ∧ (o2, h2, n2) = itr (ex2 now) r (old, hd, nw) ∧ ∀ j w, h2 j = some w → w < 69632 := hinv
    have hP : va_P D vwCl [(h0, .inr (7, [.int ls0, .ref sm, .ref am, .ref (ad 37), .ref (ad 0), .ref (ad 1), .ref (ad 2), .ref (ad 3), .ref (ad 4)])), ((ad 0), .inr (8, [.int (nI (tRc t)), .int (nI lc), .ref (ad 7), .ref (ad 8), .ref (ad 9), .ref (ad 10), .ref (ad 11), .ref (ad 12), .ref (ad 13), .ref (ad 14), .ref (ad 15), .ref (ad 16)])), ((ad 1), .inr (0, [.int (nI now), .ref (ad 17), .ref (ad 18), .ref (ad 19), .ref (ad 20), .ref (ad 0)])), ((ad 2), .inr (2, [.ref (ad 21), .ref (ad 22), .ref (ad 23), .ref (ad 24), .ref (ad 25)])), ((ad 23), .inl (cZ, 64, .inl (eB o2))), ((ad 24), .inl (cI, 17408, .inl (eO h2))), ((ad 25), .inl (cI, 64, .inl (eN (cn h2)))), ((ad 37), .inl (cI, 16, .inl (eN n2)))] H := hP
    have hD : va_D A [(h0, .inr (7, [.int ls0, .ref sm, .ref am, .ref (ad 37), .ref (ad 0), .ref (ad 1), .ref (ad 2), .ref (ad 3), .ref (ad 4)])), ((ad 0), .inr (8, [.int (nI (tRc t)), .int (nI lc), .ref (ad 7), .ref (ad 8), .ref (ad 9), .ref (ad 10), .ref (ad 11), .ref (ad 12), .ref (ad 13), .ref (ad 14), .ref (ad 15), .ref (ad 16)])), ((ad 1), .inr (0, [.int (nI now), .ref (ad 17), .ref (ad 18), .ref (ad 19), .ref (ad 20), .ref (ad 0)])), ((ad 2), .inr (2, [.ref (ad 21), .ref (ad 22), .ref (ad 23), .ref (ad 24), .ref (ad 25)])), ((ad 23), .inl (cZ, 64, .inl (eB o2))), ((ad 24), .inl (cI, 17408, .inl (eO h2))), ((ad 25), .inl (cI, 64, .inl (eN (cn h2)))), ((ad 37), .inl (cI, 16, .inl (eN n2)))] := hD
    have hl : lv_has ls 4 [(0, .ref h0), (1, .int (nI r))] := hl
    obtain ⟨hr1, heq1, hb1⟩ := hinv
    refine lv_iload_n hx hb dX7_removeExpired_26 rfl (lv_at hl 1 rfl) ?_
    refine lv_aload_n hx hb dX7_removeExpired_27 rfl (lv_at hl 0 rfl) ?_
    refine va_get (ci := 7) (v := .ref (ad 0)) (C := RX7) (T := TX7) (N := 9) hx hb hts m_removeExpired_C7 hown hK hP 0 rfl rfl 4 (by decide) (hts (.fieldLink RX7 25 "RoutingDomain$Simulator" "topology" "LRoutingDomain$Topology;") (m_removeExpired_O _ (by decide +kernel))) (fun _ h9 => h9) rfl dX7_removeExpired_28 ?_
    refine va_get (ci := 8) (v := .int (nI (tRc t))) (C := RX8) (T := TX8) (N := 12) hx hb hts m_removeExpired_C8 hown hK hP 1 rfl rfl 0 (by decide) (hts (.fieldLink RX7 63 "RoutingDomain$Topology" "routerCount" "I") (m_removeExpired_O _ (by decide +kernel))) (fun _ h9 => h9) rfl dX7_removeExpired_31 ?_
    refine lv_icmp_ge (tgt := 103) hx hb dX7_removeExpired_34 (by decide) (fun c_34 => ?_) (fun c_34 => ?_)
    · have n_34 : (tRc t) ≤ r := (nI_leI (a := (tRc t)) (b := r) (by omega) (by omega)).mp c_34
      have hre : r = tRc t := by omega
      subst hre
      exact k_vret E hK hP hD hS (o2, h2, n2) [0, 1, 2, 3, 4, 5, 6, 7] (by decide) rfl (by unfold exA; rw [if_pos (show 0 < cn (old, hd, nw).2.1 (exs now) from of_decide_eq_true n_20)]; exact heq1) (Nat.le_of_ble_eq_true rfl) (Nat.le_of_ble_eq_true rfl) dX7_removeExpired_103
    · have n_34 : ¬ (tRc t) ≤ r := fun h => c_34 ((nI_leI (a := (tRc t)) (b := r) (by omega) (by omega)).mpr h)
      refine lv_iconst (v := 0) hx hb dX7_removeExpired_37 (by decide) ?_
      refine lv_istore_n (lv' := [(2, .int 0), (0, .ref h0), (1, .int (nI r))]) hx hb dX7_removeExpired_38 rfl hl (by decide) rfl (fun ls hl => ?_)
      refine k_loop (Nat × (Nat → Bool) × (Nat → Option Nat) × (Nat → Nat)) 39 4 (fun u => u.1 ≤ 1088 ∧ (u.2.1, u.2.2.1, u.2.2.2) = itr (ex1 now r) u.1 (o2, h2, n2) ∧ ∀ j w, u.2.2.1 j = some w → w < 69632) (fun u => 1088 - u.1) (fun u => [(h0, .inr (7, [.int ls0, .ref sm, .ref am, .ref (ad 37), .ref (ad 0), .ref (ad 1), .ref (ad 2), .ref (ad 3), .ref (ad 4)])), ((ad 0), .inr (8, [.int (nI (tRc t)), .int (nI lc), .ref (ad 7), .ref (ad 8), .ref (ad 9), .ref (ad 10), .ref (ad 11), .ref (ad 12), .ref (ad 13), .ref (ad 14), .ref (ad 15), .ref (ad 16)])), ((ad 1), .inr (0, [.int (nI now), .ref (ad 17), .ref (ad 18), .ref (ad 19), .ref (ad 20), .ref (ad 0)])), ((ad 2), .inr (2, [.ref (ad 21), .ref (ad 22), .ref (ad 23), .ref (ad 24), .ref (ad 25)])), ((ad 23), .inl (cZ, 64, .inl (eB u.2.1))), ((ad 24), .inl (cI, 17408, .inl (eO u.2.2.1))), ((ad 25), .inl (cI, 64, .inl (eN (cn u.2.2.1)))), ((ad 37), .inl (cI, 16, .inl (eN u.2.2.2)))]) (fun u => [(0, .ref h0), (1, .int (nI r)), (2, .int (nI u.1))]) ?_ (0, o2, h2, n2) (⟨Nat.zero_le _, rfl, hb1⟩) (hP.sub [0, 1, 2, 3, 4, 5, 6, 7] rfl) (hD.sub [0, 1, 2, 3, 4, 5, 6, 7] (by decide) rfl) hS (lv_sub hl [1, 2, 0] rfl)
      intro ⟨k, o3, h3, n3⟩ H locs ls hinv hP hD hS hl ih_39
      have hinv : k ≤ 1088 ∧ (o3, h3, n3) = itr (ex1 now r) k (o2, h2, n2) ∧ ∀ j w, h3 j = some w → w < 69632 := hinv
      have hP : va_P D vwCl [(h0, .inr (7, [.int ls0, .ref sm, .ref am, .ref (ad 37), .ref (ad 0), .ref (ad 1), .ref (ad 2), .ref (ad 3), .ref (ad 4)])), ((ad 0), .inr (8, [.int (nI (tRc t)), .int (nI lc), .ref (ad 7), .ref (ad 8), .ref (ad 9), .ref (ad 10), .ref (ad 11), .ref (ad 12), .ref (ad 13), .ref (ad 14), .ref (ad 15), .ref (ad 16)])), ((ad 1), .inr (0, [.int (nI now), .ref (ad 17), .ref (ad 18), .ref (ad 19), .ref (ad 20), .ref (ad 0)])), ((ad 2), .inr (2, [.ref (ad 21), .ref (ad 22), .ref (ad 23), .ref (ad 24), .ref (ad 25)])), ((ad 23), .inl (cZ, 64, .inl (eB o3))), ((ad 24), .inl (cI, 17408, .inl (eO h3))), ((ad 25), .inl (cI, 64, .inl (eN (cn h3)))), ((ad 37), .inl (cI, 16, .inl (eN n3)))] H := hP
      have hD : va_D A [(h0, .inr (7, [.int ls0, .ref sm, .ref am, .ref (ad 37), .ref (ad 0), .ref (ad 1), .ref (ad 2), .ref (ad 3), .ref (ad 4)])), ((ad 0), .inr (8, [.int (nI (tRc t)), .int (nI lc), .ref (ad 7), .ref (ad 8), .ref (ad 9), .ref (ad 10), .ref (ad 11), .ref (ad 12), .ref (ad 13), .ref (ad 14), .ref (ad 15), .ref (ad 16)])), ((ad 1), .inr (0, [.int (nI now), .ref (ad 17), .ref (ad 18), .ref (ad 19), .ref (ad 20), .ref (ad 0)])), ((ad 2), .inr (2, [.ref (ad 21), .ref (ad 22), .ref (ad 23), .ref (ad 24), .ref (ad 25)])), ((ad 23), .inl (cZ, 64, .inl (eB o3))), ((ad 24), .inl (cI, 17408, .inl (eO h3))), ((ad 25), .inl (cI, 64, .inl (eN (cn h3)))), ((ad 37), .inl (cI, 16, .inl (eN n3)))] := hD
      have hl : lv_has ls 4 [(0, .ref h0), (1, .int (nI r)), (2, .int (nI k))] := hl
      obtain ⟨hk1, heq3, hb3⟩ := hinv
      refine lv_iload_n hx hb dX7_removeExpired_39 rfl (lv_at hl 2 rfl) ?_
      refine lv_sipush (v := 1088) hx hb dX7_removeExpired_40 (by decide) ?_
      refine lv_icmp_ge (tgt := 97) hx hb dX7_removeExpired_43 (by decide) (fun c_43 => ?_) (fun c_43 => ?_)
      · have n_43 : 1088 ≤ k := (nI_leI (a := 1088) (b := k) (by omega) (by omega)).mp c_43
        have hke : k = 1088 := by omega
        subst hke
        have heq2 : (o3, h3, n3) = itr (ex2 now) (r + 1) (old, hd, nw) := by rw [itr_s, ← heq1]; exact heq3
        have hb2 := hb3
        refine lv_iinc (v := (nI (r + 1))) (lv' := [(1, .int (nI (r + 1))), (0, .ref h0), (2, .int (nI 1088))]) hx hb dX7_removeExpired_97 hl (k := 1) rfl (nI_add r 1) (by decide) rfl (fun ls hl => ?_)
        refine lv_goto (tgt := 26) hx hb dX7_removeExpired_100 (by decide) ?_
        exact ih_26 (r + 1, o3, h3, n3) H locs ls (⟨by show r + 1 ≤ tRc t; omega, heq2, hb2⟩) (by show tRc t - (r + 1) < tRc t - r; omega) (hP.sub [0, 1, 2, 3, 4, 5, 6, 7] rfl) (hD.sub [0, 1, 2, 3, 4, 5, 6, 7] (by decide) rfl) hS (lv_sub hl [1, 0] rfl)
      · have n_43 : ¬ 1088 ≤ k := fun h => c_43 ((nI_leI (a := 1088) (b := k) (by omega) (by omega)).mpr h)
        refine lv_aload_n hx hb dX7_removeExpired_46 rfl (lv_at hl 0 rfl) ?_
        refine va_get (ci := 7) (v := .ref (ad 2)) (C := RX7) (T := TX7) (N := 9) hx hb hts m_removeExpired_C7 hown hK hP 0 rfl rfl 6 (by decide) (hts (.fieldLink RX7 33 "RoutingDomain$Simulator" "databases" "LRoutingDomain$Databases;") (m_removeExpired_O _ (by decide +kernel))) (fun _ h9 => h9) rfl dX7_removeExpired_47 ?_
        refine lv_iload_n hx hb dX7_removeExpired_50 rfl (lv_at hl 1 rfl) ?_
        refine lv_iload_n hx hb dX7_removeExpired_51 rfl (lv_at hl 2 rfl) ?_
        refine kVi (As := [.int (nI r), .int (nI k)]) (rest := []) (wr := [(h0, .inr (7, [.int ls0, .ref sm, .ref am, .ref (ad 37), .ref (ad 0), .ref (ad 1), .ref (ad 2), .ref (ad 3), .ref (ad 4)])), ((ad 0), .inr (8, [.int (nI (tRc t)), .int (nI lc), .ref (ad 7), .ref (ad 8), .ref (ad 9), .ref (ad 10), .ref (ad 11), .ref (ad 12), .ref (ad 13), .ref (ad 14), .ref (ad 15), .ref (ad 16)])), ((ad 1), .inr (0, [.int (nI now), .ref (ad 17), .ref (ad 18), .ref (ad 19), .ref (ad 20), .ref (ad 0)])), ((ad 23), .inl (cZ, 64, .inl (eB o3))), ((ad 25), .inl (cI, 64, .inl (eN (cn h3)))), ((ad 37), .inl (cI, 16, .inl (eN n3)))]) (w2 := fun _ => [(h0, .inr (7, [.int ls0, .ref sm, .ref am, .ref (ad 37), .ref (ad 0), .ref (ad 1), .ref (ad 2), .ref (ad 3), .ref (ad 4)])), ((ad 0), .inr (8, [.int (nI (tRc t)), .int (nI lc), .ref (ad 7), .ref (ad 8), .ref (ad 9), .ref (ad 10), .ref (ad 11), .ref (ad 12), .ref (ad 13), .ref (ad 14), .ref (ad 15), .ref (ad 16)])), ((ad 1), .inr (0, [.int (nI now), .ref (ad 17), .ref (ad 18), .ref (ad 19), .ref (ad 20), .ref (ad 0)])), ((ad 2), .inr (2, [.ref (ad 21), .ref (ad 22), .ref (ad 23), .ref (ad 24), .ref (ad 25)])), ((ad 23), .inl (cZ, 64, .inl (eB o3))), ((ad 24), .inl (cI, 17408, .inl (eO h3))), ((ad 25), .inl (cI, 64, .inl (eN (cn h3)))), ((ad 37), .inl (cI, 16, .inl (eN n3)))]) ⟨hx, hb, hml, hown, hts⟩ hN (c_versionHeld l D cI cZ cJ (ad 2) ad h3 r k (by omega) (by omega)) (cwV 2 hts (k_gV (fun w h => m_removeExpired_O w ((by decide +kernel : ∀ w ∈ ([.methodLink RX7 68 yX2_versionHeld, .instanceMethod yX2_versionHeld, .selects RX2 yX2_versionHeld yX2_versionHeld, .initialized RX2] : List Cond), w ∈ O_removeExpired) w h)) m_removeExpired_WversionHeld gd_versionHeld) rfl rfl rfl (by decide +kernel) ⟨Nat.le_of_ble_eq_true rfl, Nat.le_of_ble_eq_true rfl⟩) hK hP hD hS hA [3, 5] [0, 1, 2, 4, 6, 7] [0, 1, 2, 6, 3, 7, 4, 5] rfl rfl ⟨by decide, by decide, by decide⟩ (by decide) (fun _ => rfl) 2 0 rfl rfl rfl rfl hl.1 rfl (Nat.le_of_ble_eq_true rfl) dX7_removeExpired_52 ⟨Nat.le_of_ble_eq_true rfl, Nat.le_of_ble_eq_true rfl⟩ (fun res_ u H locs hw hP hD hS => ?_)
        have hP : va_P D vwCl [(h0, .inr (7, [.int ls0, .ref sm, .ref am, .ref (ad 37), .ref (ad 0), .ref (ad 1), .ref (ad 2), .ref (ad 3), .ref (ad 4)])), ((ad 0), .inr (8, [.int (nI (tRc t)), .int (nI lc), .ref (ad 7), .ref (ad 8), .ref (ad 9), .ref (ad 10), .ref (ad 11), .ref (ad 12), .ref (ad 13), .ref (ad 14), .ref (ad 15), .ref (ad 16)])), ((ad 1), .inr (0, [.int (nI now), .ref (ad 17), .ref (ad 18), .ref (ad 19), .ref (ad 20), .ref (ad 0)])), ((ad 2), .inr (2, [.ref (ad 21), .ref (ad 22), .ref (ad 23), .ref (ad 24), .ref (ad 25)])), ((ad 23), .inl (cZ, 64, .inl (eB o3))), ((ad 24), .inl (cI, 17408, .inl (eO h3))), ((ad 25), .inl (cI, 64, .inl (eN (cn h3)))), ((ad 37), .inl (cI, 16, .inl (eN n3)))] H := hP
        have hD : va_D A [(h0, .inr (7, [.int ls0, .ref sm, .ref am, .ref (ad 37), .ref (ad 0), .ref (ad 1), .ref (ad 2), .ref (ad 3), .ref (ad 4)])), ((ad 0), .inr (8, [.int (nI (tRc t)), .int (nI lc), .ref (ad 7), .ref (ad 8), .ref (ad 9), .ref (ad 10), .ref (ad 11), .ref (ad 12), .ref (ad 13), .ref (ad 14), .ref (ad 15), .ref (ad 16)])), ((ad 1), .inr (0, [.int (nI now), .ref (ad 17), .ref (ad 18), .ref (ad 19), .ref (ad 20), .ref (ad 0)])), ((ad 2), .inr (2, [.ref (ad 21), .ref (ad 22), .ref (ad 23), .ref (ad 24), .ref (ad 25)])), ((ad 23), .inl (cZ, 64, .inl (eB o3))), ((ad 24), .inl (cI, 17408, .inl (eO h3))), ((ad 25), .inl (cI, 64, .inl (eN (cn h3)))), ((ad 37), .inl (cI, 16, .inl (eN n3)))] := hD
        obtain rfl : res_ = (oI (h3 (r * 1088 + k))) := hw
        rcases hv_52 : (h3 (r * 1088 + k)) with _ | v_52
        · refine lv_topi (fun y ey => ?_)
          obtain rfl : y = (-1) := ey
          refine lv_istore_n (lv' := [(3, .int (-1)), (0, .ref h0), (1, .int (nI r)), (2, .int (nI k))]) hx hb dX7_removeExpired_55 rfl hl (by decide) rfl (fun ls hl => ?_)
          refine lv_iload_n hx hb dX7_removeExpired_56 rfl (lv_at hl 0 rfl) ?_
          refine lv_iconst (v := (-1)) hx hb dX7_removeExpired_57 (by decide) ?_
          refine lv_icmp_eq (tgt := 91) hx hb dX7_removeExpired_58 (by decide) (fun _ => ?_) (fun c => absurd (by decide) c)
          refine lv_iinc (v := (nI (k + 1))) (lv' := [(2, .int (nI (k + 1))), (3, .int (-1)), (0, .ref h0), (1, .int (nI r))]) hx hb dX7_removeExpired_91 hl (k := 3) rfl (nI_add k 1) (by decide) rfl (fun ls hl => ?_)
          refine lv_goto (tgt := 39) hx hb dX7_removeExpired_94 (by decide) ?_
          exact ih_39 (k + 1, o3, h3, n3) H locs ls (⟨by show k + 1 ≤ 1088; omega, by rw [itr_s, ← heq3]; unfold ex1; rw [show (o3, h3, n3).2.1 (r * 1088 + k) = none from hv_52], hb3⟩) (by show 1088 - (k + 1) < 1088 - k; omega) (hP.sub [0, 1, 2, 3, 4, 5, 6, 7] rfl) (hD.sub [0, 1, 2, 3, 4, 5, 6, 7] (by decide) rfl) hS (lv_sub hl [2, 3, 0] rfl)
        · refine lv_topi (fun y ey => ?_)
          obtain rfl : y = (nI v_52) := ey
          have hf1 := hb3 _ _ hv_52
          refine lv_istore_n (lv' := [(3, .int (nI v_52)), (0, .ref h0), (1, .int (nI r)), (2, .int (nI k))]) hx hb dX7_removeExpired_55 rfl hl (by decide) rfl (fun ls hl => ?_)
          refine lv_iload_n hx hb dX7_removeExpired_56 rfl (lv_at hl 0 rfl) ?_
          refine lv_iconst (v := (-1)) hx hb dX7_removeExpired_57 (by decide) ?_
          refine lv_icmp_eq (tgt := 91) hx hb dX7_removeExpired_58 (by decide) (fun c => absurd c (nI_m1 (v := v_52) (by omega))) (fun _ => ?_)
          refine lv_aload_n hx hb dX7_removeExpired_61 rfl (lv_at hl 1 rfl) ?_
          refine va_get (ci := 7) (v := .ref (ad 1)) (C := RX7) (T := TX7) (N := 9) hx hb hts m_removeExpired_C7 hown hK hP 0 rfl rfl 5 (by decide) (hts (.fieldLink RX7 29 "RoutingDomain$Simulator" "advertisements" "LRoutingDomain$Advertisements;") (m_removeExpired_O _ (by decide +kernel))) (fun _ h9 => h9) rfl dX7_removeExpired_62 ?_
          refine lv_iload_n hx hb dX7_removeExpired_65 rfl (lv_at hl 0 rfl) ?_
          refine kVi (As := [.int (nI v_52)]) (rest := []) (wr := [(h0, .inr (7, [.int ls0, .ref sm, .ref am, .ref (ad 37), .ref (ad 0), .ref (ad 1), .ref (ad 2), .ref (ad 3), .ref (ad 4)])), ((ad 0), .inr (8, [.int (nI (tRc t)), .int (nI lc), .ref (ad 7), .ref (ad 8), .ref (ad 9), .ref (ad 10), .ref (ad 11), .ref (ad 12), .ref (ad 13), .ref (ad 14), .ref (ad 15), .ref (ad 16)])), ((ad 2), .inr (2, [.ref (ad 21), .ref (ad 22), .ref (ad 23), .ref (ad 24), .ref (ad 25)])), ((ad 23), .inl (cZ, 64, .inl (eB o3))), ((ad 24), .inl (cI, 17408, .inl (eO h3))), ((ad 25), .inl (cI, 64, .inl (eN (cn h3)))), ((ad 37), .inl (cI, 16, .inl (eN n3)))]) (w2 := fun _ => [(h0, .inr (7, [.int ls0, .ref sm, .ref am, .ref (ad 37), .ref (ad 0), .ref (ad 1), .ref (ad 2), .ref (ad 3), .ref (ad 4)])), ((ad 0), .inr (8, [.int (nI (tRc t)), .int (nI lc), .ref (ad 7), .ref (ad 8), .ref (ad 9), .ref (ad 10), .ref (ad 11), .ref (ad 12), .ref (ad 13), .ref (ad 14), .ref (ad 15), .ref (ad 16)])), ((ad 1), .inr (0, [.int (nI now), .ref (ad 17), .ref (ad 18), .ref (ad 19), .ref (ad 20), .ref (ad 0)])), ((ad 2), .inr (2, [.ref (ad 21), .ref (ad 22), .ref (ad 23), .ref (ad 24), .ref (ad 25)])), ((ad 23), .inl (cZ, 64, .inl (eB o3))), ((ad 24), .inl (cI, 17408, .inl (eO h3))), ((ad 25), .inl (cI, 64, .inl (eN (cn h3)))), ((ad 37), .inl (cI, 16, .inl (eN n3)))]) ⟨hx, hb, hml, hown, hts⟩ hN (c_ageOf l D cI cZ cJ (ad 1) ad now v_52 hnow (by omega)) (cwV 1 hts (k_gV (fun w h => m_removeExpired_O w ((by decide +kernel : ∀ w ∈ ([.methodLink RX7 72 yX0_ageOf, .instanceMethod yX0_ageOf, .selects RX0 yX0_ageOf yX0_ageOf, .initialized RX0] : List Cond), w ∈ O_removeExpired) w h)) m_removeExpired_WageOf gd_ageOf) rfl rfl rfl (by decide +kernel) ⟨Nat.le_of_ble_eq_true rfl, Nat.le_of_ble_eq_true rfl⟩) hK hP hD hS hA [2] [0, 1, 3, 4, 5, 6, 7] [0, 1, 7, 2, 3, 4, 5, 6] rfl rfl ⟨by decide, by decide, by decide⟩ (by decide) (fun _ => rfl) 0 0 rfl rfl rfl rfl hl.1 rfl (Nat.le_of_ble_eq_true rfl) dX7_removeExpired_66 ⟨Nat.le_of_ble_eq_true rfl, Nat.le_of_ble_eq_true rfl⟩ (fun res_ u H locs hw hP hD hS => ?_)
          have hP : va_P D vwCl [(h0, .inr (7, [.int ls0, .ref sm, .ref am, .ref (ad 37), .ref (ad 0), .ref (ad 1), .ref (ad 2), .ref (ad 3), .ref (ad 4)])), ((ad 0), .inr (8, [.int (nI (tRc t)), .int (nI lc), .ref (ad 7), .ref (ad 8), .ref (ad 9), .ref (ad 10), .ref (ad 11), .ref (ad 12), .ref (ad 13), .ref (ad 14), .ref (ad 15), .ref (ad 16)])), ((ad 1), .inr (0, [.int (nI now), .ref (ad 17), .ref (ad 18), .ref (ad 19), .ref (ad 20), .ref (ad 0)])), ((ad 2), .inr (2, [.ref (ad 21), .ref (ad 22), .ref (ad 23), .ref (ad 24), .ref (ad 25)])), ((ad 23), .inl (cZ, 64, .inl (eB o3))), ((ad 24), .inl (cI, 17408, .inl (eO h3))), ((ad 25), .inl (cI, 64, .inl (eN (cn h3)))), ((ad 37), .inl (cI, 16, .inl (eN n3)))] H := hP
          have hD : va_D A [(h0, .inr (7, [.int ls0, .ref sm, .ref am, .ref (ad 37), .ref (ad 0), .ref (ad 1), .ref (ad 2), .ref (ad 3), .ref (ad 4)])), ((ad 0), .inr (8, [.int (nI (tRc t)), .int (nI lc), .ref (ad 7), .ref (ad 8), .ref (ad 9), .ref (ad 10), .ref (ad 11), .ref (ad 12), .ref (ad 13), .ref (ad 14), .ref (ad 15), .ref (ad 16)])), ((ad 1), .inr (0, [.int (nI now), .ref (ad 17), .ref (ad 18), .ref (ad 19), .ref (ad 20), .ref (ad 0)])), ((ad 2), .inr (2, [.ref (ad 21), .ref (ad 22), .ref (ad 23), .ref (ad 24), .ref (ad 25)])), ((ad 23), .inl (cZ, 64, .inl (eB o3))), ((ad 24), .inl (cI, 17408, .inl (eO h3))), ((ad 25), .inl (cI, 64, .inl (eN (cn h3)))), ((ad 37), .inl (cI, 16, .inl (eN n3)))] := hD
          obtain rfl : res_ = (nI (ag now v_52)) := hw
          have hq6 : ag now v_52 < 64 := Nat.mod_lt _ (by decide)
          refine lv_bipush (v := 60) hx hb dX7_removeExpired_69 (by decide) ?_
          refine lv_icmp_lt (tgt := 91) hx hb dX7_removeExpired_71 (by decide) (fun c_71 => ?_) (fun c_71 => ?_)
          · have n_71 : (ag now v_52) < 60 := (nI_ltI (a := (ag now v_52)) (b := 60) (by omega) (by omega)).mp c_71
            refine lv_iinc (v := (nI (k + 1))) (lv' := [(2, .int (nI (k + 1))), (3, .int (nI v_52)), (0, .ref h0), (1, .int (nI r))]) hx hb dX7_removeExpired_91 hl (k := 3) rfl (nI_add k 1) (by decide) rfl (fun ls hl => ?_)
            refine lv_goto (tgt := 39) hx hb dX7_removeExpired_94 (by decide) ?_
            exact ih_39 (k + 1, o3, h3, n3) H locs ls (⟨by show k + 1 ≤ 1088; omega, by rw [itr_s, ← heq3]; unfold ex1; rw [show (o3, h3, n3).2.1 (r * 1088 + k) = some v_52 from hv_52]; simp; omega, hb3⟩) (by show 1088 - (k + 1) < 1088 - k; omega) (hP.sub [0, 1, 2, 3, 4, 5, 6, 7] rfl) (hD.sub [0, 1, 2, 3, 4, 5, 6, 7] (by decide) rfl) hS (lv_sub hl [2, 3, 0] rfl)
          · have n_71 : ¬ (ag now v_52) < 60 := fun h => c_71 ((nI_ltI (a := (ag now v_52)) (b := 60) (by omega) (by omega)).mpr h)
            refine lv_aload_n hx hb dX7_removeExpired_74 rfl (lv_at hl 1 rfl) ?_
            refine va_get (ci := 7) (v := .ref (ad 2)) (C := RX7) (T := TX7) (N := 9) hx hb hts m_removeExpired_C7 hown hK hP 0 rfl rfl 6 (by decide) (hts (.fieldLink RX7 33 "RoutingDomain$Simulator" "databases" "LRoutingDomain$Databases;") (m_removeExpired_O _ (by decide +kernel))) (fun _ h9 => h9) rfl dX7_removeExpired_75 ?_
            refine lv_iload_n hx hb dX7_removeExpired_78 rfl (lv_at hl 2 rfl) ?_
            refine lv_iload_n hx hb dX7_removeExpired_79 rfl (lv_at hl 3 rfl) ?_
            refine lv_iconst (v := (-1)) hx hb dX7_removeExpired_80 (by decide) ?_
            refine kVv (As := [.int (nI r), .int (nI k), .int (-1)]) (rest := []) (wr := [(h0, .inr (7, [.int ls0, .ref sm, .ref am, .ref (ad 37), .ref (ad 0), .ref (ad 1), .ref (ad 2), .ref (ad 3), .ref (ad 4)])), ((ad 0), .inr (8, [.int (nI (tRc t)), .int (nI lc), .ref (ad 7), .ref (ad 8), .ref (ad 9), .ref (ad 10), .ref (ad 11), .ref (ad 12), .ref (ad 13), .ref (ad 14), .ref (ad 15), .ref (ad 16)])), ((ad 1), .inr (0, [.int (nI now), .ref (ad 17), .ref (ad 18), .ref (ad 19), .ref (ad 20), .ref (ad 0)])), ((ad 37), .inl (cI, 16, .inl (eN n3)))]) (w2 := fun _ => [(h0, .inr (7, [.int ls0, .ref sm, .ref am, .ref (ad 37), .ref (ad 0), .ref (ad 1), .ref (ad 2), .ref (ad 3), .ref (ad 4)])), ((ad 0), .inr (8, [.int (nI (tRc t)), .int (nI lc), .ref (ad 7), .ref (ad 8), .ref (ad 9), .ref (ad 10), .ref (ad 11), .ref (ad 12), .ref (ad 13), .ref (ad 14), .ref (ad 15), .ref (ad 16)])), ((ad 1), .inr (0, [.int (nI now), .ref (ad 17), .ref (ad 18), .ref (ad 19), .ref (ad 20), .ref (ad 0)])), ((ad 2), .inr (2, [.ref (ad 21), .ref (ad 22), .ref (ad 23), .ref (ad 24), .ref (ad 25)])), ((ad 23), .inl (cZ, 64, .inl (eB (rol o3 r k)))), ((ad 24), .inl (cI, 17408, .inl (eO (fs h3 (r * 1088 + k) none)))), ((ad 25), .inl (cI, 64, .inl (eN (cn (fs h3 (r * 1088 + k) none))))), ((ad 37), .inl (cI, 16, .inl (eN n3)))]) ⟨hx, hb, hml, hown, hts⟩ hN (c_replN l D cI cZ cJ (ad 2) ad o3 h3 r k (by omega) (by omega) hb3) (cwV 3 hts (k_gV (fun w h => m_removeExpired_O w ((by decide +kernel : ∀ w ∈ ([.methodLink RX7 76 yX2_replace, .instanceMethod yX2_replace, .selects RX2 yX2_replace yX2_replace, .initialized RX2] : List Cond), w ∈ O_removeExpired) w h)) m_removeExpired_WreplN gd_replN) rfl rfl rfl (by decide +kernel) ⟨Nat.le_of_ble_eq_true rfl, Nat.le_of_ble_eq_true rfl⟩) hK hP hD hS hA [3, 4, 5, 6] [0, 1, 2, 7] [0, 1, 2, 4, 5, 6, 7, 3] rfl rfl ⟨by decide, by decide, by decide⟩ (by decide) (fun _ => rfl) 2 0 rfl rfl rfl rfl hl.1 rfl (Nat.le_of_ble_eq_true rfl) dX7_removeExpired_81 ⟨Nat.le_of_ble_eq_true rfl, Nat.le_of_ble_eq_true rfl⟩ (fun u H locs hw hP hD hS => ?_)
            have hP : va_P D vwCl [(h0, .inr (7, [.int ls0, .ref sm, .ref am, .ref (ad 37), .ref (ad 0), .ref (ad 1), .ref (ad 2), .ref (ad 3), .ref (ad 4)])), ((ad 0), .inr (8, [.int (nI (tRc t)), .int (nI lc), .ref (ad 7), .ref (ad 8), .ref (ad 9), .ref (ad 10), .ref (ad 11), .ref (ad 12), .ref (ad 13), .ref (ad 14), .ref (ad 15), .ref (ad 16)])), ((ad 1), .inr (0, [.int (nI now), .ref (ad 17), .ref (ad 18), .ref (ad 19), .ref (ad 20), .ref (ad 0)])), ((ad 2), .inr (2, [.ref (ad 21), .ref (ad 22), .ref (ad 23), .ref (ad 24), .ref (ad 25)])), ((ad 23), .inl (cZ, 64, .inl (eB (rol o3 r k)))), ((ad 24), .inl (cI, 17408, .inl (eO (fs h3 (r * 1088 + k) none)))), ((ad 25), .inl (cI, 64, .inl (eN (cn (fs h3 (r * 1088 + k) none))))), ((ad 37), .inl (cI, 16, .inl (eN n3)))] H := hP
            have hD : va_D A [(h0, .inr (7, [.int ls0, .ref sm, .ref am, .ref (ad 37), .ref (ad 0), .ref (ad 1), .ref (ad 2), .ref (ad 3), .ref (ad 4)])), ((ad 0), .inr (8, [.int (nI (tRc t)), .int (nI lc), .ref (ad 7), .ref (ad 8), .ref (ad 9), .ref (ad 10), .ref (ad 11), .ref (ad 12), .ref (ad 13), .ref (ad 14), .ref (ad 15), .ref (ad 16)])), ((ad 1), .inr (0, [.int (nI now), .ref (ad 17), .ref (ad 18), .ref (ad 19), .ref (ad 20), .ref (ad 0)])), ((ad 2), .inr (2, [.ref (ad 21), .ref (ad 22), .ref (ad 23), .ref (ad 24), .ref (ad 25)])), ((ad 23), .inl (cZ, 64, .inl (eB (rol o3 r k)))), ((ad 24), .inl (cI, 17408, .inl (eO (fs h3 (r * 1088 + k) none)))), ((ad 25), .inl (cI, 64, .inl (eN (cn (fs h3 (r * 1088 + k) none))))), ((ad 37), .inl (cI, 16, .inl (eN n3)))] := hD
            refine lv_aload_n hx hb dX7_removeExpired_84 rfl (lv_at hl 1 rfl) ?_
            refine va_get (ci := 7) (v := .ref (ad 37)) (C := RX7) (T := TX7) (N := 9) hx hb hts m_removeExpired_C7 hown hK hP 0 rfl rfl 3 (by decide) (hts (.fieldLink RX7 21 "RoutingDomain$Simulator" "nextWork" "[I") (m_removeExpired_O _ (by decide +kernel))) (fun _ h9 => h9) rfl dX7_removeExpired_85 ?_
            refine lv_iload_n hx hb dX7_removeExpired_88 rfl (lv_at hl 2 rfl) ?_
            refine lv_iconst (v := 0) hx hb dX7_removeExpired_89 (by decide) ?_
            refine va_iast hx hb hK hP hD hS 7 0 rfl rfl (vp_in_nI (show r < 16 from by omega) (by decide)) dX7_removeExpired_90 (fun H locs hP hD hS => ?_)
            have hP : va_P D vwCl [(h0, .inr (7, [.int ls0, .ref sm, .ref am, .ref (ad 37), .ref (ad 0), .ref (ad 1), .ref (ad 2), .ref (ad 3), .ref (ad 4)])), ((ad 0), .inr (8, [.int (nI (tRc t)), .int (nI lc), .ref (ad 7), .ref (ad 8), .ref (ad 9), .ref (ad 10), .ref (ad 11), .ref (ad 12), .ref (ad 13), .ref (ad 14), .ref (ad 15), .ref (ad 16)])), ((ad 1), .inr (0, [.int (nI now), .ref (ad 17), .ref (ad 18), .ref (ad 19), .ref (ad 20), .ref (ad 0)])), ((ad 2), .inr (2, [.ref (ad 21), .ref (ad 22), .ref (ad 23), .ref (ad 24), .ref (ad 25)])), ((ad 23), .inl (cZ, 64, .inl (eB (rol o3 r k)))), ((ad 24), .inl (cI, 17408, .inl (eO (fs h3 (r * 1088 + k) none)))), ((ad 25), .inl (cI, 64, .inl (eN (cn (fs h3 (r * 1088 + k) none))))), ((ad 37), .inl (cI, 16, .inl (upd (eN n3) (nI r).toNatClampNeg (nI 0))))] H := hP
            have hD : va_D A [(h0, .inr (7, [.int ls0, .ref sm, .ref am, .ref (ad 37), .ref (ad 0), .ref (ad 1), .ref (ad 2), .ref (ad 3), .ref (ad 4)])), ((ad 0), .inr (8, [.int (nI (tRc t)), .int (nI lc), .ref (ad 7), .ref (ad 8), .ref (ad 9), .ref (ad 10), .ref (ad 11), .ref (ad 12), .ref (ad 13), .ref (ad 14), .ref (ad 15), .ref (ad 16)])), ((ad 1), .inr (0, [.int (nI now), .ref (ad 17), .ref (ad 18), .ref (ad 19), .ref (ad 20), .ref (ad 0)])), ((ad 2), .inr (2, [.ref (ad 21), .ref (ad 22), .ref (ad 23), .ref (ad 24), .ref (ad 25)])), ((ad 23), .inl (cZ, 64, .inl (eB (rol o3 r k)))), ((ad 24), .inl (cI, 17408, .inl (eO (fs h3 (r * 1088 + k) none)))), ((ad 25), .inl (cI, 64, .inl (eN (cn (fs h3 (r * 1088 + k) none))))), ((ad 37), .inl (cI, 16, .inl (upd (eN n3) (nI r).toNatClampNeg (nI 0))))] := hD
            rw [show (upd (eN n3) (nI r).toNatClampNeg (nI 0)) = (eN (fs n3 r 0)) from stN (by omega)] at hP hD
            refine lv_iinc (v := (nI (k + 1))) (lv' := [(2, .int (nI (k + 1))), (3, .int (nI v_52)), (0, .ref h0), (1, .int (nI r))]) hx hb dX7_removeExpired_91 hl (k := 3) rfl (nI_add k 1) (by decide) rfl (fun ls hl => ?_)
            refine lv_goto (tgt := 39) hx hb dX7_removeExpired_94 (by decide) ?_
            exact ih_39 (k + 1, (rol o3 r k), (fs h3 (r * 1088 + k) none), (fs n3 r 0)) H locs ls (⟨by show k + 1 ≤ 1088; omega, by rw [itr_s, ← heq3]; unfold ex1; rw [show (o3, h3, n3).2.1 (r * 1088 + k) = some v_52 from hv_52]; simp [n_71], fsN_b hb3⟩) (by show 1088 - (k + 1) < 1088 - k; omega) (hP.sub [0, 1, 2, 3, 4, 5, 6, 7] rfl) (hD.sub [0, 1, 2, 3, 4, 5, 6, 7] (by decide) rfl) hS (lv_sub hl [2, 3, 0] rfl)
  · have n_20 : (decide (0 < cn hd (ag now 60))) = false := bI_0 c_20
    exact k_vret E hK hP hD hS (old, hd, nw) [0, 1, 2, 3, 4, 5, 6, 7] (by decide) rfl (by unfold exA; rw [if_neg (show ¬ 0 < cn (old, hd, nw).2.1 (exs now) from of_decide_eq_false n_20)]) (Nat.le_of_ble_eq_true rfl) (Nat.le_of_ble_eq_true rfl) dX7_removeExpired_23

