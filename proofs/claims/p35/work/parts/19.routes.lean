theorem dX1_clear_0 : decode cX1_clear 0 = .ok (.aload_n 0, 1) := by decide +kernel
theorem dX1_clear_1 : decode cX1_clear 1 = .ok (.iconst (-1), 1) := by decide +kernel
theorem dX1_clear_2 : decode cX1_clear 2 = .ok (.putfield 9, 3) := by decide +kernel
theorem dX1_clear_5 : decode cX1_clear 5 = .ok (.aload_n 0, 1) := by decide +kernel
theorem dX1_clear_6 : decode cX1_clear 6 = .ok (.lconst 0, 1) := by decide +kernel
theorem dX1_clear_7 : decode cX1_clear 7 = .ok (.putfield 15, 3) := by decide +kernel
theorem dX1_clear_10 : decode cX1_clear 10 = .ok (.aload_n 0, 1) := by decide +kernel
theorem dX1_clear_11 : decode cX1_clear 11 = .ok (.iconst 0, 1) := by decide +kernel
theorem dX1_clear_12 : decode cX1_clear 12 = .ok (.putfield 19, 3) := by decide +kernel
theorem dX1_clear_15 : decode cX1_clear 15 = .ok (.aload_n 0, 1) := by decide +kernel
theorem dX1_clear_16 : decode cX1_clear 16 = .ok (.iconst 0, 1) := by decide +kernel
theorem dX1_clear_17 : decode cX1_clear 17 = .ok (.putfield 22, 3) := by decide +kernel
theorem dX1_clear_20 : decode cX1_clear 20 = .ok (.return_, 1) := by decide +kernel
theorem dX1_offer_0 : decode cX1_offer 0 = .ok (.aload_n 0, 1) := by decide +kernel
theorem dX1_offer_1 : decode cX1_offer 1 = .ok (.getfield 9, 3) := by decide +kernel
theorem dX1_offer_4 : decode cX1_offer 4 = .ok (.iconst (-1), 1) := by decide +kernel
theorem dX1_offer_5 : decode cX1_offer 5 = .ok (.if_icmp .eq 12, 3) := by decide +kernel
theorem dX1_offer_8 : decode cX1_offer 8 = .ok (.iload_n 1, 1) := by decide +kernel
theorem dX1_offer_9 : decode cX1_offer 9 = .ok (.aload_n 0, 1) := by decide +kernel
theorem dX1_offer_10 : decode cX1_offer 10 = .ok (.getfield 9, 3) := by decide +kernel
theorem dX1_offer_13 : decode cX1_offer 13 = .ok (.if_icmp .le 4, 3) := by decide +kernel
theorem dX1_offer_16 : decode cX1_offer 16 = .ok (.return_, 1) := by decide +kernel
theorem dX1_offer_17 : decode cX1_offer 17 = .ok (.iload_n 1, 1) := by decide +kernel
theorem dX1_offer_18 : decode cX1_offer 18 = .ok (.aload_n 0, 1) := by decide +kernel
theorem dX1_offer_19 : decode cX1_offer 19 = .ok (.getfield 9, 3) := by decide +kernel
theorem dX1_offer_22 : decode cX1_offer 22 = .ok (.if_icmp .eq 12, 3) := by decide +kernel
theorem dX1_offer_25 : decode cX1_offer 25 = .ok (.aload_n 0, 1) := by decide +kernel
theorem dX1_offer_26 : decode cX1_offer 26 = .ok (.invokevirtual 26, 3) := by decide +kernel
theorem dX1_offer_29 : decode cX1_offer 29 = .ok (.aload_n 0, 1) := by decide +kernel
theorem dX1_offer_30 : decode cX1_offer 30 = .ok (.iload_n 1, 1) := by decide +kernel
theorem dX1_offer_31 : decode cX1_offer 31 = .ok (.putfield 9, 3) := by decide +kernel
theorem dX1_offer_34 : decode cX1_offer 34 = .ok (.aload_n 0, 1) := by decide +kernel
theorem dX1_offer_35 : decode cX1_offer 35 = .ok (.dup, 1) := by decide +kernel
theorem dX1_offer_36 : decode cX1_offer 36 = .ok (.getfield 15, 3) := by decide +kernel
theorem dX1_offer_39 : decode cX1_offer 39 = .ok (.lload_n 2, 1) := by decide +kernel
theorem dX1_offer_40 : decode cX1_offer 40 = .ok (.lor, 1) := by decide +kernel
theorem dX1_offer_41 : decode cX1_offer 41 = .ok (.putfield 15, 3) := by decide +kernel
theorem dX1_offer_44 : decode cX1_offer 44 = .ok (.aload_n 0, 1) := by decide +kernel
theorem dX1_offer_45 : decode cX1_offer 45 = .ok (.dup, 1) := by decide +kernel
theorem dX1_offer_46 : decode cX1_offer 46 = .ok (.getfield 19, 3) := by decide +kernel
theorem dX1_offer_49 : decode cX1_offer 49 = .ok (.iconst 1, 1) := by decide +kernel
theorem dX1_offer_50 : decode cX1_offer 50 = .ok (.iload 4, 2) := by decide +kernel
theorem dX1_offer_52 : decode cX1_offer 52 = .ok (.ishl, 1) := by decide +kernel
theorem dX1_offer_53 : decode cX1_offer 53 = .ok (.ior, 1) := by decide +kernel
theorem dX1_offer_54 : decode cX1_offer 54 = .ok (.putfield 19, 3) := by decide +kernel
theorem dX1_offer_57 : decode cX1_offer 57 = .ok (.aload_n 0, 1) := by decide +kernel
theorem dX1_offer_58 : decode cX1_offer 58 = .ok (.dup, 1) := by decide +kernel
theorem dX1_offer_59 : decode cX1_offer 59 = .ok (.getfield 22, 3) := by decide +kernel
theorem dX1_offer_62 : decode cX1_offer 62 = .ok (.iload 5, 2) := by decide +kernel
theorem dX1_offer_64 : decode cX1_offer 64 = .ok (.ior, 1) := by decide +kernel
theorem dX1_offer_65 : decode cX1_offer 65 = .ok (.putfield 22, 3) := by decide +kernel
theorem dX1_offer_68 : decode cX1_offer 68 = .ok (.return_, 1) := by decide +kernel
theorem dX5_computeIfOld_0 : decode cX5_computeIfOld 0 = .ok (.iconst 0, 1) := by decide +kernel
theorem dX5_computeIfOld_1 : decode cX5_computeIfOld 1 = .ok (.istore_n 2, 1) := by decide +kernel
theorem dX5_computeIfOld_2 : decode cX5_computeIfOld 2 = .ok (.iload_n 2, 1) := by decide +kernel
theorem dX5_computeIfOld_3 : decode cX5_computeIfOld 3 = .ok (.iconst 4, 1) := by decide +kernel
theorem dX5_computeIfOld_4 : decode cX5_computeIfOld 4 = .ok (.if_icmp .ge 57, 3) := by decide +kernel
theorem dX5_computeIfOld_7 : decode cX5_computeIfOld 7 = .ok (.aload_n 0, 1) := by decide +kernel
theorem dX5_computeIfOld_8 : decode cX5_computeIfOld 8 = .ok (.getfield 19, 3) := by decide +kernel
theorem dX5_computeIfOld_11 : decode cX5_computeIfOld 11 = .ok (.iload_n 1, 1) := by decide +kernel
theorem dX5_computeIfOld_12 : decode cX5_computeIfOld 12 = .ok (.iload_n 2, 1) := by decide +kernel
theorem dX5_computeIfOld_13 : decode cX5_computeIfOld 13 = .ok (.invokevirtual 45, 3) := by decide +kernel
theorem dX5_computeIfOld_16 : decode cX5_computeIfOld 16 = .ok (.ifCond .eq 39, 3) := by decide +kernel
theorem dX5_computeIfOld_19 : decode cX5_computeIfOld 19 = .ok (.aload_n 0, 1) := by decide +kernel
theorem dX5_computeIfOld_20 : decode cX5_computeIfOld 20 = .ok (.getfield 27, 3) := by decide +kernel
theorem dX5_computeIfOld_23 : decode cX5_computeIfOld 23 = .ok (.getfield 51, 3) := by decide +kernel
theorem dX5_computeIfOld_26 : decode cX5_computeIfOld 26 = .ok (.iload_n 1, 1) := by decide +kernel
theorem dX5_computeIfOld_27 : decode cX5_computeIfOld 27 = .ok (.iconst 4, 1) := by decide +kernel
theorem dX5_computeIfOld_28 : decode cX5_computeIfOld 28 = .ok (.imul, 1) := by decide +kernel
theorem dX5_computeIfOld_29 : decode cX5_computeIfOld 29 = .ok (.iload_n 2, 1) := by decide +kernel
theorem dX5_computeIfOld_30 : decode cX5_computeIfOld 30 = .ok (.iadd, 1) := by decide +kernel
theorem dX5_computeIfOld_31 : decode cX5_computeIfOld 31 = .ok (.baload, 1) := by decide +kernel
theorem dX5_computeIfOld_32 : decode cX5_computeIfOld 32 = .ok (.ifCond .eq 23, 3) := by decide +kernel
theorem dX5_computeIfOld_35 : decode cX5_computeIfOld 35 = .ok (.aload_n 0, 1) := by decide +kernel
theorem dX5_computeIfOld_36 : decode cX5_computeIfOld 36 = .ok (.iload_n 1, 1) := by decide +kernel
theorem dX5_computeIfOld_37 : decode cX5_computeIfOld 37 = .ok (.iload_n 2, 1) := by decide +kernel
theorem dX5_computeIfOld_38 : decode cX5_computeIfOld 38 = .ok (.invokevirtual 57, 3) := by decide +kernel
theorem dX5_computeIfOld_41 : decode cX5_computeIfOld 41 = .ok (.aload_n 0, 1) := by decide +kernel
theorem dX5_computeIfOld_42 : decode cX5_computeIfOld 42 = .ok (.getfield 27, 3) := by decide +kernel
theorem dX5_computeIfOld_45 : decode cX5_computeIfOld 45 = .ok (.getfield 51, 3) := by decide +kernel
theorem dX5_computeIfOld_48 : decode cX5_computeIfOld 48 = .ok (.iload_n 1, 1) := by decide +kernel
theorem dX5_computeIfOld_49 : decode cX5_computeIfOld 49 = .ok (.iconst 4, 1) := by decide +kernel
theorem dX5_computeIfOld_50 : decode cX5_computeIfOld 50 = .ok (.imul, 1) := by decide +kernel
theorem dX5_computeIfOld_51 : decode cX5_computeIfOld 51 = .ok (.iload_n 2, 1) := by decide +kernel
theorem dX5_computeIfOld_52 : decode cX5_computeIfOld 52 = .ok (.iadd, 1) := by decide +kernel
theorem dX5_computeIfOld_53 : decode cX5_computeIfOld 53 = .ok (.iconst 0, 1) := by decide +kernel
theorem dX5_computeIfOld_54 : decode cX5_computeIfOld 54 = .ok (.bastore, 1) := by decide +kernel
theorem dX5_computeIfOld_55 : decode cX5_computeIfOld 55 = .ok (.iinc 2 1, 3) := by decide +kernel
theorem dX5_computeIfOld_58 : decode cX5_computeIfOld 58 = .ok (.goto (-56), 3) := by decide +kernel
theorem dX5_computeIfOld_61 : decode cX5_computeIfOld 61 = .ok (.return_, 1) := by decide +kernel
def O_computeIfOld : List Cond := [.fieldLink RX5 19 "RoutingDomain$Paths" "topology" "LRoutingDomain$Topology;", .methodLink RX5 45 yX8_touches, .instanceMethod yX8_touches, .selects RX8 yX8_touches yX8_touches, .initialized RX8, .fieldLink RX5 27 "RoutingDomain$Paths" "databases" "LRoutingDomain$Databases;", .fieldLink RX5 51 "RoutingDomain$Databases" "pathsAreOld" "[Z", .methodLink RX5 57 yX5_compute, .instanceMethod yX5_compute, .selects RX5 yX5_compute yX5_compute, .initialized RX5]
def W_computeIfOld : List Cond := .code yX5_computeIfOld cX5_computeIfOld 3 none :: (O_computeIfOld ++ (wsX50 ++ (W_touches ++ (wsX20 ++ W_compute))))
theorem m_computeIfOld_O : ∀ w ∈ O_computeIfOld, w ∈ W_computeIfOld := fun _ h => List.mem_cons_of_mem _ (List.mem_append_left _ h)
theorem m_computeIfOld_C5 : ∀ w ∈ wsX50, w ∈ W_computeIfOld := fun _ h => List.mem_cons_of_mem _ (List.mem_append_right _ (List.mem_append_left _ h))
theorem m_computeIfOld_Wtouches : ∀ w ∈ W_touches, w ∈ W_computeIfOld := fun _ h => List.mem_cons_of_mem _ (List.mem_append_right _ (List.mem_append_right _ (List.mem_append_left _ h)))
theorem m_computeIfOld_C2 : ∀ w ∈ wsX20, w ∈ W_computeIfOld := fun _ h => List.mem_cons_of_mem _ (List.mem_append_right _ (List.mem_append_right _ (List.mem_append_right _ (List.mem_append_left _ h))))
theorem m_computeIfOld_Wcompute : ∀ w ∈ W_compute, w ∈ W_computeIfOld := fun _ h => List.mem_cons_of_mem _ (List.mem_append_right _ (List.mem_append_right _ (List.mem_append_right _ (List.mem_append_right _ h))))
theorem gdO_computeIfOld : O_computeIfOld.all goodWord = true := by decide +kernel
theorem gd_computeIfOld : W_computeIfOld.all goodWord = true := k_all_cons rfl (k_all_app gdO_computeIfOld (k_all_app gdC_5 (k_all_app gd_touches (k_all_app gdC_2 gd_compute))))
set_option maxHeartbeats 4000000 in
set_option maxRecDepth 100000 in
theorem c_computeIfOld (l : Launch) (D : va_G) (cI cZ cJ : ClassId) (h0 : Nat) (ad : Nat → Nat) (t : TP) (lc : Nat) (at_ : Nat → Bool) (now : Nat) (lm : Nat → Nat) (old : Nat → Bool) (hd : Nat → Option Nat) (ds : Nat → Option Nat) (fk : Nat → Nat) (r : Nat) (hr : r < tRc t) (hat0 : at_ (r * 4) = false) (hat1 : at_ (r * 4 + 1) = true) (hat2 : at_ (r * 4 + 2) = false) (hat3 : at_ (r * 4 + 3) = false) (hbd : ∀ j d, ds j = some d → d ≤ 16000) (hne : ∀ x i, x < tRc t → i < tPc t x → tRp t (ot (tPo t (x * 40 + i))) ≠ x) (hal1 : ∀ x i, x < tRc t → i < tPc t x → tAl t (tPo t (x * 40 + i) / 2) = 1) (hlm : ∀ j, lm j ≤ 1000) (hhd : ∀ j w, hd j = some w → w < 69632) (hT : TOK t) : kMv l yX5_computeIfOld W_computeIfOld { frames := 4, cells := 0, slots := 0, locals := 102 } 0 0 D (kT cI cZ cJ) [.ref h0, .int (nI r)] [(h0, .inr (5, [.ref (ad 26), .ref (ad 27), .ref (ad 0), .ref (ad 1), .ref (ad 2)])), ((ad 26), .inl (cI, 1024, .inl (eO ds))), ((ad 27), .inl (cJ, 1024, .inr (.inl (eL fk)))), ((ad 0), .inr (8, [.int (nI (tRc t)), .int (nI lc), .ref (ad 7), .ref (ad 8), .ref (ad 9), .ref (ad 10), .ref (ad 11), .ref (ad 12), .ref (ad 13), .ref (ad 14), .ref (ad 15), .ref (ad 16)])), ((ad 10), .inl (cI, 40, .inl (eN (tAl t)))), ((ad 11), .inl (cI, 80, .inl (eN (tRp t)))), ((ad 13), .inl (cI, 16, .inl (eN (tPc t)))), ((ad 15), .inl (cI, 640, .inl (eN (tPo t)))), ((ad 16), .inl (cZ, 64, .inl (eB at_))), ((ad 1), .inr (0, [.int (nI now), .ref (ad 17), .ref (ad 18), .ref (ad 19), .ref (ad 20), .ref (ad 0)])), ((ad 19), .inl (cI, 5120, .inl (eN lm))), ((ad 2), .inr (2, [.ref (ad 21), .ref (ad 22), .ref (ad 23), .ref (ad 24), .ref (ad 25)])), ((ad 23), .inl (cZ, 64, .inl (eB old))), ((ad 24), .inl (cI, 17408, .inl (eO hd)))] (S := (Nat → Bool) × (Nat → Option Nat) × (Nat → Nat)) (fun u => (u.1, u.2.1, u.2.2) = cif t hd lm r (old, ds, fk) ∧ ∀ j d, u.2.1 j = some d → d ≤ 16000) (fun u => [(h0, .inr (5, [.ref (ad 26), .ref (ad 27), .ref (ad 0), .ref (ad 1), .ref (ad 2)])), ((ad 26), .inl (cI, 1024, .inl (eO u.2.1))), ((ad 27), .inl (cJ, 1024, .inr (.inl (eL u.2.2)))), ((ad 0), .inr (8, [.int (nI (tRc t)), .int (nI lc), .ref (ad 7), .ref (ad 8), .ref (ad 9), .ref (ad 10), .ref (ad 11), .ref (ad 12), .ref (ad 13), .ref (ad 14), .ref (ad 15), .ref (ad 16)])), ((ad 10), .inl (cI, 40, .inl (eN (tAl t)))), ((ad 11), .inl (cI, 80, .inl (eN (tRp t)))), ((ad 13), .inl (cI, 16, .inl (eN (tPc t)))), ((ad 15), .inl (cI, 640, .inl (eN (tPo t)))), ((ad 16), .inl (cZ, 64, .inl (eB at_))), ((ad 1), .inr (0, [.int (nI now), .ref (ad 17), .ref (ad 18), .ref (ad 19), .ref (ad 20), .ref (ad 0)])), ((ad 19), .inl (cI, 5120, .inl (eN lm))), ((ad 2), .inr (2, [.ref (ad 21), .ref (ad 22), .ref (ad 23), .ref (ad 24), .ref (ad 25)])), ((ad 23), .inl (cZ, 64, .inl (eB u.1))), ((ad 24), .inl (cI, 17408, .inl (eO hd)))]) := by
  refine kMv_of (lv := [(0, .ref h0), (1, .int (nI r))]) RX5 "computeIfOld" (by decide +kernel) rfl rfl rfl (Nat.le_of_ble_eq_true rfl) rfl ?_
  intro p e s m below meth c A H locs ls E hA hK hP hD hS hl
  obtain ⟨hx, hb, hr_, hts, hown, hlocks, hml, hin, hN⟩ := id E
  obtain ⟨hrc, hrp, hpo, hpc, hal, hmp, han⟩ := id hT
  have hr16 : r < 16 := by omega
  refine lv_iconst (v := 0) hx hb dX5_computeIfOld_0 (by decide) ?_
  refine lv_istore_n (lv' := [(2, .int 0), (0, .ref h0), (1, .int (nI r))]) hx hb dX5_computeIfOld_1 rfl hl (by decide) rfl (fun ls hl => ?_)
  refine lv_iload_n hx hb dX5_computeIfOld_2 rfl (lv_at hl 0 rfl) ?_
  refine lv_iconst (v := 4) hx hb dX5_computeIfOld_3 (by decide) ?_
  refine lv_icmp_ge (tgt := 61) hx hb dX5_computeIfOld_4 (by decide) (fun c => absurd c (by decide)) (fun _ => ?_)
  refine lv_aload_n hx hb dX5_computeIfOld_7 rfl (lv_at hl 1 rfl) ?_
  refine va_get (ci := 5) (v := .ref (ad 0)) (C := RX5) (T := TX5) (N := 5) hx hb hts m_computeIfOld_C5 hown hK hP 0 rfl rfl 2 (by decide) (hts (.fieldLink RX5 19 "RoutingDomain$Paths" "topology" "LRoutingDomain$Topology;") (m_computeIfOld_O _ (by decide +kernel))) (fun _ h9 => h9) rfl dX5_computeIfOld_8 ?_
  refine lv_iload_n hx hb dX5_computeIfOld_11 rfl (lv_at hl 2 rfl) ?_
  refine lv_iload_n hx hb dX5_computeIfOld_12 rfl (lv_at hl 0 rfl) ?_
  refine kVi (As := [.int (nI r), .int 0]) (rest := []) (wr := [(h0, .inr (5, [.ref (ad 26), .ref (ad 27), .ref (ad 0), .ref (ad 1), .ref (ad 2)])), ((ad 26), .inl (cI, 1024, .inl (eO ds))), ((ad 27), .inl (cJ, 1024, .inr (.inl (eL fk)))), ((ad 10), .inl (cI, 40, .inl (eN (tAl t)))), ((ad 11), .inl (cI, 80, .inl (eN (tRp t)))), ((ad 13), .inl (cI, 16, .inl (eN (tPc t)))), ((ad 15), .inl (cI, 640, .inl (eN (tPo t)))), ((ad 1), .inr (0, [.int (nI now), .ref (ad 17), .ref (ad 18), .ref (ad 19), .ref (ad 20), .ref (ad 0)])), ((ad 19), .inl (cI, 5120, .inl (eN lm))), ((ad 2), .inr (2, [.ref (ad 21), .ref (ad 22), .ref (ad 23), .ref (ad 24), .ref (ad 25)])), ((ad 23), .inl (cZ, 64, .inl (eB old))), ((ad 24), .inl (cI, 17408, .inl (eO hd)))]) (w2 := fun _ => [(h0, .inr (5, [.ref (ad 26), .ref (ad 27), .ref (ad 0), .ref (ad 1), .ref (ad 2)])), ((ad 26), .inl (cI, 1024, .inl (eO ds))), ((ad 27), .inl (cJ, 1024, .inr (.inl (eL fk)))), ((ad 0), .inr (8, [.int (nI (tRc t)), .int (nI lc), .ref (ad 7), .ref (ad 8), .ref (ad 9), .ref (ad 10), .ref (ad 11), .ref (ad 12), .ref (ad 13), .ref (ad 14), .ref (ad 15), .ref (ad 16)])), ((ad 10), .inl (cI, 40, .inl (eN (tAl t)))), ((ad 11), .inl (cI, 80, .inl (eN (tRp t)))), ((ad 13), .inl (cI, 16, .inl (eN (tPc t)))), ((ad 15), .inl (cI, 640, .inl (eN (tPo t)))), ((ad 16), .inl (cZ, 64, .inl (eB at_))), ((ad 1), .inr (0, [.int (nI now), .ref (ad 17), .ref (ad 18), .ref (ad 19), .ref (ad 20), .ref (ad 0)])), ((ad 19), .inl (cI, 5120, .inl (eN lm))), ((ad 2), .inr (2, [.ref (ad 21), .ref (ad 22), .ref (ad 23), .ref (ad 24), .ref (ad 25)])), ((ad 23), .inl (cZ, 64, .inl (eB old))), ((ad 24), .inl (cI, 17408, .inl (eO hd)))]) ⟨hx, hb, hml, hown, hts⟩ hN (c_touches l D cI cZ cJ (ad 0) ad (tRc t) lc at_ r 0 hr16 (by decide)) (cwV 2 hts (k_gV (fun w h => m_computeIfOld_O w ((by decide +kernel : ∀ w ∈ ([.methodLink RX5 45 yX8_touches, .instanceMethod yX8_touches, .selects RX8 yX8_touches yX8_touches, .initialized RX8] : List Cond), w ∈ O_computeIfOld) w h)) m_computeIfOld_Wtouches gd_touches) rfl rfl rfl (by decide +kernel) ⟨Nat.le_of_ble_eq_true rfl, Nat.le_of_ble_eq_true rfl⟩) hK hP hD hS hA [3, 8] [0, 1, 2, 4, 5, 6, 7, 9, 10, 11, 12, 13] [0, 1, 2, 12, 3, 4, 5, 6, 13, 7, 8, 9, 10, 11] rfl rfl ⟨by decide, by decide, by decide⟩ (by decide) (fun _ => rfl) 8 0 rfl rfl rfl rfl hl.1 rfl (Nat.le_of_ble_eq_true rfl) dX5_computeIfOld_13 ⟨Nat.le_of_ble_eq_true rfl, Nat.le_of_ble_eq_true rfl⟩ (fun res_ u H locs hw hP hD hS => ?_)
  have hP : va_P D vwCl [(h0, .inr (5, [.ref (ad 26), .ref (ad 27), .ref (ad 0), .ref (ad 1), .ref (ad 2)])), ((ad 26), .inl (cI, 1024, .inl (eO ds))), ((ad 27), .inl (cJ, 1024, .inr (.inl (eL fk)))), ((ad 0), .inr (8, [.int (nI (tRc t)), .int (nI lc), .ref (ad 7), .ref (ad 8), .ref (ad 9), .ref (ad 10), .ref (ad 11), .ref (ad 12), .ref (ad 13), .ref (ad 14), .ref (ad 15), .ref (ad 16)])), ((ad 10), .inl (cI, 40, .inl (eN (tAl t)))), ((ad 11), .inl (cI, 80, .inl (eN (tRp t)))), ((ad 13), .inl (cI, 16, .inl (eN (tPc t)))), ((ad 15), .inl (cI, 640, .inl (eN (tPo t)))), ((ad 16), .inl (cZ, 64, .inl (eB at_))), ((ad 1), .inr (0, [.int (nI now), .ref (ad 17), .ref (ad 18), .ref (ad 19), .ref (ad 20), .ref (ad 0)])), ((ad 19), .inl (cI, 5120, .inl (eN lm))), ((ad 2), .inr (2, [.ref (ad 21), .ref (ad 22), .ref (ad 23), .ref (ad 24), .ref (ad 25)])), ((ad 23), .inl (cZ, 64, .inl (eB old))), ((ad 24), .inl (cI, 17408, .inl (eO hd)))] H := hP
  have hD : va_D A [(h0, .inr (5, [.ref (ad 26), .ref (ad 27), .ref (ad 0), .ref (ad 1), .ref (ad 2)])), ((ad 26), .inl (cI, 1024, .inl (eO ds))), ((ad 27), .inl (cJ, 1024, .inr (.inl (eL fk)))), ((ad 0), .inr (8, [.int (nI (tRc t)), .int (nI lc), .ref (ad 7), .ref (ad 8), .ref (ad 9), .ref (ad 10), .ref (ad 11), .ref (ad 12), .ref (ad 13), .ref (ad 14), .ref (ad 15), .ref (ad 16)])), ((ad 10), .inl (cI, 40, .inl (eN (tAl t)))), ((ad 11), .inl (cI, 80, .inl (eN (tRp t)))), ((ad 13), .inl (cI, 16, .inl (eN (tPc t)))), ((ad 15), .inl (cI, 640, .inl (eN (tPo t)))), ((ad 16), .inl (cZ, 64, .inl (eB at_))), ((ad 1), .inr (0, [.int (nI now), .ref (ad 17), .ref (ad 18), .ref (ad 19), .ref (ad 20), .ref (ad 0)])), ((ad 19), .inl (cI, 5120, .inl (eN lm))), ((ad 2), .inr (2, [.ref (ad 21), .ref (ad 22), .ref (ad 23), .ref (ad 24), .ref (ad 25)])), ((ad 23), .inl (cZ, 64, .inl (eB old))), ((ad 24), .inl (cI, 17408, .inl (eO hd)))] := hD
  obtain rfl : res_ = (bI (decide (0 < 4) && at_ (r * 4 + 0))) := hw
  refine lv_if_eq (tgt := 55) hx hb dX5_computeIfOld_16 (by decide) (fun c_16 => ?_) (fun c_16 => False.elim (by have n_16 : (decide (0 < 4) && at_ (r * 4 + 0)) = true := bI_1 c_16; simp [hat0] at n_16))
  have n_16 : (decide (0 < 4) && at_ (r * 4 + 0)) = false := bI_0 c_16
  refine lv_iinc (v := 1) (lv' := [(2, .int 1), (0, .ref h0), (1, .int (nI r))]) hx hb dX5_computeIfOld_55 hl (k := 0) rfl (by decide) (by decide) rfl (fun ls hl => ?_)
  refine lv_goto (tgt := 2) hx hb dX5_computeIfOld_58 (by decide) ?_
  refine lv_iload_n hx hb dX5_computeIfOld_2 rfl (lv_at hl 0 rfl) ?_
  refine lv_iconst (v := 4) hx hb dX5_computeIfOld_3 (by decide) ?_
  refine lv_icmp_ge (tgt := 61) hx hb dX5_computeIfOld_4 (by decide) (fun c => absurd c (by decide)) (fun _ => ?_)
  refine lv_aload_n hx hb dX5_computeIfOld_7 rfl (lv_at hl 1 rfl) ?_
  refine va_get (ci := 5) (v := .ref (ad 0)) (C := RX5) (T := TX5) (N := 5) hx hb hts m_computeIfOld_C5 hown hK hP 0 rfl rfl 2 (by decide) (hts (.fieldLink RX5 19 "RoutingDomain$Paths" "topology" "LRoutingDomain$Topology;") (m_computeIfOld_O _ (by decide +kernel))) (fun _ h9 => h9) rfl dX5_computeIfOld_8 ?_
  refine lv_iload_n hx hb dX5_computeIfOld_11 rfl (lv_at hl 2 rfl) ?_
  refine lv_iload_n hx hb dX5_computeIfOld_12 rfl (lv_at hl 0 rfl) ?_
  refine kVi (As := [.int (nI r), .int 1]) (rest := []) (wr := [(h0, .inr (5, [.ref (ad 26), .ref (ad 27), .ref (ad 0), .ref (ad 1), .ref (ad 2)])), ((ad 26), .inl (cI, 1024, .inl (eO ds))), ((ad 27), .inl (cJ, 1024, .inr (.inl (eL fk)))), ((ad 10), .inl (cI, 40, .inl (eN (tAl t)))), ((ad 11), .inl (cI, 80, .inl (eN (tRp t)))), ((ad 13), .inl (cI, 16, .inl (eN (tPc t)))), ((ad 15), .inl (cI, 640, .inl (eN (tPo t)))), ((ad 1), .inr (0, [.int (nI now), .ref (ad 17), .ref (ad 18), .ref (ad 19), .ref (ad 20), .ref (ad 0)])), ((ad 19), .inl (cI, 5120, .inl (eN lm))), ((ad 2), .inr (2, [.ref (ad 21), .ref (ad 22), .ref (ad 23), .ref (ad 24), .ref (ad 25)])), ((ad 23), .inl (cZ, 64, .inl (eB old))), ((ad 24), .inl (cI, 17408, .inl (eO hd)))]) (w2 := fun _ => [(h0, .inr (5, [.ref (ad 26), .ref (ad 27), .ref (ad 0), .ref (ad 1), .ref (ad 2)])), ((ad 26), .inl (cI, 1024, .inl (eO ds))), ((ad 27), .inl (cJ, 1024, .inr (.inl (eL fk)))), ((ad 0), .inr (8, [.int (nI (tRc t)), .int (nI lc), .ref (ad 7), .ref (ad 8), .ref (ad 9), .ref (ad 10), .ref (ad 11), .ref (ad 12), .ref (ad 13), .ref (ad 14), .ref (ad 15), .ref (ad 16)])), ((ad 10), .inl (cI, 40, .inl (eN (tAl t)))), ((ad 11), .inl (cI, 80, .inl (eN (tRp t)))), ((ad 13), .inl (cI, 16, .inl (eN (tPc t)))), ((ad 15), .inl (cI, 640, .inl (eN (tPo t)))), ((ad 16), .inl (cZ, 64, .inl (eB at_))), ((ad 1), .inr (0, [.int (nI now), .ref (ad 17), .ref (ad 18), .ref (ad 19), .ref (ad 20), .ref (ad 0)])), ((ad 19), .inl (cI, 5120, .inl (eN lm))), ((ad 2), .inr (2, [.ref (ad 21), .ref (ad 22), .ref (ad 23), .ref (ad 24), .ref (ad 25)])), ((ad 23), .inl (cZ, 64, .inl (eB old))), ((ad 24), .inl (cI, 17408, .inl (eO hd)))]) ⟨hx, hb, hml, hown, hts⟩ hN (c_touches l D cI cZ cJ (ad 0) ad (tRc t) lc at_ r 1 hr16 (by decide)) (cwV 2 hts (k_gV (fun w h => m_computeIfOld_O w ((by decide +kernel : ∀ w ∈ ([.methodLink RX5 45 yX8_touches, .instanceMethod yX8_touches, .selects RX8 yX8_touches yX8_touches, .initialized RX8] : List Cond), w ∈ O_computeIfOld) w h)) m_computeIfOld_Wtouches gd_touches) rfl rfl rfl (by decide +kernel) ⟨Nat.le_of_ble_eq_true rfl, Nat.le_of_ble_eq_true rfl⟩) hK hP hD hS hA [3, 8] [0, 1, 2, 4, 5, 6, 7, 9, 10, 11, 12, 13] [0, 1, 2, 12, 3, 4, 5, 6, 13, 7, 8, 9, 10, 11] rfl rfl ⟨by decide, by decide, by decide⟩ (by decide) (fun _ => rfl) 8 0 rfl rfl rfl rfl hl.1 rfl (Nat.le_of_ble_eq_true rfl) dX5_computeIfOld_13 ⟨Nat.le_of_ble_eq_true rfl, Nat.le_of_ble_eq_true rfl⟩ (fun res_ u H locs hw hP hD hS => ?_)
  have hP : va_P D vwCl [(h0, .inr (5, [.ref (ad 26), .ref (ad 27), .ref (ad 0), .ref (ad 1), .ref (ad 2)])), ((ad 26), .inl (cI, 1024, .inl (eO ds))), ((ad 27), .inl (cJ, 1024, .inr (.inl (eL fk)))), ((ad 0), .inr (8, [.int (nI (tRc t)), .int (nI lc), .ref (ad 7), .ref (ad 8), .ref (ad 9), .ref (ad 10), .ref (ad 11), .ref (ad 12), .ref (ad 13), .ref (ad 14), .ref (ad 15), .ref (ad 16)])), ((ad 10), .inl (cI, 40, .inl (eN (tAl t)))), ((ad 11), .inl (cI, 80, .inl (eN (tRp t)))), ((ad 13), .inl (cI, 16, .inl (eN (tPc t)))), ((ad 15), .inl (cI, 640, .inl (eN (tPo t)))), ((ad 16), .inl (cZ, 64, .inl (eB at_))), ((ad 1), .inr (0, [.int (nI now), .ref (ad 17), .ref (ad 18), .ref (ad 19), .ref (ad 20), .ref (ad 0)])), ((ad 19), .inl (cI, 5120, .inl (eN lm))), ((ad 2), .inr (2, [.ref (ad 21), .ref (ad 22), .ref (ad 23), .ref (ad 24), .ref (ad 25)])), ((ad 23), .inl (cZ, 64, .inl (eB old))), ((ad 24), .inl (cI, 17408, .inl (eO hd)))] H := hP
  have hD : va_D A [(h0, .inr (5, [.ref (ad 26), .ref (ad 27), .ref (ad 0), .ref (ad 1), .ref (ad 2)])), ((ad 26), .inl (cI, 1024, .inl (eO ds))), ((ad 27), .inl (cJ, 1024, .inr (.inl (eL fk)))), ((ad 0), .inr (8, [.int (nI (tRc t)), .int (nI lc), .ref (ad 7), .ref (ad 8), .ref (ad 9), .ref (ad 10), .ref (ad 11), .ref (ad 12), .ref (ad 13), .ref (ad 14), .ref (ad 15), .ref (ad 16)])), ((ad 10), .inl (cI, 40, .inl (eN (tAl t)))), ((ad 11), .inl (cI, 80, .inl (eN (tRp t)))), ((ad 13), .inl (cI, 16, .inl (eN (tPc t)))), ((ad 15), .inl (cI, 640, .inl (eN (tPo t)))), ((ad 16), .inl (cZ, 64, .inl (eB at_))), ((ad 1), .inr (0, [.int (nI now), .ref (ad 17), .ref (ad 18), .ref (ad 19), .ref (ad 20), .ref (ad 0)])), ((ad 19), .inl (cI, 5120, .inl (eN lm))), ((ad 2), .inr (2, [.ref (ad 21), .ref (ad 22), .ref (ad 23), .ref (ad 24), .ref (ad 25)])), ((ad 23), .inl (cZ, 64, .inl (eB old))), ((ad 24), .inl (cI, 17408, .inl (eO hd)))] := hD
  obtain rfl : res_ = (bI (decide (1 < 4) && at_ (r * 4 + 1))) := hw
  refine lv_if_eq (tgt := 55) hx hb dX5_computeIfOld_16 (by decide) (fun c_16 => False.elim (by have n_16 : (decide (1 < 4) && at_ (r * 4 + 1)) = false := bI_0 c_16; simp [hat1] at n_16)) (fun c_16 => ?_)
  have n_16 : (decide (1 < 4) && at_ (r * 4 + 1)) = true := bI_1 c_16
  refine lv_aload_n hx hb dX5_computeIfOld_19 rfl (lv_at hl 1 rfl) ?_
  refine va_get (ci := 5) (v := .ref (ad 2)) (C := RX5) (T := TX5) (N := 5) hx hb hts m_computeIfOld_C5 hown hK hP 0 rfl rfl 4 (by decide) (hts (.fieldLink RX5 27 "RoutingDomain$Paths" "databases" "LRoutingDomain$Databases;") (m_computeIfOld_O _ (by decide +kernel))) (fun _ h9 => h9) rfl dX5_computeIfOld_20 ?_
  refine va_get (ci := 2) (v := .ref (ad 23)) (C := RX2) (T := TX2) (N := 5) hx hb hts m_computeIfOld_C2 hown hK hP 11 rfl rfl 2 (by decide) (hts (.fieldLink RX5 51 "RoutingDomain$Databases" "pathsAreOld" "[Z") (m_computeIfOld_O _ (by decide +kernel))) (fun _ h9 => h9) rfl dX5_computeIfOld_23 ?_
  refine lv_iload_n hx hb dX5_computeIfOld_26 rfl (lv_at hl 2 rfl) ?_
  refine lv_iconst (v := 4) hx hb dX5_computeIfOld_27 (by decide) ?_
  refine lv_imul hx hb dX5_computeIfOld_28 ?_
  refine lv_topi (fun y ey => ?_)
  obtain rfl : y = (nI (r * 4)) := ey.trans (pk_mul r 4)
  refine lv_iload_n hx hb dX5_computeIfOld_29 rfl (lv_at hl 0 rfl) ?_
  refine lv_iadd hx hb dX5_computeIfOld_30 ?_
  refine lv_topi (fun y ey => ?_)
  obtain rfl : y = (nI ((r * 4) + 1)) := ey.trans (nI_add (r * 4) 1)
  refine va_zald hx hb hK hP 12 1 rfl rfl (vp_in_nI (show ((r * 4) + 1) < 64 from by omega) (by decide)) dX5_computeIfOld_31 ?_
  refine lv_topi (fun y ey => ?_)
  obtain rfl : y = (bI (old ((r * 4) + 1))) := ey.trans (ldB (f := old) (j := ((r * 4) + 1)) (by omega))
  refine lv_if_eq (tgt := 55) hx hb dX5_computeIfOld_32 (by decide) (fun c_32 => ?_) (fun c_32 => ?_)
  · have n_32 : (old ((r * 4) + 1)) = false := bI_0 c_32
    refine lv_iinc (v := 2) (lv' := [(2, .int 2), (0, .ref h0), (1, .int (nI r))]) hx hb dX5_computeIfOld_55 hl (k := 0) rfl (by decide) (by decide) rfl (fun ls hl => ?_)
    refine lv_goto (tgt := 2) hx hb dX5_computeIfOld_58 (by decide) ?_
    refine lv_iload_n hx hb dX5_computeIfOld_2 rfl (lv_at hl 0 rfl) ?_
    refine lv_iconst (v := 4) hx hb dX5_computeIfOld_3 (by decide) ?_
    refine lv_icmp_ge (tgt := 61) hx hb dX5_computeIfOld_4 (by decide) (fun c => absurd c (by decide)) (fun _ => ?_)
    refine lv_aload_n hx hb dX5_computeIfOld_7 rfl (lv_at hl 1 rfl) ?_
    refine va_get (ci := 5) (v := .ref (ad 0)) (C := RX5) (T := TX5) (N := 5) hx hb hts m_computeIfOld_C5 hown hK hP 0 rfl rfl 2 (by decide) (hts (.fieldLink RX5 19 "RoutingDomain$Paths" "topology" "LRoutingDomain$Topology;") (m_computeIfOld_O _ (by decide +kernel))) (fun _ h9 => h9) rfl dX5_computeIfOld_8 ?_
    refine lv_iload_n hx hb dX5_computeIfOld_11 rfl (lv_at hl 2 rfl) ?_
    refine lv_iload_n hx hb dX5_computeIfOld_12 rfl (lv_at hl 0 rfl) ?_
    refine kVi (As := [.int (nI r), .int 2]) (rest := []) (wr := [(h0, .inr (5, [.ref (ad 26), .ref (ad 27), .ref (ad 0), .ref (ad 1), .ref (ad 2)])), ((ad 26), .inl (cI, 1024, .inl (eO ds))), ((ad 27), .inl (cJ, 1024, .inr (.inl (eL fk)))), ((ad 10), .inl (cI, 40, .inl (eN (tAl t)))), ((ad 11), .inl (cI, 80, .inl (eN (tRp t)))), ((ad 13), .inl (cI, 16, .inl (eN (tPc t)))), ((ad 15), .inl (cI, 640, .inl (eN (tPo t)))), ((ad 1), .inr (0, [.int (nI now), .ref (ad 17), .ref (ad 18), .ref (ad 19), .ref (ad 20), .ref (ad 0)])), ((ad 19), .inl (cI, 5120, .inl (eN lm))), ((ad 2), .inr (2, [.ref (ad 21), .ref (ad 22), .ref (ad 23), .ref (ad 24), .ref (ad 25)])), ((ad 23), .inl (cZ, 64, .inl (eB old))), ((ad 24), .inl (cI, 17408, .inl (eO hd)))]) (w2 := fun _ => [(h0, .inr (5, [.ref (ad 26), .ref (ad 27), .ref (ad 0), .ref (ad 1), .ref (ad 2)])), ((ad 26), .inl (cI, 1024, .inl (eO ds))), ((ad 27), .inl (cJ, 1024, .inr (.inl (eL fk)))), ((ad 0), .inr (8, [.int (nI (tRc t)), .int (nI lc), .ref (ad 7), .ref (ad 8), .ref (ad 9), .ref (ad 10), .ref (ad 11), .ref (ad 12), .ref (ad 13), .ref (ad 14), .ref (ad 15), .ref (ad 16)])), ((ad 10), .inl (cI, 40, .inl (eN (tAl t)))), ((ad 11), .inl (cI, 80, .inl (eN (tRp t)))), ((ad 13), .inl (cI, 16, .inl (eN (tPc t)))), ((ad 15), .inl (cI, 640, .inl (eN (tPo t)))), ((ad 16), .inl (cZ, 64, .inl (eB at_))), ((ad 1), .inr (0, [.int (nI now), .ref (ad 17), .ref (ad 18), .ref (ad 19), .ref (ad 20), .ref (ad 0)])), ((ad 19), .inl (cI, 5120, .inl (eN lm))), ((ad 2), .inr (2, [.ref (ad 21), .ref (ad 22), .ref (ad 23), .ref (ad 24), .ref (ad 25)])), ((ad 23), .inl (cZ, 64, .inl (eB old))), ((ad 24), .inl (cI, 17408, .inl (eO hd)))]) ⟨hx, hb, hml, hown, hts⟩ hN (c_touches l D cI cZ cJ (ad 0) ad (tRc t) lc at_ r 2 hr16 (by decide)) (cwV 2 hts (k_gV (fun w h => m_computeIfOld_O w ((by decide +kernel : ∀ w ∈ ([.methodLink RX5 45 yX8_touches, .instanceMethod yX8_touches, .selects RX8 yX8_touches yX8_touches, .initialized RX8] : List Cond), w ∈ O_computeIfOld) w h)) m_computeIfOld_Wtouches gd_touches) rfl rfl rfl (by decide +kernel) ⟨Nat.le_of_ble_eq_true rfl, Nat.le_of_ble_eq_true rfl⟩) hK hP hD hS hA [3, 8] [0, 1, 2, 4, 5, 6, 7, 9, 10, 11, 12, 13] [0, 1, 2, 12, 3, 4, 5, 6, 13, 7, 8, 9, 10, 11] rfl rfl ⟨by decide, by decide, by decide⟩ (by decide) (fun _ => rfl) 8 0 rfl rfl rfl rfl hl.1 rfl (Nat.le_of_ble_eq_true rfl) dX5_computeIfOld_13 ⟨Nat.le_of_ble_eq_true rfl, Nat.le_of_ble_eq_true rfl⟩ (fun res_ u H locs hw hP hD hS => ?_)
    have hP : va_P D vwCl [(h0, .inr (5, [.ref (ad 26), .ref (ad 27), .ref (ad 0), .ref (ad 1), .ref (ad 2)])), ((ad 26), .inl (cI, 1024, .inl (eO ds))), ((ad 27), .inl (cJ, 1024, .inr (.inl (eL fk)))), ((ad 0), .inr (8, [.int (nI (tRc t)), .int (nI lc), .ref (ad 7), .ref (ad 8), .ref (ad 9), .ref (ad 10), .ref (ad 11), .ref (ad 12), .ref (ad 13), .ref (ad 14), .ref (ad 15), .ref (ad 16)])), ((ad 10), .inl (cI, 40, .inl (eN (tAl t)))), ((ad 11), .inl (cI, 80, .inl (eN (tRp t)))), ((ad 13), .inl (cI, 16, .inl (eN (tPc t)))), ((ad 15), .inl (cI, 640, .inl (eN (tPo t)))), ((ad 16), .inl (cZ, 64, .inl (eB at_))), ((ad 1), .inr (0, [.int (nI now), .ref (ad 17), .ref (ad 18), .ref (ad 19), .ref (ad 20), .ref (ad 0)])), ((ad 19), .inl (cI, 5120, .inl (eN lm))), ((ad 2), .inr (2, [.ref (ad 21), .ref (ad 22), .ref (ad 23), .ref (ad 24), .ref (ad 25)])), ((ad 23), .inl (cZ, 64, .inl (eB old))), ((ad 24), .inl (cI, 17408, .inl (eO hd)))] H := hP
    have hD : va_D A [(h0, .inr (5, [.ref (ad 26), .ref (ad 27), .ref (ad 0), .ref (ad 1), .ref (ad 2)])), ((ad 26), .inl (cI, 1024, .inl (eO ds))), ((ad 27), .inl (cJ, 1024, .inr (.inl (eL fk)))), ((ad 0), .inr (8, [.int (nI (tRc t)), .int (nI lc), .ref (ad 7), .ref (ad 8), .ref (ad 9), .ref (ad 10), .ref (ad 11), .ref (ad 12), .ref (ad 13), .ref (ad 14), .ref (ad 15), .ref (ad 16)])), ((ad 10), .inl (cI, 40, .inl (eN (tAl t)))), ((ad 11), .inl (cI, 80, .inl (eN (tRp t)))), ((ad 13), .inl (cI, 16, .inl (eN (tPc t)))), ((ad 15), .inl (cI, 640, .inl (eN (tPo t)))), ((ad 16), .inl (cZ, 64, .inl (eB at_))), ((ad 1), .inr (0, [.int (nI now), .ref (ad 17), .ref (ad 18), .ref (ad 19), .ref (ad 20), .ref (ad 0)])), ((ad 19), .inl (cI, 5120, .inl (eN lm))), ((ad 2), .inr (2, [.ref (ad 21), .ref (ad 22), .ref (ad 23), .ref (ad 24), .ref (ad 25)])), ((ad 23), .inl (cZ, 64, .inl (eB old))), ((ad 24), .inl (cI, 17408, .inl (eO hd)))] := hD
    obtain rfl : res_ = (bI (decide (2 < 4) && at_ (r * 4 + 2))) := hw
    refine lv_if_eq (tgt := 55) hx hb dX5_computeIfOld_16 (by decide) (fun c_16 => ?_) (fun c_16 => False.elim (by have n_16 : (decide (2 < 4) && at_ (r * 4 + 2)) = true := bI_1 c_16; simp [hat2] at n_16))
    have n_16 : (decide (2 < 4) && at_ (r * 4 + 2)) = false := bI_0 c_16
    refine lv_iinc (v := 3) (lv' := [(2, .int 3), (0, .ref h0), (1, .int (nI r))]) hx hb dX5_computeIfOld_55 hl (k := 0) rfl (by decide) (by decide) rfl (fun ls hl => ?_)
    refine lv_goto (tgt := 2) hx hb dX5_computeIfOld_58 (by decide) ?_
    refine lv_iload_n hx hb dX5_computeIfOld_2 rfl (lv_at hl 0 rfl) ?_
    refine lv_iconst (v := 4) hx hb dX5_computeIfOld_3 (by decide) ?_
    refine lv_icmp_ge (tgt := 61) hx hb dX5_computeIfOld_4 (by decide) (fun c => absurd c (by decide)) (fun _ => ?_)
    refine lv_aload_n hx hb dX5_computeIfOld_7 rfl (lv_at hl 1 rfl) ?_
    refine va_get (ci := 5) (v := .ref (ad 0)) (C := RX5) (T := TX5) (N := 5) hx hb hts m_computeIfOld_C5 hown hK hP 0 rfl rfl 2 (by decide) (hts (.fieldLink RX5 19 "RoutingDomain$Paths" "topology" "LRoutingDomain$Topology;") (m_computeIfOld_O _ (by decide +kernel))) (fun _ h9 => h9) rfl dX5_computeIfOld_8 ?_
    refine lv_iload_n hx hb dX5_computeIfOld_11 rfl (lv_at hl 2 rfl) ?_
    refine lv_iload_n hx hb dX5_computeIfOld_12 rfl (lv_at hl 0 rfl) ?_
    refine kVi (As := [.int (nI r), .int 3]) (rest := []) (wr := [(h0, .inr (5, [.ref (ad 26), .ref (ad 27), .ref (ad 0), .ref (ad 1), .ref (ad 2)])), ((ad 26), .inl (cI, 1024, .inl (eO ds))), ((ad 27), .inl (cJ, 1024, .inr (.inl (eL fk)))), ((ad 10), .inl (cI, 40, .inl (eN (tAl t)))), ((ad 11), .inl (cI, 80, .inl (eN (tRp t)))), ((ad 13), .inl (cI, 16, .inl (eN (tPc t)))), ((ad 15), .inl (cI, 640, .inl (eN (tPo t)))), ((ad 1), .inr (0, [.int (nI now), .ref (ad 17), .ref (ad 18), .ref (ad 19), .ref (ad 20), .ref (ad 0)])), ((ad 19), .inl (cI, 5120, .inl (eN lm))), ((ad 2), .inr (2, [.ref (ad 21), .ref (ad 22), .ref (ad 23), .ref (ad 24), .ref (ad 25)])), ((ad 23), .inl (cZ, 64, .inl (eB old))), ((ad 24), .inl (cI, 17408, .inl (eO hd)))]) (w2 := fun _ => [(h0, .inr (5, [.ref (ad 26), .ref (ad 27), .ref (ad 0), .ref (ad 1), .ref (ad 2)])), ((ad 26), .inl (cI, 1024, .inl (eO ds))), ((ad 27), .inl (cJ, 1024, .inr (.inl (eL fk)))), ((ad 0), .inr (8, [.int (nI (tRc t)), .int (nI lc), .ref (ad 7), .ref (ad 8), .ref (ad 9), .ref (ad 10), .ref (ad 11), .ref (ad 12), .ref (ad 13), .ref (ad 14), .ref (ad 15), .ref (ad 16)])), ((ad 10), .inl (cI, 40, .inl (eN (tAl t)))), ((ad 11), .inl (cI, 80, .inl (eN (tRp t)))), ((ad 13), .inl (cI, 16, .inl (eN (tPc t)))), ((ad 15), .inl (cI, 640, .inl (eN (tPo t)))), ((ad 16), .inl (cZ, 64, .inl (eB at_))), ((ad 1), .inr (0, [.int (nI now), .ref (ad 17), .ref (ad 18), .ref (ad 19), .ref (ad 20), .ref (ad 0)])), ((ad 19), .inl (cI, 5120, .inl (eN lm))), ((ad 2), .inr (2, [.ref (ad 21), .ref (ad 22), .ref (ad 23), .ref (ad 24), .ref (ad 25)])), ((ad 23), .inl (cZ, 64, .inl (eB old))), ((ad 24), .inl (cI, 17408, .inl (eO hd)))]) ⟨hx, hb, hml, hown, hts⟩ hN (c_touches l D cI cZ cJ (ad 0) ad (tRc t) lc at_ r 3 hr16 (by decide)) (cwV 2 hts (k_gV (fun w h => m_computeIfOld_O w ((by decide +kernel : ∀ w ∈ ([.methodLink RX5 45 yX8_touches, .instanceMethod yX8_touches, .selects RX8 yX8_touches yX8_touches, .initialized RX8] : List Cond), w ∈ O_computeIfOld) w h)) m_computeIfOld_Wtouches gd_touches) rfl rfl rfl (by decide +kernel) ⟨Nat.le_of_ble_eq_true rfl, Nat.le_of_ble_eq_true rfl⟩) hK hP hD hS hA [3, 8] [0, 1, 2, 4, 5, 6, 7, 9, 10, 11, 12, 13] [0, 1, 2, 12, 3, 4, 5, 6, 13, 7, 8, 9, 10, 11] rfl rfl ⟨by decide, by decide, by decide⟩ (by decide) (fun _ => rfl) 8 0 rfl rfl rfl rfl hl.1 rfl (Nat.le_of_ble_eq_true rfl) dX5_computeIfOld_13 ⟨Nat.le_of_ble_eq_true rfl, Nat.le_of_ble_eq_true rfl⟩ (fun res_ u H locs hw hP hD hS => ?_)
    have hP : va_P D vwCl [(h0, .inr (5, [.ref (ad 26), .ref (ad 27), .ref (ad 0), .ref (ad 1), .ref (ad 2)])), ((ad 26), .inl (cI, 1024, .inl (eO ds))), ((ad 27), .inl (cJ, 1024, .inr (.inl (eL fk)))), ((ad 0), .inr (8, [.int (nI (tRc t)), .int (nI lc), .ref (ad 7), .ref (ad 8), .ref (ad 9), .ref (ad 10), .ref (ad 11), .ref (ad 12), .ref (ad 13), .ref (ad 14), .ref (ad 15), .ref (ad 16)])), ((ad 10), .inl (cI, 40, .inl (eN (tAl t)))), ((ad 11), .inl (cI, 80, .inl (eN (tRp t)))), ((ad 13), .inl (cI, 16, .inl (eN (tPc t)))), ((ad 15), .inl (cI, 640, .inl (eN (tPo t)))), ((ad 16), .inl (cZ, 64, .inl (eB at_))), ((ad 1), .inr (0, [.int (nI now), .ref (ad 17), .ref (ad 18), .ref (ad 19), .ref (ad 20), .ref (ad 0)])), ((ad 19), .inl (cI, 5120, .inl (eN lm))), ((ad 2), .inr (2, [.ref (ad 21), .ref (ad 22), .ref (ad 23), .ref (ad 24), .ref (ad 25)])), ((ad 23), .inl (cZ, 64, .inl (eB old))), ((ad 24), .inl (cI, 17408, .inl (eO hd)))] H := hP
    have hD : va_D A [(h0, .inr (5, [.ref (ad 26), .ref (ad 27), .ref (ad 0), .ref (ad 1), .ref (ad 2)])), ((ad 26), .inl (cI, 1024, .inl (eO ds))), ((ad 27), .inl (cJ, 1024, .inr (.inl (eL fk)))), ((ad 0), .inr (8, [.int (nI (tRc t)), .int (nI lc), .ref (ad 7), .ref (ad 8), .ref (ad 9), .ref (ad 10), .ref (ad 11), .ref (ad 12), .ref (ad 13), .ref (ad 14), .ref (ad 15), .ref (ad 16)])), ((ad 10), .inl (cI, 40, .inl (eN (tAl t)))), ((ad 11), .inl (cI, 80, .inl (eN (tRp t)))), ((ad 13), .inl (cI, 16, .inl (eN (tPc t)))), ((ad 15), .inl (cI, 640, .inl (eN (tPo t)))), ((ad 16), .inl (cZ, 64, .inl (eB at_))), ((ad 1), .inr (0, [.int (nI now), .ref (ad 17), .ref (ad 18), .ref (ad 19), .ref (ad 20), .ref (ad 0)])), ((ad 19), .inl (cI, 5120, .inl (eN lm))), ((ad 2), .inr (2, [.ref (ad 21), .ref (ad 22), .ref (ad 23), .ref (ad 24), .ref (ad 25)])), ((ad 23), .inl (cZ, 64, .inl (eB old))), ((ad 24), .inl (cI, 17408, .inl (eO hd)))] := hD
    obtain rfl : res_ = (bI (decide (3 < 4) && at_ (r * 4 + 3))) := hw
    refine lv_if_eq (tgt := 55) hx hb dX5_computeIfOld_16 (by decide) (fun c_16 => ?_) (fun c_16 => False.elim (by have n_16 : (decide (3 < 4) && at_ (r * 4 + 3)) = true := bI_1 c_16; simp [hat3] at n_16))
    have n_16 : (decide (3 < 4) && at_ (r * 4 + 3)) = false := bI_0 c_16
    refine lv_iinc (v := 4) (lv' := [(2, .int 4), (0, .ref h0), (1, .int (nI r))]) hx hb dX5_computeIfOld_55 hl (k := 0) rfl (by decide) (by decide) rfl (fun ls hl => ?_)
    refine lv_goto (tgt := 2) hx hb dX5_computeIfOld_58 (by decide) ?_
    refine lv_iload_n hx hb dX5_computeIfOld_2 rfl (lv_at hl 0 rfl) ?_
    refine lv_iconst (v := 4) hx hb dX5_computeIfOld_3 (by decide) ?_
    refine lv_icmp_ge (tgt := 61) hx hb dX5_computeIfOld_4 (by decide) (fun _ => ?_) (fun c => absurd (by decide) c)
    exact k_vret E hK hP hD hS (old, ds, fk) [0, 1, 2, 3, 4, 5, 6, 7, 8, 9, 10, 11, 12, 13] (by decide) rfl ⟨by unfold cif; rw [if_neg (by rw [show (old, ds, fk).1 (r * 4 + 1) = false from n_32]; decide)], hbd⟩ (Nat.le_of_ble_eq_true rfl) (Nat.le_of_ble_eq_true rfl) dX5_computeIfOld_61
  · have n_32 : (old ((r * 4) + 1)) = true := bI_1 c_32
    refine lv_aload_n hx hb dX5_computeIfOld_35 rfl (lv_at hl 1 rfl) ?_
    refine lv_iload_n hx hb dX5_computeIfOld_36 rfl (lv_at hl 2 rfl) ?_
    refine lv_iload_n hx hb dX5_computeIfOld_37 rfl (lv_at hl 0 rfl) ?_
    refine kVv (As := [.int (nI r), .int 1]) (rest := []) (wr := [((ad 16), .inl (cZ, 64, .inl (eB at_))), ((ad 23), .inl (cZ, 64, .inl (eB old)))]) (w2 := fun u => [(h0, .inr (5, [.ref (ad 26), .ref (ad 27), .ref (ad 0), .ref (ad 1), .ref (ad 2)])), ((ad 26), .inl (cI, 1024, .inl (eO u.1))), ((ad 27), .inl (cJ, 1024, .inr (.inl (eL u.2)))), ((ad 0), .inr (8, [.int (nI (tRc t)), .int (nI lc), .ref (ad 7), .ref (ad 8), .ref (ad 9), .ref (ad 10), .ref (ad 11), .ref (ad 12), .ref (ad 13), .ref (ad 14), .ref (ad 15), .ref (ad 16)])), ((ad 10), .inl (cI, 40, .inl (eN (tAl t)))), ((ad 11), .inl (cI, 80, .inl (eN (tRp t)))), ((ad 13), .inl (cI, 16, .inl (eN (tPc t)))), ((ad 15), .inl (cI, 640, .inl (eN (tPo t)))), ((ad 16), .inl (cZ, 64, .inl (eB at_))), ((ad 1), .inr (0, [.int (nI now), .ref (ad 17), .ref (ad 18), .ref (ad 19), .ref (ad 20), .ref (ad 0)])), ((ad 19), .inl (cI, 5120, .inl (eN lm))), ((ad 2), .inr (2, [.ref (ad 21), .ref (ad 22), .ref (ad 23), .ref (ad 24), .ref (ad 25)])), ((ad 23), .inl (cZ, 64, .inl (eB old))), ((ad 24), .inl (cI, 17408, .inl (eO hd)))]) ⟨hx, hb, hml, hown, hts⟩ hN (c_compute l D cI cZ cJ h0 ad t lc now lm hd ds fk r 1 hr rfl hbd hne hal1 hlm hhd hT) (cwV 2 hts (k_gV (fun w h => m_computeIfOld_O w ((by decide +kernel : ∀ w ∈ ([.methodLink RX5 57 yX5_compute, .instanceMethod yX5_compute, .selects RX5 yX5_compute yX5_compute, .initialized RX5] : List Cond), w ∈ O_computeIfOld) w h)) m_computeIfOld_Wcompute gd_compute) rfl rfl rfl (by decide +kernel) ⟨Nat.le_of_ble_eq_true rfl, Nat.le_of_ble_eq_true rfl⟩) hK hP hD hS hA [0, 1, 2, 3, 4, 5, 6, 7, 9, 10, 11, 13] [8, 12] [2, 3, 4, 5, 6, 7, 8, 9, 0, 10, 11, 12, 1, 13] rfl rfl ⟨by decide, by decide, by decide⟩ (by decide) (fun _ => rfl) 5 0 rfl rfl rfl rfl hl.1 rfl (Nat.le_of_ble_eq_true rfl) dX5_computeIfOld_38 ⟨Nat.le_of_ble_eq_true rfl, Nat.le_of_ble_eq_true rfl⟩ (fun u H locs hw hP hD hS => ?_)
    obtain ⟨ds_1, fk_2⟩ := u
    have hP : va_P D vwCl [(h0, .inr (5, [.ref (ad 26), .ref (ad 27), .ref (ad 0), .ref (ad 1), .ref (ad 2)])), ((ad 26), .inl (cI, 1024, .inl (eO ds_1))), ((ad 27), .inl (cJ, 1024, .inr (.inl (eL fk_2)))), ((ad 0), .inr (8, [.int (nI (tRc t)), .int (nI lc), .ref (ad 7), .ref (ad 8), .ref (ad 9), .ref (ad 10), .ref (ad 11), .ref (ad 12), .ref (ad 13), .ref (ad 14), .ref (ad 15), .ref (ad 16)])), ((ad 10), .inl (cI, 40, .inl (eN (tAl t)))), ((ad 11), .inl (cI, 80, .inl (eN (tRp t)))), ((ad 13), .inl (cI, 16, .inl (eN (tPc t)))), ((ad 15), .inl (cI, 640, .inl (eN (tPo t)))), ((ad 16), .inl (cZ, 64, .inl (eB at_))), ((ad 1), .inr (0, [.int (nI now), .ref (ad 17), .ref (ad 18), .ref (ad 19), .ref (ad 20), .ref (ad 0)])), ((ad 19), .inl (cI, 5120, .inl (eN lm))), ((ad 2), .inr (2, [.ref (ad 21), .ref (ad 22), .ref (ad 23), .ref (ad 24), .ref (ad 25)])), ((ad 23), .inl (cZ, 64, .inl (eB old))), ((ad 24), .inl (cI, 17408, .inl (eO hd)))] H := hP
    have hD : va_D A [(h0, .inr (5, [.ref (ad 26), .ref (ad 27), .ref (ad 0), .ref (ad 1), .ref (ad 2)])), ((ad 26), .inl (cI, 1024, .inl (eO ds_1))), ((ad 27), .inl (cJ, 1024, .inr (.inl (eL fk_2)))), ((ad 0), .inr (8, [.int (nI (tRc t)), .int (nI lc), .ref (ad 7), .ref (ad 8), .ref (ad 9), .ref (ad 10), .ref (ad 11), .ref (ad 12), .ref (ad 13), .ref (ad 14), .ref (ad 15), .ref (ad 16)])), ((ad 10), .inl (cI, 40, .inl (eN (tAl t)))), ((ad 11), .inl (cI, 80, .inl (eN (tRp t)))), ((ad 13), .inl (cI, 16, .inl (eN (tPc t)))), ((ad 15), .inl (cI, 640, .inl (eN (tPo t)))), ((ad 16), .inl (cZ, 64, .inl (eB at_))), ((ad 1), .inr (0, [.int (nI now), .ref (ad 17), .ref (ad 18), .ref (ad 19), .ref (ad 20), .ref (ad 0)])), ((ad 19), .inl (cI, 5120, .inl (eN lm))), ((ad 2), .inr (2, [.ref (ad 21), .ref (ad 22), .ref (ad 23), .ref (ad 24), .ref (ad 25)])), ((ad 23), .inl (cZ, 64, .inl (eB old))), ((ad 24), .inl (cI, 17408, .inl (eO hd)))] := hD
    have hw_38 : (ds_1, fk_2) = cpt t hd lm r (ds, fk) ∧ ∀ j d, ds_1 j = some d → d ≤ 16000 := hw
    refine lv_aload_n hx hb dX5_computeIfOld_41 rfl (lv_at hl 1 rfl) ?_
    refine va_get (ci := 5) (v := .ref (ad 2)) (C := RX5) (T := TX5) (N := 5) hx hb hts m_computeIfOld_C5 hown hK hP 0 rfl rfl 4 (by decide) (hts (.fieldLink RX5 27 "RoutingDomain$Paths" "databases" "LRoutingDomain$Databases;") (m_computeIfOld_O _ (by decide +kernel))) (fun _ h9 => h9) rfl dX5_computeIfOld_42 ?_
    refine va_get (ci := 2) (v := .ref (ad 23)) (C := RX2) (T := TX2) (N := 5) hx hb hts m_computeIfOld_C2 hown hK hP 11 rfl rfl 2 (by decide) (hts (.fieldLink RX5 51 "RoutingDomain$Databases" "pathsAreOld" "[Z") (m_computeIfOld_O _ (by decide +kernel))) (fun _ h9 => h9) rfl dX5_computeIfOld_45 ?_
    refine lv_iload_n hx hb dX5_computeIfOld_48 rfl (lv_at hl 2 rfl) ?_
    refine lv_iconst (v := 4) hx hb dX5_computeIfOld_49 (by decide) ?_
    refine lv_imul hx hb dX5_computeIfOld_50 ?_
    refine lv_topi (fun y ey => ?_)
    obtain rfl : y = (nI (r * 4)) := ey.trans (pk_mul r 4)
    refine lv_iload_n hx hb dX5_computeIfOld_51 rfl (lv_at hl 0 rfl) ?_
    refine lv_iadd hx hb dX5_computeIfOld_52 ?_
    refine lv_topi (fun y ey => ?_)
    obtain rfl : y = (nI ((r * 4) + 1)) := ey.trans (nI_add (r * 4) 1)
    refine lv_iconst (v := 0) hx hb dX5_computeIfOld_53 (by decide) ?_
    refine va_zast hx hb hK hP hD hS 12 1 rfl rfl (vp_in_nI (show ((r * 4) + 1) < 64 from by omega) (by decide)) dX5_computeIfOld_54 (fun H locs hP hD hS => ?_)
    have hP : va_P D vwCl [(h0, .inr (5, [.ref (ad 26), .ref (ad 27), .ref (ad 0), .ref (ad 1), .ref (ad 2)])), ((ad 26), .inl (cI, 1024, .inl (eO ds_1))), ((ad 27), .inl (cJ, 1024, .inr (.inl (eL fk_2)))), ((ad 0), .inr (8, [.int (nI (tRc t)), .int (nI lc), .ref (ad 7), .ref (ad 8), .ref (ad 9), .ref (ad 10), .ref (ad 11), .ref (ad 12), .ref (ad 13), .ref (ad 14), .ref (ad 15), .ref (ad 16)])), ((ad 10), .inl (cI, 40, .inl (eN (tAl t)))), ((ad 11), .inl (cI, 80, .inl (eN (tRp t)))), ((ad 13), .inl (cI, 16, .inl (eN (tPc t)))), ((ad 15), .inl (cI, 640, .inl (eN (tPo t)))), ((ad 16), .inl (cZ, 64, .inl (eB at_))), ((ad 1), .inr (0, [.int (nI now), .ref (ad 17), .ref (ad 18), .ref (ad 19), .ref (ad 20), .ref (ad 0)])), ((ad 19), .inl (cI, 5120, .inl (eN lm))), ((ad 2), .inr (2, [.ref (ad 21), .ref (ad 22), .ref (ad 23), .ref (ad 24), .ref (ad 25)])), ((ad 23), .inl (cZ, 64, .inl (upd (eB old) (nI ((r * 4) + 1)).toNatClampNeg (vp_nar .boolean (bI false))))), ((ad 24), .inl (cI, 17408, .inl (eO hd)))] H := hP
    have hD : va_D A [(h0, .inr (5, [.ref (ad 26), .ref (ad 27), .ref (ad 0), .ref (ad 1), .ref (ad 2)])), ((ad 26), .inl (cI, 1024, .inl (eO ds_1))), ((ad 27), .inl (cJ, 1024, .inr (.inl (eL fk_2)))), ((ad 0), .inr (8, [.int (nI (tRc t)), .int (nI lc), .ref (ad 7), .ref (ad 8), .ref (ad 9), .ref (ad 10), .ref (ad 11), .ref (ad 12), .ref (ad 13), .ref (ad 14), .ref (ad 15), .ref (ad 16)])), ((ad 10), .inl (cI, 40, .inl (eN (tAl t)))), ((ad 11), .inl (cI, 80, .inl (eN (tRp t)))), ((ad 13), .inl (cI, 16, .inl (eN (tPc t)))), ((ad 15), .inl (cI, 640, .inl (eN (tPo t)))), ((ad 16), .inl (cZ, 64, .inl (eB at_))), ((ad 1), .inr (0, [.int (nI now), .ref (ad 17), .ref (ad 18), .ref (ad 19), .ref (ad 20), .ref (ad 0)])), ((ad 19), .inl (cI, 5120, .inl (eN lm))), ((ad 2), .inr (2, [.ref (ad 21), .ref (ad 22), .ref (ad 23), .ref (ad 24), .ref (ad 25)])), ((ad 23), .inl (cZ, 64, .inl (upd (eB old) (nI ((r * 4) + 1)).toNatClampNeg (vp_nar .boolean (bI false))))), ((ad 24), .inl (cI, 17408, .inl (eO hd)))] := hD
    rw [show (upd (eB old) (nI ((r * 4) + 1)).toNatClampNeg (vp_nar .boolean (bI false))) = (eB (fs old ((r * 4) + 1) false)) from stB (by omega)] at hP hD
    refine lv_iinc (v := 2) (lv' := [(2, .int 2), (0, .ref h0), (1, .int (nI r))]) hx hb dX5_computeIfOld_55 hl (k := 0) rfl (by decide) (by decide) rfl (fun ls hl => ?_)
    refine lv_goto (tgt := 2) hx hb dX5_computeIfOld_58 (by decide) ?_
    refine lv_iload_n hx hb dX5_computeIfOld_2 rfl (lv_at hl 0 rfl) ?_
    refine lv_iconst (v := 4) hx hb dX5_computeIfOld_3 (by decide) ?_
    refine lv_icmp_ge (tgt := 61) hx hb dX5_computeIfOld_4 (by decide) (fun c => absurd c (by decide)) (fun _ => ?_)
    refine lv_aload_n hx hb dX5_computeIfOld_7 rfl (lv_at hl 1 rfl) ?_
    refine va_get (ci := 5) (v := .ref (ad 0)) (C := RX5) (T := TX5) (N := 5) hx hb hts m_computeIfOld_C5 hown hK hP 0 rfl rfl 2 (by decide) (hts (.fieldLink RX5 19 "RoutingDomain$Paths" "topology" "LRoutingDomain$Topology;") (m_computeIfOld_O _ (by decide +kernel))) (fun _ h9 => h9) rfl dX5_computeIfOld_8 ?_
    refine lv_iload_n hx hb dX5_computeIfOld_11 rfl (lv_at hl 2 rfl) ?_
    refine lv_iload_n hx hb dX5_computeIfOld_12 rfl (lv_at hl 0 rfl) ?_
    refine kVi (As := [.int (nI r), .int 2]) (rest := []) (wr := [(h0, .inr (5, [.ref (ad 26), .ref (ad 27), .ref (ad 0), .ref (ad 1), .ref (ad 2)])), ((ad 26), .inl (cI, 1024, .inl (eO ds_1))), ((ad 27), .inl (cJ, 1024, .inr (.inl (eL fk_2)))), ((ad 10), .inl (cI, 40, .inl (eN (tAl t)))), ((ad 11), .inl (cI, 80, .inl (eN (tRp t)))), ((ad 13), .inl (cI, 16, .inl (eN (tPc t)))), ((ad 15), .inl (cI, 640, .inl (eN (tPo t)))), ((ad 1), .inr (0, [.int (nI now), .ref (ad 17), .ref (ad 18), .ref (ad 19), .ref (ad 20), .ref (ad 0)])), ((ad 19), .inl (cI, 5120, .inl (eN lm))), ((ad 2), .inr (2, [.ref (ad 21), .ref (ad 22), .ref (ad 23), .ref (ad 24), .ref (ad 25)])), ((ad 23), .inl (cZ, 64, .inl (eB (fs old ((r * 4) + 1) false)))), ((ad 24), .inl (cI, 17408, .inl (eO hd)))]) (w2 := fun _ => [(h0, .inr (5, [.ref (ad 26), .ref (ad 27), .ref (ad 0), .ref (ad 1), .ref (ad 2)])), ((ad 26), .inl (cI, 1024, .inl (eO ds_1))), ((ad 27), .inl (cJ, 1024, .inr (.inl (eL fk_2)))), ((ad 0), .inr (8, [.int (nI (tRc t)), .int (nI lc), .ref (ad 7), .ref (ad 8), .ref (ad 9), .ref (ad 10), .ref (ad 11), .ref (ad 12), .ref (ad 13), .ref (ad 14), .ref (ad 15), .ref (ad 16)])), ((ad 10), .inl (cI, 40, .inl (eN (tAl t)))), ((ad 11), .inl (cI, 80, .inl (eN (tRp t)))), ((ad 13), .inl (cI, 16, .inl (eN (tPc t)))), ((ad 15), .inl (cI, 640, .inl (eN (tPo t)))), ((ad 16), .inl (cZ, 64, .inl (eB at_))), ((ad 1), .inr (0, [.int (nI now), .ref (ad 17), .ref (ad 18), .ref (ad 19), .ref (ad 20), .ref (ad 0)])), ((ad 19), .inl (cI, 5120, .inl (eN lm))), ((ad 2), .inr (2, [.ref (ad 21), .ref (ad 22), .ref (ad 23), .ref (ad 24), .ref (ad 25)])), ((ad 23), .inl (cZ, 64, .inl (eB (fs old ((r * 4) + 1) false)))), ((ad 24), .inl (cI, 17408, .inl (eO hd)))]) ⟨hx, hb, hml, hown, hts⟩ hN (c_touches l D cI cZ cJ (ad 0) ad (tRc t) lc at_ r 2 hr16 (by decide)) (cwV 2 hts (k_gV (fun w h => m_computeIfOld_O w ((by decide +kernel : ∀ w ∈ ([.methodLink RX5 45 yX8_touches, .instanceMethod yX8_touches, .selects RX8 yX8_touches yX8_touches, .initialized RX8] : List Cond), w ∈ O_computeIfOld) w h)) m_computeIfOld_Wtouches gd_touches) rfl rfl rfl (by decide +kernel) ⟨Nat.le_of_ble_eq_true rfl, Nat.le_of_ble_eq_true rfl⟩) hK hP hD hS hA [3, 8] [0, 1, 2, 4, 5, 6, 7, 9, 10, 11, 12, 13] [0, 1, 2, 12, 3, 4, 5, 6, 13, 7, 8, 9, 10, 11] rfl rfl ⟨by decide, by decide, by decide⟩ (by decide) (fun _ => rfl) 8 0 rfl rfl rfl rfl hl.1 rfl (Nat.le_of_ble_eq_true rfl) dX5_computeIfOld_13 ⟨Nat.le_of_ble_eq_true rfl, Nat.le_of_ble_eq_true rfl⟩ (fun res_ u H locs hw hP hD hS => ?_)
    have hP : va_P D vwCl [(h0, .inr (5, [.ref (ad 26), .ref (ad 27), .ref (ad 0), .ref (ad 1), .ref (ad 2)])), ((ad 26), .inl (cI, 1024, .inl (eO ds_1))), ((ad 27), .inl (cJ, 1024, .inr (.inl (eL fk_2)))), ((ad 0), .inr (8, [.int (nI (tRc t)), .int (nI lc), .ref (ad 7), .ref (ad 8), .ref (ad 9), .ref (ad 10), .ref (ad 11), .ref (ad 12), .ref (ad 13), .ref (ad 14), .ref (ad 15), .ref (ad 16)])), ((ad 10), .inl (cI, 40, .inl (eN (tAl t)))), ((ad 11), .inl (cI, 80, .inl (eN (tRp t)))), ((ad 13), .inl (cI, 16, .inl (eN (tPc t)))), ((ad 15), .inl (cI, 640, .inl (eN (tPo t)))), ((ad 16), .inl (cZ, 64, .inl (eB at_))), ((ad 1), .inr (0, [.int (nI now), .ref (ad 17), .ref (ad 18), .ref (ad 19), .ref (ad 20), .ref (ad 0)])), ((ad 19), .inl (cI, 5120, .inl (eN lm))), ((ad 2), .inr (2, [.ref (ad 21), .ref (ad 22), .ref (ad 23), .ref (ad 24), .ref (ad 25)])), ((ad 23), .inl (cZ, 64, .inl (eB (fs old ((r * 4) + 1) false)))), ((ad 24), .inl (cI, 17408, .inl (eO hd)))] H := hP
    have hD : va_D A [(h0, .inr (5, [.ref (ad 26), .ref (ad 27), .ref (ad 0), .ref (ad 1), .ref (ad 2)])), ((ad 26), .inl (cI, 1024, .inl (eO ds_1))), ((ad 27), .inl (cJ, 1024, .inr (.inl (eL fk_2)))), ((ad 0), .inr (8, [.int (nI (tRc t)), .int (nI lc), .ref (ad 7), .ref (ad 8), .ref (ad 9), .ref (ad 10), .ref (ad 11), .ref (ad 12), .ref (ad 13), .ref (ad 14), .ref (ad 15), .ref (ad 16)])), ((ad 10), .inl (cI, 40, .inl (eN (tAl t)))), ((ad 11), .inl (cI, 80, .inl (eN (tRp t)))), ((ad 13), .inl (cI, 16, .inl (eN (tPc t)))), ((ad 15), .inl (cI, 640, .inl (eN (tPo t)))), ((ad 16), .inl (cZ, 64, .inl (eB at_))), ((ad 1), .inr (0, [.int (nI now), .ref (ad 17), .ref (ad 18), .ref (ad 19), .ref (ad 20), .ref (ad 0)])), ((ad 19), .inl (cI, 5120, .inl (eN lm))), ((ad 2), .inr (2, [.ref (ad 21), .ref (ad 22), .ref (ad 23), .ref (ad 24), .ref (ad 25)])), ((ad 23), .inl (cZ, 64, .inl (eB (fs old ((r * 4) + 1) false)))), ((ad 24), .inl (cI, 17408, .inl (eO hd)))] := hD
    obtain rfl : res_ = (bI (decide (2 < 4) && at_ (r * 4 + 2))) := hw
    refine lv_if_eq (tgt := 55) hx hb dX5_computeIfOld_16 (by decide) (fun c_16 => ?_) (fun c_16 => False.elim (by have n_16 : (decide (2 < 4) && at_ (r * 4 + 2)) = true := bI_1 c_16; simp [hat2] at n_16))
    have n_16 : (decide (2 < 4) && at_ (r * 4 + 2)) = false := bI_0 c_16
    refine lv_iinc (v := 3) (lv' := [(2, .int 3), (0, .ref h0), (1, .int (nI r))]) hx hb dX5_computeIfOld_55 hl (k := 0) rfl (by decide) (by decide) rfl (fun ls hl => ?_)
    refine lv_goto (tgt := 2) hx hb dX5_computeIfOld_58 (by decide) ?_
    refine lv_iload_n hx hb dX5_computeIfOld_2 rfl (lv_at hl 0 rfl) ?_
    refine lv_iconst (v := 4) hx hb dX5_computeIfOld_3 (by decide) ?_
    refine lv_icmp_ge (tgt := 61) hx hb dX5_computeIfOld_4 (by decide) (fun c => absurd c (by decide)) (fun _ => ?_)
    refine lv_aload_n hx hb dX5_computeIfOld_7 rfl (lv_at hl 1 rfl) ?_
    refine va_get (ci := 5) (v := .ref (ad 0)) (C := RX5) (T := TX5) (N := 5) hx hb hts m_computeIfOld_C5 hown hK hP 0 rfl rfl 2 (by decide) (hts (.fieldLink RX5 19 "RoutingDomain$Paths" "topology" "LRoutingDomain$Topology;") (m_computeIfOld_O _ (by decide +kernel))) (fun _ h9 => h9) rfl dX5_computeIfOld_8 ?_
    refine lv_iload_n hx hb dX5_computeIfOld_11 rfl (lv_at hl 2 rfl) ?_
    refine lv_iload_n hx hb dX5_computeIfOld_12 rfl (lv_at hl 0 rfl) ?_
    refine kVi (As := [.int (nI r), .int 3]) (rest := []) (wr := [(h0, .inr (5, [.ref (ad 26), .ref (ad 27), .ref (ad 0), .ref (ad 1), .ref (ad 2)])), ((ad 26), .inl (cI, 1024, .inl (eO ds_1))), ((ad 27), .inl (cJ, 1024, .inr (.inl (eL fk_2)))), ((ad 10), .inl (cI, 40, .inl (eN (tAl t)))), ((ad 11), .inl (cI, 80, .inl (eN (tRp t)))), ((ad 13), .inl (cI, 16, .inl (eN (tPc t)))), ((ad 15), .inl (cI, 640, .inl (eN (tPo t)))), ((ad 1), .inr (0, [.int (nI now), .ref (ad 17), .ref (ad 18), .ref (ad 19), .ref (ad 20), .ref (ad 0)])), ((ad 19), .inl (cI, 5120, .inl (eN lm))), ((ad 2), .inr (2, [.ref (ad 21), .ref (ad 22), .ref (ad 23), .ref (ad 24), .ref (ad 25)])), ((ad 23), .inl (cZ, 64, .inl (eB (fs old ((r * 4) + 1) false)))), ((ad 24), .inl (cI, 17408, .inl (eO hd)))]) (w2 := fun _ => [(h0, .inr (5, [.ref (ad 26), .ref (ad 27), .ref (ad 0), .ref (ad 1), .ref (ad 2)])), ((ad 26), .inl (cI, 1024, .inl (eO ds_1))), ((ad 27), .inl (cJ, 1024, .inr (.inl (eL fk_2)))), ((ad 0), .inr (8, [.int (nI (tRc t)), .int (nI lc), .ref (ad 7), .ref (ad 8), .ref (ad 9), .ref (ad 10), .ref (ad 11), .ref (ad 12), .ref (ad 13), .ref (ad 14), .ref (ad 15), .ref (ad 16)])), ((ad 10), .inl (cI, 40, .inl (eN (tAl t)))), ((ad 11), .inl (cI, 80, .inl (eN (tRp t)))), ((ad 13), .inl (cI, 16, .inl (eN (tPc t)))), ((ad 15), .inl (cI, 640, .inl (eN (tPo t)))), ((ad 16), .inl (cZ, 64, .inl (eB at_))), ((ad 1), .inr (0, [.int (nI now), .ref (ad 17), .ref (ad 18), .ref (ad 19), .ref (ad 20), .ref (ad 0)])), ((ad 19), .inl (cI, 5120, .inl (eN lm))), ((ad 2), .inr (2, [.ref (ad 21), .ref (ad 22), .ref (ad 23), .ref (ad 24), .ref (ad 25)])), ((ad 23), .inl (cZ, 64, .inl (eB (fs old ((r * 4) + 1) false)))), ((ad 24), .inl (cI, 17408, .inl (eO hd)))]) ⟨hx, hb, hml, hown, hts⟩ hN (c_touches l D cI cZ cJ (ad 0) ad (tRc t) lc at_ r 3 hr16 (by decide)) (cwV 2 hts (k_gV (fun w h => m_computeIfOld_O w ((by decide +kernel : ∀ w ∈ ([.methodLink RX5 45 yX8_touches, .instanceMethod yX8_touches, .selects RX8 yX8_touches yX8_touches, .initialized RX8] : List Cond), w ∈ O_computeIfOld) w h)) m_computeIfOld_Wtouches gd_touches) rfl rfl rfl (by decide +kernel) ⟨Nat.le_of_ble_eq_true rfl, Nat.le_of_ble_eq_true rfl⟩) hK hP hD hS hA [3, 8] [0, 1, 2, 4, 5, 6, 7, 9, 10, 11, 12, 13] [0, 1, 2, 12, 3, 4, 5, 6, 13, 7, 8, 9, 10, 11] rfl rfl ⟨by decide, by decide, by decide⟩ (by decide) (fun _ => rfl) 8 0 rfl rfl rfl rfl hl.1 rfl (Nat.le_of_ble_eq_true rfl) dX5_computeIfOld_13 ⟨Nat.le_of_ble_eq_true rfl, Nat.le_of_ble_eq_true rfl⟩ (fun res_ u H locs hw hP hD hS => ?_)
    have hP : va_P D vwCl [(h0, .inr (5, [.ref (ad 26), .ref (ad 27), .ref (ad 0), .ref (ad 1), .ref (ad 2)])), ((ad 26), .inl (cI, 1024, .inl (eO ds_1))), ((ad 27), .inl (cJ, 1024, .inr (.inl (eL fk_2)))), ((ad 0), .inr (8, [.int (nI (tRc t)), .int (nI lc), .ref (ad 7), .ref (ad 8), .ref (ad 9), .ref (ad 10), .ref (ad 11), .ref (ad 12), .ref (ad 13), .ref (ad 14), .ref (ad 15), .ref (ad 16)])), ((ad 10), .inl (cI, 40, .inl (eN (tAl t)))), ((ad 11), .inl (cI, 80, .inl (eN (tRp t)))), ((ad 13), .inl (cI, 16, .inl (eN (tPc t)))), ((ad 15), .inl (cI, 640, .inl (eN (tPo t)))), ((ad 16), .inl (cZ, 64, .inl (eB at_))), ((ad 1), .inr (0, [.int (nI now), .ref (ad 17), .ref (ad 18), .ref (ad 19), .ref (ad 20), .ref (ad 0)])), ((ad 19), .inl (cI, 5120, .inl (eN lm))), ((ad 2), .inr (2, [.ref (ad 21), .ref (ad 22), .ref (ad 23), .ref (ad 24), .ref (ad 25)])), ((ad 23), .inl (cZ, 64, .inl (eB (fs old ((r * 4) + 1) false)))), ((ad 24), .inl (cI, 17408, .inl (eO hd)))] H := hP
    have hD : va_D A [(h0, .inr (5, [.ref (ad 26), .ref (ad 27), .ref (ad 0), .ref (ad 1), .ref (ad 2)])), ((ad 26), .inl (cI, 1024, .inl (eO ds_1))), ((ad 27), .inl (cJ, 1024, .inr (.inl (eL fk_2)))), ((ad 0), .inr (8, [.int (nI (tRc t)), .int (nI lc), .ref (ad 7), .ref (ad 8), .ref (ad 9), .ref (ad 10), .ref (ad 11), .ref (ad 12), .ref (ad 13), .ref (ad 14), .ref (ad 15), .ref (ad 16)])), ((ad 10), .inl (cI, 40, .inl (eN (tAl t)))), ((ad 11), .inl (cI, 80, .inl (eN (tRp t)))), ((ad 13), .inl (cI, 16, .inl (eN (tPc t)))), ((ad 15), .inl (cI, 640, .inl (eN (tPo t)))), ((ad 16), .inl (cZ, 64, .inl (eB at_))), ((ad 1), .inr (0, [.int (nI now), .ref (ad 17), .ref (ad 18), .ref (ad 19), .ref (ad 20), .ref (ad 0)])), ((ad 19), .inl (cI, 5120, .inl (eN lm))), ((ad 2), .inr (2, [.ref (ad 21), .ref (ad 22), .ref (ad 23), .ref (ad 24), .ref (ad 25)])), ((ad 23), .inl (cZ, 64, .inl (eB (fs old ((r * 4) + 1) false)))), ((ad 24), .inl (cI, 17408, .inl (eO hd)))] := hD
    obtain rfl : res_ = (bI (decide (3 < 4) && at_ (r * 4 + 3))) := hw
    refine lv_if_eq (tgt := 55) hx hb dX5_computeIfOld_16 (by decide) (fun c_16 => ?_) (fun c_16 => False.elim (by have n_16 : (decide (3 < 4) && at_ (r * 4 + 3)) = true := bI_1 c_16; simp [hat3] at n_16))
    have n_16 : (decide (3 < 4) && at_ (r * 4 + 3)) = false := bI_0 c_16
    refine lv_iinc (v := 4) (lv' := [(2, .int 4), (0, .ref h0), (1, .int (nI r))]) hx hb dX5_computeIfOld_55 hl (k := 0) rfl (by decide) (by decide) rfl (fun ls hl => ?_)
    refine lv_goto (tgt := 2) hx hb dX5_computeIfOld_58 (by decide) ?_
    refine lv_iload_n hx hb dX5_computeIfOld_2 rfl (lv_at hl 0 rfl) ?_
    refine lv_iconst (v := 4) hx hb dX5_computeIfOld_3 (by decide) ?_
    refine lv_icmp_ge (tgt := 61) hx hb dX5_computeIfOld_4 (by decide) (fun _ => ?_) (fun c => absurd (by decide) c)
    exact k_vret E hK hP hD hS (fs old ((r * 4) + 1) false, ds_1, fk_2) [0, 1, 2, 3, 4, 5, 6, 7, 8, 9, 10, 11, 12, 13] (by decide) rfl ⟨by unfold cif; rw [if_pos (show (old, ds, fk).1 (r * 4 + 1) = true from n_32), ← hw_38.1], hw_38.2⟩ (Nat.le_of_ble_eq_true rfl) (Nat.le_of_ble_eq_true rfl) dX5_computeIfOld_61

def O_candClear : List Cond := [.fieldLink RX1 9 "RoutingDomain$Candidates" "cost" "I", .fieldLink RX1 15 "RoutingDomain$Candidates" "links" "J", .fieldLink RX1 19 "RoutingDomain$Candidates" "areas" "I", .fieldLink RX1 22 "RoutingDomain$Candidates" "isLocal" "Z"]
def W_candClear : List Cond := .code yX1_clear cX1_clear 1 none :: (O_candClear ++ wsX10)
theorem m_candClear_O : ∀ w ∈ O_candClear, w ∈ W_candClear := fun _ h => List.mem_cons_of_mem _ (List.mem_append_left _ h)
theorem m_candClear_C1 : ∀ w ∈ wsX10, w ∈ W_candClear := fun _ h => List.mem_cons_of_mem _ (List.mem_append_right _ h)
theorem gdO_candClear : O_candClear.all goodWord = true := by decide +kernel
theorem gd_candClear : W_candClear.all goodWord = true := k_all_cons rfl (k_all_app gdO_candClear gdC_1)
set_option maxHeartbeats 4000000 in
set_option maxRecDepth 100000 in
theorem c_candClear (l : Launch) (D : va_G) (cI cZ cJ : ClassId) (h0 : Nat) (bc : Option Nat) (bl : Nat) (ar : Int32) (bo : Bool) : kMv l yX1_clear W_candClear { frames := 0, cells := 0, slots := 0, locals := 0 } 0 0 D (kT cI cZ cJ) [.ref h0] [(h0, .inr (1, [.int (oI bc), .long (lN bl), .int ar, .int (bI bo)]))] (S := Unit) (fun _ => True) (fun _ => [(h0, .inr (1, [.int (-1), .long 0, .int 0, .int 0]))]) := by
  refine kMv_of (lv := [(0, .ref h0)]) RX1 "clear" (by decide +kernel) rfl rfl rfl (Nat.le_of_ble_eq_true rfl) rfl ?_
  intro p e s m below meth c A H locs ls E hA hK hP hD hS hl
  obtain ⟨hx, hb, hr_, hts, hown, hlocks, hml, hin, hN⟩ := id E
  refine lv_aload_n hx hb dX1_clear_0 rfl (lv_at hl 0 rfl) ?_
  refine lv_iconst (v := (-1)) hx hb dX1_clear_1 (by decide) ?_
  refine va_put (ci := 1) (v := .int (-1)) (ty := .int) (C := RX1) (T := TX1) (N := 4) hx hb hts m_candClear_C1 tyX1 tyX1_ok nmX1 hown hK hP hD hS 0 rfl rfl 0 (by decide) (hts (.fieldLink RX1 9 "RoutingDomain$Candidates" "cost" "I") (m_candClear_O _ (by decide +kernel))) (fun _ h9 => h9) rfl (by decide +kernel) rfl rfl (Nat.le_of_ble_eq_true rfl) dX1_clear_2 (fun H locs hP hD hS => ?_)
  have hP : va_P D vwCl [(h0, .inr (1, [.int (-1), .long (lN bl), .int ar, .int (bI bo)]))] H := hP
  have hD : va_D A [(h0, .inr (1, [.int (-1), .long (lN bl), .int ar, .int (bI bo)]))] := hD
  refine lv_aload_n hx hb dX1_clear_5 rfl (lv_at hl 0 rfl) ?_
  refine lv_lconst (v := 0) hx hb dX1_clear_6 (by decide) ?_
  refine va_put (ci := 1) (v := .long 0) (ty := .long) (C := RX1) (T := TX1) (N := 4) hx hb hts m_candClear_C1 tyX1 tyX1_ok nmX1 hown hK hP hD hS 0 rfl rfl 1 (by decide) (hts (.fieldLink RX1 15 "RoutingDomain$Candidates" "links" "J") (m_candClear_O _ (by decide +kernel))) (fun _ h9 => h9) rfl (by decide +kernel) rfl rfl (Nat.le_of_ble_eq_true rfl) dX1_clear_7 (fun H locs hP hD hS => ?_)
  have hP : va_P D vwCl [(h0, .inr (1, [.int (-1), .long 0, .int ar, .int (bI bo)]))] H := hP
  have hD : va_D A [(h0, .inr (1, [.int (-1), .long 0, .int ar, .int (bI bo)]))] := hD
  refine lv_aload_n hx hb dX1_clear_10 rfl (lv_at hl 0 rfl) ?_
  refine lv_iconst (v := 0) hx hb dX1_clear_11 (by decide) ?_
  refine va_put (ci := 1) (v := .int 0) (ty := .int) (C := RX1) (T := TX1) (N := 4) hx hb hts m_candClear_C1 tyX1 tyX1_ok nmX1 hown hK hP hD hS 0 rfl rfl 2 (by decide) (hts (.fieldLink RX1 19 "RoutingDomain$Candidates" "areas" "I") (m_candClear_O _ (by decide +kernel))) (fun _ h9 => h9) rfl (by decide +kernel) rfl rfl (Nat.le_of_ble_eq_true rfl) dX1_clear_12 (fun H locs hP hD hS => ?_)
  have hP : va_P D vwCl [(h0, .inr (1, [.int (-1), .long 0, .int 0, .int (bI bo)]))] H := hP
  have hD : va_D A [(h0, .inr (1, [.int (-1), .long 0, .int 0, .int (bI bo)]))] := hD
  refine lv_aload_n hx hb dX1_clear_15 rfl (lv_at hl 0 rfl) ?_
  refine lv_iconst (v := 0) hx hb dX1_clear_16 (by decide) ?_
  refine va_put (ci := 1) (v := .int 0) (ty := .boolean) (C := RX1) (T := TX1) (N := 4) hx hb hts m_candClear_C1 tyX1 tyX1_ok nmX1 hown hK hP hD hS 0 rfl rfl 3 (by decide) (hts (.fieldLink RX1 22 "RoutingDomain$Candidates" "isLocal" "Z") (m_candClear_O _ (by decide +kernel))) (fun _ h9 => h9) rfl (by decide +kernel) rfl rfl (Nat.le_of_ble_eq_true rfl) dX1_clear_17 (fun H locs hP hD hS => ?_)
  have hP : va_P D vwCl [(h0, .inr (1, [.int (-1), .long 0, .int 0, .int 0]))] H := hP
  have hD : va_D A [(h0, .inr (1, [.int (-1), .long 0, .int 0, .int 0]))] := hD
  exact k_vret E hK hP hD hS () [0] (by decide) rfl trivial (Nat.le_of_ble_eq_true rfl) (Nat.le_of_ble_eq_true rfl) dX1_clear_20

def O_candOffer : List Cond := [.fieldLink RX1 9 "RoutingDomain$Candidates" "cost" "I", .methodLink RX1 26 yX1_clear, .instanceMethod yX1_clear, .selects RX1 yX1_clear yX1_clear, .initialized RX1, .fieldLink RX1 15 "RoutingDomain$Candidates" "links" "J", .fieldLink RX1 19 "RoutingDomain$Candidates" "areas" "I", .fieldLink RX1 22 "RoutingDomain$Candidates" "isLocal" "Z"]
def W_candOffer : List Cond := .code yX1_offer cX1_offer 6 none :: (O_candOffer ++ (wsX10 ++ W_candClear))
theorem m_candOffer_O : ∀ w ∈ O_candOffer, w ∈ W_candOffer := fun _ h => List.mem_cons_of_mem _ (List.mem_append_left _ h)
theorem m_candOffer_C1 : ∀ w ∈ wsX10, w ∈ W_candOffer := fun _ h => List.mem_cons_of_mem _ (List.mem_append_right _ (List.mem_append_left _ h))
theorem m_candOffer_WcandClear : ∀ w ∈ W_candClear, w ∈ W_candOffer := fun _ h => List.mem_cons_of_mem _ (List.mem_append_right _ (List.mem_append_right _ h))
theorem gdO_candOffer : O_candOffer.all goodWord = true := by decide +kernel
theorem gd_candOffer : W_candOffer.all goodWord = true := k_all_cons rfl (k_all_app gdO_candOffer (k_all_app gdC_1 gd_candClear))
set_option maxHeartbeats 4000000 in
set_option maxRecDepth 100000 in
theorem c_candOffer (l : Launch) (D : va_G) (cI cZ cJ : ClassId) (h0 : Nat) (bc : Option Nat) (bl : Nat) (ar : Int32) (bo : Bool) (c0 : Nat) (g : Nat) (a : Nat) (o : Bool) (hc0 : c0 < 2 ^ 30) (ha : a < 32) (hbc : ∀ b, bc = some b → b < 2 ^ 30) : kMv l yX1_offer W_candOffer { frames := 1, cells := 0, slots := 0, locals := 20 } 0 0 D (kT cI cZ cJ) [.ref h0, .int (nI c0), .long (lN g), .int (nI a), .int (bI o)] [(h0, .inr (1, [.int (oI bc), .long (lN bl), .int ar, .int (bI bo)]))] (S := (Option Nat) × (Nat) × (Int32) × (Bool)) (fun u => (u.1, u.2.1, u.2.2.2) = bof c0 g o (bc, bl, bo)) (fun u => [(h0, .inr (1, [.int (oI u.1), .long (lN u.2.1), .int u.2.2.1, .int (bI u.2.2.2)]))]) := by
  refine kMv_of (lv := [(0, .ref h0), (1, .int (nI c0)), (2, .long (lN g)), (4, .int (nI a)), (5, .int (bI o))]) RX1 "offer" (by decide +kernel) rfl rfl rfl (Nat.le_of_ble_eq_true rfl) rfl ?_
  intro p e s m below meth c A H locs ls E hA hK hP hD hS hl
  obtain ⟨hx, hb, hr_, hts, hown, hlocks, hml, hin, hN⟩ := id E
  rcases bc with _ | b0
  · have hP : va_P D vwCl [(h0, .inr (1, [.int (-1), .long (lN bl), .int ar, .int (bI bo)]))] H := hP
    have hD : va_D A [(h0, .inr (1, [.int (-1), .long (lN bl), .int ar, .int (bI bo)]))] := hD
    have hl : lv_has ls 6 [(0, .ref h0), (1, .int (nI c0)), (2, .long (lN g)), (4, .int (nI a)), (5, .int (bI o))] := hl
    refine lv_aload_n hx hb dX1_offer_0 rfl (lv_at hl 0 rfl) ?_
    refine va_get (ci := 1) (v := .int (-1)) (C := RX1) (T := TX1) (N := 4) hx hb hts m_candOffer_C1 hown hK hP 0 rfl rfl 0 (by decide) (hts (.fieldLink RX1 9 "RoutingDomain$Candidates" "cost" "I") (m_candOffer_O _ (by decide +kernel))) (fun _ h9 => h9) rfl dX1_offer_1 ?_
    refine lv_iconst (v := (-1)) hx hb dX1_offer_4 (by decide) ?_
    refine lv_icmp_eq (tgt := 17) hx hb dX1_offer_5 (by decide) (fun _ => ?_) (fun c => absurd (by decide) c)
    refine lv_iload_n hx hb dX1_offer_17 rfl (lv_at hl 1 rfl) ?_
    refine lv_aload_n hx hb dX1_offer_18 rfl (lv_at hl 0 rfl) ?_
    refine va_get (ci := 1) (v := .int (-1)) (C := RX1) (T := TX1) (N := 4) hx hb hts m_candOffer_C1 hown hK hP 0 rfl rfl 0 (by decide) (hts (.fieldLink RX1 9 "RoutingDomain$Candidates" "cost" "I") (m_candOffer_O _ (by decide +kernel))) (fun _ h9 => h9) rfl dX1_offer_19 ?_
    refine lv_icmp_eq (tgt := 34) hx hb dX1_offer_22 (by decide) (fun c => absurd c (nI_m1 (v := c0) (by omega))) (fun _ => ?_)
    refine lv_aload_n hx hb dX1_offer_25 rfl (lv_at hl 0 rfl) ?_
    refine kVv (As := []) (rest := []) (wr := []) (w2 := fun _ => [(h0, .inr (1, [.int (-1), .long 0, .int 0, .int 0]))]) ⟨hx, hb, hml, hown, hts⟩ hN (c_candClear l D cI cZ cJ h0 none bl ar bo) (cwV 0 hts (k_gV (fun w h => m_candOffer_O w ((by decide +kernel : ∀ w ∈ ([.methodLink RX1 26 yX1_clear, .instanceMethod yX1_clear, .selects RX1 yX1_clear yX1_clear, .initialized RX1] : List Cond), w ∈ O_candOffer) w h)) m_candOffer_WcandClear gd_candClear) rfl rfl rfl (by decide +kernel) ⟨Nat.le_of_ble_eq_true rfl, Nat.le_of_ble_eq_true rfl⟩) hK hP hD hS hA [0] [] [0] rfl rfl ⟨by decide, by decide, by decide⟩ (by decide) (fun _ => rfl) 1 0 rfl rfl rfl rfl hl.1 rfl (Nat.le_of_ble_eq_true rfl) dX1_offer_26 ⟨Nat.le_of_ble_eq_true rfl, Nat.le_of_ble_eq_true rfl⟩ (fun u H locs hw hP hD hS => ?_)
    have hP : va_P D vwCl [(h0, .inr (1, [.int (-1), .long 0, .int 0, .int 0]))] H := hP
    have hD : va_D A [(h0, .inr (1, [.int (-1), .long 0, .int 0, .int 0]))] := hD
    refine lv_aload_n hx hb dX1_offer_29 rfl (lv_at hl 0 rfl) ?_
    refine lv_iload_n hx hb dX1_offer_30 rfl (lv_at hl 1 rfl) ?_
    refine va_put (ci := 1) (v := .int (nI c0)) (ty := .int) (C := RX1) (T := TX1) (N := 4) hx hb hts m_candOffer_C1 tyX1 tyX1_ok nmX1 hown hK hP hD hS 0 rfl rfl 0 (by decide) (hts (.fieldLink RX1 9 "RoutingDomain$Candidates" "cost" "I") (m_candOffer_O _ (by decide +kernel))) (fun _ h9 => h9) rfl (by decide +kernel) rfl rfl (Nat.le_of_ble_eq_true rfl) dX1_offer_31 (fun H locs hP hD hS => ?_)
    have hP : va_P D vwCl [(h0, .inr (1, [.int (nI c0), .long 0, .int 0, .int 0]))] H := hP
    have hD : va_D A [(h0, .inr (1, [.int (nI c0), .long 0, .int 0, .int 0]))] := hD
    refine lv_aload_n hx hb dX1_offer_34 rfl (lv_at hl 0 rfl) ?_
    refine lv_dup hx hb dX1_offer_35 rfl ?_
    refine va_get (ci := 1) (v := .long 0) (C := RX1) (T := TX1) (N := 4) hx hb hts m_candOffer_C1 hown hK hP 0 rfl rfl 1 (by decide) (hts (.fieldLink RX1 15 "RoutingDomain$Candidates" "links" "J") (m_candOffer_O _ (by decide +kernel))) (fun _ h9 => h9) rfl dX1_offer_36 ?_
    refine lv_lload_n hx hb dX1_offer_39 rfl (lv_at hl 2 rfl) ?_
    refine lv_lor hx hb dX1_offer_40 ?_
    refine lv_topl (fun y ey => ?_)
    obtain rfl : y = (lN (0 ||| g)) := ey.trans (k_orL 0 g)
    refine va_put (ci := 1) (v := .long (lN (0 ||| g))) (ty := .long) (C := RX1) (T := TX1) (N := 4) hx hb hts m_candOffer_C1 tyX1 tyX1_ok nmX1 hown hK hP hD hS 0 rfl rfl 1 (by decide) (hts (.fieldLink RX1 15 "RoutingDomain$Candidates" "links" "J") (m_candOffer_O _ (by decide +kernel))) (fun _ h9 => h9) rfl (by decide +kernel) rfl rfl (Nat.le_of_ble_eq_true rfl) dX1_offer_41 (fun H locs hP hD hS => ?_)
    have hP : va_P D vwCl [(h0, .inr (1, [.int (nI c0), .long (lN (0 ||| g)), .int 0, .int 0]))] H := hP
    have hD : va_D A [(h0, .inr (1, [.int (nI c0), .long (lN (0 ||| g)), .int 0, .int 0]))] := hD
    refine lv_aload_n hx hb dX1_offer_44 rfl (lv_at hl 0 rfl) ?_
    refine lv_dup hx hb dX1_offer_45 rfl ?_
    refine va_get (ci := 1) (v := .int 0) (C := RX1) (T := TX1) (N := 4) hx hb hts m_candOffer_C1 hown hK hP 0 rfl rfl 2 (by decide) (hts (.fieldLink RX1 19 "RoutingDomain$Candidates" "areas" "I") (m_candOffer_O _ (by decide +kernel))) (fun _ h9 => h9) rfl dX1_offer_46 ?_
    refine lv_iconst (v := 1) hx hb dX1_offer_49 (by decide) ?_
    refine lv_iload hx hb dX1_offer_50 (lv_at hl 3 rfl) ?_
    refine lv_ishl hx hb dX1_offer_52 ?_
    refine lv_topi (fun y ey => ?_)
    obtain rfl : y = (nI (1 * 2 ^ a)) := ey.trans (k_shl 1 a (by omega))
    refine lv_ior hx hb dX1_offer_53 ?_
    refine lv_topi (fun y ey => ?_)
    obtain rfl : y = (nI (0 ||| (1 * 2 ^ a))) := ey.trans (k_or 0 (1 * 2 ^ a))
    refine va_put (ci := 1) (v := .int (nI (0 ||| (1 * 2 ^ a)))) (ty := .int) (C := RX1) (T := TX1) (N := 4) hx hb hts m_candOffer_C1 tyX1 tyX1_ok nmX1 hown hK hP hD hS 0 rfl rfl 2 (by decide) (hts (.fieldLink RX1 19 "RoutingDomain$Candidates" "areas" "I") (m_candOffer_O _ (by decide +kernel))) (fun _ h9 => h9) rfl (by decide +kernel) rfl rfl (Nat.le_of_ble_eq_true rfl) dX1_offer_54 (fun H locs hP hD hS => ?_)
    have hP : va_P D vwCl [(h0, .inr (1, [.int (nI c0), .long (lN (0 ||| g)), .int (nI (0 ||| (1 * 2 ^ a))), .int 0]))] H := hP
    have hD : va_D A [(h0, .inr (1, [.int (nI c0), .long (lN (0 ||| g)), .int (nI (0 ||| (1 * 2 ^ a))), .int 0]))] := hD
    refine lv_aload_n hx hb dX1_offer_57 rfl (lv_at hl 0 rfl) ?_
    refine lv_dup hx hb dX1_offer_58 rfl ?_
    refine va_get (ci := 1) (v := .int 0) (C := RX1) (T := TX1) (N := 4) hx hb hts m_candOffer_C1 hown hK hP 0 rfl rfl 3 (by decide) (hts (.fieldLink RX1 22 "RoutingDomain$Candidates" "isLocal" "Z") (m_candOffer_O _ (by decide +kernel))) (fun _ h9 => h9) rfl dX1_offer_59 ?_
    refine lv_iload hx hb dX1_offer_62 (lv_at hl 4 rfl) ?_
    refine lv_ior hx hb dX1_offer_64 ?_
    refine lv_topi (fun y ey => ?_)
    obtain rfl : y = (bI (false || o)) := ey.trans (k_orB false o)
    refine va_put (ci := 1) (v := .int (bI (false || o))) (ty := .boolean) (C := RX1) (T := TX1) (N := 4) hx hb hts m_candOffer_C1 tyX1 tyX1_ok nmX1 hown hK hP hD hS 0 rfl rfl 3 (by decide) (hts (.fieldLink RX1 22 "RoutingDomain$Candidates" "isLocal" "Z") (m_candOffer_O _ (by decide +kernel))) (fun _ h9 => h9) rfl (by decide +kernel) (nar_bI _) (fits_bI _) (Nat.le_of_ble_eq_true rfl) dX1_offer_65 (fun H locs hP hD hS => ?_)
    have hP : va_P D vwCl [(h0, .inr (1, [.int (nI c0), .long (lN (0 ||| g)), .int (nI (0 ||| (1 * 2 ^ a))), .int (bI (false || o))]))] H := hP
    have hD : va_D A [(h0, .inr (1, [.int (nI c0), .long (lN (0 ||| g)), .int (nI (0 ||| (1 * 2 ^ a))), .int (bI (false || o))]))] := hD
    exact k_vret E hK hP hD hS (some c0, 0 ||| g, (nI (0 ||| (1 * 2 ^ a))), false || o) [0] (by decide) rfl (by first | (simp [bof, ]; done) | (simp [bof, ]; omega) | (unfold bof; simp []; try omega)) (Nat.le_of_ble_eq_true rfl) (Nat.le_of_ble_eq_true rfl) dX1_offer_68
  · have hP : va_P D vwCl [(h0, .inr (1, [.int (nI b0), .long (lN bl), .int ar, .int (bI bo)]))] H := hP
    have hD : va_D A [(h0, .inr (1, [.int (nI b0), .long (lN bl), .int ar, .int (bI bo)]))] := hD
    have hl : lv_has ls 6 [(0, .ref h0), (1, .int (nI c0)), (2, .long (lN g)), (4, .int (nI a)), (5, .int (bI o))] := hl
    have hb9 := hbc b0 rfl
    refine lv_aload_n hx hb dX1_offer_0 rfl (lv_at hl 0 rfl) ?_
    refine va_get (ci := 1) (v := .int (nI b0)) (C := RX1) (T := TX1) (N := 4) hx hb hts m_candOffer_C1 hown hK hP 0 rfl rfl 0 (by decide) (hts (.fieldLink RX1 9 "RoutingDomain$Candidates" "cost" "I") (m_candOffer_O _ (by decide +kernel))) (fun _ h9 => h9) rfl dX1_offer_1 ?_
    refine lv_iconst (v := (-1)) hx hb dX1_offer_4 (by decide) ?_
    refine lv_icmp_eq (tgt := 17) hx hb dX1_offer_5 (by decide) (fun c => absurd c (nI_m1 (v := b0) (by omega))) (fun _ => ?_)
    refine lv_iload_n hx hb dX1_offer_8 rfl (lv_at hl 1 rfl) ?_
    refine lv_aload_n hx hb dX1_offer_9 rfl (lv_at hl 0 rfl) ?_
    refine va_get (ci := 1) (v := .int (nI b0)) (C := RX1) (T := TX1) (N := 4) hx hb hts m_candOffer_C1 hown hK hP 0 rfl rfl 0 (by decide) (hts (.fieldLink RX1 9 "RoutingDomain$Candidates" "cost" "I") (m_candOffer_O _ (by decide +kernel))) (fun _ h9 => h9) rfl dX1_offer_10 ?_
    refine lv_icmp_le (tgt := 17) hx hb dX1_offer_13 (by decide) (fun c_13 => ?_) (fun c_13 => ?_)
    · have n_13 : c0 ≤ b0 := (nI_leI (a := c0) (b := b0) (by omega) (by omega)).mp c_13
      refine lv_iload_n hx hb dX1_offer_17 rfl (lv_at hl 1 rfl) ?_
      refine lv_aload_n hx hb dX1_offer_18 rfl (lv_at hl 0 rfl) ?_
      refine va_get (ci := 1) (v := .int (nI b0)) (C := RX1) (T := TX1) (N := 4) hx hb hts m_candOffer_C1 hown hK hP 0 rfl rfl 0 (by decide) (hts (.fieldLink RX1 9 "RoutingDomain$Candidates" "cost" "I") (m_candOffer_O _ (by decide +kernel))) (fun _ h9 => h9) rfl dX1_offer_19 ?_
      refine lv_icmp_eq (tgt := 34) hx hb dX1_offer_22 (by decide) (fun c_22 => ?_) (fun c_22 => ?_)
      · have n_22 : c0 = b0 := (nI_eq (a := c0) (b := b0) (by omega) (by omega)).mp c_22
        refine lv_aload_n hx hb dX1_offer_34 rfl (lv_at hl 0 rfl) ?_
        refine lv_dup hx hb dX1_offer_35 rfl ?_
        refine va_get (ci := 1) (v := .long (lN bl)) (C := RX1) (T := TX1) (N := 4) hx hb hts m_candOffer_C1 hown hK hP 0 rfl rfl 1 (by decide) (hts (.fieldLink RX1 15 "RoutingDomain$Candidates" "links" "J") (m_candOffer_O _ (by decide +kernel))) (fun _ h9 => h9) rfl dX1_offer_36 ?_
        refine lv_lload_n hx hb dX1_offer_39 rfl (lv_at hl 2 rfl) ?_
        refine lv_lor hx hb dX1_offer_40 ?_
        refine lv_topl (fun y ey => ?_)
        obtain rfl : y = (lN (bl ||| g)) := ey.trans (k_orL bl g)
        refine va_put (ci := 1) (v := .long (lN (bl ||| g))) (ty := .long) (C := RX1) (T := TX1) (N := 4) hx hb hts m_candOffer_C1 tyX1 tyX1_ok nmX1 hown hK hP hD hS 0 rfl rfl 1 (by decide) (hts (.fieldLink RX1 15 "RoutingDomain$Candidates" "links" "J") (m_candOffer_O _ (by decide +kernel))) (fun _ h9 => h9) rfl (by decide +kernel) rfl rfl (Nat.le_of_ble_eq_true rfl) dX1_offer_41 (fun H locs hP hD hS => ?_)
        have hP : va_P D vwCl [(h0, .inr (1, [.int (nI b0), .long (lN (bl ||| g)), .int ar, .int (bI bo)]))] H := hP
        have hD : va_D A [(h0, .inr (1, [.int (nI b0), .long (lN (bl ||| g)), .int ar, .int (bI bo)]))] := hD
        refine lv_aload_n hx hb dX1_offer_44 rfl (lv_at hl 0 rfl) ?_
        refine lv_dup hx hb dX1_offer_45 rfl ?_
        refine va_get (ci := 1) (v := .int ar) (C := RX1) (T := TX1) (N := 4) hx hb hts m_candOffer_C1 hown hK hP 0 rfl rfl 2 (by decide) (hts (.fieldLink RX1 19 "RoutingDomain$Candidates" "areas" "I") (m_candOffer_O _ (by decide +kernel))) (fun _ h9 => h9) rfl dX1_offer_46 ?_
        refine lv_iconst (v := 1) hx hb dX1_offer_49 (by decide) ?_
        refine lv_iload hx hb dX1_offer_50 (lv_at hl 3 rfl) ?_
        refine lv_ishl hx hb dX1_offer_52 ?_
        refine lv_topi (fun y ey => ?_)
        obtain rfl : y = (nI (1 * 2 ^ a)) := ey.trans (k_shl 1 a (by omega))
        refine lv_ior hx hb dX1_offer_53 ?_
        refine va_put (ci := 1) (v := .int (ar ||| (nI (1 * 2 ^ a)))) (ty := .int) (C := RX1) (T := TX1) (N := 4) hx hb hts m_candOffer_C1 tyX1 tyX1_ok nmX1 hown hK hP hD hS 0 rfl rfl 2 (by decide) (hts (.fieldLink RX1 19 "RoutingDomain$Candidates" "areas" "I") (m_candOffer_O _ (by decide +kernel))) (fun _ h9 => h9) rfl (by decide +kernel) rfl rfl (Nat.le_of_ble_eq_true rfl) dX1_offer_54 (fun H locs hP hD hS => ?_)
        have hP : va_P D vwCl [(h0, .inr (1, [.int (nI b0), .long (lN (bl ||| g)), .int (ar ||| (nI (1 * 2 ^ a))), .int (bI bo)]))] H := hP
        have hD : va_D A [(h0, .inr (1, [.int (nI b0), .long (lN (bl ||| g)), .int (ar ||| (nI (1 * 2 ^ a))), .int (bI bo)]))] := hD
        refine lv_aload_n hx hb dX1_offer_57 rfl (lv_at hl 0 rfl) ?_
        refine lv_dup hx hb dX1_offer_58 rfl ?_
        refine va_get (ci := 1) (v := .int (bI bo)) (C := RX1) (T := TX1) (N := 4) hx hb hts m_candOffer_C1 hown hK hP 0 rfl rfl 3 (by decide) (hts (.fieldLink RX1 22 "RoutingDomain$Candidates" "isLocal" "Z") (m_candOffer_O _ (by decide +kernel))) (fun _ h9 => h9) rfl dX1_offer_59 ?_
        refine lv_iload hx hb dX1_offer_62 (lv_at hl 4 rfl) ?_
        refine lv_ior hx hb dX1_offer_64 ?_
        refine lv_topi (fun y ey => ?_)
        obtain rfl : y = (bI (bo || o)) := ey.trans (k_orB bo o)
        refine va_put (ci := 1) (v := .int (bI (bo || o))) (ty := .boolean) (C := RX1) (T := TX1) (N := 4) hx hb hts m_candOffer_C1 tyX1 tyX1_ok nmX1 hown hK hP hD hS 0 rfl rfl 3 (by decide) (hts (.fieldLink RX1 22 "RoutingDomain$Candidates" "isLocal" "Z") (m_candOffer_O _ (by decide +kernel))) (fun _ h9 => h9) rfl (by decide +kernel) (nar_bI _) (fits_bI _) (Nat.le_of_ble_eq_true rfl) dX1_offer_65 (fun H locs hP hD hS => ?_)
        have hP : va_P D vwCl [(h0, .inr (1, [.int (nI b0), .long (lN (bl ||| g)), .int (ar ||| (nI (1 * 2 ^ a))), .int (bI (bo || o))]))] H := hP
        have hD : va_D A [(h0, .inr (1, [.int (nI b0), .long (lN (bl ||| g)), .int (ar ||| (nI (1 * 2 ^ a))), .int (bI (bo || o))]))] := hD
        exact k_vret E hK hP hD hS (some b0, bl ||| g, (ar ||| (nI (1 * 2 ^ a))), bo || o) [0] (by decide) rfl (by first | (simp [bof, n_13, n_22]; done) | (simp [bof, n_13, n_22]; omega) | (unfold bof; simp [n_13, n_22]; try omega)) (Nat.le_of_ble_eq_true rfl) (Nat.le_of_ble_eq_true rfl) dX1_offer_68
      · have n_22 : ¬ c0 = b0 := fun h => c_22 ((nI_eq (a := c0) (b := b0) (by omega) (by omega)).mpr h)
        refine lv_aload_n hx hb dX1_offer_25 rfl (lv_at hl 0 rfl) ?_
        refine kVv (As := []) (rest := []) (wr := []) (w2 := fun _ => [(h0, .inr (1, [.int (-1), .long 0, .int 0, .int 0]))]) ⟨hx, hb, hml, hown, hts⟩ hN (c_candClear l D cI cZ cJ h0 (some b0) bl ar bo) (cwV 0 hts (k_gV (fun w h => m_candOffer_O w ((by decide +kernel : ∀ w ∈ ([.methodLink RX1 26 yX1_clear, .instanceMethod yX1_clear, .selects RX1 yX1_clear yX1_clear, .initialized RX1] : List Cond), w ∈ O_candOffer) w h)) m_candOffer_WcandClear gd_candClear) rfl rfl rfl (by decide +kernel) ⟨Nat.le_of_ble_eq_true rfl, Nat.le_of_ble_eq_true rfl⟩) hK hP hD hS hA [0] [] [0] rfl rfl ⟨by decide, by decide, by decide⟩ (by decide) (fun _ => rfl) 1 0 rfl rfl rfl rfl hl.1 rfl (Nat.le_of_ble_eq_true rfl) dX1_offer_26 ⟨Nat.le_of_ble_eq_true rfl, Nat.le_of_ble_eq_true rfl⟩ (fun u H locs hw hP hD hS => ?_)
        have hP : va_P D vwCl [(h0, .inr (1, [.int (-1), .long 0, .int 0, .int 0]))] H := hP
        have hD : va_D A [(h0, .inr (1, [.int (-1), .long 0, .int 0, .int 0]))] := hD
        refine lv_aload_n hx hb dX1_offer_29 rfl (lv_at hl 0 rfl) ?_
        refine lv_iload_n hx hb dX1_offer_30 rfl (lv_at hl 1 rfl) ?_
        refine va_put (ci := 1) (v := .int (nI c0)) (ty := .int) (C := RX1) (T := TX1) (N := 4) hx hb hts m_candOffer_C1 tyX1 tyX1_ok nmX1 hown hK hP hD hS 0 rfl rfl 0 (by decide) (hts (.fieldLink RX1 9 "RoutingDomain$Candidates" "cost" "I") (m_candOffer_O _ (by decide +kernel))) (fun _ h9 => h9) rfl (by decide +kernel) rfl rfl (Nat.le_of_ble_eq_true rfl) dX1_offer_31 (fun H locs hP hD hS => ?_)
        have hP : va_P D vwCl [(h0, .inr (1, [.int (nI c0), .long 0, .int 0, .int 0]))] H := hP
        have hD : va_D A [(h0, .inr (1, [.int (nI c0), .long 0, .int 0, .int 0]))] := hD
        refine lv_aload_n hx hb dX1_offer_34 rfl (lv_at hl 0 rfl) ?_
        refine lv_dup hx hb dX1_offer_35 rfl ?_
        refine va_get (ci := 1) (v := .long 0) (C := RX1) (T := TX1) (N := 4) hx hb hts m_candOffer_C1 hown hK hP 0 rfl rfl 1 (by decide) (hts (.fieldLink RX1 15 "RoutingDomain$Candidates" "links" "J") (m_candOffer_O _ (by decide +kernel))) (fun _ h9 => h9) rfl dX1_offer_36 ?_
        refine lv_lload_n hx hb dX1_offer_39 rfl (lv_at hl 2 rfl) ?_
        refine lv_lor hx hb dX1_offer_40 ?_
        refine lv_topl (fun y ey => ?_)
        obtain rfl : y = (lN (0 ||| g)) := ey.trans (k_orL 0 g)
        refine va_put (ci := 1) (v := .long (lN (0 ||| g))) (ty := .long) (C := RX1) (T := TX1) (N := 4) hx hb hts m_candOffer_C1 tyX1 tyX1_ok nmX1 hown hK hP hD hS 0 rfl rfl 1 (by decide) (hts (.fieldLink RX1 15 "RoutingDomain$Candidates" "links" "J") (m_candOffer_O _ (by decide +kernel))) (fun _ h9 => h9) rfl (by decide +kernel) rfl rfl (Nat.le_of_ble_eq_true rfl) dX1_offer_41 (fun H locs hP hD hS => ?_)
        have hP : va_P D vwCl [(h0, .inr (1, [.int (nI c0), .long (lN (0 ||| g)), .int 0, .int 0]))] H := hP
        have hD : va_D A [(h0, .inr (1, [.int (nI c0), .long (lN (0 ||| g)), .int 0, .int 0]))] := hD
        refine lv_aload_n hx hb dX1_offer_44 rfl (lv_at hl 0 rfl) ?_
        refine lv_dup hx hb dX1_offer_45 rfl ?_
        refine va_get (ci := 1) (v := .int 0) (C := RX1) (T := TX1) (N := 4) hx hb hts m_candOffer_C1 hown hK hP 0 rfl rfl 2 (by decide) (hts (.fieldLink RX1 19 "RoutingDomain$Candidates" "areas" "I") (m_candOffer_O _ (by decide +kernel))) (fun _ h9 => h9) rfl dX1_offer_46 ?_
        refine lv_iconst (v := 1) hx hb dX1_offer_49 (by decide) ?_
        refine lv_iload hx hb dX1_offer_50 (lv_at hl 3 rfl) ?_
        refine lv_ishl hx hb dX1_offer_52 ?_
        refine lv_topi (fun y ey => ?_)
        obtain rfl : y = (nI (1 * 2 ^ a)) := ey.trans (k_shl 1 a (by omega))
        refine lv_ior hx hb dX1_offer_53 ?_
        refine lv_topi (fun y ey => ?_)
        obtain rfl : y = (nI (0 ||| (1 * 2 ^ a))) := ey.trans (k_or 0 (1 * 2 ^ a))
        refine va_put (ci := 1) (v := .int (nI (0 ||| (1 * 2 ^ a)))) (ty := .int) (C := RX1) (T := TX1) (N := 4) hx hb hts m_candOffer_C1 tyX1 tyX1_ok nmX1 hown hK hP hD hS 0 rfl rfl 2 (by decide) (hts (.fieldLink RX1 19 "RoutingDomain$Candidates" "areas" "I") (m_candOffer_O _ (by decide +kernel))) (fun _ h9 => h9) rfl (by decide +kernel) rfl rfl (Nat.le_of_ble_eq_true rfl) dX1_offer_54 (fun H locs hP hD hS => ?_)
        have hP : va_P D vwCl [(h0, .inr (1, [.int (nI c0), .long (lN (0 ||| g)), .int (nI (0 ||| (1 * 2 ^ a))), .int 0]))] H := hP
        have hD : va_D A [(h0, .inr (1, [.int (nI c0), .long (lN (0 ||| g)), .int (nI (0 ||| (1 * 2 ^ a))), .int 0]))] := hD
        refine lv_aload_n hx hb dX1_offer_57 rfl (lv_at hl 0 rfl) ?_
        refine lv_dup hx hb dX1_offer_58 rfl ?_
        refine va_get (ci := 1) (v := .int 0) (C := RX1) (T := TX1) (N := 4) hx hb hts m_candOffer_C1 hown hK hP 0 rfl rfl 3 (by decide) (hts (.fieldLink RX1 22 "RoutingDomain$Candidates" "isLocal" "Z") (m_candOffer_O _ (by decide +kernel))) (fun _ h9 => h9) rfl dX1_offer_59 ?_
        refine lv_iload hx hb dX1_offer_62 (lv_at hl 4 rfl) ?_
        refine lv_ior hx hb dX1_offer_64 ?_
        refine lv_topi (fun y ey => ?_)
        obtain rfl : y = (bI (false || o)) := ey.trans (k_orB false o)
        refine va_put (ci := 1) (v := .int (bI (false || o))) (ty := .boolean) (C := RX1) (T := TX1) (N := 4) hx hb hts m_candOffer_C1 tyX1 tyX1_ok nmX1 hown hK hP hD hS 0 rfl rfl 3 (by decide) (hts (.fieldLink RX1 22 "RoutingDomain$Candidates" "isLocal" "Z") (m_candOffer_O _ (by decide +kernel))) (fun _ h9 => h9) rfl (by decide +kernel) (nar_bI _) (fits_bI _) (Nat.le_of_ble_eq_true rfl) dX1_offer_65 (fun H locs hP hD hS => ?_)
        have hP : va_P D vwCl [(h0, .inr (1, [.int (nI c0), .long (lN (0 ||| g)), .int (nI (0 ||| (1 * 2 ^ a))), .int (bI (false || o))]))] H := hP
        have hD : va_D A [(h0, .inr (1, [.int (nI c0), .long (lN (0 ||| g)), .int (nI (0 ||| (1 * 2 ^ a))), .int (bI (false || o))]))] := hD
        exact k_vret E hK hP hD hS (some c0, 0 ||| g, (nI (0 ||| (1 * 2 ^ a))), false || o) [0] (by decide) rfl (by first | (simp [bof, n_13, n_22]; done) | (simp [bof, n_13, n_22]; omega) | (unfold bof; simp [n_13, n_22]; try omega)) (Nat.le_of_ble_eq_true rfl) (Nat.le_of_ble_eq_true rfl) dX1_offer_68
    · have n_13 : ¬ c0 ≤ b0 := fun h => c_13 ((nI_leI (a := c0) (b := b0) (by omega) (by omega)).mpr h)
      exact k_vret E hK hP hD hS (some b0, bl, ar, bo) [0] (by decide) rfl (by first | (simp [bof, n_13]; done) | (simp [bof, n_13]; omega) | (unfold bof; simp [n_13]; try omega)) (Nat.le_of_ble_eq_true rfl) (Nat.le_of_ble_eq_true rfl) dX1_offer_16

