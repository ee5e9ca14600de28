set_option maxHeartbeats 4000000 in
set_option maxRecDepth 100000 in
theorem c_fill (l : Launch) (D : va_G) (cI cZ cJ : ClassId) (h0 : Nat) (n : Nat) (f : Nat → Int32) (p1 : Int32) (hn : n < 2 ^ 31) : kMv l yJ7_fill_53178 wsJ7_fill_53178 { frames := 0, cells := 0, slots := 0, locals := 0 } 0 0 D (kT cI cZ cJ) [.ref h0, .int p1] [(h0, .inl (cI, n, .inl f))] (S := (Nat → Int32)) (fun u => ∀ j, j < n → u j = p1) (fun u => [(h0, .inl (cI, n, .inl u))]) := by
  refine kMv_of (lv := [(0, .ref h0), (1, .int p1)]) RJ7 "fill" (by decide +kernel) rfl rfl rfl (Nat.le_of_ble_eq_true rfl) rfl ?_
  intro p e s m below meth c A H locs ls E hA hK hP hD hS hl
  obtain ⟨hx, hb, hr, hts, hown, hlocks, hml, hin⟩ := id E
  refine lv_iconst (v := 0) hx hb dJ7_fill_53178_0 (by decide) ?_
  refine lv_istore_n (lv' := [(2, .int 0), (0, .ref h0), (1, .int p1)]) hx hb dJ7_fill_53178_1 rfl hl (by decide) rfl (fun ls hl => ?_)
  refine lv_aload_n hx hb dJ7_fill_53178_2 rfl (lv_at hl 1 rfl) ?_
  refine va_alen (v := nI n) hx hb hK hP 0 0 rfl rfl rfl dJ7_fill_53178_3 ?_
  refine lv_istore_n (lv' := [(3, .int (nI n)), (2, .int 0), (0, .ref h0), (1, .int p1)]) hx hb dJ7_fill_53178_4 rfl hl (by decide) rfl (fun ls hl => ?_)
  refine k_loop (Nat × (Nat → Int32)) 5 4 (fun u => u.1 ≤ n ∧ ∀ j, j < u.1 → u.2 j = p1) (fun u => n - u.1) (fun u => [(h0, .inl (cI, n, .inl u.2))]) (fun u => [(0, .ref h0), (1, .int p1), (2, .int (nI u.1)), (3, .int (nI n))]) ?_ (0, f) (⟨Nat.zero_le _, fun j hj => absurd hj (Nat.not_lt_zero j)⟩) (hP.sub [0] rfl) (hD.sub [0] (by decide) rfl) hS (lv_sub hl [2, 3, 1, 0] rfl)
  intro ⟨i, g0⟩ H locs ls hinv hP hD hS hl ih
  have hinv : i ≤ n ∧ ∀ j, j < i → g0 j = p1 := hinv
  have hP : va_P D vwCl [(h0, .inl (cI, n, .inl g0))] H := hP
  have hD : va_D A [(h0, .inl (cI, n, .inl g0))] := hD
  have hl : lv_has ls 4 [(0, .ref h0), (1, .int p1), (2, .int (nI i)), (3, .int (nI n))] := hl
  refine lv_iload_n hx hb dJ7_fill_53178_5 rfl (lv_at hl 2 rfl) ?_
  refine lv_iload_n hx hb dJ7_fill_53178_6 rfl (lv_at hl 3 rfl) ?_
  refine lv_icmp_ge (tgt := 20) hx hb dJ7_fill_53178_7 (by decide) (fun c_7 => ?_) (fun c_7 => ?_)
  · have hin : i = n := by
      rcases Nat.lt_or_ge i n with q | q
      · exact absurd c_7 (nI_ge q hn)
      · omega
    subst hin
    exact k_vret E hK hP hD hS g0 [0] (by decide) rfl hinv.2 (Nat.le_of_ble_eq_true rfl) (Nat.le_of_ble_eq_true rfl) dJ7_fill_53178_20
  · have hlt : i < n := by
      rcases Nat.lt_or_ge i n with q | q
      · exact q
      · exact absurd (nI_le q (by omega)) c_7
    refine lv_aload_n hx hb dJ7_fill_53178_10 rfl (lv_at hl 0 rfl) ?_
    refine lv_iload_n hx hb dJ7_fill_53178_11 rfl (lv_at hl 2 rfl) ?_
    refine lv_iload_n hx hb dJ7_fill_53178_12 rfl (lv_at hl 1 rfl) ?_
    refine va_iast hx hb hK hP hD hS 0 0 rfl rfl (vp_in_nI hlt hn) dJ7_fill_53178_13 (fun H locs hP hD hS => ?_)
    have hP : va_P D vwCl [(h0, .inl (cI, n, .inl (upd g0 (nI i).toNatClampNeg p1)))] H := hP
    have hD : va_D A [(h0, .inl (cI, n, .inl (upd g0 (nI i).toNatClampNeg p1)))] := hD
    refine lv_iinc (v := (nI (i + 1))) (lv' := [(2, .int (nI (i + 1))), (0, .ref h0), (1, .int p1), (3, .int (nI n))]) hx hb dJ7_fill_53178_14 hl (k := 2) rfl (by rw [← nI_1]; rfl) (by decide) rfl (fun ls hl => ?_)
    refine lv_goto (tgt := 5) hx hb dJ7_fill_53178_17 (by decide) ?_
    exact ih (i + 1, (upd g0 (nI i).toNatClampNeg p1)) H locs ls (⟨by show i + 1 ≤ n; omega, k_upd_all hinv.2 (by omega)⟩) (by show n - (i + 1) < n - i; omega) (hP.sub [0] rfl) (hD.sub [0] (by decide) rfl) hS (lv_sub hl [1, 2, 0, 3] rfl)

set_option maxHeartbeats 4000000 in
set_option maxRecDepth 100000 in
theorem c_X1_init (l : Launch) (D : va_G) (cI cZ cJ : ClassId) (h0 : Nat) : kMv l yX1_init wsX1_init { frames := 1, cells := 0, slots := 0, locals := 12 } 0 0 D (kT cI cZ cJ) [.ref h0] [(h0, .inr (1, [.int 0, .long 0, .int 0, .int 0]))] (S := Unit) (fun _ => True) (fun _ => [(h0, .inr (1, [.int 0, .long 0, .int 0, .int 0]))]) := by
  refine kMv_of (lv := [(0, .ref h0)]) RX1 "<init>" (by decide +kernel) rfl rfl rfl (Nat.le_of_ble_eq_true rfl) rfl ?_
  intro p e s m below meth c A H locs ls E hA hK hP hD hS hl
  obtain ⟨hx, hb, hr, hts, hown, hlocks, hml, hin⟩ := id E
  refine lv_aload_n hx hb dX1_init_0 rfl (lv_at hl 0 rfl) ?_
  refine W.objInit hx hb hown (hts (.methodLink RX1 3 objectInit) (by decide +kernel)) (hts (.instanceMethod objectInit) (by decide +kernel)) (hts (.code objectInit ⟨#[0xb1]⟩ 1 none) (by decide +kernel)) rfl (by rw [hml]; exact hl.1) rfl dX1_init_1 (Nat.le_of_ble_eq_true rfl) (Nat.le_of_ble_eq_true rfl) ?_
  refine W.eq (g2 := F0 m 4 ls []) rfl ?_
  exact k_vret E hK hP hD hS () [0] (by decide) rfl trivial (Nat.le_of_ble_eq_true rfl) (Nat.le_of_ble_eq_true rfl) dX1_init_4

set_option maxHeartbeats 4000000 in
set_option maxRecDepth 100000 in
theorem c_X3_init (l : Launch) (D : va_G) (cI cZ cJ : ClassId) (h0 : Nat) : kMv l yX3_init wsX3_init { frames := 1, cells := 1, slots := 1024, locals := 12 } 1 1024 D (kT cI cZ cJ) [.ref h0] [(h0, .inr (3, [.int 0, .null]))] (S := Nat) (fun u => True) (fun u => [(h0, .inr (3, [.int 0, .ref u])), (u, .inl (cI, 1024, .inl (fun _ => 0)))]) := by
  refine kMv_of (lv := [(0, .ref h0)]) RX3 "<init>" (by decide +kernel) rfl rfl rfl (Nat.le_of_ble_eq_true rfl) rfl ?_
  intro p e s m below meth c A H locs ls E hA hK hP hD hS hl
  obtain ⟨hx, hb, hr, hts, hown, hlocks, hml, hin⟩ := id E
  refine lv_aload_n hx hb dX3_init_0 rfl (lv_at hl 0 rfl) ?_
  refine W.objInit hx hb hown (hts (.methodLink RX3 3 objectInit) (by decide +kernel)) (hts (.instanceMethod objectInit) (by decide +kernel)) (hts (.code objectInit ⟨#[0xb1]⟩ 1 none) (by decide +kernel)) rfl (by rw [hml]; exact hl.1) rfl dX3_init_1 (Nat.le_of_ble_eq_true rfl) (Nat.le_of_ble_eq_true rfl) ?_
  refine W.eq (g2 := F0 m 4 ls []) rfl ?_
  refine lv_aload_n hx hb dX3_init_4 rfl (lv_at hl 0 rfl) ?_
  refine lv_sipush (v := 1024) hx hb dX3_init_5 (by decide) ?_
  refine k_newa (a0 := (1024, .inl (fun _ => 0))) (N' := 1024) (ty := .int) (atype := .int) hx hb (hts (.arrayClass .int) (by decide +kernel)) rfl (by decide) hK 0 rfl hP hD hS hA (fun _ => rfl) (by decide) (by decide +kernel) (Nat.le_of_ble_eq_true rfl) (Nat.le_of_ble_eq_true rfl) (Nat.le_of_ble_eq_true rfl) dX3_init_8 (fun q1 H hP hD hS => ?_)
  have hP : va_P D vwCl [(h0, .inr (3, [.int 0, .null])), (q1, .inl (cI, 1024, .inl (fun _ => 0)))] H := hP
  have hD : va_D A [(h0, .inr (3, [.int 0, .null])), (q1, .inl (cI, 1024, .inl (fun _ => 0)))] := hD
  refine W.widen (k := 1) (n := 1024) (Nat.le_of_ble_eq_true rfl) (Nat.le_of_ble_eq_true rfl) ?_
  refine va_put (ci := 3) (v := .ref q1) (ty := (.array .int)) (C := RX3) (T := TX3) (N := 2) hx hb hts (by decide +kernel) tyX3 tyX3_ok nmX3 hown hK hP hD hS 0 rfl rfl 1 (by decide) (hts (.fieldLink RX3 9 "RoutingDomain$Mail" "messages" "[I") (by decide +kernel)) (fun _ h9 => h9) rfl (by decide +kernel) rfl rfl (Nat.le_of_ble_eq_true rfl) dX3_init_10 (fun H locs hP hD hS => ?_)
  have hP : va_P D vwCl [(h0, .inr (3, [.int 0, .ref q1])), (q1, .inl (cI, 1024, .inl (fun _ => 0)))] H := hP
  have hD : va_D A [(h0, .inr (3, [.int 0, .ref q1])), (q1, .inl (cI, 1024, .inl (fun _ => 0)))] := hD
  exact k_vret E hK hP hD hS q1 [0, 1] (by decide) rfl trivial (Nat.le_of_ble_eq_true rfl) (Nat.le_of_ble_eq_true rfl) dX3_init_13

set_option maxHeartbeats 4000000 in
set_option maxRecDepth 100000 in
theorem c_X8_init (l : Launch) (D : va_G) (cI cZ cJ : ClassId) (h0 : Nat) : kMv l yX8_init wsX8_init { frames := 2, cells := 10, slots := 2040, locals := 60 } 10 2040 D (kT cI cZ cJ) [.ref h0] [(h0, .inr (8, [.int 0, .int 0, .null, .null, .null, .null, .null, .null, .null, .null, .null, .null]))] (S := Nat × Nat × Nat × Nat × Nat × Nat × Nat × Nat × Nat × Nat × (Nat → Int32)) (fun u => (∀ j, j < 1024 → u.2.2.2.2.2.2.2.2.2.2 j = -1)) (fun u => [(h0, .inr (8, [.int 0, .int 0, .ref u.1, .ref u.2.1, .ref u.2.2.1, .ref u.2.2.2.1, .ref u.2.2.2.2.1, .ref u.2.2.2.2.2.1, .ref u.2.2.2.2.2.2.1, .ref u.2.2.2.2.2.2.2.1, .ref u.2.2.2.2.2.2.2.2.1, .ref u.2.2.2.2.2.2.2.2.2.1])), (u.1, .inl (cZ, 16, .inl (fun _ => 0))), (u.2.1, .inl (cZ, 40, .inl (fun _ => 0))), (u.2.2.1, .inl (cZ, 40, .inl (fun _ => 0))), (u.2.2.2.1, .inl (cI, 40, .inl (fun _ => 0))), (u.2.2.2.2.1, .inl (cI, 80, .inl (fun _ => 0))), (u.2.2.2.2.2.1, .inl (cI, 80, .inl (fun _ => 0))), (u.2.2.2.2.2.2.1, .inl (cI, 16, .inl (fun _ => 0))), (u.2.2.2.2.2.2.2.1, .inl (cI, 1024, .inl u.2.2.2.2.2.2.2.2.2.2)), (u.2.2.2.2.2.2.2.2.1, .inl (cI, 640, .inl (fun _ => 0))), (u.2.2.2.2.2.2.2.2.2.1, .inl (cZ, 64, .inl (fun _ => 0)))]) := by
  refine kMv_of (lv := [(0, .ref h0)]) RX8 "<init>" (by decide +kernel) rfl rfl rfl (Nat.le_of_ble_eq_true rfl) rfl ?_
  intro p e s m below meth c A H locs ls E hA hK hP hD hS hl
  obtain ⟨hx, hb, hr, hts, hown, hlocks, hml, hin⟩ := id E
  refine lv_aload_n hx hb dX8_init_0 rfl (lv_at hl 0 rfl) ?_
  refine W.objInit hx hb hown (hts (.methodLink RX8 3 objectInit) (by decide +kernel)) (hts (.instanceMethod objectInit) (by decide +kernel)) (hts (.code objectInit ⟨#[0xb1]⟩ 1 none) (by decide +kernel)) rfl (by rw [hml]; exact hl.1) rfl dX8_init_1 (Nat.le_of_ble_eq_true rfl) (Nat.le_of_ble_eq_true rfl) ?_
  refine W.eq (g2 := F0 m 4 ls []) rfl ?_
  refine lv_aload_n hx hb dX8_init_4 rfl (lv_at hl 0 rfl) ?_
  refine lv_bipush (v := 16) hx hb dX8_init_5 (by decide) ?_
  refine k_newa (a0 := (16, .inl (fun _ => 0))) (N' := 16) (ty := .boolean) (atype := .boolean) hx hb (hts (.arrayClass .boolean) (by decide +kernel)) rfl (by decide) hK 1 rfl hP hD hS hA (fun _ => rfl) (by decide) (by decide +kernel) (Nat.le_of_ble_eq_true rfl) (Nat.le_of_ble_eq_true rfl) (Nat.le_of_ble_eq_true rfl) dX8_init_7 (fun q1 H hP hD hS => ?_)
  have hP : va_P D vwCl [(h0, .inr (8, [.int 0, .int 0, .null, .null, .null, .null, .null, .null, .null, .null, .null, .null])), (q1, .inl (cZ, 16, .inl (fun _ => 0)))] H := hP
  have hD : va_D A [(h0, .inr (8, [.int 0, .int 0, .null, .null, .null, .null, .null, .null, .null, .null, .null, .null])), (q1, .inl (cZ, 16, .inl (fun _ => 0)))] := hD
  refine W.widen (k := 1) (n := 16) (Nat.le_of_ble_eq_true rfl) (Nat.le_of_ble_eq_true rfl) ?_
  refine va_putF (ci := 8) (v := .ref q1) (ty := (.array .boolean)) (C := RX8) (T := TX8) (N := 12) hx hb hts (by decide +kernel) tyX8 tyX8_ok nmX8 hown hK hP hD hS 0 rfl rfl 2 (by decide) (hts (.fieldLink RX8 9 "RoutingDomain$Topology" "isRouterUp" "[Z") (by decide +kernel)) (fun _ h9 => h9) rfl hin rfl (by decide +kernel) rfl rfl (Nat.le_of_ble_eq_true rfl) dX8_init_9 (fun H locs hP hD hS => ?_)
  have hP : va_P D vwCl [(h0, .inr (8, [.int 0, .int 0, .ref q1, .null, .null, .null, .null, .null, .null, .null, .null, .null])), (q1, .inl (cZ, 16, .inl (fun _ => 0)))] H := hP
  have hD : va_D A [(h0, .inr (8, [.int 0, .int 0, .ref q1, .null, .null, .null, .null, .null, .null, .null, .null, .null])), (q1, .inl (cZ, 16, .inl (fun _ => 0)))] := hD
  refine lv_aload_n hx hb dX8_init_12 rfl (lv_at hl 0 rfl) ?_
  refine lv_bipush (v := 40) hx hb dX8_init_13 (by decide) ?_
  refine k_newa (a0 := (40, .inl (fun _ => 0))) (N' := 40) (ty := .boolean) (atype := .boolean) hx hb (hts (.arrayClass .boolean) (by decide +kernel)) rfl (by decide) hK 1 rfl hP hD hS hA (fun _ => rfl) (by decide) (by decide +kernel) (Nat.le_of_ble_eq_true rfl) (Nat.le_of_ble_eq_true rfl) (Nat.le_of_ble_eq_true rfl) dX8_init_15 (fun q2 H hP hD hS => ?_)
  have hP : va_P D vwCl [(h0, .inr (8, [.int 0, .int 0, .ref q1, .null, .null, .null, .null, .null, .null, .null, .null, .null])), (q1, .inl (cZ, 16, .inl (fun _ => 0))), (q2, .inl (cZ, 40, .inl (fun _ => 0)))] H := hP
  have hD : va_D A [(h0, .inr (8, [.int 0, .int 0, .ref q1, .null, .null, .null, .null, .null, .null, .null, .null, .null])), (q1, .inl (cZ, 16, .inl (fun _ => 0))), (q2, .inl (cZ, 40, .inl (fun _ => 0)))] := hD
  refine W.widen (k := 2) (n := 56) (Nat.le_of_ble_eq_true rfl) (Nat.le_of_ble_eq_true rfl) ?_
  refine va_putF (ci := 8) (v := .ref q2) (ty := (.array .boolean)) (C := RX8) (T := TX8) (N := 12) hx hb hts (by decide +kernel) tyX8 tyX8_ok nmX8 hown hK hP hD hS 0 rfl rfl 3 (by decide) (hts (.fieldLink RX8 15 "RoutingDomain$Topology" "isLinkUp" "[Z") (by decide +kernel)) (fun _ h9 => h9) rfl hin rfl (by decide +kernel) rfl rfl (Nat.le_of_ble_eq_true rfl) dX8_init_17 (fun H locs hP hD hS => ?_)
  have hP : va_P D vwCl [(h0, .inr (8, [.int 0, .int 0, .ref q1, .ref q2, .null, .null, .null, .null, .null, .null, .null, .null])), (q1, .inl (cZ, 16, .inl (fun _ => 0))), (q2, .inl (cZ, 40, .inl (fun _ => 0)))] H := hP
  have hD : va_D A [(h0, .inr (8, [.int 0, .int 0, .ref q1, .ref q2, .null, .null, .null, .null, .null, .null, .null, .null])), (q1, .inl (cZ, 16, .inl (fun _ => 0))), (q2, .inl (cZ, 40, .inl (fun _ => 0)))] := hD
  refine lv_aload_n hx hb dX8_init_20 rfl (lv_at hl 0 rfl) ?_
  refine lv_bipush (v := 40) hx hb dX8_init_21 (by decide) ?_
  refine k_newa (a0 := (40, .inl (fun _ => 0))) (N' := 40) (ty := .boolean) (atype := .boolean) hx hb (hts (.arrayClass .boolean) (by decide +kernel)) rfl (by decide) hK 1 rfl hP hD hS hA (fun _ => rfl) (by decide) (by decide +kernel) (Nat.le_of_ble_eq_true rfl) (Nat.le_of_ble_eq_true rfl) (Nat.le_of_ble_eq_true rfl) dX8_init_23 (fun q3 H hP hD hS => ?_)
  have hP : va_P D vwCl [(h0, .inr (8, [.int 0, .int 0, .ref q1, .ref q2, .null, .null, .null, .null, .null, .null, .null, .null])), (q1, .inl (cZ, 16, .inl (fun _ => 0))), (q2, .inl (cZ, 40, .inl (fun _ => 0))), (q3, .inl (cZ, 40, .inl (fun _ => 0)))] H := hP
  have hD : va_D A [(h0, .inr (8, [.int 0, .int 0, .ref q1, .ref q2, .null, .null, .null, .null, .null, .null, .null, .null])), (q1, .inl (cZ, 16, .inl (fun _ => 0))), (q2, .inl (cZ, 40, .inl (fun _ => 0))), (q3, .inl (cZ, 40, .inl (fun _ => 0)))] := hD
  refine W.widen (k := 3) (n := 96) (Nat.le_of_ble_eq_true rfl) (Nat.le_of_ble_eq_true rfl) ?_
  refine va_putF (ci := 8) (v := .ref q3) (ty := (.array .boolean)) (C := RX8) (T := TX8) (N := 12) hx hb hts (by decide +kernel) tyX8 tyX8_ok nmX8 hown hK hP hD hS 0 rfl rfl 4 (by decide) (hts (.fieldLink RX8 18 "RoutingDomain$Topology" "wasUsable" "[Z") (by decide +kernel)) (fun _ h9 => h9) rfl hin rfl (by decide +kernel) rfl rfl (Nat.le_of_ble_eq_true rfl) dX8_init_25 (fun H locs hP hD hS => ?_)
  have hP : va_P D vwCl [(h0, .inr (8, [.int 0, .int 0, .ref q1, .ref q2, .ref q3, .null, .null, .null, .null, .null, .null, .null])), (q1, .inl (cZ, 16, .inl (fun _ => 0))), (q2, .inl (cZ, 40, .inl (fun _ => 0))), (q3, .inl (cZ, 40, .inl (fun _ => 0)))] H := hP
  have hD : va_D A [(h0, .inr (8, [.int 0, .int 0, .ref q1, .ref q2, .ref q3, .null, .null, .null, .null, .null, .null, .null])), (q1, .inl (cZ, 16, .inl (fun _ => 0))), (q2, .inl (cZ, 40, .inl (fun _ => 0))), (q3, .inl (cZ, 40, .inl (fun _ => 0)))] := hD
  refine lv_aload_n hx hb dX8_init_28 rfl (lv_at hl 0 rfl) ?_
  refine lv_bipush (v := 40) hx hb dX8_init_29 (by decide) ?_
  refine k_newa (a0 := (40, .inl (fun _ => 0))) (N' := 40) (ty := .int) (atype := .int) hx hb (hts (.arrayClass .int) (by decide +kernel)) rfl (by decide) hK 0 rfl hP hD hS hA (fun _ => rfl) (by decide) (by decide +kernel) (Nat.le_of_ble_eq_true rfl) (Nat.le_of_ble_eq_true rfl) (Nat.le_of_ble_eq_true rfl) dX8_init_31 (fun q4 H hP hD hS => ?_)
  have hP : va_P D vwCl [(h0, .inr (8, [.int 0, .int 0, .ref q1, .ref q2, .ref q3, .null, .null, .null, .null, .null, .null, .null])), (q1, .inl (cZ, 16, .inl (fun _ => 0))), (q2, .inl (cZ, 40, .inl (fun _ => 0))), (q3, .inl (cZ, 40, .inl (fun _ => 0))), (q4, .inl (cI, 40, .inl (fun _ => 0)))] H := hP
  have hD : va_D A [(h0, .inr (8, [.int 0, .int 0, .ref q1, .ref q2, .ref q3, .null, .null, .null, .null, .null, .null, .null])), (q1, .inl (cZ, 16, .inl (fun _ => 0))), (q2, .inl (cZ, 40, .inl (fun _ => 0))), (q3, .inl (cZ, 40, .inl (fun _ => 0))), (q4, .inl (cI, 40, .inl (fun _ => 0)))] := hD
  refine W.widen (k := 4) (n := 136) (Nat.le_of_ble_eq_true rfl) (Nat.le_of_ble_eq_true rfl) ?_
  refine va_putF (ci := 8) (v := .ref q4) (ty := (.array .int)) (C := RX8) (T := TX8) (N := 12) hx hb hts (by decide +kernel) tyX8 tyX8_ok nmX8 hown hK hP hD hS 0 rfl rfl 5 (by decide) (hts (.fieldLink RX8 21 "RoutingDomain$Topology" "areaOfLink" "[I") (by decide +kernel)) (fun _ h9 => h9) rfl hin rfl (by decide +kernel) rfl rfl (Nat.le_of_ble_eq_true rfl) dX8_init_33 (fun H locs hP hD hS => ?_)
  have hP : va_P D vwCl [(h0, .inr (8, [.int 0, .int 0, .ref q1, .ref q2, .ref q3, .ref q4, .null, .null, .null, .null, .null, .null])), (q1, .inl (cZ, 16, .inl (fun _ => 0))), (q2, .inl (cZ, 40, .inl (fun _ => 0))), (q3, .inl (cZ, 40, .inl (fun _ => 0))), (q4, .inl (cI, 40, .inl (fun _ => 0)))] H := hP
  have hD : va_D A [(h0, .inr (8, [.int 0, .int 0, .ref q1, .ref q2, .ref q3, .ref q4, .null, .null, .null, .null, .null, .null])), (q1, .inl (cZ, 16, .inl (fun _ => 0))), (q2, .inl (cZ, 40, .inl (fun _ => 0))), (q3, .inl (cZ, 40, .inl (fun _ => 0))), (q4, .inl (cI, 40, .inl (fun _ => 0)))] := hD
  refine lv_aload_n hx hb dX8_init_36 rfl (lv_at hl 0 rfl) ?_
  refine lv_bipush (v := 80) hx hb dX8_init_37 (by decide) ?_
  refine k_newa (a0 := (80, .inl (fun _ => 0))) (N' := 80) (ty := .int) (atype := .int) hx hb (hts (.arrayClass .int) (by decide +kernel)) rfl (by decide) hK 0 rfl hP hD hS hA (fun _ => rfl) (by decide) (by decide +kernel) (Nat.le_of_ble_eq_true rfl) (Nat.le_of_ble_eq_true rfl) (Nat.le_of_ble_eq_true rfl) dX8_init_39 (fun q5 H hP hD hS => ?_)
  have hP : va_P D vwCl [(h0, .inr (8, [.int 0, .int 0, .ref q1, .ref q2, .ref q3, .ref q4, .null, .null, .null, .null, .null, .null])), (q1, .inl (cZ, 16, .inl (fun _ => 0))), (q2, .inl (cZ, 40, .inl (fun _ => 0))), (q3, .inl (cZ, 40, .inl (fun _ => 0))), (q4, .inl (cI, 40, .inl (fun _ => 0))), (q5, .inl (cI, 80, .inl (fun _ => 0)))] H := hP
  have hD : va_D A [(h0, .inr (8, [.int 0, .int 0, .ref q1, .ref q2, .ref q3, .ref q4, .null, .null, .null, .null, .null, .null])), (q1, .inl (cZ, 16, .inl (fun _ => 0))), (q2, .inl (cZ, 40, .inl (fun _ => 0))), (q3, .inl (cZ, 40, .inl (fun _ => 0))), (q4, .inl (cI, 40, .inl (fun _ => 0))), (q5, .inl (cI, 80, .inl (fun _ => 0)))] := hD
  refine W.widen (k := 5) (n := 216) (Nat.le_of_ble_eq_true rfl) (Nat.le_of_ble_eq_true rfl) ?_
  refine va_putF (ci := 8) (v := .ref q5) (ty := (.array .int)) (C := RX8) (T := TX8) (N := 12) hx hb hts (by decide +kernel) tyX8 tyX8_ok nmX8 hown hK hP hD hS 0 rfl rfl 6 (by decide) (hts (.fieldLink RX8 25 "RoutingDomain$Topology" "routerOfPort" "[I") (by decide +kernel)) (fun _ h9 => h9) rfl hin rfl (by decide +kernel) rfl rfl (Nat.le_of_ble_eq_true rfl) dX8_init_41 (fun H locs hP hD hS => ?_)
  have hP : va_P D vwCl [(h0, .inr (8, [.int 0, .int 0, .ref q1, .ref q2, .ref q3, .ref q4, .ref q5, .null, .null, .null, .null, .null])), (q1, .inl (cZ, 16, .inl (fun _ => 0))), (q2, .inl (cZ, 40, .inl (fun _ => 0))), (q3, .inl (cZ, 40, .inl (fun _ => 0))), (q4, .inl (cI, 40, .inl (fun _ => 0))), (q5, .inl (cI, 80, .inl (fun _ => 0)))] H := hP
  have hD : va_D A [(h0, .inr (8, [.int 0, .int 0, .ref q1, .ref q2, .ref q3, .ref q4, .ref q5, .null, .null, .null, .null, .null])), (q1, .inl (cZ, 16, .inl (fun _ => 0))), (q2, .inl (cZ, 40, .inl (fun _ => 0))), (q3, .inl (cZ, 40, .inl (fun _ => 0))), (q4, .inl (cI, 40, .inl (fun _ => 0))), (q5, .inl (cI, 80, .inl (fun _ => 0)))] := hD
  refine lv_aload_n hx hb dX8_init_44 rfl (lv_at hl 0 rfl) ?_
  refine lv_bipush (v := 80) hx hb dX8_init_45 (by decide) ?_
  refine k_newa (a0 := (80, .inl (fun _ => 0))) (N' := 80) (ty := .int) (atype := .int) hx hb (hts (.arrayClass .int) (by decide +kernel)) rfl (by decide) hK 0 rfl hP hD hS hA (fun _ => rfl) (by decide) (by decide +kernel) (Nat.le_of_ble_eq_true rfl) (Nat.le_of_ble_eq_true rfl) (Nat.le_of_ble_eq_true rfl) dX8_init_47 (fun q6 H hP hD hS => ?_)
  have hP : va_P D vwCl [(h0, .inr (8, [.int 0, .int 0, .ref q1, .ref q2, .ref q3, .ref q4, .ref q5, .null, .null, .null, .null, .null])), (q1, .inl (cZ, 16, .inl (fun _ => 0))), (q2, .inl (cZ, 40, .inl (fun _ => 0))), (q3, .inl (cZ, 40, .inl (fun _ => 0))), (q4, .inl (cI, 40, .inl (fun _ => 0))), (q5, .inl (cI, 80, .inl (fun _ => 0))), (q6, .inl (cI, 80, .inl (fun _ => 0)))] H := hP
  have hD : va_D A [(h0, .inr (8, [.int 0, .int 0, .ref q1, .ref q2, .ref q3, .ref q4, .ref q5, .null, .null, .null, .null, .null])), (q1, .inl (cZ, 16, .inl (fun _ => 0))), (q2, .inl (cZ, 40, .inl (fun _ => 0))), (q3, .inl (cZ, 40, .inl (fun _ => 0))), (q4, .inl (cI, 40, .inl (fun _ => 0))), (q5, .inl (cI, 80, .inl (fun _ => 0))), (q6, .inl (cI, 80, .inl (fun _ => 0)))] := hD
  refine W.widen (k := 6) (n := 296) (Nat.le_of_ble_eq_true rfl) (Nat.le_of_ble_eq_true rfl) ?_
  refine va_putF (ci := 8) (v := .ref q6) (ty := (.array .int)) (C := RX8) (T := TX8) (N := 12) hx hb hts (by decide +kernel) tyX8 tyX8_ok nmX8 hown hK hP hD hS 0 rfl rfl 7 (by decide) (hts (.fieldLink RX8 28 "RoutingDomain$Topology" "metricOfPort" "[I") (by decide +kernel)) (fun _ h9 => h9) rfl hin rfl (by decide +kernel) rfl rfl (Nat.le_of_ble_eq_true rfl) dX8_init_49 (fun H locs hP hD hS => ?_)
  have hP : va_P D vwCl [(h0, .inr (8, [.int 0, .int 0, .ref q1, .ref q2, .ref q3, .ref q4, .ref q5, .ref q6, .null, .null, .null, .null])), (q1, .inl (cZ, 16, .inl (fun _ => 0))), (q2, .inl (cZ, 40, .inl (fun _ => 0))), (q3, .inl (cZ, 40, .inl (fun _ => 0))), (q4, .inl (cI, 40, .inl (fun _ => 0))), (q5, .inl (cI, 80, .inl (fun _ => 0))), (q6, .inl (cI, 80, .inl (fun _ => 0)))] H := hP
  have hD : va_D A [(h0, .inr (8, [.int 0, .int 0, .ref q1, .ref q2, .ref q3, .ref q4, .ref q5, .ref q6, .null, .null, .null, .null])), (q1, .inl (cZ, 16, .inl (fun _ => 0))), (q2, .inl (cZ, 40, .inl (fun _ => 0))), (q3, .inl (cZ, 40, .inl (fun _ => 0))), (q4, .inl (cI, 40, .inl (fun _ => 0))), (q5, .inl (cI, 80, .inl (fun _ => 0))), (q6, .inl (cI, 80, .inl (fun _ => 0)))] := hD
  refine lv_aload_n hx hb dX8_init_52 rfl (lv_at hl 0 rfl) ?_
  refine lv_bipush (v := 16) hx hb dX8_init_53 (by decide) ?_
  refine k_newa (a0 := (16, .inl (fun _ => 0))) (N' := 16) (ty := .int) (atype := .int) hx hb (hts (.arrayClass .int) (by decide +kernel)) rfl (by decide) hK 0 rfl hP hD hS hA (fun _ => rfl) (by decide) (by decide +kernel) (Nat.le_of_ble_eq_true rfl) (Nat.le_of_ble_eq_true rfl) (Nat.le_of_ble_eq_true rfl) dX8_init_55 (fun q7 H hP hD hS => ?_)
  have hP : va_P D vwCl [(h0, .inr (8, [.int 0, .int 0, .ref q1, .ref q2, .ref q3, .ref q4, .ref q5, .ref q6, .null, .null, .null, .null])), (q1, .inl (cZ, 16, .inl (fun _ => 0))), (q2, .inl (cZ, 40, .inl (fun _ => 0))), (q3, .inl (cZ, 40, .inl (fun _ => 0))), (q4, .inl (cI, 40, .inl (fun _ => 0))), (q5, .inl (cI, 80, .inl (fun _ => 0))), (q6, .inl (cI, 80, .inl (fun _ => 0))), (q7, .inl (cI, 16, .inl (fun _ => 0)))] H := hP
  have hD : va_D A [(h0, .inr (8, [.int 0, .int 0, .ref q1, .ref q2, .ref q3, .ref q4, .ref q5, .ref q6, .null, .null, .null, .null])), (q1, .inl (cZ, 16, .inl (fun _ => 0))), (q2, .inl (cZ, 40, .inl (fun _ => 0))), (q3, .inl (cZ, 40, .inl (fun _ => 0))), (q4, .inl (cI, 40, .inl (fun _ => 0))), (q5, .inl (cI, 80, .inl (fun _ => 0))), (q6, .inl (cI, 80, .inl (fun _ => 0))), (q7, .inl (cI, 16, .inl (fun _ => 0)))] := hD
  refine W.widen (k := 7) (n := 312) (Nat.le_of_ble_eq_true rfl) (Nat.le_of_ble_eq_true rfl) ?_
  refine va_putF (ci := 8) (v := .ref q7) (ty := (.array .int)) (C := RX8) (T := TX8) (N := 12) hx hb hts (by decide +kernel) tyX8 tyX8_ok nmX8 hown hK hP hD hS 0 rfl rfl 8 (by decide) (hts (.fieldLink RX8 31 "RoutingDomain$Topology" "portCount" "[I") (by decide +kernel)) (fun _ h9 => h9) rfl hin rfl (by decide +kernel) rfl rfl (Nat.le_of_ble_eq_true rfl) dX8_init_57 (fun H locs hP hD hS => ?_)
  have hP : va_P D vwCl [(h0, .inr (8, [.int 0, .int 0, .ref q1, .ref q2, .ref q3, .ref q4, .ref q5, .ref q6, .ref q7, .null, .null, .null])), (q1, .inl (cZ, 16, .inl (fun _ => 0))), (q2, .inl (cZ, 40, .inl (fun _ => 0))), (q3, .inl (cZ, 40, .inl (fun _ => 0))), (q4, .inl (cI, 40, .inl (fun _ => 0))), (q5, .inl (cI, 80, .inl (fun _ => 0))), (q6, .inl (cI, 80, .inl (fun _ => 0))), (q7, .inl (cI, 16, .inl (fun _ => 0)))] H := hP
  have hD : va_D A [(h0, .inr (8, [.int 0, .int 0, .ref q1, .ref q2, .ref q3, .ref q4, .ref q5, .ref q6, .ref q7, .null, .null, .null])), (q1, .inl (cZ, 16, .inl (fun _ => 0))), (q2, .inl (cZ, 40, .inl (fun _ => 0))), (q3, .inl (cZ, 40, .inl (fun _ => 0))), (q4, .inl (cI, 40, .inl (fun _ => 0))), (q5, .inl (cI, 80, .inl (fun _ => 0))), (q6, .inl (cI, 80, .inl (fun _ => 0))), (q7, .inl (cI, 16, .inl (fun _ => 0)))] := hD
  refine lv_aload_n hx hb dX8_init_60 rfl (lv_at hl 0 rfl) ?_
  refine lv_sipush (v := 1024) hx hb dX8_init_61 (by decide) ?_
  refine k_newa (a0 := (1024, .inl (fun _ => 0))) (N' := 1024) (ty := .int) (atype := .int) hx hb (hts (.arrayClass .int) (by decide +kernel)) rfl (by decide) hK 0 rfl hP hD hS hA (fun _ => rfl) (by decide) (by decide +kernel) (Nat.le_of_ble_eq_true rfl) (Nat.le_of_ble_eq_true rfl) (Nat.le_of_ble_eq_true rfl) dX8_init_64 (fun q8 H hP hD hS => ?_)
  have hP : va_P D vwCl [(h0, .inr (8, [.int 0, .int 0, .ref q1, .ref q2, .ref q3, .ref q4, .ref q5, .ref q6, .ref q7, .null, .null, .null])), (q1, .inl (cZ, 16, .inl (fun _ => 0))), (q2, .inl (cZ, 40, .inl (fun _ => 0))), (q3, .inl (cZ, 40, .inl (fun _ => 0))), (q4, .inl (cI, 40, .inl (fun _ => 0))), (q5, .inl (cI, 80, .inl (fun _ => 0))), (q6, .inl (cI, 80, .inl (fun _ => 0))), (q7, .inl (cI, 16, .inl (fun _ => 0))), (q8, .inl (cI, 1024, .inl (fun _ => 0)))] H := hP
  have hD : va_D A [(h0, .inr (8, [.int 0, .int 0, .ref q1, .ref q2, .ref q3, .ref q4, .ref q5, .ref q6, .ref q7, .null, .null, .null])), (q1, .inl (cZ, 16, .inl (fun _ => 0))), (q2, .inl (cZ, 40, .inl (fun _ => 0))), (q3, .inl (cZ, 40, .inl (fun _ => 0))), (q4, .inl (cI, 40, .inl (fun _ => 0))), (q5, .inl (cI, 80, .inl (fun _ => 0))), (q6, .inl (cI, 80, .inl (fun _ => 0))), (q7, .inl (cI, 16, .inl (fun _ => 0))), (q8, .inl (cI, 1024, .inl (fun _ => 0)))] := hD
  refine W.widen (k := 8) (n := 1336) (Nat.le_of_ble_eq_true rfl) (Nat.le_of_ble_eq_true rfl) ?_
  refine va_putF (ci := 8) (v := .ref q8) (ty := (.array .int)) (C := RX8) (T := TX8) (N := 12) hx hb hts (by decide +kernel) tyX8 tyX8_ok nmX8 hown hK hP hD hS 0 rfl rfl 9 (by decide) (hts (.fieldLink RX8 34 "RoutingDomain$Topology" "announced" "[I") (by decide +kernel)) (fun _ h9 => h9) rfl hin rfl (by decide +kernel) rfl rfl (Nat.le_of_ble_eq_true rfl) dX8_init_66 (fun H locs hP hD hS => ?_)
  have hP : va_P D vwCl [(h0, .inr (8, [.int 0, .int 0, .ref q1, .ref q2, .ref q3, .ref q4, .ref q5, .ref q6, .ref q7, .ref q8, .null, .null])), (q1, .inl (cZ, 16, .inl (fun _ => 0))), (q2, .inl (cZ, 40, .inl (fun _ => 0))), (q3, .inl (cZ, 40, .inl (fun _ => 0))), (q4, .inl (cI, 40, .inl (fun _ => 0))), (q5, .inl (cI, 80, .inl (fun _ => 0))), (q6, .inl (cI, 80, .inl (fun _ => 0))), (q7, .inl (cI, 16, .inl (fun _ => 0))), (q8, .inl (cI, 1024, .inl (fun _ => 0)))] H := hP
  have hD : va_D A [(h0, .inr (8, [.int 0, .int 0, .ref q1, .ref q2, .ref q3, .ref q4, .ref q5, .ref q6, .ref q7, .ref q8, .null, .null])), (q1, .inl (cZ, 16, .inl (fun _ => 0))), (q2, .inl (cZ, 40, .inl (fun _ => 0))), (q3, .inl (cZ, 40, .inl (fun _ => 0))), (q4, .inl (cI, 40, .inl (fun _ => 0))), (q5, .inl (cI, 80, .inl (fun _ => 0))), (q6, .inl (cI, 80, .inl (fun _ => 0))), (q7, .inl (cI, 16, .inl (fun _ => 0))), (q8, .inl (cI, 1024, .inl (fun _ => 0)))] := hD
  refine lv_aload_n hx hb dX8_init_69 rfl (lv_at hl 0 rfl) ?_
  refine lv_sipush (v := 640) hx hb dX8_init_70 (by decide) ?_
  refine k_newa (a0 := (640, .inl (fun _ => 0))) (N' := 640) (ty := .int) (atype := .int) hx hb (hts (.arrayClass .int) (by decide +kernel)) rfl (by decide) hK 0 rfl hP hD hS hA (fun _ => rfl) (by decide) (by decide +kernel) (Nat.le_of_ble_eq_true rfl) (Nat.le_of_ble_eq_true rfl) (Nat.le_of_ble_eq_true rfl) dX8_init_73 (fun q9 H hP hD hS => ?_)
  have hP : va_P D vwCl [(h0, .inr (8, [.int 0, .int 0, .ref q1, .ref q2, .ref q3, .ref q4, .ref q5, .ref q6, .ref q7, .ref q8, .null, .null])), (q1, .inl (cZ, 16, .inl (fun _ => 0))), (q2, .inl (cZ, 40, .inl (fun _ => 0))), (q3, .inl (cZ, 40, .inl (fun _ => 0))), (q4, .inl (cI, 40, .inl (fun _ => 0))), (q5, .inl (cI, 80, .inl (fun _ => 0))), (q6, .inl (cI, 80, .inl (fun _ => 0))), (q7, .inl (cI, 16, .inl (fun _ => 0))), (q8, .inl (cI, 1024, .inl (fun _ => 0))), (q9, .inl (cI, 640, .inl (fun _ => 0)))] H := hP
  have hD : va_D A [(h0, .inr (8, [.int 0, .int 0, .ref q1, .ref q2, .ref q3, .ref q4, .ref q5, .ref q6, .ref q7, .ref q8, .null, .null])), (q1, .inl (cZ, 16, .inl (fun _ => 0))), (q2, .inl (cZ, 40, .inl (fun _ => 0))), (q3, .inl (cZ, 40, .inl (fun _ => 0))), (q4, .inl (cI, 40, .inl (fun _ => 0))), (q5, .inl (cI, 80, .inl (fun _ => 0))), (q6, .inl (cI, 80, .inl (fun _ => 0))), (q7, .inl (cI, 16, .inl (fun _ => 0))), (q8, .inl (cI, 1024, .inl (fun _ => 0))), (q9, .inl (cI, 640, .inl (fun _ => 0)))] := hD
  refine W.widen (k := 9) (n := 1976) (Nat.le_of_ble_eq_true rfl) (Nat.le_of_ble_eq_true rfl) ?_
  refine va_putF (ci := 8) (v := .ref q9) (ty := (.array .int)) (C := RX8) (T := TX8) (N := 12) hx hb hts (by decide +kernel) tyX8 tyX8_ok nmX8 hown hK hP hD hS 0 rfl rfl 10 (by decide) (hts (.fieldLink RX8 37 "RoutingDomain$Topology" "ports" "[I") (by decide +kernel)) (fun _ h9 => h9) rfl hin rfl (by decide +kernel) rfl rfl (Nat.le_of_ble_eq_true rfl) dX8_init_75 (fun H locs hP hD hS => ?_)
  have hP : va_P D vwCl [(h0, .inr (8, [.int 0, .int 0, .ref q1, .ref q2, .ref q3, .ref q4, .ref q5, .ref q6, .ref q7, .ref q8, .ref q9, .null])), (q1, .inl (cZ, 16, .inl (fun _ => 0))), (q2, .inl (cZ, 40, .inl (fun _ => 0))), (q3, .inl (cZ, 40, .inl (fun _ => 0))), (q4, .inl (cI, 40, .inl (fun _ => 0))), (q5, .inl (cI, 80, .inl (fun _ => 0))), (q6, .inl (cI, 80, .inl (fun _ => 0))), (q7, .inl (cI, 16, .inl (fun _ => 0))), (q8, .inl (cI, 1024, .inl (fun _ => 0))), (q9, .inl (cI, 640, .inl (fun _ => 0)))] H := hP
  have hD : va_D A [(h0, .inr (8, [.int 0, .int 0, .ref q1, .ref q2, .ref q3, .ref q4, .ref q5, .ref q6, .ref q7, .ref q8, .ref q9, .null])), (q1, .inl (cZ, 16, .inl (fun _ => 0))), (q2, .inl (cZ, 40, .inl (fun _ => 0))), (q3, .inl (cZ, 40, .inl (fun _ => 0))), (q4, .inl (cI, 40, .inl (fun _ => 0))), (q5, .inl (cI, 80, .inl (fun _ => 0))), (q6, .inl (cI, 80, .inl (fun _ => 0))), (q7, .inl (cI, 16, .inl (fun _ => 0))), (q8, .inl (cI, 1024, .inl (fun _ => 0))), (q9, .inl (cI, 640, .inl (fun _ => 0)))] := hD
  refine lv_aload_n hx hb dX8_init_78 rfl (lv_at hl 0 rfl) ?_
  refine lv_bipush (v := 64) hx hb dX8_init_79 (by decide) ?_
  refine k_newa (a0 := (64, .inl (fun _ => 0))) (N' := 64) (ty := .boolean) (atype := .boolean) hx hb (hts (.arrayClass .boolean) (by decide +kernel)) rfl (by decide) hK 1 rfl hP hD hS hA (fun _ => rfl) (by decide) (by decide +kernel) (Nat.le_of_ble_eq_true rfl) (Nat.le_of_ble_eq_true rfl) (Nat.le_of_ble_eq_true rfl) dX8_init_81 (fun q10 H hP hD hS => ?_)
  have hP : va_P D vwCl [(h0, .inr (8, [.int 0, .int 0, .ref q1, .ref q2, .ref q3, .ref q4, .ref q5, .ref q6, .ref q7, .ref q8, .ref q9, .null])), (q1, .inl (cZ, 16, .inl (fun _ => 0))), (q2, .inl (cZ, 40, .inl (fun _ => 0))), (q3, .inl (cZ, 40, .inl (fun _ => 0))), (q4, .inl (cI, 40, .inl (fun _ => 0))), (q5, .inl (cI, 80, .inl (fun _ => 0))), (q6, .inl (cI, 80, .inl (fun _ => 0))), (q7, .inl (cI, 16, .inl (fun _ => 0))), (q8, .inl (cI, 1024, .inl (fun _ => 0))), (q9, .inl (cI, 640, .inl (fun _ => 0))), (q10, .inl (cZ, 64, .inl (fun _ => 0)))] H := hP
  have hD : va_D A [(h0, .inr (8, [.int 0, .int 0, .ref q1, .ref q2, .ref q3, .ref q4, .ref q5, .ref q6, .ref q7, .ref q8, .ref q9, .null])), (q1, .inl (cZ, 16, .inl (fun _ => 0))), (q2, .inl (cZ, 40, .inl (fun _ => 0))), (q3, .inl (cZ, 40, .inl (fun _ => 0))), (q4, .inl (cI, 40, .inl (fun _ => 0))), (q5, .inl (cI, 80, .inl (fun _ => 0))), (q6, .inl (cI, 80, .inl (fun _ => 0))), (q7, .inl (cI, 16, .inl (fun _ => 0))), (q8, .inl (cI, 1024, .inl (fun _ => 0))), (q9, .inl (cI, 640, .inl (fun _ => 0))), (q10, .inl (cZ, 64, .inl (fun _ => 0)))] := hD
  refine W.widen (k := 10) (n := 2040) (Nat.le_of_ble_eq_true rfl) (Nat.le_of_ble_eq_true rfl) ?_
  refine va_putF (ci := 8) (v := .ref q10) (ty := (.array .boolean)) (C := RX8) (T := TX8) (N := 12) hx hb hts (by decide +kernel) tyX8 tyX8_ok nmX8 hown hK hP hD hS 0 rfl rfl 11 (by decide) (hts (.fieldLink RX8 40 "RoutingDomain$Topology" "attached" "[Z") (by decide +kernel)) (fun _ h9 => h9) rfl hin rfl (by decide +kernel) rfl rfl (Nat.le_of_ble_eq_true rfl) dX8_init_83 (fun H locs hP hD hS => ?_)
  have hP : va_P D vwCl [(h0, .inr (8, [.int 0, .int 0, .ref q1, .ref q2, .ref q3, .ref q4, .ref q5, .ref q6, .ref q7, .ref q8, .ref q9, .ref q10])), (q1, .inl (cZ, 16, .inl (fun _ => 0))), (q2, .inl (cZ, 40, .inl (fun _ => 0))), (q3, .inl (cZ, 40, .inl (fun _ => 0))), (q4, .inl (cI, 40, .inl (fun _ => 0))), (q5, .inl (cI, 80, .inl (fun _ => 0))), (q6, .inl (cI, 80, .inl (fun _ => 0))), (q7, .inl (cI, 16, .inl (fun _ => 0))), (q8, .inl (cI, 1024, .inl (fun _ => 0))), (q9, .inl (cI, 640, .inl (fun _ => 0))), (q10, .inl (cZ, 64, .inl (fun _ => 0)))] H := hP
  have hD : va_D A [(h0, .inr (8, [.int 0, .int 0, .ref q1, .ref q2, .ref q3, .ref q4, .ref q5, .ref q6, .ref q7, .ref q8, .ref q9, .ref q10])), (q1, .inl (cZ, 16, .inl (fun _ => 0))), (q2, .inl (cZ, 40, .inl (fun _ => 0))), (q3, .inl (cZ, 40, .inl (fun _ => 0))), (q4, .inl (cI, 40, .inl (fun _ => 0))), (q5, .inl (cI, 80, .inl (fun _ => 0))), (q6, .inl (cI, 80, .inl (fun _ => 0))), (q7, .inl (cI, 16, .inl (fun _ => 0))), (q8, .inl (cI, 1024, .inl (fun _ => 0))), (q9, .inl (cI, 640, .inl (fun _ => 0))), (q10, .inl (cZ, 64, .inl (fun _ => 0)))] := hD
  refine lv_aload_n hx hb dX8_init_86 rfl (lv_at hl 0 rfl) ?_
  refine va_get (ci := 8) (v := .ref q8) (C := RX8) (T := TX8) (N := 12) hx hb hts (by decide +kernel) hown hK hP 0 rfl rfl 9 (by decide) (hts (.fieldLink RX8 34 "RoutingDomain$Topology" "announced" "[I") (by decide +kernel)) (fun _ h9 => h9) rfl dX8_init_87 ?_
  refine lv_iconst (v := (-1)) hx hb dX8_init_90 (by decide) ?_
  refine kSv (As := [.ref q8, .int (-1)]) (rest := []) (wr := [(h0, .inr (8, [.int 0, .int 0, .ref q1, .ref q2, .ref q3, .ref q4, .ref q5, .ref q6, .ref q7, .ref q8, .ref q9, .ref q10])), (q1, .inl (cZ, 16, .inl (fun _ => 0))), (q2, .inl (cZ, 40, .inl (fun _ => 0))), (q3, .inl (cZ, 40, .inl (fun _ => 0))), (q4, .inl (cI, 40, .inl (fun _ => 0))), (q5, .inl (cI, 80, .inl (fun _ => 0))), (q6, .inl (cI, 80, .inl (fun _ => 0))), (q7, .inl (cI, 16, .inl (fun _ => 0))), (q9, .inl (cI, 640, .inl (fun _ => 0))), (q10, .inl (cZ, 64, .inl (fun _ => 0)))]) (w2 := fun u => [(h0, .inr (8, [.int 0, .int 0, .ref q1, .ref q2, .ref q3, .ref q4, .ref q5, .ref q6, .ref q7, .ref q8, .ref q9, .ref q10])), (q1, .inl (cZ, 16, .inl (fun _ => 0))), (q2, .inl (cZ, 40, .inl (fun _ => 0))), (q3, .inl (cZ, 40, .inl (fun _ => 0))), (q4, .inl (cI, 40, .inl (fun _ => 0))), (q5, .inl (cI, 80, .inl (fun _ => 0))), (q6, .inl (cI, 80, .inl (fun _ => 0))), (q7, .inl (cI, 16, .inl (fun _ => 0))), (q8, .inl (cI, 1024, .inl u)), (q9, .inl (cI, 640, .inl (fun _ => 0))), (q10, .inl (cZ, 64, .inl (fun _ => 0)))]) ⟨hx, hb, hml, hown, hts⟩ (c_fill l D cI cZ cJ q8 1024 (fun _ => 0) (-1) (by decide)) (va_cwS 2 hts gX8_init_J7_fill_53178 rfl rfl rfl (by decide +kernel) ⟨Nat.le_of_ble_eq_true rfl, Nat.le_of_ble_eq_true rfl⟩) hK hP hD hS hA [8] [0, 1, 2, 3, 4, 5, 6, 7, 9, 10] [0, 1, 2, 3, 4, 5, 6, 7, 10, 8, 9] rfl rfl ⟨by decide, by decide, by decide⟩ (by decide) (fun _ => rfl) rfl hl.1 rfl (Nat.le_of_ble_eq_true rfl) dX8_init_91 ⟨Nat.le_of_ble_eq_true rfl, Nat.le_of_ble_eq_true rfl⟩ (fun u H locs hw hP hD hS => ?_)
  obtain ⟨g_11, rfl⟩ : ∃ z, z = u := ⟨_, rfl⟩
  have hP : va_P D vwCl [(h0, .inr (8, [.int 0, .int 0, .ref q1, .ref q2, .ref q3, .ref q4, .ref q5, .ref q6, .ref q7, .ref q8, .ref q9, .ref q10])), (q1, .inl (cZ, 16, .inl (fun _ => 0))), (q2, .inl (cZ, 40, .inl (fun _ => 0))), (q3, .inl (cZ, 40, .inl (fun _ => 0))), (q4, .inl (cI, 40, .inl (fun _ => 0))), (q5, .inl (cI, 80, .inl (fun _ => 0))), (q6, .inl (cI, 80, .inl (fun _ => 0))), (q7, .inl (cI, 16, .inl (fun _ => 0))), (q8, .inl (cI, 1024, .inl g_11)), (q9, .inl (cI, 640, .inl (fun _ => 0))), (q10, .inl (cZ, 64, .inl (fun _ => 0)))] H := hP
  have hD : va_D A [(h0, .inr (8, [.int 0, .int 0, .ref q1, .ref q2, .ref q3, .ref q4, .ref q5, .ref q6, .ref q7, .ref q8, .ref q9, .ref q10])), (q1, .inl (cZ, 16, .inl (fun _ => 0))), (q2, .inl (cZ, 40, .inl (fun _ => 0))), (q3, .inl (cZ, 40, .inl (fun _ => 0))), (q4, .inl (cI, 40, .inl (fun _ => 0))), (q5, .inl (cI, 80, .inl (fun _ => 0))), (q6, .inl (cI, 80, .inl (fun _ => 0))), (q7, .inl (cI, 16, .inl (fun _ => 0))), (q8, .inl (cI, 1024, .inl g_11)), (q9, .inl (cI, 640, .inl (fun _ => 0))), (q10, .inl (cZ, 64, .inl (fun _ => 0)))] := hD
  have hw_91 : ∀ j, j < 1024 → g_11 j = (-1) := hw
  exact k_vret E hK hP hD hS (q1, q2, q3, q4, q5, q6, q7, q8, q9, q10, g_11) [0, 1, 2, 3, 4, 5, 6, 7, 8, 9, 10] (by decide) rfl hw_91 (Nat.le_of_ble_eq_true rfl) (Nat.le_of_ble_eq_true rfl) dX8_init_94

set_option maxHeartbeats 4000000 in
set_option maxRecDepth 100000 in
theorem c_X0_init (l : Launch) (D : va_G) (cI cZ cJ : ClassId) (h0 : Nat) (b1 : Nat) : kMv l yX0_init wsX0_init { frames := 1, cells := 4, slots := 209920, locals := 60 } 4 209920 D (kT cI cZ cJ) [.ref h0, .ref b1] [(h0, .inr (0, [.int 0, .null, .null, .null, .null, .null]))] (S := Nat × Nat × Nat × Nat) (fun u => True) (fun u => [(h0, .inr (0, [.int 0, .ref u.1, .ref u.2.1, .ref u.2.2.1, .ref u.2.2.2, .ref b1])), (u.1, .inl (cI, 69632, .inl (fun _ => 0))), (u.2.1, .inl (cI, 69632, .inl (fun _ => 0))), (u.2.2.1, .inl (cI, 5120, .inl (fun _ => 0))), (u.2.2.2, .inl (cI, 65536, .inl (fun _ => 0)))]) := by
  refine kMv_of (lv := [(0, .ref h0), (1, .ref b1)]) RX0 "<init>" (by decide +kernel) rfl rfl rfl (Nat.le_of_ble_eq_true rfl) rfl ?_
  intro p e s m below meth c A H locs ls E hA hK hP hD hS hl
  obtain ⟨hx, hb, hr, hts, hown, hlocks, hml, hin⟩ := id E
  refine lv_aload_n hx hb dX0_init_0 rfl (lv_at hl 0 rfl) ?_
  refine W.objInit hx hb hown (hts (.methodLink RX0 3 objectInit) (by decide +kernel)) (hts (.instanceMethod objectInit) (by decide +kernel)) (hts (.code objectInit ⟨#[0xb1]⟩ 1 none) (by decide +kernel)) rfl (by rw [hml]; exact hl.1) rfl dX0_init_1 (Nat.le_of_ble_eq_true rfl) (Nat.le_of_ble_eq_true rfl) ?_
  refine W.eq (g2 := F0 m 4 ls []) rfl ?_
  refine lv_aload_n hx hb dX0_init_4 rfl (lv_at hl 0 rfl) ?_
  refine lv_ldc hx hb hown (hts (.constant RX0 9 (69632)) (by decide +kernel)) dX0_init_5 ?_
  refine k_newa (a0 := (69632, .inl (fun _ => 0))) (N' := 69632) (ty := .int) (atype := .int) hx hb (hts (.arrayClass .int) (by decide +kernel)) rfl (by decide) hK 0 rfl hP hD hS hA (fun _ => rfl) (by decide) (by decide +kernel) (Nat.le_of_ble_eq_true rfl) (Nat.le_of_ble_eq_true rfl) (Nat.le_of_ble_eq_true rfl) dX0_init_7 (fun q1 H hP hD hS => ?_)
  have hP : va_P D vwCl [(h0, .inr (0, [.int 0, .null, .null, .null, .null, .null])), (q1, .inl (cI, 69632, .inl (fun _ => 0)))] H := hP
  have hD : va_D A [(h0, .inr (0, [.int 0, .null, .null, .null, .null, .null])), (q1, .inl (cI, 69632, .inl (fun _ => 0)))] := hD
  refine W.widen (k := 1) (n := 69632) (Nat.le_of_ble_eq_true rfl) (Nat.le_of_ble_eq_true rfl) ?_
  refine va_putF (ci := 0) (v := .ref q1) (ty := (.array .int)) (C := RX0) (T := TX0) (N := 6) hx hb hts (by decide +kernel) tyX0 tyX0_ok nmX0 hown hK hP hD hS 0 rfl rfl 1 (by decide) (hts (.fieldLink RX0 10 "RoutingDomain$Advertisements" "sequences" "[I") (by decide +kernel)) (fun _ h9 => h9) rfl hin rfl (by decide +kernel) rfl rfl (Nat.le_of_ble_eq_true rfl) dX0_init_9 (fun H locs hP hD hS => ?_)
  have hP : va_P D vwCl [(h0, .inr (0, [.int 0, .ref q1, .null, .null, .null, .null])), (q1, .inl (cI, 69632, .inl (fun _ => 0)))] H := hP
  have hD : va_D A [(h0, .inr (0, [.int 0, .ref q1, .null, .null, .null, .null])), (q1, .inl (cI, 69632, .inl (fun _ => 0)))] := hD
  refine lv_aload_n hx hb dX0_init_12 rfl (lv_at hl 0 rfl) ?_
  refine lv_ldc hx hb hown (hts (.constant RX0 9 (69632)) (by decide +kernel)) dX0_init_13 ?_
  refine k_newa (a0 := (69632, .inl (fun _ => 0))) (N' := 69632) (ty := .int) (atype := .int) hx hb (hts (.arrayClass .int) (by decide +kernel)) rfl (by decide) hK 0 rfl hP hD hS hA (fun _ => rfl) (by decide) (by decide +kernel) (Nat.le_of_ble_eq_true rfl) (Nat.le_of_ble_eq_true rfl) (Nat.le_of_ble_eq_true rfl) dX0_init_15 (fun q2 H hP hD hS => ?_)
  have hP : va_P D vwCl [(h0, .inr (0, [.int 0, .ref q1, .null, .null, .null, .null])), (q1, .inl (cI, 69632, .inl (fun _ => 0))), (q2, .inl (cI, 69632, .inl (fun _ => 0)))] H := hP
  have hD : va_D A [(h0, .inr (0, [.int 0, .ref q1, .null, .null, .null, .null])), (q1, .inl (cI, 69632, .inl (fun _ => 0))), (q2, .inl (cI, 69632, .inl (fun _ => 0)))] := hD
  refine W.widen (k := 2) (n := 139264) (Nat.le_of_ble_eq_true rfl) (Nat.le_of_ble_eq_true rfl) ?_
  refine va_putF (ci := 0) (v := .ref q2) (ty := (.array .int)) (C := RX0) (T := TX0) (N := 6) hx hb hts (by decide +kernel) tyX0 tyX0_ok nmX0 hown hK hP hD hS 0 rfl rfl 2 (by decide) (hts (.fieldLink RX0 16 "RoutingDomain$Advertisements" "summaryCosts" "[I") (by decide +kernel)) (fun _ h9 => h9) rfl hin rfl (by decide +kernel) rfl rfl (Nat.le_of_ble_eq_true rfl) dX0_init_17 (fun H locs hP hD hS => ?_)
  have hP : va_P D vwCl [(h0, .inr (0, [.int 0, .ref q1, .ref q2, .null, .null, .null])), (q1, .inl (cI, 69632, .inl (fun _ => 0))), (q2, .inl (cI, 69632, .inl (fun _ => 0)))] H := hP
  have hD : va_D A [(h0, .inr (0, [.int 0, .ref q1, .ref q2, .null, .null, .null])), (q1, .inl (cI, 69632, .inl (fun _ => 0))), (q2, .inl (cI, 69632, .inl (fun _ => 0)))] := hD
  refine lv_aload_n hx hb dX0_init_20 rfl (lv_at hl 0 rfl) ?_
  refine lv_sipush (v := 5120) hx hb dX0_init_21 (by decide) ?_
  refine k_newa (a0 := (5120, .inl (fun _ => 0))) (N' := 5120) (ty := .int) (atype := .int) hx hb (hts (.arrayClass .int) (by decide +kernel)) rfl (by decide) hK 0 rfl hP hD hS hA (fun _ => rfl) (by decide) (by decide +kernel) (Nat.le_of_ble_eq_true rfl) (Nat.le_of_ble_eq_true rfl) (Nat.le_of_ble_eq_true rfl) dX0_init_24 (fun q3 H hP hD hS => ?_)
  have hP : va_P D vwCl [(h0, .inr (0, [.int 0, .ref q1, .ref q2, .null, .null, .null])), (q1, .inl (cI, 69632, .inl (fun _ => 0))), (q2, .inl (cI, 69632, .inl (fun _ => 0))), (q3, .inl (cI, 5120, .inl (fun _ => 0)))] H := hP
  have hD : va_D A [(h0, .inr (0, [.int 0, .ref q1, .ref q2, .null, .null, .null])), (q1, .inl (cI, 69632, .inl (fun _ => 0))), (q2, .inl (cI, 69632, .inl (fun _ => 0))), (q3, .inl (cI, 5120, .inl (fun _ => 0)))] := hD
  refine W.widen (k := 3) (n := 144384) (Nat.le_of_ble_eq_true rfl) (Nat.le_of_ble_eq_true rfl) ?_
  refine va_putF (ci := 0) (v := .ref q3) (ty := (.array .int)) (C := RX0) (T := TX0) (N := 6) hx hb hts (by decide +kernel) tyX0 tyX0_ok nmX0 hown hK hP hD hS 0 rfl rfl 3 (by decide) (hts (.fieldLink RX0 19 "RoutingDomain$Advertisements" "listedMetrics" "[I") (by decide +kernel)) (fun _ h9 => h9) rfl hin rfl (by decide +kernel) rfl rfl (Nat.le_of_ble_eq_true rfl) dX0_init_26 (fun H locs hP hD hS => ?_)
  have hP : va_P D vwCl [(h0, .inr (0, [.int 0, .ref q1, .ref q2, .ref q3, .null, .null])), (q1, .inl (cI, 69632, .inl (fun _ => 0))), (q2, .inl (cI, 69632, .inl (fun _ => 0))), (q3, .inl (cI, 5120, .inl (fun _ => 0)))] H := hP
  have hD : va_D A [(h0, .inr (0, [.int 0, .ref q1, .ref q2, .ref q3, .null, .null])), (q1, .inl (cI, 69632, .inl (fun _ => 0))), (q2, .inl (cI, 69632, .inl (fun _ => 0))), (q3, .inl (cI, 5120, .inl (fun _ => 0)))] := hD
  refine lv_aload_n hx hb dX0_init_29 rfl (lv_at hl 0 rfl) ?_
  refine lv_ldc hx hb hown (hts (.constant RX0 22 (65536)) (by decide +kernel)) dX0_init_30 ?_
  refine k_newa (a0 := (65536, .inl (fun _ => 0))) (N' := 65536) (ty := .int) (atype := .int) hx hb (hts (.arrayClass .int) (by decide +kernel)) rfl (by decide) hK 0 rfl hP hD hS hA (fun _ => rfl) (by decide) (by decide +kernel) (Nat.le_of_ble_eq_true rfl) (Nat.le_of_ble_eq_true rfl) (Nat.le_of_ble_eq_true rfl) dX0_init_32 (fun q4 H hP hD hS => ?_)
  have hP : va_P D vwCl [(h0, .inr (0, [.int 0, .ref q1, .ref q2, .ref q3, .null, .null])), (q1, .inl (cI, 69632, .inl (fun _ => 0))), (q2, .inl (cI, 69632, .inl (fun _ => 0))), (q3, .inl (cI, 5120, .inl (fun _ => 0))), (q4, .inl (cI, 65536, .inl (fun _ => 0)))] H := hP
  have hD : va_D A [(h0, .inr (0, [.int 0, .ref q1, .ref q2, .ref q3, .null, .null])), (q1, .inl (cI, 69632, .inl (fun _ => 0))), (q2, .inl (cI, 69632, .inl (fun _ => 0))), (q3, .inl (cI, 5120, .inl (fun _ => 0))), (q4, .inl (cI, 65536, .inl (fun _ => 0)))] := hD
  refine W.widen (k := 4) (n := 209920) (Nat.le_of_ble_eq_true rfl) (Nat.le_of_ble_eq_true rfl) ?_
  refine va_putF (ci := 0) (v := .ref q4) (ty := (.array .int)) (C := RX0) (T := TX0) (N := 6) hx hb hts (by decide +kernel) tyX0 tyX0_ok nmX0 hown hK hP hD hS 0 rfl rfl 4 (by decide) (hts (.fieldLink RX0 23 "RoutingDomain$Advertisements" "listedCosts" "[I") (by decide +kernel)) (fun _ h9 => h9) rfl hin rfl (by decide +kernel) rfl rfl (Nat.le_of_ble_eq_true rfl) dX0_init_34 (fun H locs hP hD hS => ?_)
  have hP : va_P D vwCl [(h0, .inr (0, [.int 0, .ref q1, .ref q2, .ref q3, .ref q4, .null])), (q1, .inl (cI, 69632, .inl (fun _ => 0))), (q2, .inl (cI, 69632, .inl (fun _ => 0))), (q3, .inl (cI, 5120, .inl (fun _ => 0))), (q4, .inl (cI, 65536, .inl (fun _ => 0)))] H := hP
  have hD : va_D A [(h0, .inr (0, [.int 0, .ref q1, .ref q2, .ref q3, .ref q4, .null])), (q1, .inl (cI, 69632, .inl (fun _ => 0))), (q2, .inl (cI, 69632, .inl (fun _ => 0))), (q3, .inl (cI, 5120, .inl (fun _ => 0))), (q4, .inl (cI, 65536, .inl (fun _ => 0)))] := hD
  refine lv_aload_n hx hb dX0_init_37 rfl (lv_at hl 0 rfl) ?_
  refine lv_aload_n hx hb dX0_init_38 rfl (lv_at hl 1 rfl) ?_
  refine va_putF (ci := 0) (v := .ref b1) (ty := (.object "RoutingDomain$Topology")) (C := RX0) (T := TX0) (N := 6) hx hb hts (by decide +kernel) tyX0 tyX0_ok nmX0 hown hK hP hD hS 0 rfl rfl 5 (by decide) (hts (.fieldLink RX0 26 "RoutingDomain$Advertisements" "topology" "LRoutingDomain$Topology;") (by decide +kernel)) (fun _ h9 => h9) rfl hin rfl (by decide +kernel) rfl rfl (Nat.le_of_ble_eq_true rfl) dX0_init_39 (fun H locs hP hD hS => ?_)
  have hP : va_P D vwCl [(h0, .inr (0, [.int 0, .ref q1, .ref q2, .ref q3, .ref q4, .ref b1])), (q1, .inl (cI, 69632, .inl (fun _ => 0))), (q2, .inl (cI, 69632, .inl (fun _ => 0))), (q3, .inl (cI, 5120, .inl (fun _ => 0))), (q4, .inl (cI, 65536, .inl (fun _ => 0)))] H := hP
  have hD : va_D A [(h0, .inr (0, [.int 0, .ref q1, .ref q2, .ref q3, .ref q4, .ref b1])), (q1, .inl (cI, 69632, .inl (fun _ => 0))), (q2, .inl (cI, 69632, .inl (fun _ => 0))), (q3, .inl (cI, 5120, .inl (fun _ => 0))), (q4, .inl (cI, 65536, .inl (fun _ => 0)))] := hD
  exact k_vret E hK hP hD hS (q1, q2, q3, q4) [0, 1, 2, 3, 4] (by decide) rfl trivial (Nat.le_of_ble_eq_true rfl) (Nat.le_of_ble_eq_true rfl) dX0_init_42

set_option maxHeartbeats 4000000 in
set_option maxRecDepth 100000 in
theorem c_X2_init (l : Launch) (D : va_G) (cI cZ cJ : ClassId) (h0 : Nat) : kMv l yX2_init wsX2_init { frames := 2, cells := 5, slots := 19712, locals := 60 } 5 19712 D (kT cI cZ cJ) [.ref h0] [(h0, .inr (2, [.null, .null, .null, .null, .null]))] (S := Nat × Nat × Nat × Nat × Nat × (Nat → Int32)) (fun u => (∀ j, j < 17408 → u.2.2.2.2.2 j = -1)) (fun u => [(h0, .inr (2, [.ref u.1, .ref u.2.1, .ref u.2.2.1, .ref u.2.2.2.1, .ref u.2.2.2.2.1])), (u.1, .inl (cI, 1088, .inl (fun _ => 0))), (u.2.1, .inl (cZ, 1088, .inl (fun _ => 0))), (u.2.2.1, .inl (cZ, 64, .inl (fun _ => 0))), (u.2.2.2.1, .inl (cI, 17408, .inl u.2.2.2.2.2)), (u.2.2.2.2.1, .inl (cI, 64, .inl (fun _ => 0)))]) := by
  refine kMv_of (lv := [(0, .ref h0)]) RX2 "<init>" (by decide +kernel) rfl rfl rfl (Nat.le_of_ble_eq_true rfl) rfl ?_
  intro p e s m below meth c A H locs ls E hA hK hP hD hS hl
  obtain ⟨hx, hb, hr, hts, hown, hlocks, hml, hin⟩ := id E
  refine lv_aload_n hx hb dX2_init_0 rfl (lv_at hl 0 rfl) ?_
  refine W.objInit hx hb hown (hts (.methodLink RX2 3 objectInit) (by decide +kernel)) (hts (.instanceMethod objectInit) (by decide +kernel)) (hts (.code objectInit ⟨#[0xb1]⟩ 1 none) (by decide +kernel)) rfl (by rw [hml]; exact hl.1) rfl dX2_init_1 (Nat.le_of_ble_eq_true rfl) (Nat.le_of_ble_eq_true rfl) ?_
  refine W.eq (g2 := F0 m 4 ls []) rfl ?_
  refine lv_aload_n hx hb dX2_init_4 rfl (lv_at hl 0 rfl) ?_
  refine lv_sipush (v := 1088) hx hb dX2_init_5 (by decide) ?_
  refine k_newa (a0 := (1088, .inl (fun _ => 0))) (N' := 1088) (ty := .int) (atype := .int) hx hb (hts (.arrayClass .int) (by decide +kernel)) rfl (by decide) hK 0 rfl hP hD hS hA (fun _ => rfl) (by decide) (by decide +kernel) (Nat.le_of_ble_eq_true rfl) (Nat.le_of_ble_eq_true rfl) (Nat.le_of_ble_eq_true rfl) dX2_init_8 (fun q1 H hP hD hS => ?_)
  have hP : va_P D vwCl [(h0, .inr (2, [.null, .null, .null, .null, .null])), (q1, .inl (cI, 1088, .inl (fun _ => 0)))] H := hP
  have hD : va_D A [(h0, .inr (2, [.null, .null, .null, .null, .null])), (q1, .inl (cI, 1088, .inl (fun _ => 0)))] := hD
  refine W.widen (k := 1) (n := 1088) (Nat.le_of_ble_eq_true rfl) (Nat.le_of_ble_eq_true rfl) ?_
  refine va_putF (ci := 2) (v := .ref q1) (ty := (.array .int)) (C := RX2) (T := TX2) (N := 5) hx hb hts (by decide +kernel) tyX2 tyX2_ok nmX2 hown hK hP hD hS 0 rfl rfl 0 (by decide) (hts (.fieldLink RX2 9 "RoutingDomain$Databases" "knownSequences" "[I") (by decide +kernel)) (fun _ h9 => h9) rfl hin rfl (by decide +kernel) rfl rfl (Nat.le_of_ble_eq_true rfl) dX2_init_10 (fun H locs hP hD hS => ?_)
  have hP : va_P D vwCl [(h0, .inr (2, [.ref q1, .null, .null, .null, .null])), (q1, .inl (cI, 1088, .inl (fun _ => 0)))] H := hP
  have hD : va_D A [(h0, .inr (2, [.ref q1, .null, .null, .null, .null])), (q1, .inl (cI, 1088, .inl (fun _ => 0)))] := hD
  refine lv_aload_n hx hb dX2_init_13 rfl (lv_at hl 0 rfl) ?_
  refine lv_sipush (v := 1088) hx hb dX2_init_14 (by decide) ?_
  refine k_newa (a0 := (1088, .inl (fun _ => 0))) (N' := 1088) (ty := .boolean) (atype := .boolean) hx hb (hts (.arrayClass .boolean) (by decide +kernel)) rfl (by decide) hK 1 rfl hP hD hS hA (fun _ => rfl) (by decide) (by decide +kernel) (Nat.le_of_ble_eq_true rfl) (Nat.le_of_ble_eq_true rfl) (Nat.le_of_ble_eq_true rfl) dX2_init_17 (fun q2 H hP hD hS => ?_)
  have hP : va_P D vwCl [(h0, .inr (2, [.ref q1, .null, .null, .null, .null])), (q1, .inl (cI, 1088, .inl (fun _ => 0))), (q2, .inl (cZ, 1088, .inl (fun _ => 0)))] H := hP
  have hD : va_D A [(h0, .inr (2, [.ref q1, .null, .null, .null, .null])), (q1, .inl (cI, 1088, .inl (fun _ => 0))), (q2, .inl (cZ, 1088, .inl (fun _ => 0)))] := hD
  refine W.widen (k := 2) (n := 2176) (Nat.le_of_ble_eq_true rfl) (Nat.le_of_ble_eq_true rfl) ?_
  refine va_putF (ci := 2) (v := .ref q2) (ty := (.array .boolean)) (C := RX2) (T := TX2) (N := 5) hx hb hts (by decide +kernel) tyX2 tyX2_ok nmX2 hown hK hP hD hS 0 rfl rfl 1 (by decide) (hts (.fieldLink RX2 15 "RoutingDomain$Databases" "mustRenew" "[Z") (by decide +kernel)) (fun _ h9 => h9) rfl hin rfl (by decide +kernel) rfl rfl (Nat.le_of_ble_eq_true rfl) dX2_init_19 (fun H locs hP hD hS => ?_)
  have hP : va_P D vwCl [(h0, .inr (2, [.ref q1, .ref q2, .null, .null, .null])), (q1, .inl (cI, 1088, .inl (fun _ => 0))), (q2, .inl (cZ, 1088, .inl (fun _ => 0)))] H := hP
  have hD : va_D A [(h0, .inr (2, [.ref q1, .ref q2, .null, .null, .null])), (q1, .inl (cI, 1088, .inl (fun _ => 0))), (q2, .inl (cZ, 1088, .inl (fun _ => 0)))] := hD
  refine lv_aload_n hx hb dX2_init_22 rfl (lv_at hl 0 rfl) ?_
  refine lv_bipush (v := 64) hx hb dX2_init_23 (by decide) ?_
  refine k_newa (a0 := (64, .inl (fun _ => 0))) (N' := 64) (ty := .boolean) (atype := .boolean) hx hb (hts (.arrayClass .boolean) (by decide +kernel)) rfl (by decide) hK 1 rfl hP hD hS hA (fun _ => rfl) (by decide) (by decide +kernel) (Nat.le_of_ble_eq_true rfl) (Nat.le_of_ble_eq_true rfl) (Nat.le_of_ble_eq_true rfl) dX2_init_25 (fun q3 H hP hD hS => ?_)
  have hP : va_P D vwCl [(h0, .inr (2, [.ref q1, .ref q2, .null, .null, .null])), (q1, .inl (cI, 1088, .inl (fun _ => 0))), (q2, .inl (cZ, 1088, .inl (fun _ => 0))), (q3, .inl (cZ, 64, .inl (fun _ => 0)))] H := hP
  have hD : va_D A [(h0, .inr (2, [.ref q1, .ref q2, .null, .null, .null])), (q1, .inl (cI, 1088, .inl (fun _ => 0))), (q2, .inl (cZ, 1088, .inl (fun _ => 0))), (q3, .inl (cZ, 64, .inl (fun _ => 0)))] := hD
  refine W.widen (k := 3) (n := 2240) (Nat.le_of_ble_eq_true rfl) (Nat.le_of_ble_eq_true rfl) ?_
  refine va_putF (ci := 2) (v := .ref q3) (ty := (.array .boolean)) (C := RX2) (T := TX2) (N := 5) hx hb hts (by decide +kernel) tyX2 tyX2_ok nmX2 hown hK hP hD hS 0 rfl rfl 2 (by decide) (hts (.fieldLink RX2 19 "RoutingDomain$Databases" "pathsAreOld" "[Z") (by decide +kernel)) (fun _ h9 => h9) rfl hin rfl (by decide +kernel) rfl rfl (Nat.le_of_ble_eq_true rfl) dX2_init_27 (fun H locs hP hD hS => ?_)
  have hP : va_P D vwCl [(h0, .inr (2, [.ref q1, .ref q2, .ref q3, .null, .null])), (q1, .inl (cI, 1088, .inl (fun _ => 0))), (q2, .inl (cZ, 1088, .inl (fun _ => 0))), (q3, .inl (cZ, 64, .inl (fun _ => 0)))] H := hP
  have hD : va_D A [(h0, .inr (2, [.ref q1, .ref q2, .ref q3, .null, .null])), (q1, .inl (cI, 1088, .inl (fun _ => 0))), (q2, .inl (cZ, 1088, .inl (fun _ => 0))), (q3, .inl (cZ, 64, .inl (fun _ => 0)))] := hD
  refine lv_aload_n hx hb dX2_init_30 rfl (lv_at hl 0 rfl) ?_
  refine lv_sipush (v := 17408) hx hb dX2_init_31 (by decide) ?_
  refine k_newa (a0 := (17408, .inl (fun _ => 0))) (N' := 17408) (ty := .int) (atype := .int) hx hb (hts (.arrayClass .int) (by decide +kernel)) rfl (by decide) hK 0 rfl hP hD hS hA (fun _ => rfl) (by decide) (by decide +kernel) (Nat.le_of_ble_eq_true rfl) (Nat.le_of_ble_eq_true rfl) (Nat.le_of_ble_eq_true rfl) dX2_init_34 (fun q4 H hP hD hS => ?_)
  have hP : va_P D vwCl [(h0, .inr (2, [.ref q1, .ref q2, .ref q3, .null, .null])), (q1, .inl (cI, 1088, .inl (fun _ => 0))), (q2, .inl (cZ, 1088, .inl (fun _ => 0))), (q3, .inl (cZ, 64, .inl (fun _ => 0))), (q4, .inl (cI, 17408, .inl (fun _ => 0)))] H := hP
  have hD : va_D A [(h0, .inr (2, [.ref q1, .ref q2, .ref q3, .null, .null])), (q1, .inl (cI, 1088, .inl (fun _ => 0))), (q2, .inl (cZ, 1088, .inl (fun _ => 0))), (q3, .inl (cZ, 64, .inl (fun _ => 0))), (q4, .inl (cI, 17408, .inl (fun _ => 0)))] := hD
  refine W.widen (k := 4) (n := 19648) (Nat.le_of_ble_eq_true rfl) (Nat.le_of_ble_eq_true rfl) ?_
  refine va_putF (ci := 2) (v := .ref q4) (ty := (.array .int)) (C := RX2) (T := TX2) (N := 5) hx hb hts (by decide +kernel) tyX2 tyX2_ok nmX2 hown hK hP hD hS 0 rfl rfl 3 (by decide) (hts (.fieldLink RX2 22 "RoutingDomain$Databases" "held" "[I") (by decide +kernel)) (fun _ h9 => h9) rfl hin rfl (by decide +kernel) rfl rfl (Nat.le_of_ble_eq_true rfl) dX2_init_36 (fun H locs hP hD hS => ?_)
  have hP : va_P D vwCl [(h0, .inr (2, [.ref q1, .ref q2, .ref q3, .ref q4, .null])), (q1, .inl (cI, 1088, .inl (fun _ => 0))), (q2, .inl (cZ, 1088, .inl (fun _ => 0))), (q3, .inl (cZ, 64, .inl (fun _ => 0))), (q4, .inl (cI, 17408, .inl (fun _ => 0)))] H := hP
  have hD : va_D A [(h0, .inr (2, [.ref q1, .ref q2, .ref q3, .ref q4, .null])), (q1, .inl (cI, 1088, .inl (fun _ => 0))), (q2, .inl (cZ, 1088, .inl (fun _ => 0))), (q3, .inl (cZ, 64, .inl (fun _ => 0))), (q4, .inl (cI, 17408, .inl (fun _ => 0)))] := hD
  refine lv_aload_n hx hb dX2_init_39 rfl (lv_at hl 0 rfl) ?_
  refine lv_bipush (v := 64) hx hb dX2_init_40 (by decide) ?_
  refine k_newa (a0 := (64, .inl (fun _ => 0))) (N' := 64) (ty := .int) (atype := .int) hx hb (hts (.arrayClass .int) (by decide +kernel)) rfl (by decide) hK 0 rfl hP hD hS hA (fun _ => rfl) (by decide) (by decide +kernel) (Nat.le_of_ble_eq_true rfl) (Nat.le_of_ble_eq_true rfl) (Nat.le_of_ble_eq_true rfl) dX2_init_42 (fun q5 H hP hD hS => ?_)
  have hP : va_P D vwCl [(h0, .inr (2, [.ref q1, .ref q2, .ref q3, .ref q4, .null])), (q1, .inl (cI, 1088, .inl (fun _ => 0))), (q2, .inl (cZ, 1088, .inl (fun _ => 0))), (q3, .inl (cZ, 64, .inl (fun _ => 0))), (q4, .inl (cI, 17408, .inl (fun _ => 0))), (q5, .inl (cI, 64, .inl (fun _ => 0)))] H := hP
  have hD : va_D A [(h0, .inr (2, [.ref q1, .ref q2, .ref q3, .ref q4, .null])), (q1, .inl (cI, 1088, .inl (fun _ => 0))), (q2, .inl (cZ, 1088, .inl (fun _ => 0))), (q3, .inl (cZ, 64, .inl (fun _ => 0))), (q4, .inl (cI, 17408, .inl (fun _ => 0))), (q5, .inl (cI, 64, .inl (fun _ => 0)))] := hD
  refine W.widen (k := 5) (n := 19712) (Nat.le_of_ble_eq_true rfl) (Nat.le_of_ble_eq_true rfl) ?_
  refine va_putF (ci := 2) (v := .ref q5) (ty := (.array .int)) (C := RX2) (T := TX2) (N := 5) hx hb hts (by decide +kernel) tyX2 tyX2_ok nmX2 hown hK hP hD hS 0 rfl rfl 4 (by decide) (hts (.fieldLink RX2 25 "RoutingDomain$Databases" "holdersOfSlot" "[I") (by decide +kernel)) (fun _ h9 => h9) rfl hin rfl (by decide +kernel) rfl rfl (Nat.le_of_ble_eq_true rfl) dX2_init_44 (fun H locs hP hD hS => ?_)
  have hP : va_P D vwCl [(h0, .inr (2, [.ref q1, .ref q2, .ref q3, .ref q4, .ref q5])), (q1, .inl (cI, 1088, .inl (fun _ => 0))), (q2, .inl (cZ, 1088, .inl (fun _ => 0))), (q3, .inl (cZ, 64, .inl (fun _ => 0))), (q4, .inl (cI, 17408, .inl (fun _ => 0))), (q5, .inl (cI, 64, .inl (fun _ => 0)))] H := hP
  have hD : va_D A [(h0, .inr (2, [.ref q1, .ref q2, .ref q3, .ref q4, .ref q5])), (q1, .inl (cI, 1088, .inl (fun _ => 0))), (q2, .inl (cZ, 1088, .inl (fun _ => 0))), (q3, .inl (cZ, 64, .inl (fun _ => 0))), (q4, .inl (cI, 17408, .inl (fun _ => 0))), (q5, .inl (cI, 64, .inl (fun _ => 0)))] := hD
  refine lv_aload_n hx hb dX2_init_47 rfl (lv_at hl 0 rfl) ?_
  refine va_get (ci := 2) (v := .ref q4) (C := RX2) (T := TX2) (N := 5) hx hb hts (by decide +kernel) hown hK hP 0 rfl rfl 3 (by decide) (hts (.fieldLink RX2 22 "RoutingDomain$Databases" "held" "[I") (by decide +kernel)) (fun _ h9 => h9) rfl dX2_init_48 ?_
  refine lv_iconst (v := (-1)) hx hb dX2_init_51 (by decide) ?_
  refine kSv (As := [.ref q4, .int (-1)]) (rest := []) (wr := [(h0, .inr (2, [.ref q1, .ref q2, .ref q3, .ref q4, .ref q5])), (q1, .inl (cI, 1088, .inl (fun _ => 0))), (q2, .inl (cZ, 1088, .inl (fun _ => 0))), (q3, .inl (cZ, 64, .inl (fun _ => 0))), (q5, .inl (cI, 64, .inl (fun _ => 0)))]) (w2 := fun u => [(h0, .inr (2, [.ref q1, .ref q2, .ref q3, .ref q4, .ref q5])), (q1, .inl (cI, 1088, .inl (fun _ => 0))), (q2, .inl (cZ, 1088, .inl (fun _ => 0))), (q3, .inl (cZ, 64, .inl (fun _ => 0))), (q4, .inl (cI, 17408, .inl u)), (q5, .inl (cI, 64, .inl (fun _ => 0)))]) ⟨hx, hb, hml, hown, hts⟩ (c_fill l D cI cZ cJ q4 17408 (fun _ => 0) (-1) (by decide)) (va_cwS 2 hts gX2_init_J7_fill_53178 rfl rfl rfl (by decide +kernel) ⟨Nat.le_of_ble_eq_true rfl, Nat.le_of_ble_eq_true rfl⟩) hK hP hD hS hA [4] [0, 1, 2, 3, 5] [0, 1, 2, 3, 5, 4] rfl rfl ⟨by decide, by decide, by decide⟩ (by decide) (fun _ => rfl) rfl hl.1 rfl (Nat.le_of_ble_eq_true rfl) dX2_init_52 ⟨Nat.le_of_ble_eq_true rfl, Nat.le_of_ble_eq_true rfl⟩ (fun u H locs hw hP hD hS => ?_)
  obtain ⟨g_6, rfl⟩ : ∃ z, z = u := ⟨_, rfl⟩
  have hP : va_P D vwCl [(h0, .inr (2, [.ref q1, .ref q2, .ref q3, .ref q4, .ref q5])), (q1, .inl (cI, 1088, .inl (fun _ => 0))), (q2, .inl (cZ, 1088, .inl (fun _ => 0))), (q3, .inl (cZ, 64, .inl (fun _ => 0))), (q4, .inl (cI, 17408, .inl g_6)), (q5, .inl (cI, 64, .inl (fun _ => 0)))] H := hP
  have hD : va_D A [(h0, .inr (2, [.ref q1, .ref q2, .ref q3, .ref q4, .ref q5])), (q1, .inl (cI, 1088, .inl (fun _ => 0))), (q2, .inl (cZ, 1088, .inl (fun _ => 0))), (q3, .inl (cZ, 64, .inl (fun _ => 0))), (q4, .inl (cI, 17408, .inl g_6)), (q5, .inl (cI, 64, .inl (fun _ => 0)))] := hD
  have hw_52 : ∀ j, j < 17408 → g_6 j = (-1) := hw
  exact k_vret E hK hP hD hS (q1, q2, q3, q4, q5, g_6) [0, 1, 2, 3, 4, 5] (by decide) rfl hw_52 (Nat.le_of_ble_eq_true rfl) (Nat.le_of_ble_eq_true rfl) dX2_init_55

set_option maxHeartbeats 4000000 in
set_option maxRecDepth 100000 in
theorem c_X5_init (l : Launch) (D : va_G) (cI cZ cJ : ClassId) (h0 : Nat) (b1 : Nat) (b2 : Nat) (b3 : Nat) : kMv l yX5_init wsX5_init { frames := 2, cells := 2, slots := 2048, locals := 60 } 2 2048 D (kT cI cZ cJ) [.ref h0, .ref b1, .ref b2, .ref b3] [(h0, .inr (5, [.null, .null, .null, .null, .null]))] (S := Nat × Nat × (Nat → Int32)) (fun u => (∀ j, j < 1024 → u.2.2 j = -1)) (fun u => [(h0, .inr (5, [.ref u.1, .ref u.2.1, .ref b1, .ref b2, .ref b3])), (u.1, .inl (cI, 1024, .inl u.2.2)), (u.2.1, .inl (cJ, 1024, .inr (.inl (fun _ => 0))))]) := by
  refine kMv_of (lv := [(0, .ref h0), (1, .ref b1), (2, .ref b2), (3, .ref b3)]) RX5 "<init>" (by decide +kernel) rfl rfl rfl (Nat.le_of_ble_eq_true rfl) rfl ?_
  intro p e s m below meth c A H locs ls E hA hK hP hD hS hl
  obtain ⟨hx, hb, hr, hts, hown, hlocks, hml, hin⟩ := id E
  refine lv_aload_n hx hb dX5_init_0 rfl (lv_at hl 0 rfl) ?_
  refine W.objInit hx hb hown (hts (.methodLink RX5 3 objectInit) (by decide +kernel)) (hts (.instanceMethod objectInit) (by decide +kernel)) (hts (.code objectInit ⟨#[0xb1]⟩ 1 none) (by decide +kernel)) rfl (by rw [hml]; exact hl.1) rfl dX5_init_1 (Nat.le_of_ble_eq_true rfl) (Nat.le_of_ble_eq_true rfl) ?_
  refine W.eq (g2 := F0 m 4 ls []) rfl ?_
  refine lv_aload_n hx hb dX5_init_4 rfl (lv_at hl 0 rfl) ?_
  refine lv_sipush (v := 1024) hx hb dX5_init_5 (by decide) ?_
  refine k_newa (a0 := (1024, .inl (fun _ => 0))) (N' := 1024) (ty := .int) (atype := .int) hx hb (hts (.arrayClass .int) (by decide +kernel)) rfl (by decide) hK 0 rfl hP hD hS hA (fun _ => rfl) (by decide) (by decide +kernel) (Nat.le_of_ble_eq_true rfl) (Nat.le_of_ble_eq_true rfl) (Nat.le_of_ble_eq_true rfl) dX5_init_8 (fun q1 H hP hD hS => ?_)
  have hP : va_P D vwCl [(h0, .inr (5, [.null, .null, .null, .null, .null])), (q1, .inl (cI, 1024, .inl (fun _ => 0)))] H := hP
  have hD : va_D A [(h0, .inr (5, [.null, .null, .null, .null, .null])), (q1, .inl (cI, 1024, .inl (fun _ => 0)))] := hD
  refine W.widen (k := 1) (n := 1024) (Nat.le_of_ble_eq_true rfl) (Nat.le_of_ble_eq_true rfl) ?_
  refine va_putF (ci := 5) (v := .ref q1) (ty := (.array .int)) (C := RX5) (T := TX5) (N := 5) hx hb hts (by decide +kernel) tyX5 tyX5_ok nmX5 hown hK hP hD hS 0 rfl rfl 0 (by decide) (hts (.fieldLink RX5 9 "RoutingDomain$Paths" "distances" "[I") (by decide +kernel)) (fun _ h9 => h9) rfl hin rfl (by decide +kernel) rfl rfl (Nat.le_of_ble_eq_true rfl) dX5_init_10 (fun H locs hP hD hS => ?_)
  have hP : va_P D vwCl [(h0, .inr (5, [.ref q1, .null, .null, .null, .null])), (q1, .inl (cI, 1024, .inl (fun _ => 0)))] H := hP
  have hD : va_D A [(h0, .inr (5, [.ref q1, .null, .null, .null, .null])), (q1, .inl (cI, 1024, .inl (fun _ => 0)))] := hD
  refine lv_aload_n hx hb dX5_init_13 rfl (lv_at hl 0 rfl) ?_
  refine lv_sipush (v := 1024) hx hb dX5_init_14 (by decide) ?_
  refine k_newa (a0 := (1024, .inr (.inl (fun _ => 0)))) (N' := 1024) (ty := .long) (atype := .long) hx hb (hts (.arrayClass .long) (by decide +kernel)) rfl (by decide) hK 2 rfl hP hD hS hA (fun _ => rfl) (by decide) (by decide +kernel) (Nat.le_of_ble_eq_true rfl) (Nat.le_of_ble_eq_true rfl) (Nat.le_of_ble_eq_true rfl) dX5_init_17 (fun q2 H hP hD hS => ?_)
  have hP : va_P D vwCl [(h0, .inr (5, [.ref q1, .null, .null, .null, .null])), (q1, .inl (cI, 1024, .inl (fun _ => 0))), (q2, .inl (cJ, 1024, .inr (.inl (fun _ => 0))))] H := hP
  have hD : va_D A [(h0, .inr (5, [.ref q1, .null, .null, .null, .null])), (q1, .inl (cI, 1024, .inl (fun _ => 0))), (q2, .inl (cJ, 1024, .inr (.inl (fun _ => 0))))] := hD
  refine W.widen (k := 2) (n := 2048) (Nat.le_of_ble_eq_true rfl) (Nat.le_of_ble_eq_true rfl) ?_
  refine va_putF (ci := 5) (v := .ref q2) (ty := (.array .long)) (C := RX5) (T := TX5) (N := 5) hx hb hts (by decide +kernel) tyX5 tyX5_ok nmX5 hown hK hP hD hS 0 rfl rfl 1 (by decide) (hts (.fieldLink RX5 15 "RoutingDomain$Paths" "firstLinks" "[J") (by decide +kernel)) (fun _ h9 => h9) rfl hin rfl (by decide +kernel) rfl rfl (Nat.le_of_ble_eq_true rfl) dX5_init_19 (fun H locs hP hD hS => ?_)
  have hP : va_P D vwCl [(h0, .inr (5, [.ref q1, .ref q2, .null, .null, .null])), (q1, .inl (cI, 1024, .inl (fun _ => 0))), (q2, .inl (cJ, 1024, .inr (.inl (fun _ => 0))))] H := hP
  have hD : va_D A [(h0, .inr (5, [.ref q1, .ref q2, .null, .null, .null])), (q1, .inl (cI, 1024, .inl (fun _ => 0))), (q2, .inl (cJ, 1024, .inr (.inl (fun _ => 0))))] := hD
  refine lv_aload_n hx hb dX5_init_22 rfl (lv_at hl 0 rfl) ?_
  refine lv_aload_n hx hb dX5_init_23 rfl (lv_at hl 1 rfl) ?_
  refine va_putF (ci := 5) (v := .ref b1) (ty := (.object "RoutingDomain$Topology")) (C := RX5) (T := TX5) (N := 5) hx hb hts (by decide +kernel) tyX5 tyX5_ok nmX5 hown hK hP hD hS 0 rfl rfl 2 (by decide) (hts (.fieldLink RX5 19 "RoutingDomain$Paths" "topology" "LRoutingDomain$Topology;") (by decide +kernel)) (fun _ h9 => h9) rfl hin rfl (by decide +kernel) rfl rfl (Nat.le_of_ble_eq_true rfl) dX5_init_24 (fun H locs hP hD hS => ?_)
  have hP : va_P D vwCl [(h0, .inr (5, [.ref q1, .ref q2, .ref b1, .null, .null])), (q1, .inl (cI, 1024, .inl (fun _ => 0))), (q2, .inl (cJ, 1024, .inr (.inl (fun _ => 0))))] H := hP
  have hD : va_D A [(h0, .inr (5, [.ref q1, .ref q2, .ref b1, .null, .null])), (q1, .inl (cI, 1024, .inl (fun _ => 0))), (q2, .inl (cJ, 1024, .inr (.inl (fun _ => 0))))] := hD
  refine lv_aload_n hx hb dX5_init_27 rfl (lv_at hl 0 rfl) ?_
  refine lv_aload_n hx hb dX5_init_28 rfl (lv_at hl 2 rfl) ?_
  refine va_putF (ci := 5) (v := .ref b2) (ty := (.object "RoutingDomain$Advertisements")) (C := RX5) (T := TX5) (N := 5) hx hb hts (by decide +kernel) tyX5 tyX5_ok nmX5 hown hK hP hD hS 0 rfl rfl 3 (by decide) (hts (.fieldLink RX5 23 "RoutingDomain$Paths" "advertisements" "LRoutingDomain$Advertisements;") (by decide +kernel)) (fun _ h9 => h9) rfl hin rfl (by decide +kernel) rfl rfl (Nat.le_of_ble_eq_true rfl) dX5_init_29 (fun H locs hP hD hS => ?_)
  have hP : va_P D vwCl [(h0, .inr (5, [.ref q1, .ref q2, .ref b1, .ref b2, .null])), (q1, .inl (cI, 1024, .inl (fun _ => 0))), (q2, .inl (cJ, 1024, .inr (.inl (fun _ => 0))))] H := hP
  have hD : va_D A [(h0, .inr (5, [.ref q1, .ref q2, .ref b1, .ref b2, .null])), (q1, .inl (cI, 1024, .inl (fun _ => 0))), (q2, .inl (cJ, 1024, .inr (.inl (fun _ => 0))))] := hD
  refine lv_aload_n hx hb dX5_init_32 rfl (lv_at hl 0 rfl) ?_
  refine lv_aload_n hx hb dX5_init_33 rfl (lv_at hl 3 rfl) ?_
  refine va_putF (ci := 5) (v := .ref b3) (ty := (.object "RoutingDomain$Databases")) (C := RX5) (T := TX5) (N := 5) hx hb hts (by decide +kernel) tyX5 tyX5_ok nmX5 hown hK hP hD hS 0 rfl rfl 4 (by decide) (hts (.fieldLink RX5 27 "RoutingDomain$Paths" "databases" "LRoutingDomain$Databases;") (by decide +kernel)) (fun _ h9 => h9) rfl hin rfl (by decide +kernel) rfl rfl (Nat.le_of_ble_eq_true rfl) dX5_init_34 (fun H locs hP hD hS => ?_)
  have hP : va_P D vwCl [(h0, .inr (5, [.ref q1, .ref q2, .ref b1, .ref b2, .ref b3])), (q1, .inl (cI, 1024, .inl (fun _ => 0))), (q2, .inl (cJ, 1024, .inr (.inl (fun _ => 0))))] H := hP
  have hD : va_D A [(h0, .inr (5, [.ref q1, .ref q2, .ref b1, .ref b2, .ref b3])), (q1, .inl (cI, 1024, .inl (fun _ => 0))), (q2, .inl (cJ, 1024, .inr (.inl (fun _ => 0))))] := hD
  refine lv_aload_n hx hb dX5_init_37 rfl (lv_at hl 0 rfl) ?_
  refine va_get (ci := 5) (v := .ref q1) (C := RX5) (T := TX5) (N := 5) hx hb hts (by decide +kernel) hown hK hP 0 rfl rfl 0 (by decide) (hts (.fieldLink RX5 9 "RoutingDomain$Paths" "distances" "[I") (by decide +kernel)) (fun _ h9 => h9) rfl dX5_init_38 ?_
  refine lv_iconst (v := (-1)) hx hb dX5_init_41 (by decide) ?_
  refine kSv (As := [.ref q1, .int (-1)]) (rest := []) (wr := [(h0, .inr (5, [.ref q1, .ref q2, .ref b1, .ref b2, .ref b3])), (q2, .inl (cJ, 1024, .inr (.inl (fun _ => 0))))]) (w2 := fun u => [(h0, .inr (5, [.ref q1, .ref q2, .ref b1, .ref b2, .ref b3])), (q1, .inl (cI, 1024, .inl u)), (q2, .inl (cJ, 1024, .inr (.inl (fun _ => 0))))]) ⟨hx, hb, hml, hown, hts⟩ (c_fill l D cI cZ cJ q1 1024 (fun _ => 0) (-1) (by decide)) (va_cwS 2 hts gX5_init_J7_fill_53178 rfl rfl rfl (by decide +kernel) ⟨Nat.le_of_ble_eq_true rfl, Nat.le_of_ble_eq_true rfl⟩) hK hP hD hS hA [1] [0, 2] [0, 2, 1] rfl rfl ⟨by decide, by decide, by decide⟩ (by decide) (fun _ => rfl) rfl hl.1 rfl (Nat.le_of_ble_eq_true rfl) dX5_init_42 ⟨Nat.le_of_ble_eq_true rfl, Nat.le_of_ble_eq_true rfl⟩ (fun u H locs hw hP hD hS => ?_)
  obtain ⟨g_3, rfl⟩ : ∃ z, z = u := ⟨_, rfl⟩
  have hP : va_P D vwCl [(h0, .inr (5, [.ref q1, .ref q2, .ref b1, .ref b2, .ref b3])), (q1, .inl (cI, 1024, .inl g_3)), (q2, .inl (cJ, 1024, .inr (.inl (fun _ => 0))))] H := hP
  have hD : va_D A [(h0, .inr (5, [.ref q1, .ref q2, .ref b1, .ref b2, .ref b3])), (q1, .inl (cI, 1024, .inl g_3)), (q2, .inl (cJ, 1024, .inr (.inl (fun _ => 0))))] := hD
  have hw_42 : ∀ j, j < 1024 → g_3 j = (-1) := hw
  exact k_vret E hK hP hD hS (q1, q2, g_3) [0, 1, 2] (by decide) rfl hw_42 (Nat.le_of_ble_eq_true rfl) (Nat.le_of_ble_eq_true rfl) dX5_init_45

set_option maxHeartbeats 4000000 in
set_option maxRecDepth 100000 in
theorem c_X4_init (l : Launch) (D : va_G) (cI cZ cJ : ClassId) (h0 : Nat) (b1 : Nat) (b2 : Nat) : kMv l yX4_init wsX4_init { frames := 1, cells := 1, slots := 33, locals := 60 } 1 33 D (kT cI cZ cJ) [.ref h0, .ref b1, .ref b2] [(h0, .inr (4, [.int 0, .null, .null, .null]))] (S := Nat) (fun u => True) (fun u => [(h0, .inr (4, [.int 0, .ref u, .ref b1, .ref b2])), (u, .inl (cI, 33, .inl (fun _ => 0)))]) := by
  refine kMv_of (lv := [(0, .ref h0), (1, .ref b1), (2, .ref b2)]) RX4 "<init>" (by decide +kernel) rfl rfl rfl (Nat.le_of_ble_eq_true rfl) rfl ?_
  intro p e s m below meth c A H locs ls E hA hK hP hD hS hl
  obtain ⟨hx, hb, hr, hts, hown, hlocks, hml, hin⟩ := id E
  refine lv_aload_n hx hb dX4_init_0 rfl (lv_at hl 0 rfl) ?_
  refine W.objInit hx hb hown (hts (.methodLink RX4 3 objectInit) (by decide +kernel)) (hts (.instanceMethod objectInit) (by decide +kernel)) (hts (.code objectInit ⟨#[0xb1]⟩ 1 none) (by decide +kernel)) rfl (by rw [hml]; exact hl.1) rfl dX4_init_1 (Nat.le_of_ble_eq_true rfl) (Nat.le_of_ble_eq_true rfl) ?_
  refine W.eq (g2 := F0 m 4 ls []) rfl ?_
  refine lv_aload_n hx hb dX4_init_4 rfl (lv_at hl 0 rfl) ?_
  refine lv_bipush (v := 33) hx hb dX4_init_5 (by decide) ?_
  refine k_newa (a0 := (33, .inl (fun _ => 0))) (N' := 33) (ty := .int) (atype := .int) hx hb (hts (.arrayClass .int) (by decide +kernel)) rfl (by decide) hK 0 rfl hP hD hS hA (fun _ => rfl) (by decide) (by decide +kernel) (Nat.le_of_ble_eq_true rfl) (Nat.le_of_ble_eq_true rfl) (Nat.le_of_ble_eq_true rfl) dX4_init_7 (fun q1 H hP hD hS => ?_)
  have hP : va_P D vwCl [(h0, .inr (4, [.int 0, .null, .null, .null])), (q1, .inl (cI, 33, .inl (fun _ => 0)))] H := hP
  have hD : va_D A [(h0, .inr (4, [.int 0, .null, .null, .null])), (q1, .inl (cI, 33, .inl (fun _ => 0)))] := hD
  refine W.widen (k := 1) (n := 33) (Nat.le_of_ble_eq_true rfl) (Nat.le_of_ble_eq_true rfl) ?_
  refine va_putF (ci := 4) (v := .ref q1) (ty := (.array .int)) (C := RX4) (T := TX4) (N := 4) hx hb hts (by decide +kernel) tyX4 tyX4_ok nmX4 hown hK hP hD hS 0 rfl rfl 1 (by decide) (hts (.fieldLink RX4 9 "RoutingDomain$Packet" "visited" "[I") (by decide +kernel)) (fun _ h9 => h9) rfl hin rfl (by decide +kernel) rfl rfl (Nat.le_of_ble_eq_true rfl) dX4_init_9 (fun H locs hP hD hS => ?_)
  have hP : va_P D vwCl [(h0, .inr (4, [.int 0, .ref q1, .null, .null])), (q1, .inl (cI, 33, .inl (fun _ => 0)))] H := hP
  have hD : va_D A [(h0, .inr (4, [.int 0, .ref q1, .null, .null])), (q1, .inl (cI, 33, .inl (fun _ => 0)))] := hD
  refine lv_aload_n hx hb dX4_init_12 rfl (lv_at hl 0 rfl) ?_
  refine lv_aload_n hx hb dX4_init_13 rfl (lv_at hl 1 rfl) ?_
  refine va_putF (ci := 4) (v := .ref b1) (ty := (.object "RoutingDomain$Topology")) (C := RX4) (T := TX4) (N := 4) hx hb hts (by decide +kernel) tyX4 tyX4_ok nmX4 hown hK hP hD hS 0 rfl rfl 2 (by decide) (hts (.fieldLink RX4 15 "RoutingDomain$Packet" "topology" "LRoutingDomain$Topology;") (by decide +kernel)) (fun _ h9 => h9) rfl hin rfl (by decide +kernel) rfl rfl (Nat.le_of_ble_eq_true rfl) dX4_init_14 (fun H locs hP hD hS => ?_)
  have hP : va_P D vwCl [(h0, .inr (4, [.int 0, .ref q1, .ref b1, .null])), (q1, .inl (cI, 33, .inl (fun _ => 0)))] H := hP
  have hD : va_D A [(h0, .inr (4, [.int 0, .ref q1, .ref b1, .null])), (q1, .inl (cI, 33, .inl (fun _ => 0)))] := hD
  refine lv_aload_n hx hb dX4_init_17 rfl (lv_at hl 0 rfl) ?_
  refine lv_aload_n hx hb dX4_init_18 rfl (lv_at hl 2 rfl) ?_
  refine va_putF (ci := 4) (v := .ref b2) (ty := (.object "RoutingDomain$Routes")) (C := RX4) (T := TX4) (N := 4) hx hb hts (by decide +kernel) tyX4 tyX4_ok nmX4 hown hK hP hD hS 0 rfl rfl 3 (by decide) (hts (.fieldLink RX4 19 "RoutingDomain$Packet" "routes" "LRoutingDomain$Routes;") (by decide +kernel)) (fun _ h9 => h9) rfl hin rfl (by decide +kernel) rfl rfl (Nat.le_of_ble_eq_true rfl) dX4_init_19 (fun H locs hP hD hS => ?_)
  have hP : va_P D vwCl [(h0, .inr (4, [.int 0, .ref q1, .ref b1, .ref b2])), (q1, .inl (cI, 33, .inl (fun _ => 0)))] H := hP
  have hD : va_D A [(h0, .inr (4, [.int 0, .ref q1, .ref b1, .ref b2])), (q1, .inl (cI, 33, .inl (fun _ => 0)))] := hD
  exact k_vret E hK hP hD hS q1 [0, 1] (by decide) rfl trivial (Nat.le_of_ble_eq_true rfl) (Nat.le_of_ble_eq_true rfl) dX4_init_22
