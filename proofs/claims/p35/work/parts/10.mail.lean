theorem dX3_add_0 : decode cX3_add 0 = .ok (.aload_n 0, 1) := by decide +kernel
theorem dX3_add_1 : decode cX3_add 1 = .ok (.getfield 15, 3) := by decide +kernel
theorem dX3_add_4 : decode cX3_add 4 = .ok (.aload_n 0, 1) := by decide +kernel
theorem dX3_add_5 : decode cX3_add 5 = .ok (.getfield 9, 3) := by decide +kernel
theorem dX3_add_8 : decode cX3_add 8 = .ok (.arraylength, 1) := by decide +kernel
theorem dX3_add_9 : decode cX3_add 9 = .ok (.if_icmp .ne 29, 3) := by decide +kernel
theorem dX3_add_12 : decode cX3_add 12 = .ok (.aload_n 0, 1) := by decide +kernel
theorem dX3_add_13 : decode cX3_add 13 = .ok (.getfield 15, 3) := by decide +kernel
theorem dX3_add_16 : decode cX3_add 16 = .ok (.ldc 19, 2) := by decide +kernel
theorem dX3_add_18 : decode cX3_add 18 = .ok (.if_icmp .ge 20, 3) := by decide +kernel
theorem dX3_add_21 : decode cX3_add 21 = .ok (.aload_n 0, 1) := by decide +kernel
theorem dX3_add_22 : decode cX3_add 22 = .ok (.aload_n 0, 1) := by decide +kernel
theorem dX3_add_23 : decode cX3_add 23 = .ok (.getfield 9, 3) := by decide +kernel
theorem dX3_add_26 : decode cX3_add 26 = .ok (.aload_n 0, 1) := by decide +kernel
theorem dX3_add_27 : decode cX3_add 27 = .ok (.getfield 15, 3) := by decide +kernel
theorem dX3_add_30 : decode cX3_add 30 = .ok (.iconst 2, 1) := by decide +kernel
theorem dX3_add_31 : decode cX3_add 31 = .ok (.imul, 1) := by decide +kernel
theorem dX3_add_32 : decode cX3_add 32 = .ok (.invokestatic 20, 3) := by decide +kernel
theorem dX3_add_35 : decode cX3_add 35 = .ok (.putfield 9, 3) := by decide +kernel
theorem dX3_add_38 : decode cX3_add 38 = .ok (.aload_n 0, 1) := by decide +kernel
theorem dX3_add_39 : decode cX3_add 39 = .ok (.getfield 15, 3) := by decide +kernel
theorem dX3_add_42 : decode cX3_add 42 = .ok (.aload_n 0, 1) := by decide +kernel
theorem dX3_add_43 : decode cX3_add 43 = .ok (.getfield 9, 3) := by decide +kernel
theorem dX3_add_46 : decode cX3_add 46 = .ok (.arraylength, 1) := by decide +kernel
theorem dX3_add_47 : decode cX3_add 47 = .ok (.if_icmp .ge 28, 3) := by decide +kernel
theorem dX3_add_50 : decode cX3_add 50 = .ok (.aload_n 0, 1) := by decide +kernel
theorem dX3_add_51 : decode cX3_add 51 = .ok (.getfield 9, 3) := by decide +kernel
theorem dX3_add_54 : decode cX3_add 54 = .ok (.aload_n 0, 1) := by decide +kernel
theorem dX3_add_55 : decode cX3_add 55 = .ok (.getfield 15, 3) := by decide +kernel
theorem dX3_add_58 : decode cX3_add 58 = .ok (.iload_n 1, 1) := by decide +kernel
theorem dX3_add_59 : decode cX3_add 59 = .ok (.bipush 7, 2) := by decide +kernel
theorem dX3_add_61 : decode cX3_add 61 = .ok (.ishl, 1) := by decide +kernel
theorem dX3_add_62 : decode cX3_add 62 = .ok (.iload_n 2, 1) := by decide +kernel
theorem dX3_add_63 : decode cX3_add 63 = .ok (.iadd, 1) := by decide +kernel
theorem dX3_add_64 : decode cX3_add 64 = .ok (.iastore, 1) := by decide +kernel
theorem dX3_add_65 : decode cX3_add 65 = .ok (.aload_n 0, 1) := by decide +kernel
theorem dX3_add_66 : decode cX3_add 66 = .ok (.dup, 1) := by decide +kernel
theorem dX3_add_67 : decode cX3_add 67 = .ok (.getfield 15, 3) := by decide +kernel
theorem dX3_add_70 : decode cX3_add 70 = .ok (.iconst 1, 1) := by decide +kernel
theorem dX3_add_71 : decode cX3_add 71 = .ok (.iadd, 1) := by decide +kernel
theorem dX3_add_72 : decode cX3_add 72 = .ok (.putfield 15, 3) := by decide +kernel
theorem dX3_add_75 : decode cX3_add 75 = .ok (.return_, 1) := by decide +kernel
theorem dJ7_copyOf_59c91_0 : decode cJ7_copyOf_59c91 0 = .ok (.iload_n 1, 1) := by decide +kernel
theorem dJ7_copyOf_59c91_1 : decode cJ7_copyOf_59c91 1 = .ok (.aload_n 0, 1) := by decide +kernel
theorem dJ7_copyOf_59c91_2 : decode cJ7_copyOf_59c91 2 = .ok (.arraylength, 1) := by decide +kernel
theorem dJ7_copyOf_59c91_3 : decode cJ7_copyOf_59c91 3 = .ok (.if_icmp .ne 11, 3) := by decide +kernel
theorem dJ7_copyOf_59c91_14 : decode cJ7_copyOf_59c91 14 = .ok (.iload_n 1, 1) := by decide +kernel
theorem dJ7_copyOf_59c91_15 : decode cJ7_copyOf_59c91 15 = .ok (.newarray .int, 2) := by decide +kernel
theorem dJ7_copyOf_59c91_17 : decode cJ7_copyOf_59c91 17 = .ok (.astore_n 2, 1) := by decide +kernel
theorem dJ7_copyOf_59c91_18 : decode cJ7_copyOf_59c91 18 = .ok (.aload_n 0, 1) := by decide +kernel
theorem dJ7_copyOf_59c91_19 : decode cJ7_copyOf_59c91 19 = .ok (.iconst 0, 1) := by decide +kernel
theorem dJ7_copyOf_59c91_20 : decode cJ7_copyOf_59c91 20 = .ok (.aload_n 2, 1) := by decide +kernel
theorem dJ7_copyOf_59c91_21 : decode cJ7_copyOf_59c91 21 = .ok (.iconst 0, 1) := by decide +kernel
theorem dJ7_copyOf_59c91_22 : decode cJ7_copyOf_59c91 22 = .ok (.aload_n 0, 1) := by decide +kernel
theorem dJ7_copyOf_59c91_23 : decode cJ7_copyOf_59c91 23 = .ok (.arraylength, 1) := by decide +kernel
theorem dJ7_copyOf_59c91_24 : decode cJ7_copyOf_59c91 24 = .ok (.iload_n 1, 1) := by decide +kernel
theorem dJ7_copyOf_59c91_25 : decode cJ7_copyOf_59c91 25 = .ok (.invokestatic 304, 3) := by decide +kernel
theorem dJ7_copyOf_59c91_28 : decode cJ7_copyOf_59c91 28 = .ok (.invokestatic 150, 3) := by decide +kernel
theorem dJ7_copyOf_59c91_31 : decode cJ7_copyOf_59c91 31 = .ok (.aload_n 2, 1) := by decide +kernel
theorem dJ7_copyOf_59c91_32 : decode cJ7_copyOf_59c91 32 = .ok (.areturn, 1) := by decide +kernel
theorem cpyN (ms : Nat → Nat) (n : Nat) : va_cpy (eN ms) (fun _ => 0) 0 0 n = eN (fun j => if j < n then ms j else 0) := by
  funext j
  show (if 0 ≤ j ∧ j < 0 + n then eN ms (0 + (j - 0)) else 0) = nI (if j < n then ms j else 0)
  by_cases h : j < n
  · rw [if_pos ⟨Nat.zero_le _, by omega⟩, if_pos h]
    show nI (ms (0 + (j - 0))) = nI (ms j)
    rw [show 0 + (j - 0) = j from by omega]
  · rw [if_neg (fun q => h (by omega)), if_neg h]; rfl
def mL (m : MB) : Nat := m.1.length
def mC (m : MB) : Nat := 1024 * m.2
theorem put_mL (m : MB) (x : Nat) : mL (put m x) = mL m + 1 := put_len m x
theorem put_mC1 {m : MB} (h : mL m = mC m) (x : Nat) : mC (put m x) = mL m * 2 := by
  show 1024 * gw m = m.1.length * 2
  unfold gw
  rw [if_pos (show m.1.length = 1024 * m.2 from h)]
  have : m.1.length = 1024 * m.2 := h
  omega
theorem put_mC2 {m : MB} (h : ¬ mL m = mC m) (x : Nat) : mC (put m x) = mC m := by
  show 1024 * gw m = 1024 * m.2
  unfold gw
  rw [if_neg (show ¬ m.1.length = 1024 * m.2 from h)]
theorem put_21 {m : MB} (h : mL m = mC m) (x : Nat) : (put m x).2 = m.2 + m.2 := by
  show gw m = _
  unfold gw
  rw [if_pos (show m.1.length = 1024 * m.2 from h)]; omega
theorem mrep_1 {m : MB} {ms : Nat → Nat} {x : Nat} (hr : mrep m.1 ms) : mrep (put m x).1 (fs ms (mL m) x) :=
  mrep_put hr (fun j hj => fs_n (by show j ≠ m.1.length; omega)) fs_s
theorem mrep_2 {m : MB} {ms : Nat → Nat} {x n : Nat} (hr : mrep m.1 ms) (hn : mL m ≤ n) : mrep (put m x).1 (fs (fun j => if j < n then ms j else 0) (mL m) x) :=
  mrep_put hr (fun j hj => by
    have h1 : j < n := Nat.lt_of_lt_of_le hj hn
    rw [fs_n (by show j ≠ m.1.length; omega), if_pos h1]) fs_s
def O_copyOf : List Cond := [.arrayClass .int, .methodLink RJ7 304 Lib.Math.min.name, .static Lib.Math.min.name, .initialized "java/lang/Math", .code Lib.Math.min.name Lib.Math.min.code 2 (some .int), .methodLink RJ7 150 arraycopyName, .native arraycopyName, .static arraycopyName, .initialized "java/lang/System"]
def W_copyOf : List Cond := .code yJ7_copyOf_59c91 cJ7_copyOf_59c91 3 (some (.array .int)) :: O_copyOf
theorem m_copyOf_O : ∀ w ∈ O_copyOf, w ∈ W_copyOf := fun _ h => List.mem_cons_of_mem _ h
theorem gdO_copyOf : O_copyOf.all goodWord = true := by decide +kernel
theorem gd_copyOf : W_copyOf.all goodWord = true := k_all_cons rfl gdO_copyOf
set_option maxHeartbeats 4000000 in
set_option maxRecDepth 100000 in
theorem c_copyOf (l : Launch) (D : va_G) (cI cZ cJ : ClassId) (h0 : Nat) (n : Nat) (n2 : Nat) (f : Nat → Int32) (hn : n < n2) (hn2 : n2 ≤ 2 ^ 27) : kMr l yJ7_copyOf_59c91 W_copyOf { frames := 1, cells := 1, slots := n2, locals := 60 } 1 n2 D (kT cI cZ cJ) [.ref h0, .int (nI n2)] [(h0, .inl (cI, n, .inl f))] (S := Unit) (fun _ => True) (fun _ ra => [(h0, .inl (cI, n, .inl f)), (ra, .inl (cI, n2, .inl (va_cpy f (fun _ => 0) 0 0 n)))]) := by
  refine kMr_of (lv := [(0, .ref h0), (1, .int (nI n2))]) RJ7 "copyOf" (by decide +kernel) rfl rfl rfl (Nat.le_of_ble_eq_true rfl) rfl ?_
  intro p e s m below meth c A H locs ls E hA hK hP hD hS hl
  obtain ⟨hx, hb, hr_, hts, hown, hlocks, hml, hin, hN⟩ := id E
  refine lv_iload_n hx hb dJ7_copyOf_59c91_0 rfl (lv_at hl 1 rfl) ?_
  refine lv_aload_n hx hb dJ7_copyOf_59c91_1 rfl (lv_at hl 0 rfl) ?_
  refine va_alen (v := nI n) hx hb hK hP 0 0 rfl rfl rfl dJ7_copyOf_59c91_2 ?_
  refine lv_icmp_ne (tgt := 14) hx hb dJ7_copyOf_59c91_3 (by decide) (fun _ => ?_) (fun c => absurd c (fun q => absurd ((nI_eq (a := n2) (b := n) (by omega) (by omega)).mp q) (by omega)))
  refine lv_iload_n hx hb dJ7_copyOf_59c91_14 rfl (lv_at hl 1 rfl) ?_
  refine k_newa (a0 := (n2, .inl (fun _ => 0))) (N' := n2) (ty := .int) (atype := .int) hx hb (hts (.arrayClass .int) (m_copyOf_O _ (by decide +kernel))) rfl (Or.inl rfl) hK 0 rfl hP hD hS hA (fun _ => rfl) (nI_pos (by omega)) (nI_clamp (by omega)) (show n2 * 4 ≤ 536870912 from by omega) (Nat.le_refl _) (show 0 + n2 ≤ n2 from by omega) dJ7_copyOf_59c91_15 (fun q1 H hP hD hS => ?_)
  have hP : va_P D vwCl [(h0, .inl (cI, n, .inl f)), (q1, .inl (cI, n2, .inl (fun _ => 0)))] H := hP
  have hD : va_D A [(h0, .inl (cI, n, .inl f)), (q1, .inl (cI, n2, .inl (fun _ => 0)))] := hD
  refine W.widen (k := 1) (n := n2) (Nat.le_refl _) (show 0 + n2 ≤ n2 from by omega) ?_
  refine lv_astore_n (lv' := [(2, .ref q1), (0, .ref h0), (1, .int (nI n2))]) hx hb dJ7_copyOf_59c91_17 rfl hl (by decide) rfl (fun ls hl => ?_)
  refine lv_aload_n hx hb dJ7_copyOf_59c91_18 rfl (lv_at hl 1 rfl) ?_
  refine lv_iconst (v := 0) hx hb dJ7_copyOf_59c91_19 (by decide) ?_
  refine lv_aload_n hx hb dJ7_copyOf_59c91_20 rfl (lv_at hl 0 rfl) ?_
  refine lv_iconst (v := 0) hx hb dJ7_copyOf_59c91_21 (by decide) ?_
  refine lv_aload_n hx hb dJ7_copyOf_59c91_22 rfl (lv_at hl 1 rfl) ?_
  refine va_alen (v := nI n) hx hb hK hP 0 0 rfl rfl rfl dJ7_copyOf_59c91_23 ?_
  refine lv_iload_n hx hb dJ7_copyOf_59c91_24 rfl (lv_at hl 2 rfl) ?_
  refine va_mmin hx hb (hml.trans hl.1.symm) hown (hts (.methodLink RJ7 304 Lib.Math.min.name) (m_copyOf_O _ (by decide +kernel))) (hts (.static Lib.Math.min.name) (m_copyOf_O _ (by decide +kernel))) (hts (.initialized "java/lang/Math") (m_copyOf_O _ (by decide +kernel))) (hts (.code Lib.Math.min.name Lib.Math.min.code 2 (some .int)) (m_copyOf_O _ (by decide +kernel))) (Nat.le_of_ble_eq_true rfl) (Nat.le_of_ble_eq_true rfl) (Nat.le_refl _) (Nat.le_refl _) dJ7_copyOf_59c91_25 ?_
  refine lv_topi (fun y ey => ?_)
  obtain rfl : y = nI n := ey.trans (if_neg (fun q => absurd ((nI_ltI (by omega) (by omega)).mp q) (by omega)))
  refine va_copyi hx hb (hml.trans hl.1.symm) hown (hts (.methodLink RJ7 150 arraycopyName) (m_copyOf_O _ (by decide +kernel))) (hts (.native arraycopyName) (m_copyOf_O _ (by decide +kernel))) (hts (.static arraycopyName) (m_copyOf_O _ (by decide +kernel))) (hts (.initialized "java/lang/System") (m_copyOf_O _ (by decide +kernel))) hK hP hD hS 0 1 0 0 rfl rfl rfl rfl rfl (by decide) (by decide) (nI_pos (by omega)) (by rw [nI_clamp (by omega)]; show 0 + n ≤ n; omega) (by rw [nI_clamp (by omega)]; show 0 + n ≤ n2; omega) (fun i hi => rfl) (Nat.le_of_ble_eq_true rfl) (Nat.le_of_ble_eq_true rfl) dJ7_copyOf_59c91_28 (fun H locs hP hD hS => ?_)
  have hP : va_P D vwCl [(h0, .inl (cI, n, .inl f)), (q1, .inl (cI, n2, .inl (va_cpy f (fun _ => 0) (0 : Int32).toNatClampNeg (0 : Int32).toNatClampNeg (nI n).toNatClampNeg)))] H := hP
  have hD : va_D A [(h0, .inl (cI, n, .inl f)), (q1, .inl (cI, n2, .inl (va_cpy f (fun _ => 0) (0 : Int32).toNatClampNeg (0 : Int32).toNatClampNeg (nI n).toNatClampNeg)))] := hD
  rw [show (0 : Int32).toNatClampNeg = 0 from rfl, nI_clamp (show n < 2 ^ 31 from by omega)] at hP hD
  refine lv_aload_n hx hb dJ7_copyOf_59c91_31 rfl (lv_at hl 0 rfl) ?_
  exact k_aret E hK hP hD hS () [0, 1] (by decide) rfl trivial (Nat.le_refl _) (Nat.le_refl _) dJ7_copyOf_59c91_32

def O_add : List Cond := [.fieldLink RX3 15 "RoutingDomain$Mail" "count" "I", .fieldLink RX3 9 "RoutingDomain$Mail" "messages" "[I", .constant RX3 19 (1048576), .methodLink RX3 20 yJ7_copyOf_59c91, .static yJ7_copyOf_59c91, .initialized RJ7]
def W_add : List Cond := .code yX3_add cX3_add 3 none :: (O_add ++ (wsX30 ++ W_copyOf))
theorem m_add_O : ∀ w ∈ O_add, w ∈ W_add := fun _ h => List.mem_cons_of_mem _ (List.mem_append_left _ h)
theorem m_add_C3 : ∀ w ∈ wsX30, w ∈ W_add := fun _ h => List.mem_cons_of_mem _ (List.mem_append_right _ (List.mem_append_left _ h))
theorem m_add_WcopyOf : ∀ w ∈ W_copyOf, w ∈ W_add := fun _ h => List.mem_cons_of_mem _ (List.mem_append_right _ (List.mem_append_right _ h))
theorem gdO_add : O_add.all goodWord = true := by decide +kernel
theorem gd_add : W_add.all goodWord = true := k_all_cons rfl (k_all_app gdO_add (k_all_app gdC_3 gd_copyOf))
set_option maxHeartbeats 4000000 in
set_option maxRecDepth 100000 in
theorem c_add (l : Launch) (D : va_G) (cI cZ cJ : ClassId) (h0 : Nat) (sa : Nat) (mb : MB) (ms : Nat → Nat) (v : Nat) (q : Nat) (hv : v < 69632) (hq : q < 128) (hm : mOK mb) (hml_ : mL mb < 2 ^ 20) (hr : mrep mb.1 ms) : kMv l yX3_add W_add { frames := 2, cells := ((put mb (v * 128 + q)).2 - mb.2), slots := (2048 * ((put mb (v * 128 + q)).2 - mb.2)), locals := 120 } ((put mb (v * 128 + q)).2 - mb.2) (2048 * ((put mb (v * 128 + q)).2 - mb.2)) D (kT cI cZ cJ) [.ref h0, .int (nI v), .int (nI q)] [(h0, .inr (3, [.int (nI (mL mb)), .ref sa])), (sa, .inl (cI, mC mb, .inl (eN ms)))] (S := Nat × (Nat → Nat)) (fun u => mrep (put mb (v * 128 + q)).1 u.2) (fun u => [(h0, .inr (3, [.int (nI (mL (put mb (v * 128 + q)))), .ref u.1])), (u.1, .inl (cI, mC (put mb (v * 128 + q)), .inl (eN u.2)))]) := by
  refine kMv_of (lv := [(0, .ref h0), (1, .int (nI v)), (2, .int (nI q))]) RX3 "add" (by decide +kernel) rfl rfl rfl (Nat.le_of_ble_eq_true rfl) rfl ?_
  intro p e s m below meth c A H locs ls E hA hK hP hD hS hl
  obtain ⟨hx, hb, hr_, hts, hown, hlocks, hml, hin, hN⟩ := id E
  have g1 : mL mb ≤ mC mb := hm.1
  have g2 := mOK_le hm
  have g3 := mOK_pos hm
  have g4 : mC mb = 1024 * mb.2 := rfl
  refine lv_aload_n hx hb dX3_add_0 rfl (lv_at hl 0 rfl) ?_
  refine va_get (ci := 3) (v := .int (nI (mL mb))) (C := RX3) (T := TX3) (N := 2) hx hb hts m_add_C3 hown hK hP 0 rfl rfl 0 (by decide) (hts (.fieldLink RX3 15 "RoutingDomain$Mail" "count" "I") (m_add_O _ (by decide +kernel))) (fun _ h9 => h9) rfl dX3_add_1 ?_
  refine lv_aload_n hx hb dX3_add_4 rfl (lv_at hl 0 rfl) ?_
  refine va_get (ci := 3) (v := .ref sa) (C := RX3) (T := TX3) (N := 2) hx hb hts m_add_C3 hown hK hP 0 rfl rfl 1 (by decide) (hts (.fieldLink RX3 9 "RoutingDomain$Mail" "messages" "[I") (m_add_O _ (by decide +kernel))) (fun _ h9 => h9) rfl dX3_add_5 ?_
  refine va_alen (v := nI (mC mb)) hx hb hK hP 1 0 rfl rfl rfl dX3_add_8 ?_
  refine lv_icmp_ne (tgt := 38) hx hb dX3_add_9 (by decide) (fun c_9 => ?_) (fun c_9 => ?_)
  · have n_9 : ¬ (mL mb) = (mC mb) := fun h => c_9 ((nI_eq (a := (mL mb)) (b := (mC mb)) (by omega) (by omega)).mpr h)
    refine lv_aload_n hx hb dX3_add_38 rfl (lv_at hl 0 rfl) ?_
    refine va_get (ci := 3) (v := .int (nI (mL mb))) (C := RX3) (T := TX3) (N := 2) hx hb hts m_add_C3 hown hK hP 0 rfl rfl 0 (by decide) (hts (.fieldLink RX3 15 "RoutingDomain$Mail" "count" "I") (m_add_O _ (by decide +kernel))) (fun _ h9 => h9) rfl dX3_add_39 ?_
    refine lv_aload_n hx hb dX3_add_42 rfl (lv_at hl 0 rfl) ?_
    refine va_get (ci := 3) (v := .ref sa) (C := RX3) (T := TX3) (N := 2) hx hb hts m_add_C3 hown hK hP 0 rfl rfl 1 (by decide) (hts (.fieldLink RX3 9 "RoutingDomain$Mail" "messages" "[I") (m_add_O _ (by decide +kernel))) (fun _ h9 => h9) rfl dX3_add_43 ?_
    refine va_alen (v := nI (mC mb)) hx hb hK hP 1 0 rfl rfl rfl dX3_add_46 ?_
    refine lv_icmp_ge (tgt := 75) hx hb dX3_add_47 (by decide) (fun c_47 => False.elim (by have n_47 : (mC mb) ≤ (mL mb) := (nI_leI (a := (mC mb)) (b := (mL mb)) (by omega) (by omega)).mp c_47; omega)) (fun c_47 => ?_)
    have n_47 : ¬ (mC mb) ≤ (mL mb) := fun h => c_47 ((nI_leI (a := (mC mb)) (b := (mL mb)) (by omega) (by omega)).mpr h)
    refine lv_aload_n hx hb dX3_add_50 rfl (lv_at hl 0 rfl) ?_
    refine va_get (ci := 3) (v := .ref sa) (C := RX3) (T := TX3) (N := 2) hx hb hts m_add_C3 hown hK hP 0 rfl rfl 1 (by decide) (hts (.fieldLink RX3 9 "RoutingDomain$Mail" "messages" "[I") (m_add_O _ (by decide +kernel))) (fun _ h9 => h9) rfl dX3_add_51 ?_
    refine lv_aload_n hx hb dX3_add_54 rfl (lv_at hl 0 rfl) ?_
    refine va_get (ci := 3) (v := .int (nI (mL mb))) (C := RX3) (T := TX3) (N := 2) hx hb hts m_add_C3 hown hK hP 0 rfl rfl 0 (by decide) (hts (.fieldLink RX3 15 "RoutingDomain$Mail" "count" "I") (m_add_O _ (by decide +kernel))) (fun _ h9 => h9) rfl dX3_add_55 ?_
    refine lv_iload_n hx hb dX3_add_58 rfl (lv_at hl 1 rfl) ?_
    refine lv_bipush (v := 7) hx hb dX3_add_59 (by decide) ?_
    refine lv_ishl hx hb dX3_add_61 ?_
    refine lv_topi (fun y ey => ?_)
    obtain rfl : y = (nI (v * 128)) := ey.trans (k_shl v 7 (by decide))
    refine lv_iload_n hx hb dX3_add_62 rfl (lv_at hl 2 rfl) ?_
    refine lv_iadd hx hb dX3_add_63 ?_
    refine lv_topi (fun y ey => ?_)
    obtain rfl : y = (nI ((v * 128) + q)) := ey.trans (nI_add (v * 128) q)
    refine va_iast hx hb hK hP hD hS 1 0 rfl rfl (vp_in_nI (show (mL mb) < mC mb from by omega) (by omega)) dX3_add_64 (fun H locs hP hD hS => ?_)
    have hP : va_P D vwCl [(h0, .inr (3, [.int (nI (mL mb)), .ref sa])), (sa, .inl (cI, mC mb, .inl (upd (eN ms) (nI (mL mb)).toNatClampNeg (nI ((v * 128) + q)))))] H := hP
    have hD : va_D A [(h0, .inr (3, [.int (nI (mL mb)), .ref sa])), (sa, .inl (cI, mC mb, .inl (upd (eN ms) (nI (mL mb)).toNatClampNeg (nI ((v * 128) + q)))))] := hD
    rw [show (upd (eN ms) (nI (mL mb)).toNatClampNeg (nI ((v * 128) + q))) = (eN (fs ms (mL mb) ((v * 128) + q))) from stN (by omega)] at hP hD
    refine lv_aload_n hx hb dX3_add_65 rfl (lv_at hl 0 rfl) ?_
    refine lv_dup hx hb dX3_add_66 rfl ?_
    refine va_get (ci := 3) (v := .int (nI (mL mb))) (C := RX3) (T := TX3) (N := 2) hx hb hts m_add_C3 hown hK hP 0 rfl rfl 0 (by decide) (hts (.fieldLink RX3 15 "RoutingDomain$Mail" "count" "I") (m_add_O _ (by decide +kernel))) (fun _ h9 => h9) rfl dX3_add_67 ?_
    refine lv_iconst (v := 1) hx hb dX3_add_70 (by decide) ?_
    refine lv_iadd hx hb dX3_add_71 ?_
    refine lv_topi (fun y ey => ?_)
    obtain rfl : y = (nI ((mL mb) + 1)) := ey.trans (nI_add (mL mb) 1)
    refine va_put (ci := 3) (v := .int (nI ((mL mb) + 1))) (ty := .int) (C := RX3) (T := TX3) (N := 2) hx hb hts m_add_C3 tyX3 tyX3_ok nmX3 hown hK hP hD hS 0 rfl rfl 0 (by decide) (hts (.fieldLink RX3 15 "RoutingDomain$Mail" "count" "I") (m_add_O _ (by decide +kernel))) (fun _ h9 => h9) rfl (by decide +kernel) rfl rfl (Nat.le_of_ble_eq_true rfl) dX3_add_72 (fun H locs hP hD hS => ?_)
    have hP : va_P D vwCl [(h0, .inr (3, [.int (nI ((mL mb) + 1)), .ref sa])), (sa, .inl (cI, mC mb, .inl (eN (fs ms (mL mb) ((v * 128) + q)))))] H := hP
    have hD : va_D A [(h0, .inr (3, [.int (nI ((mL mb) + 1)), .ref sa])), (sa, .inl (cI, mC mb, .inl (eN (fs ms (mL mb) ((v * 128) + q)))))] := hD
    rw [show mL mb + 1 = mL (put mb (v * 128 + q)) from (put_mL mb (v * 128 + q)).symm, show mC mb = mC (put mb (v * 128 + q)) from (put_mC2 n_9 (v * 128 + q)).symm] at hP hD
    exact k_vret E hK hP hD hS (sa, (fs ms (mL mb) ((v * 128) + q))) [0, 1] (by decide) rfl (mrep_1 hr) (Nat.zero_le _) (Nat.zero_le _) dX3_add_75
  · have n_9 : (mL mb) = (mC mb) := (nI_eq (a := (mL mb)) (b := (mC mb)) (by omega) (by omega)).mp c_9
    refine lv_aload_n hx hb dX3_add_12 rfl (lv_at hl 0 rfl) ?_
    refine va_get (ci := 3) (v := .int (nI (mL mb))) (C := RX3) (T := TX3) (N := 2) hx hb hts m_add_C3 hown hK hP 0 rfl rfl 0 (by decide) (hts (.fieldLink RX3 15 "RoutingDomain$Mail" "count" "I") (m_add_O _ (by decide +kernel))) (fun _ h9 => h9) rfl dX3_add_13 ?_
    refine lv_ldc hx hb hown (hts (.constant RX3 19 (1048576)) (m_add_O _ (by decide +kernel))) dX3_add_16 ?_
    refine lv_icmp_ge (tgt := 38) hx hb dX3_add_18 (by decide) (fun c_18 => False.elim (by have n_18 : 1048576 ≤ (mL mb) := (nI_leI (a := 1048576) (b := (mL mb)) (by omega) (by omega)).mp c_18; omega)) (fun c_18 => ?_)
    have n_18 : ¬ 1048576 ≤ (mL mb) := fun h => c_18 ((nI_leI (a := 1048576) (b := (mL mb)) (by omega) (by omega)).mpr h)
    refine lv_aload_n hx hb dX3_add_21 rfl (lv_at hl 0 rfl) ?_
    refine lv_aload_n hx hb dX3_add_22 rfl (lv_at hl 0 rfl) ?_
    refine va_get (ci := 3) (v := .ref sa) (C := RX3) (T := TX3) (N := 2) hx hb hts m_add_C3 hown hK hP 0 rfl rfl 1 (by decide) (hts (.fieldLink RX3 9 "RoutingDomain$Mail" "messages" "[I") (m_add_O _ (by decide +kernel))) (fun _ h9 => h9) rfl dX3_add_23 ?_
    refine lv_aload_n hx hb dX3_add_26 rfl (lv_at hl 0 rfl) ?_
    refine va_get (ci := 3) (v := .int (nI (mL mb))) (C := RX3) (T := TX3) (N := 2) hx hb hts m_add_C3 hown hK hP 0 rfl rfl 0 (by decide) (hts (.fieldLink RX3 15 "RoutingDomain$Mail" "count" "I") (m_add_O _ (by decide +kernel))) (fun _ h9 => h9) rfl dX3_add_27 ?_
    refine lv_iconst (v := 2) hx hb dX3_add_30 (by decide) ?_
    refine lv_imul hx hb dX3_add_31 ?_
    refine lv_topi (fun y ey => ?_)
    obtain rfl : y = (nI ((mL mb) * 2)) := ey.trans (pk_mul (mL mb) 2)
    have g5 := put_21 n_9 (v * 128 + q)
    refine kSr (As := [.ref sa, .int (nI (mL mb * 2))]) (rest := [.ref h0]) (wr := [(h0, .inr (3, [.int (nI (mL mb)), .ref sa]))]) (w2 := fun _ ra => [(h0, .inr (3, [.int (nI (mL mb)), .ref sa])), (sa, .inl (cI, mC mb, .inl (eN ms))), (ra, .inl (cI, (mL mb * 2), .inl (va_cpy (eN ms) (fun _ => 0) 0 0 (mC mb))))]) ⟨hx, hb, hml, hown, hts⟩ hN (c_copyOf l D cI cZ cJ sa (mC mb) (mL mb * 2) (eN ms) (by omega) (by omega)) (va_cwS 2 hts (k_gS (fun w h => m_add_O w ((by decide +kernel : ∀ w ∈ ([.methodLink RX3 20 yJ7_copyOf_59c91, .static yJ7_copyOf_59c91, .initialized RJ7] : List Cond), w ∈ O_add) w h)) m_add_WcopyOf gd_copyOf) rfl rfl rfl (by decide +kernel) ⟨Nat.le_of_ble_eq_true rfl, Nat.le_of_ble_eq_true rfl⟩) hK hP hD hS hA [1] [0] [0, 1, 2] rfl rfl ⟨by decide, by decide, by decide⟩ (by decide) (fun _ _ => rfl) rfl hl.1 rfl (Nat.le_of_ble_eq_true rfl) dX3_add_32 ⟨show 0 + 1 ≤ (put mb (v * 128 + q)).2 - mb.2 from by omega, show 0 + mL mb * 2 ≤ 2048 * ((put mb (v * 128 + q)).2 - mb.2) from by omega⟩ (fun u ra H locs hw hP hD hS => ?_)
    have hP : va_P D vwCl [(h0, .inr (3, [.int (nI (mL mb)), .ref sa])), (sa, .inl (cI, mC mb, .inl (eN ms))), (ra, .inl (cI, (mL mb * 2), .inl (va_cpy (eN ms) (fun _ => 0) 0 0 (mC mb))))] H := hP
    have hD : va_D A [(h0, .inr (3, [.int (nI (mL mb)), .ref sa])), (sa, .inl (cI, mC mb, .inl (eN ms))), (ra, .inl (cI, (mL mb * 2), .inl (va_cpy (eN ms) (fun _ => 0) 0 0 (mC mb))))] := hD
    rw [cpyN ms (mC mb)] at hP hD
    refine W.widen (k := ((put mb (v * 128 + q)).2 - mb.2)) (n := (2048 * ((put mb (v * 128 + q)).2 - mb.2))) (show 0 + 1 ≤ (put mb (v * 128 + q)).2 - mb.2 from by omega) (show 0 + mL mb * 2 ≤ 2048 * ((put mb (v * 128 + q)).2 - mb.2) from by omega) ?_
    refine va_put (ci := 3) (v := .ref ra) (ty := (.array .int)) (C := RX3) (T := TX3) (N := 2) hx hb hts m_add_C3 tyX3 tyX3_ok nmX3 hown hK hP hD hS 0 rfl rfl 1 (by decide) (hts (.fieldLink RX3 9 "RoutingDomain$Mail" "messages" "[I") (m_add_O _ (by decide +kernel))) (fun _ h9 => h9) rfl (by decide +kernel) rfl rfl (Nat.le_of_ble_eq_true rfl) dX3_add_35 (fun H locs hP hD hS => ?_)
    have hP : va_P D vwCl [(h0, .inr (3, [.int (nI (mL mb)), .ref ra])), (sa, .inl (cI, mC mb, .inl (eN ms))), (ra, .inl (cI, (mL mb * 2), .inl (eN (fun j => if j < mC mb then ms j else 0))))] H := hP
    have hD : va_D A [(h0, .inr (3, [.int (nI (mL mb)), .ref ra])), (sa, .inl (cI, mC mb, .inl (eN ms))), (ra, .inl (cI, (mL mb * 2), .inl (eN (fun j => if j < mC mb then ms j else 0))))] := hD
    refine lv_aload_n hx hb dX3_add_38 rfl (lv_at hl 0 rfl) ?_
    refine va_get (ci := 3) (v := .int (nI (mL mb))) (C := RX3) (T := TX3) (N := 2) hx hb hts m_add_C3 hown hK hP 0 rfl rfl 0 (by decide) (hts (.fieldLink RX3 15 "RoutingDomain$Mail" "count" "I") (m_add_O _ (by decide +kernel))) (fun _ h9 => h9) rfl dX3_add_39 ?_
    refine lv_aload_n hx hb dX3_add_42 rfl (lv_at hl 0 rfl) ?_
    refine va_get (ci := 3) (v := .ref ra) (C := RX3) (T := TX3) (N := 2) hx hb hts m_add_C3 hown hK hP 0 rfl rfl 1 (by decide) (hts (.fieldLink RX3 9 "RoutingDomain$Mail" "messages" "[I") (m_add_O _ (by decide +kernel))) (fun _ h9 => h9) rfl dX3_add_43 ?_
    refine va_alen (v := nI (mL mb * 2)) hx hb hK hP 2 0 rfl rfl rfl dX3_add_46 ?_
    refine lv_icmp_ge (tgt := 75) hx hb dX3_add_47 (by decide) (fun c_47 => False.elim (by have n_47 : (mL mb * 2) ≤ (mL mb) := (nI_leI (a := (mL mb * 2)) (b := (mL mb)) (by omega) (by omega)).mp c_47; omega)) (fun c_47 => ?_)
    have n_47 : ¬ (mL mb * 2) ≤ (mL mb) := fun h => c_47 ((nI_leI (a := (mL mb * 2)) (b := (mL mb)) (by omega) (by omega)).mpr h)
    refine lv_aload_n hx hb dX3_add_50 rfl (lv_at hl 0 rfl) ?_
    refine va_get (ci := 3) (v := .ref ra) (C := RX3) (T := TX3) (N := 2) hx hb hts m_add_C3 hown hK hP 0 rfl rfl 1 (by decide) (hts (.fieldLink RX3 9 "RoutingDomain$Mail" "messages" "[I") (m_add_O _ (by decide +kernel))) (fun _ h9 => h9) rfl dX3_add_51 ?_
    refine lv_aload_n hx hb dX3_add_54 rfl (lv_at hl 0 rfl) ?_
    refine va_get (ci := 3) (v := .int (nI (mL mb))) (C := RX3) (T := TX3) (N := 2) hx hb hts m_add_C3 hown hK hP 0 rfl rfl 0 (by decide) (hts (.fieldLink RX3 15 "RoutingDomain$Mail" "count" "I") (m_add_O _ (by decide +kernel))) (fun _ h9 => h9) rfl dX3_add_55 ?_
    refine lv_iload_n hx hb dX3_add_58 rfl (lv_at hl 1 rfl) ?_
    refine lv_bipush (v := 7) hx hb dX3_add_59 (by decide) ?_
    refine lv_ishl hx hb dX3_add_61 ?_
    refine lv_topi (fun y ey => ?_)
    obtain rfl : y = (nI (v * 128)) := ey.trans (k_shl v 7 (by decide))
    refine lv_iload_n hx hb dX3_add_62 rfl (lv_at hl 2 rfl) ?_
    refine lv_iadd hx hb dX3_add_63 ?_
    refine lv_topi (fun y ey => ?_)
    obtain rfl : y = (nI ((v * 128) + q)) := ey.trans (nI_add (v * 128) q)
    refine va_iast hx hb hK hP hD hS 2 0 rfl rfl (vp_in_nI (show (mL mb) < (mL mb * 2) from by omega) (by omega)) dX3_add_64 (fun H locs hP hD hS => ?_)
    have hP : va_P D vwCl [(h0, .inr (3, [.int (nI (mL mb)), .ref ra])), (sa, .inl (cI, mC mb, .inl (eN ms))), (ra, .inl (cI, (mL mb * 2), .inl (upd (eN (fun j => if j < mC mb then ms j else 0)) (nI (mL mb)).toNatClampNeg (nI ((v * 128) + q)))))] H := hP
    have hD : va_D A [(h0, .inr (3, [.int (nI (mL mb)), .ref ra])), (sa, .inl (cI, mC mb, .inl (eN ms))), (ra, .inl (cI, (mL mb * 2), .inl (upd (eN (fun j => if j < mC mb then ms j else 0)) (nI (mL mb)).toNatClampNeg (nI ((v * 128) + q)))))] := hD
    rw [show (upd (eN (fun j => if j < mC mb then ms j else 0)) (nI (mL mb)).toNatClampNeg (nI ((v * 128) + q))) = (eN (fs (fun j => if j < mC mb then ms j else 0) (mL mb) ((v * 128) + q))) from stN (by omega)] at hP hD
    refine lv_aload_n hx hb dX3_add_65 rfl (lv_at hl 0 rfl) ?_
    refine lv_dup hx hb dX3_add_66 rfl ?_
    refine va_get (ci := 3) (v := .int (nI (mL mb))) (C := RX3) (T := TX3) (N := 2) hx hb hts m_add_C3 hown hK hP 0 rfl rfl 0 (by decide) (hts (.fieldLink RX3 15 "RoutingDomain$Mail" "count" "I") (m_add_O _ (by decide +kernel))) (fun _ h9 => h9) rfl dX3_add_67 ?_
    refine lv_iconst (v := 1) hx hb dX3_add_70 (by decide) ?_
    refine lv_iadd hx hb dX3_add_71 ?_
    refine lv_topi (fun y ey => ?_)
    obtain rfl : y = (nI ((mL mb) + 1)) := ey.trans (nI_add (mL mb) 1)
    refine va_put (ci := 3) (v := .int (nI ((mL mb) + 1))) (ty := .int) (C := RX3) (T := TX3) (N := 2) hx hb hts m_add_C3 tyX3 tyX3_ok nmX3 hown hK hP hD hS 0 rfl rfl 0 (by decide) (hts (.fieldLink RX3 15 "RoutingDomain$Mail" "count" "I") (m_add_O _ (by decide +kernel))) (fun _ h9 => h9) rfl (by decide +kernel) rfl rfl (Nat.le_of_ble_eq_true rfl) dX3_add_72 (fun H locs hP hD hS => ?_)
    have hP : va_P D vwCl [(h0, .inr (3, [.int (nI ((mL mb) + 1)), .ref ra])), (sa, .inl (cI, mC mb, .inl (eN ms))), (ra, .inl (cI, (mL mb * 2), .inl (eN (fs (fun j => if j < mC mb then ms j else 0) (mL mb) ((v * 128) + q)))))] H := hP
    have hD : va_D A [(h0, .inr (3, [.int (nI ((mL mb) + 1)), .ref ra])), (sa, .inl (cI, mC mb, .inl (eN ms))), (ra, .inl (cI, (mL mb * 2), .inl (eN (fs (fun j => if j < mC mb then ms j else 0) (mL mb) ((v * 128) + q)))))] := hD
    rw [show mL mb + 1 = mL (put mb (v * 128 + q)) from (put_mL mb (v * 128 + q)).symm, show mL mb * 2 = mC (put mb (v * 128 + q)) from (put_mC1 n_9 (v * 128 + q)).symm] at hP hD
    exact k_vret E hK hP hD hS (ra, (fs (fun j => if j < mC mb then ms j else 0) (mL mb) ((v * 128) + q))) [0, 2] (by decide) rfl (mrep_2 hr g1) (show ((put mb (v * 128 + q)).2 - mb.2) ≤ ((put mb (v * 128 + q)).2 - mb.2) from by exact Nat.le_refl _) (show (2048 * ((put mb (v * 128 + q)).2 - mb.2)) ≤ 2048 * ((put mb (v * 128 + q)).2 - mb.2) from by exact Nat.le_refl _) dX3_add_75

