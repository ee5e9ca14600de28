theorem dX2_versionHeld_0 : decode cX2_versionHeld 0 = .ok (.aload_n 0, 1) := by decide +kernel
theorem dX2_versionHeld_1 : decode cX2_versionHeld 1 = .ok (.getfield 22, 3) := by decide +kernel
theorem dX2_versionHeld_4 : decode cX2_versionHeld 4 = .ok (.iload_n 1, 1) := by decide +kernel
theorem dX2_versionHeld_5 : decode cX2_versionHeld 5 = .ok (.sipush 1088, 3) := by decide +kernel
theorem dX2_versionHeld_8 : decode cX2_versionHeld 8 = .ok (.imul, 1) := by decide +kernel
theorem dX2_versionHeld_9 : decode cX2_versionHeld 9 = .ok (.iload_n 2, 1) := by decide +kernel
theorem dX2_versionHeld_10 : decode cX2_versionHeld 10 = .ok (.iadd, 1) := by decide +kernel
theorem dX2_versionHeld_11 : decode cX2_versionHeld 11 = .ok (.iaload, 1) := by decide +kernel
theorem dX2_versionHeld_12 : decode cX2_versionHeld 12 = .ok (.ireturn, 1) := by decide +kernel
theorem dX2_holdsSlot_0 : decode cX2_holdsSlot 0 = .ok (.aload_n 0, 1) := by decide +kernel
theorem dX2_holdsSlot_1 : decode cX2_holdsSlot 1 = .ok (.getfield 25, 3) := by decide +kernel
theorem dX2_holdsSlot_4 : decode cX2_holdsSlot 4 = .ok (.iload_n 1, 1) := by decide +kernel
theorem dX2_holdsSlot_5 : decode cX2_holdsSlot 5 = .ok (.iaload, 1) := by decide +kernel
theorem dX2_holdsSlot_6 : decode cX2_holdsSlot 6 = .ok (.ifCond .le 7, 3) := by decide +kernel
theorem dX2_holdsSlot_9 : decode cX2_holdsSlot 9 = .ok (.iconst 1, 1) := by decide +kernel
theorem dX2_holdsSlot_10 : decode cX2_holdsSlot 10 = .ok (.goto 4, 3) := by decide +kernel
theorem dX2_holdsSlot_13 : decode cX2_holdsSlot 13 = .ok (.iconst 0, 1) := by decide +kernel
theorem dX2_holdsSlot_14 : decode cX2_holdsSlot 14 = .ok (.ireturn, 1) := by decide +kernel
theorem dX2_replace_0 : decode cX2_replace 0 = .ok (.iload_n 1, 1) := by decide +kernel
theorem dX2_replace_1 : decode cX2_replace 1 = .ok (.sipush 1088, 3) := by decide +kernel
theorem dX2_replace_4 : decode cX2_replace 4 = .ok (.imul, 1) := by decide +kernel
theorem dX2_replace_5 : decode cX2_replace 5 = .ok (.iload_n 2, 1) := by decide +kernel
theorem dX2_replace_6 : decode cX2_replace 6 = .ok (.iadd, 1) := by decide +kernel
theorem dX2_replace_7 : decode cX2_replace 7 = .ok (.istore 4, 2) := by decide +kernel
theorem dX2_replace_9 : decode cX2_replace 9 = .ok (.aload_n 0, 1) := by decide +kernel
theorem dX2_replace_10 : decode cX2_replace 10 = .ok (.getfield 22, 3) := by decide +kernel
theorem dX2_replace_13 : decode cX2_replace 13 = .ok (.iload 4, 2) := by decide +kernel
theorem dX2_replace_15 : decode cX2_replace 15 = .ok (.iaload, 1) := by decide +kernel
theorem dX2_replace_16 : decode cX2_replace 16 = .ok (.istore 5, 2) := by decide +kernel
theorem dX2_replace_18 : decode cX2_replace 18 = .ok (.iload 5, 2) := by decide +kernel
theorem dX2_replace_20 : decode cX2_replace 20 = .ok (.iconst (-1), 1) := by decide +kernel
theorem dX2_replace_21 : decode cX2_replace 21 = .ok (.if_icmp .eq 17, 3) := by decide +kernel
theorem dX2_replace_24 : decode cX2_replace 24 = .ok (.aload_n 0, 1) := by decide +kernel
theorem dX2_replace_25 : decode cX2_replace 25 = .ok (.getfield 25, 3) := by decide +kernel
theorem dX2_replace_28 : decode cX2_replace 28 = .ok (.iload 5, 2) := by decide +kernel
theorem dX2_replace_30 : decode cX2_replace 30 = .ok (.bipush 63, 2) := by decide +kernel
theorem dX2_replace_32 : decode cX2_replace 32 = .ok (.iand, 1) := by decide +kernel
theorem dX2_replace_33 : decode cX2_replace 33 = .ok (.dup2, 1) := by decide +kernel
theorem dX2_replace_34 : decode cX2_replace 34 = .ok (.iaload, 1) := by decide +kernel
theorem dX2_replace_35 : decode cX2_replace 35 = .ok (.iconst 1, 1) := by decide +kernel
theorem dX2_replace_36 : decode cX2_replace 36 = .ok (.isub, 1) := by decide +kernel
theorem dX2_replace_37 : decode cX2_replace 37 = .ok (.iastore, 1) := by decide +kernel
theorem dX2_replace_38 : decode cX2_replace 38 = .ok (.iload_n 3, 1) := by decide +kernel
theorem dX2_replace_39 : decode cX2_replace 39 = .ok (.iconst (-1), 1) := by decide +kernel
theorem dX2_replace_40 : decode cX2_replace 40 = .ok (.if_icmp .eq 16, 3) := by decide +kernel
theorem dX2_replace_43 : decode cX2_replace 43 = .ok (.aload_n 0, 1) := by decide +kernel
theorem dX2_replace_44 : decode cX2_replace 44 = .ok (.getfield 25, 3) := by decide +kernel
theorem dX2_replace_47 : decode cX2_replace 47 = .ok (.iload_n 3, 1) := by decide +kernel
theorem dX2_replace_48 : decode cX2_replace 48 = .ok (.bipush 63, 2) := by decide +kernel
theorem dX2_replace_50 : decode cX2_replace 50 = .ok (.iand, 1) := by decide +kernel
theorem dX2_replace_51 : decode cX2_replace 51 = .ok (.dup2, 1) := by decide +kernel
theorem dX2_replace_52 : decode cX2_replace 52 = .ok (.iaload, 1) := by decide +kernel
theorem dX2_replace_53 : decode cX2_replace 53 = .ok (.iconst 1, 1) := by decide +kernel
theorem dX2_replace_54 : decode cX2_replace 54 = .ok (.iadd, 1) := by decide +kernel
theorem dX2_replace_55 : decode cX2_replace 55 = .ok (.iastore, 1) := by decide +kernel
theorem dX2_replace_56 : decode cX2_replace 56 = .ok (.aload_n 0, 1) := by decide +kernel
theorem dX2_replace_57 : decode cX2_replace 57 = .ok (.getfield 22, 3) := by decide +kernel
theorem dX2_replace_60 : decode cX2_replace 60 = .ok (.iload 4, 2) := by decide +kernel
theorem dX2_replace_62 : decode cX2_replace 62 = .ok (.iload_n 3, 1) := by decide +kernel
theorem dX2_replace_63 : decode cX2_replace 63 = .ok (.iastore, 1) := by decide +kernel
theorem dX2_replace_64 : decode cX2_replace 64 = .ok (.iload_n 2, 1) := by decide +kernel
theorem dX2_replace_65 : decode cX2_replace 65 = .ok (.sipush 272, 3) := by decide +kernel
theorem dX2_replace_68 : decode cX2_replace 68 = .ok (.idiv, 1) := by decide +kernel
theorem dX2_replace_69 : decode cX2_replace 69 = .ok (.istore 6, 2) := by decide +kernel
theorem dX2_replace_71 : decode cX2_replace 71 = .ok (.iload_n 2, 1) := by decide +kernel
theorem dX2_replace_72 : decode cX2_replace 72 = .ok (.iload 6, 2) := by decide +kernel
theorem dX2_replace_74 : decode cX2_replace 74 = .ok (.sipush 272, 3) := by decide +kernel
theorem dX2_replace_77 : decode cX2_replace 77 = .ok (.imul, 1) := by decide +kernel
theorem dX2_replace_78 : decode cX2_replace 78 = .ok (.isub, 1) := by decide +kernel
theorem dX2_replace_79 : decode cX2_replace 79 = .ok (.bipush 16, 2) := by decide +kernel
theorem dX2_replace_81 : decode cX2_replace 81 = .ok (.if_icmp .ge 15, 3) := by decide +kernel
theorem dX2_replace_84 : decode cX2_replace 84 = .ok (.aload_n 0, 1) := by decide +kernel
theorem dX2_replace_85 : decode cX2_replace 85 = .ok (.getfield 19, 3) := by decide +kernel
theorem dX2_replace_88 : decode cX2_replace 88 = .ok (.iload_n 1, 1) := by decide +kernel
theorem dX2_replace_89 : decode cX2_replace 89 = .ok (.iconst 4, 1) := by decide +kernel
theorem dX2_replace_90 : decode cX2_replace 90 = .ok (.imul, 1) := by decide +kernel
theorem dX2_replace_91 : decode cX2_replace 91 = .ok (.iload 6, 2) := by decide +kernel
theorem dX2_replace_93 : decode cX2_replace 93 = .ok (.iadd, 1) := by decide +kernel
theorem dX2_replace_94 : decode cX2_replace 94 = .ok (.iconst 1, 1) := by decide +kernel
theorem dX2_replace_95 : decode cX2_replace 95 = .ok (.bastore, 1) := by decide +kernel
theorem dX2_replace_96 : decode cX2_replace 96 = .ok (.return_, 1) := by decide +kernel
/-- how many of the first n places hold a version of a slot -/
def cnt (hd : Nat → Option Nat) (s : Nat) : Nat → Nat
  | 0 => 0
  | n + 1 => cnt hd s n + (match hd n with | none => 0 | some v => if v % 64 = s then 1 else 0)
def one (x : Option Nat) (s : Nat) : Nat := match x with | none => 0 | some v => if v % 64 = s then 1 else 0
theorem cnt_s {hd : Nat → Option Nat} {s n : Nat} : cnt hd s (n + 1) = cnt hd s n + one (hd n) s := rfl
theorem cnt_out {hd : Nat → Option Nat} {s k : Nat} {x : Option Nat} : ∀ n, n ≤ k → cnt (fs hd k x) s n = cnt hd s n
  | 0, _ => rfl
  | n + 1, h => by rw [cnt_s, cnt_s, cnt_out n (by omega), fs_n (by omega)]
theorem cnt_fs {hd : Nat → Option Nat} {s k : Nat} {x : Option Nat} : ∀ n, k < n → cnt (fs hd k x) s n + one (hd k) s = cnt hd s n + one x s
  | 0, h => absurd h (Nat.not_lt_zero _)
  | n + 1, h => by
    rw [cnt_s, cnt_s]
    by_cases e : k = n
    · subst e
      rw [cnt_out k (Nat.le_refl _), fs_s]
      omega
    · have := cnt_fs (hd := hd) (s := s) (k := k) (x := x) n (by omega)
      rw [fs_n (Ne.symm e)]
      omega
theorem one_le (x : Option Nat) (s : Nat) : one x s ≤ 1 := by
  unfold one
  split
  · omega
  · split <;> omega
theorem cnt_le {hd : Nat → Option Nat} {s : Nat} : ∀ n, cnt hd s n ≤ n
  | 0 => Nat.le_refl _
  | n + 1 => by
    rw [cnt_s]
    have h1 := cnt_le (hd := hd) (s := s) n
    have h2 := one_le (hd n) s
    omega
theorem cnt_pos {hd : Nat → Option Nat} {s k : Nat} : ∀ n, k < n → one (hd k) s ≤ cnt hd s n
  | 0, h => absurd h (Nat.not_lt_zero _)
  | n + 1, h => by
    rw [cnt_s]
    by_cases e : k = n
    · subst e; omega
    · have := cnt_pos (hd := hd) (s := s) (k := k) n (by omega)
      omega
/-- holdersOfSlot is what the databases say -/
def cn (hd : Nat → Option Nat) : Nat → Nat := fun s => cnt hd s 17408
theorem cn_lt (hd : Nat → Option Nat) (s : Nat) : cn hd s < 2 ^ 20 := Nat.lt_of_le_of_lt (cnt_le 17408) (by decide)
theorem cn_pos {hd : Nat → Option Nat} {k v : Nat} (hk : k < 17408) (h : hd k = some v) : 1 ≤ cn hd (v % 64) := by
  have h1 := cnt_pos (hd := hd) (s := v % 64) (k := k) 17408 hk
  rw [h] at h1
  simp [one] at h1
  exact h1
theorem cntN_none {hd : Nat → Option Nat} {k s n : Nat} {x : Option Nat} (hk : k < n) (h : hd k = none) : cnt (fs hd k x) s n = cnt hd s n + one x s := by
  have h1 := cnt_fs (hd := hd) (s := s) (k := k) (x := x) n hk
  have h2 : one none s = 0 := rfl
  rw [h, h2] at h1
  exact h1
theorem cntN_some {hd : Nat → Option Nat} {k s n v : Nat} {x : Option Nat} (hk : k < n) (h : hd k = some v) : cnt (fs hd k x) s n = fs (fun s => cnt hd s n) (v % 64) (cnt hd (v % 64) n - 1) s + one x s := by
  have h1 := cnt_fs (hd := hd) (s := s) (k := k) (x := x) n hk
  have h2 := cnt_pos (hd := hd) (s := v % 64) (k := k) n hk
  rw [h] at h1 h2
  by_cases e : s = v % 64
  · subst e
    rw [fs_s]
    have h3 : one (some v) (v % 64) = 1 := by simp [one]
    rw [h3] at h1 h2
    omega
  · rw [fs_n e]
    have h3 : one (some v) s = 0 := by simp [one, Ne.symm e]
    rw [h3] at h1
    exact h1
theorem cn_none {hd : Nat → Option Nat} {k : Nat} {x : Option Nat} (hk : k < 17408) (h : hd k = none) : cn (fs hd k x) = (fun s => cn hd s + one x s) := by
  funext s
  unfold cn
  exact cntN_none hk h
theorem cn_some {hd : Nat → Option Nat} {k v : Nat} {x : Option Nat} (hk : k < 17408) (h : hd k = some v) : cn (fs hd k x) = (fun s => fs (cn hd) (v % 64) (cn hd (v % 64) - 1) s + one x s) := by
  funext s
  unfold cn
  exact cntN_some hk h
theorem fs_one {f : Nat → Nat} {v : Nat} : (fun s => f s + one (some v) s) = fs f (v % 64) (f (v % 64) + 1) := by
  funext s
  by_cases e : s = v % 64
  · subst e; rw [fs_s]; simp [one]
  · rw [fs_n e]; simp [one, Ne.symm e]
theorem fun_one {f : Nat → Nat} : (fun s => f s + one none s) = f := by funext s; rfl
def rol (old : Nat → Bool) (r ky : Nat) : Nat → Bool := if ky - ky / 272 * 272 < 16 then fs old (r * 4 + ky / 272) true else old
def O_versionHeld : List Cond := [.fieldLink RX2 22 "RoutingDomain$Databases" "held" "[I"]
def W_versionHeld : List Cond := .code yX2_versionHeld cX2_versionHeld 3 (some .int) :: (O_versionHeld ++ wsX20)
theorem m_versionHeld_O : ∀ w ∈ O_versionHeld, w ∈ W_versionHeld := fun _ h => List.mem_cons_of_mem _ (List.mem_append_left _ h)
theorem m_versionHeld_C2 : ∀ w ∈ wsX20, w ∈ W_versionHeld := fun _ h => List.mem_cons_of_mem _ (List.mem_append_right _ h)
theorem gdO_versionHeld : O_versionHeld.all goodWord = true := by decide +kernel
theorem gd_versionHeld : W_versionHeld.all goodWord = true := k_all_cons rfl (k_all_app gdO_versionHeld gdC_2)
set_option maxHeartbeats 4000000 in
set_option maxRecDepth 100000 in
theorem c_versionHeld (l : Launch) (D : va_G) (cI cZ cJ : ClassId) (h0 : Nat) (ad : Nat → Nat) (hd : Nat → Option Nat) (r : Nat) (ky : Nat) (hr : r < 16) (hky : ky < 1088) : kMi l yX2_versionHeld W_versionHeld { frames := 0, cells := 0, slots := 0, locals := 0 } 0 0 D (kT cI cZ cJ) [.ref h0, .int (nI r), .int (nI ky)] [(h0, .inr (2, [.ref (ad 21), .ref (ad 22), .ref (ad 23), .ref (ad 24), .ref (ad 25)])), ((ad 24), .inl (cI, 17408, .inl (eO hd)))] (S := Unit) (fun res_ _ => res_ = (oI (hd (r * 1088 + ky)))) (fun _ => [(h0, .inr (2, [.ref (ad 21), .ref (ad 22), .ref (ad 23), .ref (ad 24), .ref (ad 25)])), ((ad 24), .inl (cI, 17408, .inl (eO hd)))]) := by
  refine kMi_of (lv := [(0, .ref h0), (1, .int (nI r)), (2, .int (nI ky))]) RX2 "versionHeld" (by decide +kernel) rfl rfl rfl (Nat.le_of_ble_eq_true rfl) rfl ?_
  intro p e s m below meth c A H locs ls E hA hK hP hD hS hl
  obtain ⟨hx, hb, hr_, hts, hown, hlocks, hml, hin, hN⟩ := id E
  refine lv_aload_n hx hb dX2_versionHeld_0 rfl (lv_at hl 0 rfl) ?_
  refine va_get (ci := 2) (v := .ref (ad 24)) (C := RX2) (T := TX2) (N := 5) hx hb hts m_versionHeld_C2 hown hK hP 0 rfl rfl 3 (by decide) (hts (.fieldLink RX2 22 "RoutingDomain$Databases" "held" "[I") (m_versionHeld_O _ (by decide +kernel))) (fun _ h9 => h9) rfl dX2_versionHeld_1 ?_
  refine lv_iload_n hx hb dX2_versionHeld_4 rfl (lv_at hl 1 rfl) ?_
  refine lv_sipush (v := 1088) hx hb dX2_versionHeld_5 (by decide) ?_
  refine lv_imul hx hb dX2_versionHeld_8 ?_
  refine lv_topi (fun y ey => ?_)
  obtain rfl : y = (nI (r * 1088)) := ey.trans (pk_mul r 1088)
  refine lv_iload_n hx hb dX2_versionHeld_9 rfl (lv_at hl 2 rfl) ?_
  refine lv_iadd hx hb dX2_versionHeld_10 ?_
  refine lv_topi (fun y ey => ?_)
  obtain rfl : y = (nI ((r * 1088) + ky)) := ey.trans (nI_add (r * 1088) ky)
  refine va_iald hx hb hK hP 1 0 rfl rfl (vp_in_nI (show ((r * 1088) + ky) < 17408 from by omega) (by decide)) dX2_versionHeld_11 ?_
  refine lv_topi (fun y ey => ?_)
  obtain rfl : y = (oI (hd ((r * 1088) + ky))) := ey.trans (ldO (f := hd) (j := ((r * 1088) + ky)) (by omega))
  rcases hv_11 : (hd ((r * 1088) + ky)) with _ | v_11
  · refine lv_topi (fun y ey => ?_)
    obtain rfl : y = (-1) := ey
    exact k_iret E hK hP hD hS () [0, 1] (by decide) rfl (by first | rfl | (simp [bI, oI, hv_11]; done) | (simp [bI, oI, hv_11]; rfl)) (Nat.le_of_ble_eq_true rfl) (Nat.le_of_ble_eq_true rfl) dX2_versionHeld_12
  · refine lv_topi (fun y ey => ?_)
    obtain rfl : y = (nI v_11) := ey
    exact k_iret E hK hP hD hS () [0, 1] (by decide) rfl (by first | rfl | (simp [bI, oI, hv_11]; done) | (simp [bI, oI, hv_11]; rfl)) (Nat.le_of_ble_eq_true rfl) (Nat.le_of_ble_eq_true rfl) dX2_versionHeld_12

def O_holdsSlot : List Cond := [.fieldLink RX2 25 "RoutingDomain$Databases" "holdersOfSlot" "[I"]
def W_holdsSlot : List Cond := .code yX2_holdsSlot cX2_holdsSlot 2 (some .boolean) :: (O_holdsSlot ++ wsX20)
theorem m_holdsSlot_O : ∀ w ∈ O_holdsSlot, w ∈ W_holdsSlot := fun _ h => List.mem_cons_of_mem _ (List.mem_append_left _ h)
theorem m_holdsSlot_C2 : ∀ w ∈ wsX20, w ∈ W_holdsSlot := fun _ h => List.mem_cons_of_mem _ (List.mem_append_right _ h)
theorem gdO_holdsSlot : O_holdsSlot.all goodWord = true := by decide +kernel
theorem gd_holdsSlot : W_holdsSlot.all goodWord = true := k_all_cons rfl (k_all_app gdO_holdsSlot gdC_2)
set_option maxHeartbeats 4000000 in
set_option maxRecDepth 100000 in
theorem c_holdsSlot (l : Launch) (D : va_G) (cI cZ cJ : ClassId) (h0 : Nat) (ad : Nat → Nat) (hd : Nat → Option Nat) (n : Nat) (hn : n < 64) : kMi l yX2_holdsSlot W_holdsSlot { frames := 0, cells := 0, slots := 0, locals := 0 } 0 0 D (kT cI cZ cJ) [.ref h0, .int (nI n)] [(h0, .inr (2, [.ref (ad 21), .ref (ad 22), .ref (ad 23), .ref (ad 24), .ref (ad 25)])), ((ad 25), .inl (cI, 64, .inl (eN (cn hd))))] (S := Unit) (fun res_ _ => res_ = (bI (decide (0 < cn hd n)))) (fun _ => [(h0, .inr (2, [.ref (ad 21), .ref (ad 22), .ref (ad 23), .ref (ad 24), .ref (ad 25)])), ((ad 25), .inl (cI, 64, .inl (eN (cn hd))))]) := by
  refine kMi_of (lv := [(0, .ref h0), (1, .int (nI n))]) RX2 "holdsSlot" (by decide +kernel) rfl rfl rfl (Nat.le_of_ble_eq_true rfl) rfl ?_
  intro p e s m below meth c A H locs ls E hA hK hP hD hS hl
  obtain ⟨hx, hb, hr_, hts, hown, hlocks, hml, hin, hN⟩ := id E
  have hq1 := cn_lt hd n
  refine lv_aload_n hx hb dX2_holdsSlot_0 rfl (lv_at hl 0 rfl) ?_
  refine va_get (ci := 2) (v := .ref (ad 25)) (C := RX2) (T := TX2) (N := 5) hx hb hts m_holdsSlot_C2 hown hK hP 0 rfl rfl 4 (by decide) (hts (.fieldLink RX2 25 "RoutingDomain$Databases" "holdersOfSlot" "[I") (m_holdsSlot_O _ (by decide +kernel))) (fun _ h9 => h9) rfl dX2_holdsSlot_1 ?_
  refine lv_iload_n hx hb dX2_holdsSlot_4 rfl (lv_at hl 1 rfl) ?_
  refine va_iald hx hb hK hP 1 0 rfl rfl (vp_in_nI (show n < 64 from by omega) (by decide)) dX2_holdsSlot_5 ?_
  refine lv_topi (fun y ey => ?_)
  obtain rfl : y = (nI ((cn hd) n)) := ey.trans (ldN (f := (cn hd)) (j := n) (by omega))
  refine lv_if_le (tgt := 13) hx hb dX2_holdsSlot_6 (by decide) (fun c_6 => ?_) (fun c_6 => ?_)
  · have n_6 : ((cn hd) n) ≤ 0 := (nI_leI (a := ((cn hd) n)) (b := 0) (by omega) (by omega)).mp c_6
    refine lv_iconst (v := 0) hx hb dX2_holdsSlot_13 (by decide) ?_
    exact k_zret E hK hP hD hS () [0, 1] (by decide) rfl (by first | rfl | (simp [bI, oI, n_6]; done) | (simp [bI, oI, n_6]; rfl)) (by decide) (Nat.le_of_ble_eq_true rfl) (Nat.le_of_ble_eq_true rfl) dX2_holdsSlot_14
  · have n_6 : ¬ ((cn hd) n) ≤ 0 := fun h => c_6 ((nI_leI (a := ((cn hd) n)) (b := 0) (by omega) (by omega)).mpr h)
    refine lv_iconst (v := 1) hx hb dX2_holdsSlot_9 (by decide) ?_
    refine lv_goto (tgt := 14) hx hb dX2_holdsSlot_10 (by decide) ?_
    exact k_zret E hK hP hD hS () [0, 1] (by decide) rfl (by first | rfl | (simp [bI, oI, n_6]; done) | (simp [bI, oI, n_6]; rfl)) (by decide) (Nat.le_of_ble_eq_true rfl) (Nat.le_of_ble_eq_true rfl) dX2_holdsSlot_14

def O_replN : List Cond := [.fieldLink RX2 22 "RoutingDomain$Databases" "held" "[I", .fieldLink RX2 19 "RoutingDomain$Databases" "pathsAreOld" "[Z", .fieldLink RX2 25 "RoutingDomain$Databases" "holdersOfSlot" "[I"]
def W_replN : List Cond := .code yX2_replace cX2_replace 7 none :: (O_replN ++ wsX20)
theorem m_replN_O : ∀ w ∈ O_replN, w ∈ W_replN := fun _ h => List.mem_cons_of_mem _ (List.mem_append_left _ h)
theorem m_replN_C2 : ∀ w ∈ wsX20, w ∈ W_replN := fun _ h => List.mem_cons_of_mem _ (List.mem_append_right _ h)
theorem gdO_replN : O_replN.all goodWord = true := by decide +kernel
theorem gd_replN : W_replN.all goodWord = true := k_all_cons rfl (k_all_app gdO_replN gdC_2)
set_option maxHeartbeats 4000000 in
set_option maxRecDepth 100000 in
theorem c_replN (l : Launch) (D : va_G) (cI cZ cJ : ClassId) (h0 : Nat) (ad : Nat → Nat) (old : Nat → Bool) (hd : Nat → Option Nat) (r : Nat) (ky : Nat) (hr : r < 16) (hky : ky < 1088) (hhd : ∀ j w, hd j = some w → w < 69632) : kMv l yX2_replace W_replN { frames := 0, cells := 0, slots := 0, locals := 0 } 0 0 D (kT cI cZ cJ) [.ref h0, .int (nI r), .int (nI ky), .int (-1)] [(h0, .inr (2, [.ref (ad 21), .ref (ad 22), .ref (ad 23), .ref (ad 24), .ref (ad 25)])), ((ad 23), .inl (cZ, 64, .inl (eB old))), ((ad 24), .inl (cI, 17408, .inl (eO hd))), ((ad 25), .inl (cI, 64, .inl (eN (cn hd))))] (S := Unit) (fun _ => True) (fun _ => [(h0, .inr (2, [.ref (ad 21), .ref (ad 22), .ref (ad 23), .ref (ad 24), .ref (ad 25)])), ((ad 23), .inl (cZ, 64, .inl (eB (rol old r ky)))), ((ad 24), .inl (cI, 17408, .inl (eO (fs hd (r * 1088 + ky) none)))), ((ad 25), .inl (cI, 64, .inl (eN (cn (fs hd (r * 1088 + ky) none)))))]) := by
  refine kMv_of (lv := [(0, .ref h0), (1, .int (nI r)), (2, .int (nI ky)), (3, .int (-1))]) RX2 "replace" (by decide +kernel) rfl rfl rfl (Nat.le_of_ble_eq_true rfl) rfl ?_
  intro p e s m below meth c A H locs ls E hA hK hP hD hS hl
  obtain ⟨hx, hb, hr_, hts, hown, hlocks, hml, hin, hN⟩ := id E
  refine lv_iload_n hx hb dX2_replace_0 rfl (lv_at hl 1 rfl) ?_
  refine lv_sipush (v := 1088) hx hb dX2_replace_1 (by decide) ?_
  refine lv_imul hx hb dX2_replace_4 ?_
  refine lv_topi (fun y ey => ?_)
  obtain rfl : y = (nI (r * 1088)) := ey.trans (pk_mul r 1088)
  refine lv_iload_n hx hb dX2_replace_5 rfl (lv_at hl 2 rfl) ?_
  refine lv_iadd hx hb dX2_replace_6 ?_
  refine lv_topi (fun y ey => ?_)
  obtain rfl : y = (nI ((r * 1088) + ky)) := ey.trans (nI_add (r * 1088) ky)
  refine lv_istore (lv' := [(4, .int (nI ((r * 1088) + ky))), (0, .ref h0), (1, .int (nI r)), (2, .int (nI ky)), (3, .int (-1))]) hx hb dX2_replace_7 hl (by decide) rfl (fun ls hl => ?_)
  refine lv_aload_n hx hb dX2_replace_9 rfl (lv_at hl 1 rfl) ?_
  refine va_get (ci := 2) (v := .ref (ad 24)) (C := RX2) (T := TX2) (N := 5) hx hb hts m_replN_C2 hown hK hP 0 rfl rfl 3 (by decide) (hts (.fieldLink RX2 22 "RoutingDomain$Databases" "held" "[I") (m_replN_O _ (by decide +kernel))) (fun _ h9 => h9) rfl dX2_replace_10 ?_
  refine lv_iload hx hb dX2_replace_13 (lv_at hl 0 rfl) ?_
  refine va_iald hx hb hK hP 2 0 rfl rfl (vp_in_nI (show ((r * 1088) + ky) < 17408 from by omega) (by decide)) dX2_replace_15 ?_
  refine lv_topi (fun y ey => ?_)
  obtain rfl : y = (oI (hd ((r * 1088) + ky))) := ey.trans (ldO (f := hd) (j := ((r * 1088) + ky)) (by omega))
  rcases hv_15 : (hd ((r * 1088) + ky)) with _ | v_15
  · refine lv_topi (fun y ey => ?_)
    obtain rfl : y = (-1) := ey
    refine lv_istore (lv' := [(5, .int (-1)), (4, .int (nI ((r * 1088) + ky))), (0, .ref h0), (1, .int (nI r)), (2, .int (nI ky)), (3, .int (-1))]) hx hb dX2_replace_16 hl (by decide) rfl (fun ls hl => ?_)
    refine lv_iload hx hb dX2_replace_18 (lv_at hl 0 rfl) ?_
    refine lv_iconst (v := (-1)) hx hb dX2_replace_20 (by decide) ?_
    refine lv_icmp_eq (tgt := 38) hx hb dX2_replace_21 (by decide) (fun _ => ?_) (fun c => absurd (by decide) c)
    refine lv_iload_n hx hb dX2_replace_38 rfl (lv_at hl 5 rfl) ?_
    refine lv_iconst (v := (-1)) hx hb dX2_replace_39 (by decide) ?_
    refine lv_icmp_eq (tgt := 56) hx hb dX2_replace_40 (by decide) (fun _ => ?_) (fun c => absurd (by decide) c)
    refine lv_aload_n hx hb dX2_replace_56 rfl (lv_at hl 2 rfl) ?_
    refine va_get (ci := 2) (v := .ref (ad 24)) (C := RX2) (T := TX2) (N := 5) hx hb hts m_replN_C2 hown hK hP 0 rfl rfl 3 (by decide) (hts (.fieldLink RX2 22 "RoutingDomain$Databases" "held" "[I") (m_replN_O _ (by decide +kernel))) (fun _ h9 => h9) rfl dX2_replace_57 ?_
    refine lv_iload hx hb dX2_replace_60 (lv_at hl 1 rfl) ?_
    refine lv_iload_n hx hb dX2_replace_62 rfl (lv_at hl 5 rfl) ?_
    refine va_iast hx hb hK hP hD hS 2 0 rfl rfl (vp_in_nI (show ((r * 1088) + ky) < 17408 from by omega) (by decide)) dX2_replace_63 (fun H locs hP hD hS => ?_)
    have hP : va_P D vwCl [(h0, .inr (2, [.ref (ad 21), .ref (ad 22), .ref (ad 23), .ref (ad 24), .ref (ad 25)])), ((ad 23), .inl (cZ, 64, .inl (eB old))), ((ad 24), .inl (cI, 17408, .inl (upd (eO hd) (nI ((r * 1088) + ky)).toNatClampNeg (oI none)))), ((ad 25), .inl (cI, 64, .inl (eN (cn hd))))] H := hP
    have hD : va_D A [(h0, .inr (2, [.ref (ad 21), .ref (ad 22), .ref (ad 23), .ref (ad 24), .ref (ad 25)])), ((ad 23), .inl (cZ, 64, .inl (eB old))), ((ad 24), .inl (cI, 17408, .inl (upd (eO hd) (nI ((r * 1088) + ky)).toNatClampNeg (oI none)))), ((ad 25), .inl (cI, 64, .inl (eN (cn hd))))] := hD
    rw [show (upd (eO hd) (nI ((r * 1088) + ky)).toNatClampNeg (oI none)) = (eO (fs hd ((r * 1088) + ky) none)) from stO (by omega)] at hP hD
    rw [show (cn hd) = cn (fs hd (r * 1088 + ky) none) from ((cn_none (by omega) hv_15).trans fun_one).symm] at hP hD
    refine lv_iload_n hx hb dX2_replace_64 rfl (lv_at hl 4 rfl) ?_
    refine lv_sipush (v := 272) hx hb dX2_replace_65 (by decide) ?_
    refine lv_idiv hx hb dX2_replace_68 (by decide) ?_
    refine lv_topi (fun y ey => ?_)
    obtain rfl : y = (nI (ky / 272)) := ey.trans (pk_div (a := ky) (d := 272) (by omega) (by decide) (by decide))
    refine lv_istore (lv' := [(6, .int (nI (ky / 272))), (5, .int (-1)), (4, .int (nI ((r * 1088) + ky))), (0, .ref h0), (1, .int (nI r)), (2, .int (nI ky)), (3, .int (-1))]) hx hb dX2_replace_69 hl (by decide) rfl (fun ls hl => ?_)
    refine lv_iload_n hx hb dX2_replace_71 rfl (lv_at hl 5 rfl) ?_
    refine lv_iload hx hb dX2_replace_72 (lv_at hl 0 rfl) ?_
    refine lv_sipush (v := 272) hx hb dX2_replace_74 (by decide) ?_
    refine lv_imul hx hb dX2_replace_77 ?_
    refine lv_topi (fun y ey => ?_)
    obtain rfl : y = (nI ((ky / 272) * 272)) := ey.trans (pk_mul (ky / 272) 272)
    refine lv_isub hx hb dX2_replace_78 ?_
    refine lv_topi (fun y ey => ?_)
    obtain rfl : y = (nI (ky - ((ky / 272) * 272))) := ey.trans (pk_sub (show ((ky / 272) * 272) ≤ ky from by omega))
    refine lv_bipush (v := 16) hx hb dX2_replace_79 (by decide) ?_
    refine lv_icmp_ge (tgt := 96) hx hb dX2_replace_81 (by decide) (fun c_81 => ?_) (fun c_81 => ?_)
    · have n_81 : 16 ≤ (ky - ((ky / 272) * 272)) := (nI_leI (a := 16) (b := (ky - ((ky / 272) * 272))) (by omega) (by omega)).mp c_81
      rw [show old = (rol old r ky) from (by first | rfl | (simp [itr_s, rol, hv_15, n_81]; done) | (unfold rol; split <;> first | rfl | (exfalso; omega)))] at hP hD
      rw [show (fs hd ((r * 1088) + ky) none) = (fs hd (r * 1088 + ky) none) from (by first | rfl | (simp [itr_s, rol, hv_15, n_81]; done) | (unfold rol; split <;> first | rfl | (exfalso; omega)))] at hP hD
      exact k_vret E hK hP hD hS () [0, 1, 2, 3] (by decide) rfl trivial (Nat.le_of_ble_eq_true rfl) (Nat.le_of_ble_eq_true rfl) dX2_replace_96
    · have n_81 : ¬ 16 ≤ (ky - ((ky / 272) * 272)) := fun h => c_81 ((nI_leI (a := 16) (b := (ky - ((ky / 272) * 272))) (by omega) (by omega)).mpr h)
      refine lv_aload_n hx hb dX2_replace_84 rfl (lv_at hl 3 rfl) ?_
      refine va_get (ci := 2) (v := .ref (ad 23)) (C := RX2) (T := TX2) (N := 5) hx hb hts m_replN_C2 hown hK hP 0 rfl rfl 2 (by decide) (hts (.fieldLink RX2 19 "RoutingDomain$Databases" "pathsAreOld" "[Z") (m_replN_O _ (by decide +kernel))) (fun _ h9 => h9) rfl dX2_replace_85 ?_
      refine lv_iload_n hx hb dX2_replace_88 rfl (lv_at hl 4 rfl) ?_
      refine lv_iconst (v := 4) hx hb dX2_replace_89 (by decide) ?_
      refine lv_imul hx hb dX2_replace_90 ?_
      refine lv_topi (fun y ey => ?_)
      obtain rfl : y = (nI (r * 4)) := ey.trans (pk_mul r 4)
      refine lv_iload hx hb dX2_replace_91 (lv_at hl 0 rfl) ?_
      refine lv_iadd hx hb dX2_replace_93 ?_
      refine lv_topi (fun y ey => ?_)
      obtain rfl : y = (nI ((r * 4) + (ky / 272))) := ey.trans (nI_add (r * 4) (ky / 272))
      refine lv_iconst (v := 1) hx hb dX2_replace_94 (by decide) ?_
      refine va_zast hx hb hK hP hD hS 1 1 rfl rfl (vp_in_nI (show ((r * 4) + (ky / 272)) < 64 from by omega) (by decide)) dX2_replace_95 (fun H locs hP hD hS => ?_)
      have hP : va_P D vwCl [(h0, .inr (2, [.ref (ad 21), .ref (ad 22), .ref (ad 23), .ref (ad 24), .ref (ad 25)])), ((ad 23), .inl (cZ, 64, .inl (upd (eB old) (nI ((r * 4) + (ky / 272))).toNatClampNeg (vp_nar .boolean (bI true))))), ((ad 24), .inl (cI, 17408, .inl (eO (fs hd ((r * 1088) + ky) none)))), ((ad 25), .inl (cI, 64, .inl (eN (cn (fs hd (r * 1088 + ky) none)))))] H := hP
      have hD : va_D A [(h0, .inr (2, [.ref (ad 21), .ref (ad 22), .ref (ad 23), .ref (ad 24), .ref (ad 25)])), ((ad 23), .inl (cZ, 64, .inl (upd (eB old) (nI ((r * 4) + (ky / 272))).toNatClampNeg (vp_nar .boolean (bI true))))), ((ad 24), .inl (cI, 17408, .inl (eO (fs hd ((r * 1088) + ky) none)))), ((ad 25), .inl (cI, 64, .inl (eN (cn (fs hd (r * 1088 + ky) none)))))] := hD
      rw [show (upd (eB old) (nI ((r * 4) + (ky / 272))).toNatClampNeg (vp_nar .boolean (bI true))) = (eB (fs old ((r * 4) + (ky / 272)) true)) from stB (by omega)] at hP hD
      rw [show (fs old ((r * 4) + (ky / 272)) true) = (rol old r ky) from (by first | rfl | (simp [itr_s, rol, hv_15, n_81]; done) | (unfold rol; split <;> first | rfl | (exfalso; omega)))] at hP hD
      rw [show (fs hd ((r * 1088) + ky) none) = (fs hd (r * 1088 + ky) none) from (by first | rfl | (simp [itr_s, rol, hv_15, n_81]; done) | (unfold rol; split <;> first | rfl | (exfalso; omega)))] at hP hD
      exact k_vret E hK hP hD hS () [0, 1, 2, 3] (by decide) rfl trivial (Nat.le_of_ble_eq_true rfl) (Nat.le_of_ble_eq_true rfl) dX2_replace_96
  · refine lv_topi (fun y ey => ?_)
    obtain rfl : y = (nI v_15) := ey
    have hf1 := hhd _ _ hv_15
    have hf2 := cn_pos (by omega) hv_15
    have hf3 := cn_lt hd (v_15 % 64)
    refine lv_istore (lv' := [(5, .int (nI v_15)), (4, .int (nI ((r * 1088) + ky))), (0, .ref h0), (1, .int (nI r)), (2, .int (nI ky)), (3, .int (-1))]) hx hb dX2_replace_16 hl (by decide) rfl (fun ls hl => ?_)
    refine lv_iload hx hb dX2_replace_18 (lv_at hl 0 rfl) ?_
    refine lv_iconst (v := (-1)) hx hb dX2_replace_20 (by decide) ?_
    refine lv_icmp_eq (tgt := 38) hx hb dX2_replace_21 (by decide) (fun c => absurd c (nI_m1 (v := v_15) (by omega))) (fun _ => ?_)
    refine lv_aload_n hx hb dX2_replace_24 rfl (lv_at hl 2 rfl) ?_
    refine va_get (ci := 2) (v := .ref (ad 25)) (C := RX2) (T := TX2) (N := 5) hx hb hts m_replN_C2 hown hK hP 0 rfl rfl 4 (by decide) (hts (.fieldLink RX2 25 "RoutingDomain$Databases" "holdersOfSlot" "[I") (m_replN_O _ (by decide +kernel))) (fun _ h9 => h9) rfl dX2_replace_25 ?_
    refine lv_iload hx hb dX2_replace_28 (lv_at hl 0 rfl) ?_
    refine lv_bipush (v := 63) hx hb dX2_replace_30 (by decide) ?_
    refine lv_iand hx hb dX2_replace_32 ?_
    refine lv_topi (fun y ey => ?_)
    obtain rfl : y = (nI (v_15 % 64)) := ey.trans (k_andN v_15 6)
    refine lv_dup2_11 hx hb dX2_replace_33 rfl rfl ?_
    refine va_iald hx hb hK hP 3 0 rfl rfl (vp_in_nI (show (v_15 % 64) < 64 from by omega) (by decide)) dX2_replace_34 ?_
    refine lv_topi (fun y ey => ?_)
    obtain rfl : y = (nI ((cn hd) (v_15 % 64))) := ey.trans (ldN (f := (cn hd)) (j := (v_15 % 64)) (by omega))
    refine lv_iconst (v := 1) hx hb dX2_replace_35 (by decide) ?_
    refine lv_isub hx hb dX2_replace_36 ?_
    refine lv_topi (fun y ey => ?_)
    obtain rfl : y = (nI (((cn hd) (v_15 % 64)) - 1)) := ey.trans (pk_sub (show 1 ≤ ((cn hd) (v_15 % 64)) from by omega))
    refine va_iast hx hb hK hP hD hS 3 0 rfl rfl (vp_in_nI (show (v_15 % 64) < 64 from by omega) (by decide)) dX2_replace_37 (fun H locs hP hD hS => ?_)
    have hP : va_P D vwCl [(h0, .inr (2, [.ref (ad 21), .ref (ad 22), .ref (ad 23), .ref (ad 24), .ref (ad 25)])), ((ad 23), .inl (cZ, 64, .inl (eB old))), ((ad 24), .inl (cI, 17408, .inl (eO hd))), ((ad 25), .inl (cI, 64, .inl (upd (eN (cn hd)) (nI (v_15 % 64)).toNatClampNeg (nI (((cn hd) (v_15 % 64)) - 1)))))] H := hP
    have hD : va_D A [(h0, .inr (2, [.ref (ad 21), .ref (ad 22), .ref (ad 23), .ref (ad 24), .ref (ad 25)])), ((ad 23), .inl (cZ, 64, .inl (eB old))), ((ad 24), .inl (cI, 17408, .inl (eO hd))), ((ad 25), .inl (cI, 64, .inl (upd (eN (cn hd)) (nI (v_15 % 64)).toNatClampNeg (nI (((cn hd) (v_15 % 64)) - 1)))))] := hD
    rw [show (upd (eN (cn hd)) (nI (v_15 % 64)).toNatClampNeg (nI (((cn hd) (v_15 % 64)) - 1))) = (eN (fs (cn hd) (v_15 % 64) (((cn hd) (v_15 % 64)) - 1))) from stN (by omega)] at hP hD
    refine lv_iload_n hx hb dX2_replace_38 rfl (lv_at hl 5 rfl) ?_
    refine lv_iconst (v := (-1)) hx hb dX2_replace_39 (by decide) ?_
    refine lv_icmp_eq (tgt := 56) hx hb dX2_replace_40 (by decide) (fun _ => ?_) (fun c => absurd (by decide) c)
    refine lv_aload_n hx hb dX2_replace_56 rfl (lv_at hl 2 rfl) ?_
    refine va_get (ci := 2) (v := .ref (ad 24)) (C := RX2) (T := TX2) (N := 5) hx hb hts m_replN_C2 hown hK hP 0 rfl rfl 3 (by decide) (hts (.fieldLink RX2 22 "RoutingDomain$Databases" "held" "[I") (m_replN_O _ (by decide +kernel))) (fun _ h9 => h9) rfl dX2_replace_57 ?_
    refine lv_iload hx hb dX2_replace_60 (lv_at hl 1 rfl) ?_
    refine lv_iload_n hx hb dX2_replace_62 rfl (lv_at hl 5 rfl) ?_
    refine va_iast hx hb hK hP hD hS 2 0 rfl rfl (vp_in_nI (show ((r * 1088) + ky) < 17408 from by omega) (by decide)) dX2_replace_63 (fun H locs hP hD hS => ?_)
    have hP : va_P D vwCl [(h0, .inr (2, [.ref (ad 21), .ref (ad 22), .ref (ad 23), .ref (ad 24), .ref (ad 25)])), ((ad 23), .inl (cZ, 64, .inl (eB old))), ((ad 24), .inl (cI, 17408, .inl (upd (eO hd) (nI ((r * 1088) + ky)).toNatClampNeg (oI none)))), ((ad 25), .inl (cI, 64, .inl (eN (fs (cn hd) (v_15 % 64) (((cn hd) (v_15 % 64)) - 1)))))] H := hP
    have hD : va_D A [(h0, .inr (2, [.ref (ad 21), .ref (ad 22), .ref (ad 23), .ref (ad 24), .ref (ad 25)])), ((ad 23), .inl (cZ, 64, .inl (eB old))), ((ad 24), .inl (cI, 17408, .inl (upd (eO hd) (nI ((r * 1088) + ky)).toNatClampNeg (oI none)))), ((ad 25), .inl (cI, 64, .inl (eN (fs (cn hd) (v_15 % 64) (((cn hd) (v_15 % 64)) - 1)))))] := hD
    rw [show (upd (eO hd) (nI ((r * 1088) + ky)).toNatClampNeg (oI none)) = (eO (fs hd ((r * 1088) + ky) none)) from stO (by omega)] at hP hD
    rw [show (fs (cn hd) (v_15 % 64) (((cn hd) (v_15 % 64)) - 1)) = cn (fs hd (r * 1088 + ky) none) from ((cn_some (by omega) hv_15).trans fun_one).symm] at hP hD
    refine lv_iload_n hx hb dX2_replace_64 rfl (lv_at hl 4 rfl) ?_
    refine lv_sipush (v := 272) hx hb dX2_replace_65 (by decide) ?_
    refine lv_idiv hx hb dX2_replace_68 (by decide) ?_
    refine lv_topi (fun y ey => ?_)
    obtain rfl : y = (nI (ky / 272)) := ey.trans (pk_div (a := ky) (d := 272) (by omega) (by decide) (by decide))
    refine lv_istore (lv' := [(6, .int (nI (ky / 272))), (5, .int (nI v_15)), (4, .int (nI ((r * 1088) + ky))), (0, .ref h0), (1, .int (nI r)), (2, .int (nI ky)), (3, .int (-1))]) hx hb dX2_replace_69 hl (by decide) rfl (fun ls hl => ?_)
    refine lv_iload_n hx hb dX2_replace_71 rfl (lv_at hl 5 rfl) ?_
    refine lv_iload hx hb dX2_replace_72 (lv_at hl 0 rfl) ?_
    refine lv_sipush (v := 272) hx hb dX2_replace_74 (by decide) ?_
    refine lv_imul hx hb dX2_replace_77 ?_
    refine lv_topi (fun y ey => ?_)
    obtain rfl : y = (nI ((ky / 272) * 272)) := ey.trans (pk_mul (ky / 272) 272)
    refine lv_isub hx hb dX2_replace_78 ?_
    refine lv_topi (fun y ey => ?_)
    obtain rfl : y = (nI (ky - ((ky / 272) * 272))) := ey.trans (pk_sub (show ((ky / 272) * 272) ≤ ky from by omega))
    refine lv_bipush (v := 16) hx hb dX2_replace_79 (by decide) ?_
    refine lv_icmp_ge (tgt := 96) hx hb dX2_replace_81 (by decide) (fun c_81 => ?_) (fun c_81 => ?_)
    · have n_81 : 16 ≤ (ky - ((ky / 272) * 272)) := (nI_leI (a := 16) (b := (ky - ((ky / 272) * 272))) (by omega) (by omega)).mp c_81
      rw [show old = (rol old r ky) from (by first | rfl | (simp [itr_s, rol, hv_15, n_81]; done) | (unfold rol; split <;> first | rfl | (exfalso; omega)))] at hP hD
      rw [show (fs hd ((r * 1088) + ky) none) = (fs hd (r * 1088 + ky) none) from (by first | rfl | (simp [itr_s, rol, hv_15, n_81]; done) | (unfold rol; split <;> first | rfl | (exfalso; omega)))] at hP hD
      exact k_vret E hK hP hD hS () [0, 1, 2, 3] (by decide) rfl trivial (Nat.le_of_ble_eq_true rfl) (Nat.le_of_ble_eq_true rfl) dX2_replace_96
    · have n_81 : ¬ 16 ≤ (ky - ((ky / 272) * 272)) := fun h => c_81 ((nI_leI (a := 16) (b := (ky - ((ky / 272) * 272))) (by omega) (by omega)).mpr h)
      refine lv_aload_n hx hb dX2_replace_84 rfl (lv_at hl 3 rfl) ?_
      refine va_get (ci := 2) (v := .ref (ad 23)) (C := RX2) (T := TX2) (N := 5) hx hb hts m_replN_C2 hown hK hP 0 rfl rfl 2 (by decide) (hts (.fieldLink RX2 19 "RoutingDomain$Databases" "pathsAreOld" "[Z") (m_replN_O _ (by decide +kernel))) (fun _ h9 => h9) rfl dX2_replace_85 ?_
      refine lv_iload_n hx hb dX2_replace_88 rfl (lv_at hl 4 rfl) ?_
      refine lv_iconst (v := 4) hx hb dX2_replace_89 (by decide) ?_
      refine lv_imul hx hb dX2_replace_90 ?_
      refine lv_topi (fun y ey => ?_)
      obtain rfl : y = (nI (r * 4)) := ey.trans (pk_mul r 4)
      refine lv_iload hx hb dX2_replace_91 (lv_at hl 0 rfl) ?_
      refine lv_iadd hx hb dX2_replace_93 ?_
      refine lv_topi (fun y ey => ?_)
      obtain rfl : y = (nI ((r * 4) + (ky / 272))) := ey.trans (nI_add (r * 4) (ky / 272))
      refine lv_iconst (v := 1) hx hb dX2_replace_94 (by decide) ?_
      refine va_zast hx hb hK hP hD hS 1 1 rfl rfl (vp_in_nI (show ((r * 4) + (ky / 272)) < 64 from by omega) (by decide)) dX2_replace_95 (fun H locs hP hD hS => ?_)
      have hP : va_P D vwCl [(h0, .inr (2, [.ref (ad 21), .ref (ad 22), .ref (ad 23), .ref (ad 24), .ref (ad 25)])), ((ad 23), .inl (cZ, 64, .inl (upd (eB old) (nI ((r * 4) + (ky / 272))).toNatClampNeg (vp_nar .boolean (bI true))))), ((ad 24), .inl (cI, 17408, .inl (eO (fs hd ((r * 1088) + ky) none)))), ((ad 25), .inl (cI, 64, .inl (eN (cn (fs hd (r * 1088 + ky) none)))))] H := hP
      have hD : va_D A [(h0, .inr (2, [.ref (ad 21), .ref (ad 22), .ref (ad 23), .ref (ad 24), .ref (ad 25)])), ((ad 23), .inl (cZ, 64, .inl (upd (eB old) (nI ((r * 4) + (ky / 272))).toNatClampNeg (vp_nar .boolean (bI true))))), ((ad 24), .inl (cI, 17408, .inl (eO (fs hd ((r * 1088) + ky) none)))), ((ad 25), .inl (cI, 64, .inl (eN (cn (fs hd (r * 1088 + ky) none)))))] := hD
      rw [show (upd (eB old) (nI ((r * 4) + (ky / 272))).toNatClampNeg (vp_nar .boolean (bI true))) = (eB (fs old ((r * 4) + (ky / 272)) true)) from stB (by omega)] at hP hD
      rw [show (fs old ((r * 4) + (ky / 272)) true) = (rol old r ky) from (by first | rfl | (simp [itr_s, rol, hv_15, n_81]; done) | (unfold rol; split <;> first | rfl | (exfalso; omega)))] at hP hD
      rw [show (fs hd ((r * 1088) + ky) none) = (fs hd (r * 1088 + ky) none) from (by first | rfl | (simp [itr_s, rol, hv_15, n_81]; done) | (unfold rol; split <;> first | rfl | (exfalso; omega)))] at hP hD
      exact k_vret E hK hP hD hS () [0, 1, 2, 3] (by decide) rfl trivial (Nat.le_of_ble_eq_true rfl) (Nat.le_of_ble_eq_true rfl) dX2_replace_96

def O_replS : List Cond := [.fieldLink RX2 22 "RoutingDomain$Databases" "held" "[I", .fieldLink RX2 25 "RoutingDomain$Databases" "holdersOfSlot" "[I", .fieldLink RX2 19 "RoutingDomain$Databases" "pathsAreOld" "[Z"]
def W_replS : List Cond := .code yX2_replace cX2_replace 7 none :: (O_replS ++ wsX20)
theorem m_replS_O : ∀ w ∈ O_replS, w ∈ W_replS := fun _ h => List.mem_cons_of_mem _ (List.mem_append_left _ h)
theorem m_replS_C2 : ∀ w ∈ wsX20, w ∈ W_replS := fun _ h => List.mem_cons_of_mem _ (List.mem_append_right _ h)
theorem gdO_replS : O_replS.all goodWord = true := by decide +kernel
theorem gd_replS : W_replS.all goodWord = true := k_all_cons rfl (k_all_app gdO_replS gdC_2)
set_option maxHeartbeats 4000000 in
set_option maxRecDepth 100000 in
theorem c_replS (l : Launch) (D : va_G) (cI cZ cJ : ClassId) (h0 : Nat) (ad : Nat → Nat) (old : Nat → Bool) (hd : Nat → Option Nat) (r : Nat) (ky : Nat) (v : Nat) (hr : r < 16) (hky : ky < 1088) (hv : v < 69632) (hhd : ∀ j w, hd j = some w → w < 69632) : kMv l yX2_replace W_replS { frames := 0, cells := 0, slots := 0, locals := 0 } 0 0 D (kT cI cZ cJ) [.ref h0, .int (nI r), .int (nI ky), .int (nI v)] [(h0, .inr (2, [.ref (ad 21), .ref (ad 22), .ref (ad 23), .ref (ad 24), .ref (ad 25)])), ((ad 23), .inl (cZ, 64, .inl (eB old))), ((ad 24), .inl (cI, 17408, .inl (eO hd))), ((ad 25), .inl (cI, 64, .inl (eN (cn hd))))] (S := Unit) (fun _ => True) (fun _ => [(h0, .inr (2, [.ref (ad 21), .ref (ad 22), .ref (ad 23), .ref (ad 24), .ref (ad 25)])), ((ad 23), .inl (cZ, 64, .inl (eB (rol old r ky)))), ((ad 24), .inl (cI, 17408, .inl (eO (fs hd (r * 1088 + ky) (some v))))), ((ad 25), .inl (cI, 64, .inl (eN (cn (fs hd (r * 1088 + ky) (some v))))))]) := by
  refine kMv_of (lv := [(0, .ref h0), (1, .int (nI r)), (2, .int (nI ky)), (3, .int (nI v))]) RX2 "replace" (by decide +kernel) rfl rfl rfl (Nat.le_of_ble_eq_true rfl) rfl ?_
  intro p e s m below meth c A H locs ls E hA hK hP hD hS hl
  obtain ⟨hx, hb, hr_, hts, hown, hlocks, hml, hin, hN⟩ := id E
  refine lv_iload_n hx hb dX2_replace_0 rfl (lv_at hl 1 rfl) ?_
  refine lv_sipush (v := 1088) hx hb dX2_replace_1 (by decide) ?_
  refine lv_imul hx hb dX2_replace_4 ?_
  refine lv_topi (fun y ey => ?_)
  obtain rfl : y = (nI (r * 1088)) := ey.trans (pk_mul r 1088)
  refine lv_iload_n hx hb dX2_replace_5 rfl (lv_at hl 2 rfl) ?_
  refine lv_iadd hx hb dX2_replace_6 ?_
  refine lv_topi (fun y ey => ?_)
  obtain rfl : y = (nI ((r * 1088) + ky)) := ey.trans (nI_add (r * 1088) ky)
  refine lv_istore (lv' := [(4, .int (nI ((r * 1088) + ky))), (0, .ref h0), (1, .int (nI r)), (2, .int (nI ky)), (3, .int (nI v))]) hx hb dX2_replace_7 hl (by decide) rfl (fun ls hl => ?_)
  refine lv_aload_n hx hb dX2_replace_9 rfl (lv_at hl 1 rfl) ?_
  refine va_get (ci := 2) (v := .ref (ad 24)) (C := RX2) (T := TX2) (N := 5) hx hb hts m_replS_C2 hown hK hP 0 rfl rfl 3 (by decide) (hts (.fieldLink RX2 22 "RoutingDomain$Databases" "held" "[I") (m_replS_O _ (by decide +kernel))) (fun _ h9 => h9) rfl dX2_replace_10 ?_
  refine lv_iload hx hb dX2_replace_13 (lv_at hl 0 rfl) ?_
  refine va_iald hx hb hK hP 2 0 rfl rfl (vp_in_nI (show ((r * 1088) + ky) < 17408 from by omega) (by decide)) dX2_replace_15 ?_
  refine lv_topi (fun y ey => ?_)
  obtain rfl : y = (oI (hd ((r * 1088) + ky))) := ey.trans (ldO (f := hd) (j := ((r * 1088) + ky)) (by omega))
  rcases hv_15 : (hd ((r * 1088) + ky)) with _ | v_15
  · refine lv_topi (fun y ey => ?_)
    obtain rfl : y = (-1) := ey
    refine lv_istore (lv' := [(5, .int (-1)), (4, .int (nI ((r * 1088) + ky))), (0, .ref h0), (1, .int (nI r)), (2, .int (nI ky)), (3, .int (nI v))]) hx hb dX2_replace_16 hl (by decide) rfl (fun ls hl => ?_)
    refine lv_iload hx hb dX2_replace_18 (lv_at hl 0 rfl) ?_
    refine lv_iconst (v := (-1)) hx hb dX2_replace_20 (by decide) ?_
    refine lv_icmp_eq (tgt := 38) hx hb dX2_replace_21 (by decide) (fun _ => ?_) (fun c => absurd (by decide) c)
    refine lv_iload_n hx hb dX2_replace_38 rfl (lv_at hl 5 rfl) ?_
    refine lv_iconst (v := (-1)) hx hb dX2_replace_39 (by decide) ?_
    refine lv_icmp_eq (tgt := 56) hx hb dX2_replace_40 (by decide) (fun c => absurd c (nI_m1 (v := v) (by omega))) (fun _ => ?_)
    refine lv_aload_n hx hb dX2_replace_43 rfl (lv_at hl 2 rfl) ?_
    refine va_get (ci := 2) (v := .ref (ad 25)) (C := RX2) (T := TX2) (N := 5) hx hb hts m_replS_C2 hown hK hP 0 rfl rfl 4 (by decide) (hts (.fieldLink RX2 25 "RoutingDomain$Databases" "holdersOfSlot" "[I") (m_replS_O _ (by decide +kernel))) (fun _ h9 => h9) rfl dX2_replace_44 ?_
    refine lv_iload_n hx hb dX2_replace_47 rfl (lv_at hl 5 rfl) ?_
    refine lv_bipush (v := 63) hx hb dX2_replace_48 (by decide) ?_
    refine lv_iand hx hb dX2_replace_50 ?_
    refine lv_topi (fun y ey => ?_)
    obtain rfl : y = (nI (v % 64)) := ey.trans (k_andN v 6)
    refine lv_dup2_11 hx hb dX2_replace_51 rfl rfl ?_
    refine va_iald hx hb hK hP 3 0 rfl rfl (vp_in_nI (show (v % 64) < 64 from by omega) (by decide)) dX2_replace_52 ?_
    refine lv_topi (fun y ey => ?_)
    obtain rfl : y = (nI ((cn hd) (v % 64))) := ey.trans (ldN (f := (cn hd)) (j := (v % 64)) (by omega))
    refine lv_iconst (v := 1) hx hb dX2_replace_53 (by decide) ?_
    refine lv_iadd hx hb dX2_replace_54 ?_
    refine lv_topi (fun y ey => ?_)
    obtain rfl : y = (nI (((cn hd) (v % 64)) + 1)) := ey.trans (nI_add ((cn hd) (v % 64)) 1)
    refine va_iast hx hb hK hP hD hS 3 0 rfl rfl (vp_in_nI (show (v % 64) < 64 from by omega) (by decide)) dX2_replace_55 (fun H locs hP hD hS => ?_)
    have hP : va_P D vwCl [(h0, .inr (2, [.ref (ad 21), .ref (ad 22), .ref (ad 23), .ref (ad 24), .ref (ad 25)])), ((ad 23), .inl (cZ, 64, .inl (eB old))), ((ad 24), .inl (cI, 17408, .inl (eO hd))), ((ad 25), .inl (cI, 64, .inl (upd (eN (cn hd)) (nI (v % 64)).toNatClampNeg (nI (((cn hd) (v % 64)) + 1)))))] H := hP
    have hD : va_D A [(h0, .inr (2, [.ref (ad 21), .ref (ad 22), .ref (ad 23), .ref (ad 24), .ref (ad 25)])), ((ad 23), .inl (cZ, 64, .inl (eB old))), ((ad 24), .inl (cI, 17408, .inl (eO hd))), ((ad 25), .inl (cI, 64, .inl (upd (eN (cn hd)) (nI (v % 64)).toNatClampNeg (nI (((cn hd) (v % 64)) + 1)))))] := hD
    rw [show (upd (eN (cn hd)) (nI (v % 64)).toNatClampNeg (nI (((cn hd) (v % 64)) + 1))) = (eN (fs (cn hd) (v % 64) (((cn hd) (v % 64)) + 1))) from stN (by omega)] at hP hD
    refine lv_aload_n hx hb dX2_replace_56 rfl (lv_at hl 2 rfl) ?_
    refine va_get (ci := 2) (v := .ref (ad 24)) (C := RX2) (T := TX2) (N := 5) hx hb hts m_replS_C2 hown hK hP 0 rfl rfl 3 (by decide) (hts (.fieldLink RX2 22 "RoutingDomain$Databases" "held" "[I") (m_replS_O _ (by decide +kernel))) (fun _ h9 => h9) rfl dX2_replace_57 ?_
    refine lv_iload hx hb dX2_replace_60 (lv_at hl 1 rfl) ?_
    refine lv_iload_n hx hb dX2_replace_62 rfl (lv_at hl 5 rfl) ?_
    refine va_iast hx hb hK hP hD hS 2 0 rfl rfl (vp_in_nI (show ((r * 1088) + ky) < 17408 from by omega) (by decide)) dX2_replace_63 (fun H locs hP hD hS => ?_)
    have hP : va_P D vwCl [(h0, .inr (2, [.ref (ad 21), .ref (ad 22), .ref (ad 23), .ref (ad 24), .ref (ad 25)])), ((ad 23), .inl (cZ, 64, .inl (eB old))), ((ad 24), .inl (cI, 17408, .inl (upd (eO hd) (nI ((r * 1088) + ky)).toNatClampNeg (oI (some v))))), ((ad 25), .inl (cI, 64, .inl (eN (fs (cn hd) (v % 64) (((cn hd) (v % 64)) + 1)))))] H := hP
    have hD : va_D A [(h0, .inr (2, [.ref (ad 21), .ref (ad 22), .ref (ad 23), .ref (ad 24), .ref (ad 25)])), ((ad 23), .inl (cZ, 64, .inl (eB old))), ((ad 24), .inl (cI, 17408, .inl (upd (eO hd) (nI ((r * 1088) + ky)).toNatClampNeg (oI (some v))))), ((ad 25), .inl (cI, 64, .inl (eN (fs (cn hd) (v % 64) (((cn hd) (v % 64)) + 1)))))] := hD
    rw [show (upd (eO hd) (nI ((r * 1088) + ky)).toNatClampNeg (oI (some v))) = (eO (fs hd ((r * 1088) + ky) (some v))) from stO (by omega)] at hP hD
    rw [show (fs (cn hd) (v % 64) (((cn hd) (v % 64)) + 1)) = cn (fs hd (r * 1088 + ky) (some v)) from ((cn_none (by omega) hv_15).trans fs_one).symm] at hP hD
    refine lv_iload_n hx hb dX2_replace_64 rfl (lv_at hl 4 rfl) ?_
    refine lv_sipush (v := 272) hx hb dX2_replace_65 (by decide) ?_
    refine lv_idiv hx hb dX2_replace_68 (by decide) ?_
    refine lv_topi (fun y ey => ?_)
    obtain rfl : y = (nI (ky / 272)) := ey.trans (pk_div (a := ky) (d := 272) (by omega) (by decide) (by decide))
    refine lv_istore (lv' := [(6, .int (nI (ky / 272))), (5, .int (-1)), (4, .int (nI ((r * 1088) + ky))), (0, .ref h0), (1, .int (nI r)), (2, .int (nI ky)), (3, .int (nI v))]) hx hb dX2_replace_69 hl (by decide) rfl (fun ls hl => ?_)
    refine lv_iload_n hx hb dX2_replace_71 rfl (lv_at hl 5 rfl) ?_
    refine lv_iload hx hb dX2_replace_72 (lv_at hl 0 rfl) ?_
    refine lv_sipush (v := 272) hx hb dX2_replace_74 (by decide) ?_
    refine lv_imul hx hb dX2_replace_77 ?_
    refine lv_topi (fun y ey => ?_)
    obtain rfl : y = (nI ((ky / 272) * 272)) := ey.trans (pk_mul (ky / 272) 272)
    refine lv_isub hx hb dX2_replace_78 ?_
    refine lv_topi (fun y ey => ?_)
    obtain rfl : y = (nI (ky - ((ky / 272) * 272))) := ey.trans (pk_sub (show ((ky / 272) * 272) ≤ ky from by omega))
    refine lv_bipush (v := 16) hx hb dX2_replace_79 (by decide) ?_
    refine lv_icmp_ge (tgt := 96) hx hb dX2_replace_81 (by decide) (fun c_81 => ?_) (fun c_81 => ?_)
    · have n_81 : 16 ≤ (ky - ((ky / 272) * 272)) := (nI_leI (a := 16) (b := (ky - ((ky / 272) * 272))) (by omega) (by omega)).mp c_81
      rw [show old = (rol old r ky) from (by first | rfl | (simp [itr_s, rol, hv_15, n_81]; done) | (unfold rol; split <;> first | rfl | (exfalso; omega)))] at hP hD
      rw [show (fs hd ((r * 1088) + ky) (some v)) = (fs hd (r * 1088 + ky) (some v)) from (by first | rfl | (simp [itr_s, rol, hv_15, n_81]; done) | (unfold rol; split <;> first | rfl | (exfalso; omega)))] at hP hD
      exact k_vret E hK hP hD hS () [0, 1, 2, 3] (by decide) rfl trivial (Nat.le_of_ble_eq_true rfl) (Nat.le_of_ble_eq_true rfl) dX2_replace_96
    · have n_81 : ¬ 16 ≤ (ky - ((ky / 272) * 272)) := fun h => c_81 ((nI_leI (a := 16) (b := (ky - ((ky / 272) * 272))) (by omega) (by omega)).mpr h)
      refine lv_aload_n hx hb dX2_replace_84 rfl (lv_at hl 3 rfl) ?_
      refine va_get (ci := 2) (v := .ref (ad 23)) (C := RX2) (T := TX2) (N := 5) hx hb hts m_replS_C2 hown hK hP 0 rfl rfl 2 (by decide) (hts (.fieldLink RX2 19 "RoutingDomain$Databases" "pathsAreOld" "[Z") (m_replS_O _ (by decide +kernel))) (fun _ h9 => h9) rfl dX2_replace_85 ?_
      refine lv_iload_n hx hb dX2_replace_88 rfl (lv_at hl 4 rfl) ?_
      refine lv_iconst (v := 4) hx hb dX2_replace_89 (by decide) ?_
      refine lv_imul hx hb dX2_replace_90 ?_
      refine lv_topi (fun y ey => ?_)
      obtain rfl : y = (nI (r * 4)) := ey.trans (pk_mul r 4)
      refine lv_iload hx hb dX2_replace_91 (lv_at hl 0 rfl) ?_
      refine lv_iadd hx hb dX2_replace_93 ?_
      refine lv_topi (fun y ey => ?_)
      obtain rfl : y = (nI ((r * 4) + (ky / 272))) := ey.trans (nI_add (r * 4) (ky / 272))
      refine lv_iconst (v := 1) hx hb dX2_replace_94 (by decide) ?_
      refine va_zast hx hb hK hP hD hS 1 1 rfl rfl (vp_in_nI (show ((r * 4) + (ky / 272)) < 64 from by omega) (by decide)) dX2_replace_95 (fun H locs hP hD hS => ?_)
      have hP : va_P D vwCl [(h0, .inr (2, [.ref (ad 21), .ref (ad 22), .ref (ad 23), .ref (ad 24), .ref (ad 25)])), ((ad 23), .inl (cZ, 64, .inl (upd (eB old) (nI ((r * 4) + (ky / 272))).toNatClampNeg (vp_nar .boolean (bI true))))), ((ad 24), .inl (cI, 17408, .inl (eO (fs hd ((r * 1088) + ky) (some v))))), ((ad 25), .inl (cI, 64, .inl (eN (cn (fs hd (r * 1088 + ky) (some v))))))] H := hP
      have hD : va_D A [(h0, .inr (2, [.ref (ad 21), .ref (ad 22), .ref (ad 23), .ref (ad 24), .ref (ad 25)])), ((ad 23), .inl (cZ, 64, .inl (upd (eB old) (nI ((r * 4) + (ky / 272))).toNatClampNeg (vp_nar .boolean (bI true))))), ((ad 24), .inl (cI, 17408, .inl (eO (fs hd ((r * 1088) + ky) (some v))))), ((ad 25), .inl (cI, 64, .inl (eN (cn (fs hd (r * 1088 + ky) (some v))))))] := hD
      rw [show (upd (eB old) (nI ((r * 4) + (ky / 272))).toNatClampNeg (vp_nar .boolean (bI true))) = (eB (fs old ((r * 4) + (ky / 272)) true)) from stB (by omega)] at hP hD
      rw [show (fs old ((r * 4) + (ky / 272)) true) = (rol old r ky) from (by first | rfl | (simp [itr_s, rol, hv_15, n_81]; done) | (unfold rol; split <;> first | rfl | (exfalso; omega)))] at hP hD
      rw [show (fs hd ((r * 1088) + ky) (some v)) = (fs hd (r * 1088 + ky) (some v)) from (by first | rfl | (simp [itr_s, rol, hv_15, n_81]; done) | (unfold rol; split <;> first | rfl | (exfalso; omega)))] at hP hD
      exact k_vret E hK hP hD hS () [0, 1, 2, 3] (by decide) rfl trivial (Nat.le_of_ble_eq_true rfl) (Nat.le_of_ble_eq_true rfl) dX2_replace_96
  · refine lv_topi (fun y ey => ?_)
    obtain rfl : y = (nI v_15) := ey
    have hf1 := hhd _ _ hv_15
    have hf2 := cn_pos (by omega) hv_15
    have hf3 := cn_lt hd (v_15 % 64)
    refine lv_istore (lv' := [(5, .int (nI v_15)), (4, .int (nI ((r * 1088) + ky))), (0, .ref h0), (1, .int (nI r)), (2, .int (nI ky)), (3, .int (nI v))]) hx hb dX2_replace_16 hl (by decide) rfl (fun ls hl => ?_)
    refine lv_iload hx hb dX2_replace_18 (lv_at hl 0 rfl) ?_
    refine lv_iconst (v := (-1)) hx hb dX2_replace_20 (by decide) ?_
    refine lv_icmp_eq (tgt := 38) hx hb dX2_replace_21 (by decide) (fun c => absurd c (nI_m1 (v := v_15) (by omega))) (fun _ => ?_)
    refine lv_aload_n hx hb dX2_replace_24 rfl (lv_at hl 2 rfl) ?_
    refine va_get (ci := 2) (v := .ref (ad 25)) (C := RX2) (T := TX2) (N := 5) hx hb hts m_replS_C2 hown hK hP 0 rfl rfl 4 (by decide) (hts (.fieldLink RX2 25 "RoutingDomain$Databases" "holdersOfSlot" "[I") (m_replS_O _ (by decide +kernel))) (fun _ h9 => h9) rfl dX2_replace_25 ?_
    refine lv_iload hx hb dX2_replace_28 (lv_at hl 0 rfl) ?_
    refine lv_bipush (v := 63) hx hb dX2_replace_30 (by decide) ?_
    refine lv_iand hx hb dX2_replace_32 ?_
    refine lv_topi (fun y ey => ?_)
    obtain rfl : y = (nI (v_15 % 64)) := ey.trans (k_andN v_15 6)
    refine lv_dup2_11 hx hb dX2_replace_33 rfl rfl ?_
    refine va_iald hx hb hK hP 3 0 rfl rfl (vp_in_nI (show (v_15 % 64) < 64 from by omega) (by decide)) dX2_replace_34 ?_
    refine lv_topi (fun y ey => ?_)
    obtain rfl : y = (nI ((cn hd) (v_15 % 64))) := ey.trans (ldN (f := (cn hd)) (j := (v_15 % 64)) (by omega))
    refine lv_iconst (v := 1) hx hb dX2_replace_35 (by decide) ?_
    refine lv_isub hx hb dX2_replace_36 ?_
    refine lv_topi (fun y ey => ?_)
    obtain rfl : y = (nI (((cn hd) (v_15 % 64)) - 1)) := ey.trans (pk_sub (show 1 ≤ ((cn hd) (v_15 % 64)) from by omega))
    refine va_iast hx hb hK hP hD hS 3 0 rfl rfl (vp_in_nI (show (v_15 % 64) < 64 from by omega) (by decide)) dX2_replace_37 (fun H locs hP hD hS => ?_)
    have hP : va_P D vwCl [(h0, .inr (2, [.ref (ad 21), .ref (ad 22), .ref (ad 23), .ref (ad 24), .ref (ad 25)])), ((ad 23), .inl (cZ, 64, .inl (eB old))), ((ad 24), .inl (cI, 17408, .inl (eO hd))), ((ad 25), .inl (cI, 64, .inl (upd (eN (cn hd)) (nI (v_15 % 64)).toNatClampNeg (nI (((cn hd) (v_15 % 64)) - 1)))))] H := hP
    have hD : va_D A [(h0, .inr (2, [.ref (ad 21), .ref (ad 22), .ref (ad 23), .ref (ad 24), .ref (ad 25)])), ((ad 23), .inl (cZ, 64, .inl (eB old))), ((ad 24), .inl (cI, 17408, .inl (eO hd))), ((ad 25), .inl (cI, 64, .inl (upd (eN (cn hd)) (nI (v_15 % 64)).toNatClampNeg (nI (((cn hd) (v_15 % 64)) - 1)))))] := hD
    rw [show (upd (eN (cn hd)) (nI (v_15 % 64)).toNatClampNeg (nI (((cn hd) (v_15 % 64)) - 1))) = (eN (fs (cn hd) (v_15 % 64) (((cn hd) (v_15 % 64)) - 1))) from stN (by omega)] at hP hD
    refine lv_iload_n hx hb dX2_replace_38 rfl (lv_at hl 5 rfl) ?_
    refine lv_iconst (v := (-1)) hx hb dX2_replace_39 (by decide) ?_
    refine lv_icmp_eq (tgt := 56) hx hb dX2_replace_40 (by decide) (fun c => absurd c (nI_m1 (v := v) (by omega))) (fun _ => ?_)
    refine lv_aload_n hx hb dX2_replace_43 rfl (lv_at hl 2 rfl) ?_
    refine va_get (ci := 2) (v := .ref (ad 25)) (C := RX2) (T := TX2) (N := 5) hx hb hts m_replS_C2 hown hK hP 0 rfl rfl 4 (by decide) (hts (.fieldLink RX2 25 "RoutingDomain$Databases" "holdersOfSlot" "[I") (m_replS_O _ (by decide +kernel))) (fun _ h9 => h9) rfl dX2_replace_44 ?_
    refine lv_iload_n hx hb dX2_replace_47 rfl (lv_at hl 5 rfl) ?_
    refine lv_bipush (v := 63) hx hb dX2_replace_48 (by decide) ?_
    refine lv_iand hx hb dX2_replace_50 ?_
    refine lv_topi (fun y ey => ?_)
    obtain rfl : y = (nI (v % 64)) := ey.trans (k_andN v 6)
    refine lv_dup2_11 hx hb dX2_replace_51 rfl rfl ?_
    refine va_iald hx hb hK hP 3 0 rfl rfl (vp_in_nI (show (v % 64) < 64 from by omega) (by decide)) dX2_replace_52 ?_
    refine lv_topi (fun y ey => ?_)
    obtain rfl : y = (nI ((fs (cn hd) (v_15 % 64) (((cn hd) (v_15 % 64)) - 1)) (v % 64))) := ey.trans (ldN (f := (fs (cn hd) (v_15 % 64) (((cn hd) (v_15 % 64)) - 1))) (j := (v % 64)) (by omega))
    refine lv_iconst (v := 1) hx hb dX2_replace_53 (by decide) ?_
    refine lv_iadd hx hb dX2_replace_54 ?_
    refine lv_topi (fun y ey => ?_)
    obtain rfl : y = (nI (((fs (cn hd) (v_15 % 64) (((cn hd) (v_15 % 64)) - 1)) (v % 64)) + 1)) := ey.trans (nI_add ((fs (cn hd) (v_15 % 64) (((cn hd) (v_15 % 64)) - 1)) (v % 64)) 1)
    refine va_iast hx hb hK hP hD hS 3 0 rfl rfl (vp_in_nI (show (v % 64) < 64 from by omega) (by decide)) dX2_replace_55 (fun H locs hP hD hS => ?_)
    have hP : va_P D vwCl [(h0, .inr (2, [.ref (ad 21), .ref (ad 22), .ref (ad 23), .ref (ad 24), .ref (ad 25)])), ((ad 23), .inl (cZ, 64, .inl (eB old))), ((ad 24), .inl (cI, 17408, .inl (eO hd))), ((ad 25), .inl (cI, 64, .inl (upd (eN (fs (cn hd) (v_15 % 64) (((cn hd) (v_15 % 64)) - 1))) (nI (v % 64)).toNatClampNeg (nI (((fs (cn hd) (v_15 % 64) (((cn hd) (v_15 % 64)) - 1)) (v % 64)) + 1)))))] H := hP
    have hD : va_D A [(h0, .inr (2, [.ref (ad 21), .ref (ad 22), .ref (ad 23), .ref (ad 24), .ref (ad 25)])), ((ad 23), .inl (cZ, 64, .inl (eB old))), ((ad 24), .inl (cI, 17408, .inl (eO hd))), ((ad 25), .inl (cI, 64, .inl (upd (eN (fs (cn hd) (v_15 % 64) (((cn hd) (v_15 % 64)) - 1))) (nI (v % 64)).toNatClampNeg (nI (((fs (cn hd) (v_15 % 64) (((cn hd) (v_15 % 64)) - 1)) (v % 64)) + 1)))))] := hD
    rw [show (upd (eN (fs (cn hd) (v_15 % 64) (((cn hd) (v_15 % 64)) - 1))) (nI (v % 64)).toNatClampNeg (nI (((fs (cn hd) (v_15 % 64) (((cn hd) (v_15 % 64)) - 1)) (v % 64)) + 1))) = (eN (fs (fs (cn hd) (v_15 % 64) (((cn hd) (v_15 % 64)) - 1)) (v % 64) (((fs (cn hd) (v_15 % 64) (((cn hd) (v_15 % 64)) - 1)) (v % 64)) + 1))) from stN (by omega)] at hP hD
    refine lv_aload_n hx hb dX2_replace_56 rfl (lv_at hl 2 rfl) ?_
    refine va_get (ci := 2) (v := .ref (ad 24)) (C := RX2) (T := TX2) (N := 5) hx hb hts m_replS_C2 hown hK hP 0 rfl rfl 3 (by decide) (hts (.fieldLink RX2 22 "RoutingDomain$Databases" "held" "[I") (m_replS_O _ (by decide +kernel))) (fun _ h9 => h9) rfl dX2_replace_57 ?_
    refine lv_iload hx hb dX2_replace_60 (lv_at hl 1 rfl) ?_
    refine lv_iload_n hx hb dX2_replace_62 rfl (lv_at hl 5 rfl) ?_
    refine va_iast hx hb hK hP hD hS 2 0 rfl rfl (vp_in_nI (show ((r * 1088) + ky) < 17408 from by omega) (by decide)) dX2_replace_63 (fun H locs hP hD hS => ?_)
    have hP : va_P D vwCl [(h0, .inr (2, [.ref (ad 21), .ref (ad 22), .ref (ad 23), .ref (ad 24), .ref (ad 25)])), ((ad 23), .inl (cZ, 64, .inl (eB old))), ((ad 24), .inl (cI, 17408, .inl (upd (eO hd) (nI ((r * 1088) + ky)).toNatClampNeg (oI (some v))))), ((ad 25), .inl (cI, 64, .inl (eN (fs (fs (cn hd) (v_15 % 64) (((cn hd) (v_15 % 64)) - 1)) (v % 64) (((fs (cn hd) (v_15 % 64) (((cn hd) (v_15 % 64)) - 1)) (v % 64)) + 1)))))] H := hP
    have hD : va_D A [(h0, .inr (2, [.ref (ad 21), .ref (ad 22), .ref (ad 23), .ref (ad 24), .ref (ad 25)])), ((ad 23), .inl (cZ, 64, .inl (eB old))), ((ad 24), .inl (cI, 17408, .inl (upd (eO hd) (nI ((r * 1088) + ky)).toNatClampNeg (oI (some v))))), ((ad 25), .inl (cI, 64, .inl (eN (fs (fs (cn hd) (v_15 % 64) (((cn hd) (v_15 % 64)) - 1)) (v % 64) (((fs (cn hd) (v_15 % 64) (((cn hd) (v_15 % 64)) - 1)) (v % 64)) + 1)))))] := hD
    rw [show (upd (eO hd) (nI ((r * 1088) + ky)).toNatClampNeg (oI (some v))) = (eO (fs hd ((r * 1088) + ky) (some v))) from stO (by omega)] at hP hD
    rw [show (fs (fs (cn hd) (v_15 % 64) (((cn hd) (v_15 % 64)) - 1)) (v % 64) (((fs (cn hd) (v_15 % 64) (((cn hd) (v_15 % 64)) - 1)) (v % 64)) + 1)) = cn (fs hd (r * 1088 + ky) (some v)) from ((cn_some (by omega) hv_15).trans fs_one).symm] at hP hD
    refine lv_iload_n hx hb dX2_replace_64 rfl (lv_at hl 4 rfl) ?_
    refine lv_sipush (v := 272) hx hb dX2_replace_65 (by decide) ?_
    refine lv_idiv hx hb dX2_replace_68 (by decide) ?_
    refine lv_topi (fun y ey => ?_)
    obtain rfl : y = (nI (ky / 272)) := ey.trans (pk_div (a := ky) (d := 272) (by omega) (by decide) (by decide))
    refine lv_istore (lv' := [(6, .int (nI (ky / 272))), (5, .int (nI v_15)), (4, .int (nI ((r * 1088) + ky))), (0, .ref h0), (1, .int (nI r)), (2, .int (nI ky)), (3, .int (nI v))]) hx hb dX2_replace_69 hl (by decide) rfl (fun ls hl => ?_)
    refine lv_iload_n hx hb dX2_replace_71 rfl (lv_at hl 5 rfl) ?_
    refine lv_iload hx hb dX2_replace_72 (lv_at hl 0 rfl) ?_
    refine lv_sipush (v := 272) hx hb dX2_replace_74 (by decide) ?_
    refine lv_imul hx hb dX2_replace_77 ?_
    refine lv_topi (fun y ey => ?_)
    obtain rfl : y = (nI ((ky / 272) * 272)) := ey.trans (pk_mul (ky / 272) 272)
    refine lv_isub hx hb dX2_replace_78 ?_
    refine lv_topi (fun y ey => ?_)
    obtain rfl : y = (nI (ky - ((ky / 272) * 272))) := ey.trans (pk_sub (show ((ky / 272) * 272) ≤ ky from by omega))
    refine lv_bipush (v := 16) hx hb dX2_replace_79 (by decide) ?_
    refine lv_icmp_ge (tgt := 96) hx hb dX2_replace_81 (by decide) (fun c_81 => ?_) (fun c_81 => ?_)
    · have n_81 : 16 ≤ (ky - ((ky / 272) * 272)) := (nI_leI (a := 16) (b := (ky - ((ky / 272) * 272))) (by omega) (by omega)).mp c_81
      rw [show old = (rol old r ky) from (by first | rfl | (simp [itr_s, rol, hv_15, n_81]; done) | (unfold rol; split <;> first | rfl | (exfalso; omega)))] at hP hD
      rw [show (fs hd ((r * 1088) + ky) (some v)) = (fs hd (r * 1088 + ky) (some v)) from (by first | rfl | (simp [itr_s, rol, hv_15, n_81]; done) | (unfold rol; split <;> first | rfl | (exfalso; omega)))] at hP hD
      exact k_vret E hK hP hD hS () [0, 1, 2, 3] (by decide) rfl trivial (Nat.le_of_ble_eq_true rfl) (Nat.le_of_ble_eq_true rfl) dX2_replace_96
    · have n_81 : ¬ 16 ≤ (ky - ((ky / 272) * 272)) := fun h => c_81 ((nI_leI (a := 16) (b := (ky - ((ky / 272) * 272))) (by omega) (by omega)).mpr h)
      refine lv_aload_n hx hb dX2_replace_84 rfl (lv_at hl 3 rfl) ?_
      refine va_get (ci := 2) (v := .ref (ad 23)) (C := RX2) (T := TX2) (N := 5) hx hb hts m_replS_C2 hown hK hP 0 rfl rfl 2 (by decide) (hts (.fieldLink RX2 19 "RoutingDomain$Databases" "pathsAreOld" "[Z") (m_replS_O _ (by decide +kernel))) (fun _ h9 => h9) rfl dX2_replace_85 ?_
      refine lv_iload_n hx hb dX2_replace_88 rfl (lv_at hl 4 rfl) ?_
      refine lv_iconst (v := 4) hx hb dX2_replace_89 (by decide) ?_
      refine lv_imul hx hb dX2_replace_90 ?_
      refine lv_topi (fun y ey => ?_)
      obtain rfl : y = (nI (r * 4)) := ey.trans (pk_mul r 4)
      refine lv_iload hx hb dX2_replace_91 (lv_at hl 0 rfl) ?_
      refine lv_iadd hx hb dX2_replace_93 ?_
      refine lv_topi (fun y ey => ?_)
      obtain rfl : y = (nI ((r * 4) + (ky / 272))) := ey.trans (nI_add (r * 4) (ky / 272))
      refine lv_iconst (v := 1) hx hb dX2_replace_94 (by decide) ?_
      refine va_zast hx hb hK hP hD hS 1 1 rfl rfl (vp_in_nI (show ((r * 4) + (ky / 272)) < 64 from by omega) (by decide)) dX2_replace_95 (fun H locs hP hD hS => ?_)
      have hP : va_P D vwCl [(h0, .inr (2, [.ref (ad 21), .ref (ad 22), .ref (ad 23), .ref (ad 24), .ref (ad 25)])), ((ad 23), .inl (cZ, 64, .inl (upd (eB old) (nI ((r * 4) + (ky / 272))).toNatClampNeg (vp_nar .boolean (bI true))))), ((ad 24), .inl (cI, 17408, .inl (eO (fs hd ((r * 1088) + ky) (some v))))), ((ad 25), .inl (cI, 64, .inl (eN (cn (fs hd (r * 1088 + ky) (some v))))))] H := hP
      have hD : va_D A [(h0, .inr (2, [.ref (ad 21), .ref (ad 22), .ref (ad 23), .ref (ad 24), .ref (ad 25)])), ((ad 23), .inl (cZ, 64, .inl (upd (eB old) (nI ((r * 4) + (ky / 272))).toNatClampNeg (vp_nar .boolean (bI true))))), ((ad 24), .inl (cI, 17408, .inl (eO (fs hd ((r * 1088) + ky) (some v))))), ((ad 25), .inl (cI, 64, .inl (eN (cn (fs hd (r * 1088 + ky) (some v))))))] := hD
      rw [show (upd (eB old) (nI ((r * 4) + (ky / 272))).toNatClampNeg (vp_nar .boolean (bI true))) = (eB (fs old ((r * 4) + (ky / 272)) true)) from stB (by omega)] at hP hD
      rw [show (fs old ((r * 4) + (ky / 272)) true) = (rol old r ky) from (by first | rfl | (simp [itr_s, rol, hv_15, n_81]; done) | (unfold rol; split <;> first | rfl | (exfalso; omega)))] at hP hD
      rw [show (fs hd ((r * 1088) + ky) (some v)) = (fs hd (r * 1088 + ky) (some v)) from (by first | rfl | (simp [itr_s, rol, hv_15, n_81]; done) | (unfold rol; split <;> first | rfl | (exfalso; omega)))] at hP hD
      exact k_vret E hK hP hD hS () [0, 1, 2, 3] (by decide) rfl trivial (Nat.le_of_ble_eq_true rfl) (Nat.le_of_ble_eq_true rfl) dX2_replace_96

def szB (hd : Nat → Option Nat) (b : Nat) (i : Nat) (z : Nat) : Nat := match hd (b + i) with | none => z | some _ => z + 1
theorem itr_sz (hd : Nat → Option Nat) (b : Nat) : ∀ n, itr (szB hd b) n 0 ≤ n
  | 0 => Nat.le_refl _
  | n + 1 => by
    rw [itr_s]
    have h := itr_sz hd b n
    unfold szB
    split <;> omega
