/-! the caller's own script: a static method that reads it -/
def kXB (b L : Nat) (xs : Nat → Int32) (D : va_G) (tys : List (ClassId × FieldType)) (sz : Nat) : State → Prop := fun U => kB D tys [] sz U ∧ va_X b L xs U U.heap ∧ b < sz
theorem kXB_blind (b L : Nat) (xs : Nat → Int32) (D : va_G) (tys : List (ClassId × FieldType)) (sz : Nat) (av : List Value) : FrameBlind (va_Pc av (kXB b L xs D tys sz)) := fun a U g mk q => by
  obtain ⟨q0, ⟨q1, qP, qK, qD, qN⟩, qX, qb⟩ := q
  exact ⟨q0, ⟨q1, qP, va_K.moved (u := U) (U := U.calling g mk a) (Vm.Alike.refl U.vm) qK, qD, kN_calling qN⟩, va_X.moved (u := U) (U := U.calling g mk a) (Vm.Alike.refl U.vm) qX, qb⟩
/-- a method that returns some number, having read the script -/
def kCi (l : Launch) (y : MethodName) (ws : List Cond) (rm : Room) (D : va_G) (tys : List (ClassId × FieldType)) (av : List Value) (b L : Nat) (xs : Nat → Int32) : Prop :=
  ∀ sz : Nat, Met l y ws rm (va_Pc av (kXB b L xs D tys sz)) (va_Qi (S := Unit) (fun _ _ => True) (fun _ t => kE D tys (va_A [] sz) [] t) (va_A [] sz)) 0 0 (va_A [] sz)
theorem dL_cell_0 : decode cL_cell 0 = .ok (.iload_n 1, 1) := by decide +kernel
theorem dL_cell_1 : decode cL_cell 1 = .ok (.aload_n 0, 1) := by decide +kernel
theorem dL_cell_2 : decode cL_cell 2 = .ok (.arraylength, 1) := by decide +kernel
theorem dL_cell_3 : decode cL_cell 3 = .ok (.if_icmp .ge 9, 3) := by decide +kernel
theorem dL_cell_6 : decode cL_cell 6 = .ok (.aload_n 0, 1) := by decide +kernel
theorem dL_cell_7 : decode cL_cell 7 = .ok (.iload_n 1, 1) := by decide +kernel
theorem dL_cell_8 : decode cL_cell 8 = .ok (.iaload, 1) := by decide +kernel
theorem dL_cell_9 : decode cL_cell 9 = .ok (.goto 9, 3) := by decide +kernel
theorem dL_cell_12 : decode cL_cell 12 = .ok (.ldc 8, 2) := by decide +kernel
theorem dL_cell_14 : decode cL_cell 14 = .ok (.iload_n 1, 1) := by decide +kernel
theorem dL_cell_15 : decode cL_cell 15 = .ok (.iconst 3, 1) := by decide +kernel
theorem dL_cell_16 : decode cL_cell 16 = .ok (.iadd, 1) := by decide +kernel
theorem dL_cell_17 : decode cL_cell 17 = .ok (.imul, 1) := by decide +kernel
theorem dL_cell_18 : decode cL_cell 18 = .ok (.ireturn, 1) := by decide +kernel
def O_lcell : List Cond := [.constant RL 8 (790386105)]
def W_lcell : List Cond := .code yL_cell cL_cell 2 (some .int) :: O_lcell
theorem m_lcell_O : ∀ w ∈ O_lcell, w ∈ W_lcell := fun _ h => List.mem_cons_of_mem _ h
theorem gdO_lcell : O_lcell.all goodWord = true := by decide +kernel
theorem gd_lcell : W_lcell.all goodWord = true := k_all_cons rfl gdO_lcell
theorem c_lcell (l : Launch) (D : va_G) (tys : List (ClassId × FieldType)) (b L : Nat) (xs : Nat → Int32) (k : Nat) (hL : L < 2 ^ 31) (hk : k < 2 ^ 31) : kCi l yL_cell W_lcell { frames := 0, cells := 0, slots := 0, locals := 0 } D tys [.ref b, .int (nI k)] b L xs := by
  intro sz
  refine Met.ofW (cc := cL_cell) (maxL := 2) (ret := some .int) (ws' := O_lcell) (by decide +kernel) rfl ?_
  intro p e s m args below meth c s₁ B hml0 hv
  obtain ⟨rfl, ⟨hsz, hP, hK, hD0, hN⟩, hX, hbl⟩ := hv
  subst hsz
  have hts := atoms_spec (ws := W_lcell) B.pre
  rw [lg_entry_eq]
  have E : kEnv p s m ([.ref b, .int (nI k)] : List Value).toArray meth c RL "cell" cL_cell 2 (some .int) W_lcell := ⟨B.exec, B.bytes, B.returns, hts, findClass_of_methodNamed B.named, B.notSynchronized, hml0, (name_of_methodNamed B.named B.method).1, hN⟩
  obtain ⟨hx, hb, hr_, hts, hown, hlocks, hml, hin, hN⟩ := id E
  have hD : va_D (va_A [] s.heap.size) [] := ⟨fun i j p q h => by simp at h, fun k q h => by simp at h⟩
  have hS : va_S (va_A [] s.heap.size) s.heap s.heap [] := va_S.rf
  have hbA : ¬ va_A [] s.heap.size b := fun h => by
    rcases h with ⟨k, e, h⟩ | h
    · simp at h
    · exact absurd h (Nat.not_le.mpr hbl)
  have hl : lv_has (lg_sl ([.ref b, .int (nI k)]) ++ List.replicate (2 - (lg_sl ([.ref b, .int (nI k)])).length) Slot.unset).toArray 2 [(0, .ref b), (1, .int (nI k))] := lv_entry ([.ref b, .int (nI k)]) (n := 2) (Nat.le_of_ble_eq_true rfl)
  generalize (lg_sl ([.ref b, .int (nI k)]) ++ List.replicate (2 - (lg_sl ([.ref b, .int (nI k)])).length) Slot.unset).toArray = ls at hl ⊢
  refine lv_iload_n hx hb dL_cell_0 rfl (lv_at hl 1 rfl) ?_
  refine lv_aload_n hx hb dL_cell_1 rfl (lv_at hl 0 rfl) ?_
  refine va_slen hx hb hX hbl hbA hS dL_cell_2 ?_
  refine lv_icmp_ge (tgt := 12) hx hb dL_cell_3 (by decide) (fun c3 => ?_) (fun c3 => ?_)
  · refine lv_ldc hx hb hown (hts (.constant RL 8 (790386105)) (m_lcell_O _ (by decide +kernel))) dL_cell_12 ?_
    refine lv_iload_n hx hb dL_cell_14 rfl (lv_at hl 1 rfl) ?_
    refine lv_iconst (v := 3) hx hb dL_cell_15 (by decide) ?_
    refine lv_iadd hx hb dL_cell_16 ?_
    refine lv_imul hx hb dL_cell_17 ?_
    exact k_iret (w1 := fun _ => []) E hK hP hD hS () [] (by decide) rfl trivial (Nat.le_refl _) (Nat.le_refl _) dL_cell_18
  · have n3 : ¬ L ≤ k := fun h => c3 ((nI_leI (a := L) (b := k) (by omega) (by omega)).mpr h)
    refine lv_aload_n hx hb dL_cell_6 rfl (lv_at hl 0 rfl) ?_
    refine lv_iload_n hx hb dL_cell_7 rfl (lv_at hl 1 rfl) ?_
    refine va_sld hx hb hX hbl hbA hS (vp_in_nI (by omega) (by omega)) dL_cell_8 ?_
    refine lv_goto (tgt := 18) hx hb dL_cell_9 (by decide) ?_
    exact k_iret (w1 := fun _ => []) E hK hP hD hS () [] (by decide) rfl trivial (Nat.le_refl _) (Nat.le_refl _) dL_cell_18
section CallC
variable {p : Program} {l : Launch} {e : Env} {R : Room} {s : State} {m : MethodId} {args : Array Value} {below : List Frame} {meth : Method} {c : Code}
variable {D : va_G} {tys : List (ClassId × FieldType)} {ww : va_W} {H : Heap} {A0 : Nat → Prop} {locs : List Loc} {cells slots pc : Nat} {Q : State → Prop} {ls : Array Slot} {st0 rest As : List Value}
variable {y : MethodName} {bytes cc : ByteArray} {maxL nL n index : Nat} {ret : Option FieldType} {ws : List Cond} {rm : Room} {Ts : List Cond} {own : String} {b L : Nat} {xs : Nat → Int32}
theorem kSCi (hF : CallFix p m c cc nL s args Ts own) (hN : kN s) (hM : kCi l y ws rm D tys As b L xs) (cw : CallB R s args own index y bytes maxL ret ws rm 0 0 n ∧ (Cond.static y).before args s = true)
    (hX : va_X b L xs s s.heap) (hbl : b < s.heap.size) (hbA : ¬ A0 b) (hK : va_K D vwCl tys s) (hP : va_P D vwCl ww H) (hD : va_D A0 ww) (hS : va_S A0 s.heap H locs) (hA : ∀ q, s.heap.size ≤ q → A0 q)
    (hlen : As.length = n) (hl : ls.size = nL) (hst : st0 = As.reverse ++ rest) (hW : (rest.map fun v => v.category).sum ≤ 8) (hdg : decode cc pc = .ok (.invokestatic index, 3)) (hf : cells + 0 ≤ R.cells ∧ slots + 0 ≤ R.slots)
    (kk : ∀ (r : Int32) (H1 : Heap) (locs1 : List Loc), va_P D vwCl ww H1 → va_D A0 ww → va_S A0 s.heap H1 locs1 → W p l e R s m args below meth c H1 locs1 (cells + 0) (slots + 0) Q (F0 m (pc + 3) ls (.int r :: rest))) : W p l e R s m args below meth c H locs cells slots Q (F0 m pc ls st0) := by
  have hE : va_P D vwCl [] H := fun k q h => by simp at h
  have hDE : va_D (fun _ => True) [] := ⟨fun i j p q h => by simp at h, fun k q h => by simp at h⟩
  have hFc : ∀ q, va_A [] H.size q → A0 q := fun q h => by
    rcases h with ⟨k, e, h⟩ | h
    · simp at h
    · exact hA q (Nat.le_trans hS.1 h)
  have hXH : va_X b L xs s H := hX.kept (hS.2.1 b hbl hbA)
  refine va_calli (va_runS (As := As) (rest := rest) hF (hM H.size) cw ⟨kXB_blind _ _ _ _ _ _ _, fun U hU hW => ⟨rfl, ⟨by rw [hU], by rw [hU]; exact hE, va_K.moved hW.alike hK, hDE, hN.warm hW⟩, by rw [hU]; exact va_X.moved hW.alike hXH, Nat.lt_of_lt_of_le hbl hS.1⟩⟩ rfl hlen hl hst (lv_room hW) hdg hf) hS (fun q _ h => hFc q h) hFc (fun r u t H1 locs1 ht hvm hw hB hz1 hk1 hS1 => ?_)
  exact kk r H1 locs1 (hP.kept (fun k x hx => hk1 x.1 ((hP k x hx).lt) (fun h => by
    rcases h with ⟨k, e, h⟩ | h
    · simp at h
    · exact absurd h (Nat.not_le.mpr ((hP k x hx).lt))))) hD hS1
end CallC
