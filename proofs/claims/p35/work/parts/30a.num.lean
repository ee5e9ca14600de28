/-! ages and codes of versions -/
theorem ag_lt (n v : Nat) : ag n v < 64 := Nat.mod_lt _ (by decide)
theorem ag_s {n v : Nat} (h : ag n v < 63) : ag (n + 1) v = ag n v + 1 := by unfold ag at h ⊢; omega
theorem ag_inj {n v w : Nat} (hk : v / 64 = w / 64) (h : ag n v = ag n w) : v = w := by unfold ag at h; omega
theorem ag_nwv (n r : Nat) : ag n (nwv n r) = 0 := by unfold ag nwv; omega
theorem ag_slot {n v : Nat} (h : v % 64 = n % 64) : ag n v = 0 := by unfold ag; omega
def cod (n : Nat) (sq : Nat → Nat) (v : Nat) : Nat := sq v * 128 + (n - ag n v)
def cdo (n : Nat) (sq : Nat → Nat) (x : Option Nat) : Nat := match x with
  | none => 0
  | some v => cod n sq v
theorem cod_s {n : Nat} {sq : Nat → Nat} {v : Nat} (h : ag n v < 63) : cod (n + 1) sq v = cod n sq v := by
  unfold cod
  rw [ag_s h]
  omega
theorem nwr_iff {n : Nat} {sq : Nat → Nat} {v w : Nat} (hn : n < 128) (hv : ag n v ≤ n) (hw : ag n w ≤ n) : nwr sq n v w = true ↔ cod n sq w < cod n sq v := by
  unfold nwr cod
  split
  · next h => rw [decide_eq_true_iff]; omega
  · next h => rw [decide_eq_true_iff]; omega
theorem cod_inj {n : Nat} {sq : Nat → Nat} {v w : Nat} (hn : n < 128) (hk : v / 64 = w / 64) (hv : ag n v ≤ n) (hw : ag n w ≤ n) (h : cod n sq v = cod n sq w) : v = w := by
  unfold cod at h
  exact ag_inj (n := n) hk (by omega)
/-- a version of key 272 + o that lives at clock n -/
def lvv (n : Nat) (sq : Nat → Nat) (o v : Nat) : Prop := v / 64 = 272 + o ∧ ag n v < n ∧ ag n v ≤ 60 ∧ 1 ≤ sq v ∧ sq v + ag n v ≤ n
theorem lvv_s {n : Nat} {sq : Nat → Nat} {o v : Nat} (h : lvv n sq o v) (ha : ag n v ≤ 59) : lvv (n + 1) sq o v := by
  obtain ⟨h1, h2, h3, h4, h5⟩ := h
  have := ag_s (n := n) (v := v) (by omega)
  exact ⟨h1, by omega, by omega, h4, by omega⟩
theorem cod_pos {n : Nat} {sq : Nat → Nat} {o v : Nat} (h : lvv n sq o v) : 128 ≤ cod n sq v := by
  unfold cod
  have := h.2.2.2.1
  omega
theorem cod_sq {n : Nat} {sq : Nat → Nat} {o v w : Nat} (hn : n < 128) (h : lvv n sq o v) (hw : ag n w ≤ n) (hc : cod n sq v ≤ cod n sq w) : sq v ≤ sq w := by
  unfold cod at hc
  omega
/-- what the caller has built: nine links between N routers, in area 1 -/
def TG (t : TP) (N : Nat) : Prop := tRc t = N ∧ N ≤ 6 ∧ (∀ q, q < 18 → tRp t q < N ∧ tRp t (ot q) ≠ tRp t q ∧ tAl t (q / 2) = 1) ∧
  (∀ r i, r < N → i < tPc t r → tPo t (r * 40 + i) < 18 ∧ tRp t (tPo t (r * 40 + i)) = r) ∧
  (∀ q, q < 18 → ∃ i, i < tPc t (tRp t q) ∧ tPo t (tRp t q * 40 + i) = q) ∧ itr (fun i s => s + tPc t i) N 0 ≤ 18
theorem ot18 {q : Nat} (h : q < 18) : ot q < 18 := ot_lt (n := 9) h
theorem m_div (v q : Nat) (h : q < 128) : (v * 128 + q) / 128 = v := by omega
theorem m_mod (v q : Nat) (h : q < 128) : (v * 128 + q) % 128 = q := by omega
theorem mem_put {m : MB} {x y : Nat} : y ∈ (put m x).1 ↔ y ∈ m.1 ∨ y = x := by
  show y ∈ m.1 ++ [x] ↔ _
  rw [List.mem_append, List.mem_singleton]
theorem mem_flo_i {t : TP} {v r a : Nat} {x : Option Nat} {mb : MB} {y : Nat} : ∀ n, y ∈ (itr (fl1 t v r a x) n mb).1 ↔ y ∈ mb.1 ∨ ∃ i, i < n ∧ (some (tPo t (r * 40 + i)) ≠ x ∧ tAl t (tPo t (r * 40 + i) / 2) = a ∧ tcc t (tPo t (r * 40 + i) / 2) = true) ∧ y = v * 128 + ot (tPo t (r * 40 + i))
  | 0 => ⟨fun h => Or.inl h, fun h => h.elim id (fun ⟨i, hi, _⟩ => absurd hi (Nat.not_lt_zero i))⟩
  | n + 1 => by
    rw [itr_s]
    have ih := mem_flo_i (t := t) (v := v) (r := r) (a := a) (x := x) (mb := mb) (y := y) n
    unfold fl1
    split
    · next hc =>
      rw [mem_put]
      refine ⟨fun h => ?_, fun h => ?_⟩
      · rcases h with h | h
        · rcases ih.mp h with h | ⟨i, hi, h⟩
          · exact Or.inl h
          · exact Or.inr ⟨i, by omega, h⟩
        · exact Or.inr ⟨n, by omega, hc, h⟩
      · rcases h with h | ⟨i, hi, h⟩
        · exact Or.inl (ih.mpr (Or.inl h))
        · rcases Nat.lt_or_ge i n with q | q
          · exact Or.inl (ih.mpr (Or.inr ⟨i, q, h⟩))
          · obtain rfl : i = n := by omega
            exact Or.inr h.2
    · next hc =>
      refine ⟨fun h => ?_, fun h => ?_⟩
      · rcases ih.mp h with h | ⟨i, hi, h⟩
        · exact Or.inl h
        · exact Or.inr ⟨i, by omega, h⟩
      · rcases h with h | ⟨i, hi, h⟩
        · exact ih.mpr (Or.inl h)
        · rcases Nat.lt_or_ge i n with q | q
          · exact ih.mpr (Or.inr ⟨i, q, h⟩)
          · obtain rfl : i = n := by omega
            exact absurd h.1 hc
/-- a router's flood: over each of its usable links, but one -/
theorem mem_flo {t : TP} {N : Nat} (hG : TG t N) {v r : Nat} {x : Option Nat} {mb : MB} {y : Nat} (hr : r < N) : y ∈ (flo t v r 1 x mb).1 ↔ y ∈ mb.1 ∨ ∃ q, q < 18 ∧ tRp t (ot q) = r ∧ some (ot q) ≠ x ∧ tcc t (q / 2) = true ∧ y = v * 128 + q := by
  obtain ⟨g1, g2, g3, g4, g5, g6⟩ := hG
  unfold flo
  rw [mem_flo_i]
  refine ⟨fun h => ?_, fun h => ?_⟩
  · rcases h with h | ⟨i, hi, ⟨c1, c2, c3⟩, h⟩
    · exact Or.inl h
    · obtain ⟨k1, k2⟩ := g4 r i hr hi
      exact Or.inr ⟨ot (tPo t (r * 40 + i)), ot18 k1, by rw [ot_ot]; exact k2, by rw [ot_ot]; exact c1, by rw [ot_div]; exact c3, h⟩
  · rcases h with h | ⟨q, hq, h1, h2, h3, h⟩
    · exact Or.inl h
    · obtain ⟨i, hi, he⟩ := g5 (ot q) (ot18 hq)
      rw [h1] at hi he
      refine Or.inr ⟨i, hi, ⟨by rw [he]; exact h2, by rw [he, ot_div]; exact (g3 q hq).2.2, by rw [he, ot_div]; exact h3⟩, by rw [he, ot_ot]; exact h⟩
