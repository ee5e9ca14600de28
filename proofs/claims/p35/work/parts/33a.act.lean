/-! a router's turn: what it sends, what it describes -/
theorem mem_sdb_i {t : TP} {hd : Nat → Option Nat} {r q : Nat} {mb : MB} {y : Nat} : ∀ n, y ∈ (itr (sd1 t hd r q) n mb).1 ↔ y ∈ mb.1 ∨ ∃ i v, i < n ∧ hd (r * 1088 + (tAl t (q / 2) * 272 + i)) = some v ∧ y = v * 128 + ot q
  | 0 => ⟨fun h => Or.inl h, fun h => h.elim id (fun ⟨i, _, hi, _⟩ => absurd hi (Nat.not_lt_zero i))⟩
  | n + 1 => by
    rw [itr_s]
    have ih := mem_sdb_i (t := t) (hd := hd) (r := r) (q := q) (mb := mb) (y := y) n
    generalize itr (sd1 t hd r q) n mb = z at ih ⊢
    unfold sd1
    cases hv : hd (r * 1088 + (tAl t (q / 2) * 272 + n)) with
    | none =>
      rw [ih]
      refine ⟨fun h => h.elim Or.inl (fun ⟨i, v, hi, h⟩ => Or.inr ⟨i, v, by omega, h⟩), fun h => h.elim Or.inl (fun ⟨i, v, hi, h1, h2⟩ => ?_)⟩
      rcases Nat.lt_or_ge i n with q | q
      · exact Or.inr ⟨i, v, q, h1, h2⟩
      · obtain rfl : i = n := by omega
        rw [hv] at h1; cases h1
    | some w =>
      rw [mem_put, ih]
      refine ⟨fun h => ?_, fun h => ?_⟩
      · rcases h with (h | ⟨i, v, hi, h⟩) | h
        · exact Or.inl h
        · exact Or.inr ⟨i, v, by omega, h⟩
        · exact Or.inr ⟨n, w, by omega, hv, h⟩
      · rcases h with h | ⟨i, v, hi, h1, h2⟩
        · exact Or.inl (Or.inl h)
        · rcases Nat.lt_or_ge i n with q | q
          · exact Or.inl (Or.inr ⟨i, v, q, h1, h2⟩)
          · obtain rfl : i = n := by omega
            rw [hv] at h1
            obtain rfl := Option.some.inj h1
            exact Or.inr h2
theorem mem_fnl_i {t : TP} {wu : Nat → Bool} {hd : Nat → Option Nat} {r : Nat} {mb : MB} {y : Nat} : ∀ n, y ∈ (itr (fn1 t wu hd r) n mb).1 ↔ y ∈ mb.1 ∨ ∃ i, i < n ∧ tcc t (tPo t (r * 40 + i) / 2) = true ∧ wu (tPo t (r * 40 + i) / 2) = false ∧ ∃ k v, k < 272 ∧ hd (r * 1088 + (tAl t (tPo t (r * 40 + i) / 2) * 272 + k)) = some v ∧ y = v * 128 + ot (tPo t (r * 40 + i))
  | 0 => ⟨fun h => Or.inl h, fun h => h.elim id (fun ⟨i, hi, _⟩ => absurd hi (Nat.not_lt_zero i))⟩
  | n + 1 => by
    rw [itr_s]
    have ih := mem_fnl_i (t := t) (wu := wu) (hd := hd) (r := r) (mb := mb) (y := y) n
    generalize itr (fn1 t wu hd r) n mb = z at ih ⊢
    unfold fn1
    split
    · next hc =>
      unfold sdb
      rw [mem_sdb_i, ih]
      refine ⟨fun h => ?_, fun h => ?_⟩
      · rcases h with (h | ⟨i, hi, h⟩) | ⟨k, v, h⟩
        · exact Or.inl h
        · exact Or.inr ⟨i, Nat.lt_succ_of_lt hi, h⟩
        · exact Or.inr ⟨n, Nat.lt_succ_self n, hc.1, hc.2, k, v, h⟩
      · rcases h with h | ⟨i, hi, h1, h2, k, v, h⟩
        · exact Or.inl (Or.inl h)
        · rcases Nat.lt_or_ge i n with q | q
          · exact Or.inl (Or.inr ⟨i, q, h1, h2, k, v, h⟩)
          · obtain rfl : i = n := Nat.le_antisymm (Nat.le_of_lt_succ hi) q
            exact Or.inr ⟨k, v, h⟩
    · next hc =>
      rw [ih]
      refine ⟨fun h => h.elim Or.inl (fun ⟨i, hi, h⟩ => Or.inr ⟨i, Nat.lt_succ_of_lt hi, h⟩), fun h => h.elim Or.inl (fun ⟨i, hi, h1, h2, h3⟩ => ?_)⟩
      rcases Nat.lt_or_ge i n with q | q
      · exact Or.inr ⟨i, q, h1, h2, h3⟩
      · obtain rfl : i = n := Nat.le_antisymm (Nat.le_of_lt_succ hi) q
        exact absurd ⟨h1, h2⟩ hc
/-- fillNewLinks: over each of its usable links that was not usable, all that it holds -/
theorem mem_fnl {t : TP} {N : Nat} (hG : TG t N) {wu : Nat → Bool} {hd : Nat → Option Nat} {r : Nat} {mb : MB} {y : Nat} (hr : r < N) : y ∈ (fnl t wu hd r mb).1 ↔ y ∈ mb.1 ∨ ∃ q, q < 18 ∧ tRp t (ot q) = r ∧ tcc t (q / 2) = true ∧ wu (q / 2) = false ∧ ∃ k v, k < 272 ∧ hd (r * 1088 + (272 + k)) = some v ∧ y = v * 128 + q := by
  obtain ⟨g1, g2, g3, g4, g5, g6⟩ := hG
  unfold fnl
  rw [mem_fnl_i]
  refine ⟨fun h => ?_, fun h => ?_⟩
  · rcases h with h | ⟨i, hi, h1, h2, k, v, h3, h4, h5⟩
    · exact Or.inl h
    · obtain ⟨k1, k2⟩ := g4 r i hr hi
      rw [(g3 _ k1).2.2, Nat.one_mul] at h4
      exact Or.inr ⟨ot (tPo t (r * 40 + i)), ot18 k1, by rw [ot_ot]; exact k2, by rw [ot_div]; exact h1, by rw [ot_div]; exact h2, k, v, h3, h4, h5⟩
  · rcases h with h | ⟨q, hq, h1, h2, h3, k, v, h4, h5, h6⟩
    · exact Or.inl h
    · obtain ⟨i, hi, he⟩ := g5 (ot q) (ot18 hq)
      rw [h1] at hi he
      refine Or.inr ⟨i, hi, by rw [he, ot_div]; exact h2, by rw [he, ot_div]; exact h3, k, v, h4, ?_, by rw [he, ot_ot]; exact h6⟩
      rw [he, (g3 (ot q) (ot18 hq)).2.2, Nat.one_mul]; exact h5
/-! descriptions -/
theorem dlm_set {t : TP} {N : Nat} (hG : TG t N) {r s : Nat} {lm : Nat → Nat} (hr : r < N) (hs : s < 64) : ∀ n, n ≤ tPc t r → ∀ i, i < n → itr (dsB (tRu t) (tLu t) (tRp t) (tMp t) (tAl t) (tPo t) r 1 s) n lm (tPo t (r * 40 + i) * 64 + s) = mtl (tRu t) (tLu t) (tRp t) (tMp t) (tPo t (r * 40 + i))
  | 0, _, i, hi => absurd hi (Nat.not_lt_zero i)
  | n + 1, hn, i, hi => by
    rw [itr_s]
    have ih := dlm_set hG (lm := lm) hr hs n (by omega) i
    generalize itr (dsB (tRu t) (tLu t) (tRp t) (tMp t) (tAl t) (tPo t) r 1 s) n lm = z at ih ⊢
    obtain ⟨k1, k2⟩ := hG.2.2.2.1 r n hr (by omega)
    unfold dsB
    rw [if_pos (hG.2.2.1 _ k1).2.2]
    by_cases e : tPo t (r * 40 + i) = tPo t (r * 40 + n)
    · rw [e]; exact fs_s
    · rw [fs_n (by omega)]
      exact ih (by rcases Nat.lt_or_ge i n with q | q; exact q; exact absurd (by rw [show i = n by omega]) e)
theorem dlm_out {t : TP} {r s : Nat} {lm : Nat → Nat} {j : Nat} : ∀ n, (∀ i, i < n → j ≠ tPo t (r * 40 + i) * 64 + s) → itr (dsB (tRu t) (tLu t) (tRp t) (tMp t) (tAl t) (tPo t) r 1 s) n lm j = lm j
  | 0, _ => rfl
  | n + 1, h => by
    rw [itr_s]
    have ih := dlm_out (t := t) (r := r) (s := s) (lm := lm) (j := j) n (fun i hi => h i (by omega))
    generalize itr (dsB (tRu t) (tLu t) (tRp t) (tMp t) (tAl t) (tPo t) r 1 s) n lm = z at ih ⊢
    unfold dsB
    split
    · rw [fs_n (h n (by omega))]; exact ih
    · exact ih
theorem dlo_set {an lo : Nat → Option Nat} {n0 s : Nat} : ∀ n j, j < n → itr (dsC an n0 s) n lo ((n0 + j) * 64 + s) = an (n0 + j)
  | 0, j, hj => absurd hj (Nat.not_lt_zero j)
  | n + 1, j, hj => by
    rw [itr_s]
    have ih := dlo_set (an := an) (lo := lo) (n0 := n0) (s := s) n j
    generalize itr (dsC an n0 s) n lo = z at ih ⊢
    unfold dsC
    by_cases e : j = n
    · rw [e]; exact fs_s
    · rw [fs_n (by omega)]; exact ih (by omega)
theorem dlo_out {an lo : Nat → Option Nat} {n0 s k : Nat} : ∀ n, (∀ j, j < n → k ≠ (n0 + j) * 64 + s) → itr (dsC an n0 s) n lo k = lo k
  | 0, _ => rfl
  | n + 1, h => by
    rw [itr_s]
    have ih := dlo_out (an := an) (lo := lo) (n0 := n0) (s := s) (k := k) n (fun i hi => h i (by omega))
    generalize itr (dsC an n0 s) n lo = z at ih ⊢
    unfold dsC
    rw [fs_n (h n (by omega))]; exact ih
/-- a fresh description says what is -/
theorem utb_new {t : TP} {N : Nat} (hG : TG t N) {v r : Nat} {lm : Nat → Nat} {lo : Nat → Option Nat} (hr : r < N) : utb t (dlm t v r lm) (dlo t v r lo) v r 1 = true := by
  rw [utb_true]
  refine ⟨fun i hi _ => ?_, fun j hj => ?_⟩
  · exact dlm_set hG hr (by omega) _ (Nat.le_refl _) i hi
  · exact dlo_set 16 j hj
theorem dlm_same {t : TP} {N : Nat} (hG : TG t N) {v r j : Nat} {lm : Nat → Nat} (hr : r < N) (h : j % 64 ≠ v % 64 ∨ tRp t (j / 64) ≠ r) : dlm t v r lm j = lm j := by
  unfold dlm
  refine dlm_out _ (fun i hi e => ?_)
  obtain ⟨k1, k2⟩ := hG.2.2.2.1 r i hr hi
  rcases h with h | h
  · omega
  · exact h (by rw [show j / 64 = tPo t (r * 40 + i) by omega]; exact k2)
theorem dlo_same {t : TP} {v r j : Nat} {lo : Nat → Option Nat} (h : j % 64 ≠ v % 64 ∨ j / 64 / 64 ≠ r) : dlo t v r lo j = lo j := by
  unfold dlo
  refine dlo_out _ (fun i hi e => ?_)
  omega
