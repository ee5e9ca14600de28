/-! all rounds -/
theorem nr_min {ds : Nat → Option Nat} {w s : Nat} : ∀ n, (itr (nr1 ds w s) n none = none ∧ ∀ v d, v < n → s / 2 ^ v % 2 = 0 → ds (w + v) ≠ some d) ∨ (∃ x e, itr (nr1 ds w s) n none = some x ∧ x < n ∧ s / 2 ^ x % 2 = 0 ∧ ds (w + x) = some e ∧ ∀ v d, v < n → s / 2 ^ v % 2 = 0 → ds (w + v) = some d → e ≤ d)
  | 0 => Or.inl ⟨rfl, fun v d h => absurd h (Nat.not_lt_zero v)⟩
  | n + 1 => by
    rw [itr_s]
    have ih := nr_min (ds := ds) (w := w) (s := s) n
    generalize itr (nr1 ds w s) n none = z at ih ⊢
    have lt_or : ∀ v, v < n + 1 → v < n ∨ v = n := fun v h => by omega
    unfold nr1
    cases hd : ds (w + n) with
    | none =>
      rcases ih with ⟨h1, h2⟩ | ⟨x, e, h1, h2, h3, h4, h5⟩
      · refine Or.inl ⟨h1, fun v d hv hs e => ?_⟩
        rcases lt_or v hv with q | q
        · exact h2 v d q hs e
        · subst q; rw [hd] at e; cases e
      · refine Or.inr ⟨x, e, h1, by omega, h3, h4, fun v d hv hs e2 => ?_⟩
        rcases lt_or v hv with q | q
        · exact h5 v d q hs e2
        · subst q; rw [hd] at e2; cases e2
    | some d0 =>
      by_cases hs0 : s / 2 ^ n % 2 = 0
      · dsimp only
        rw [if_pos hs0]
        rcases ih with ⟨h1, h2⟩ | ⟨x, e, h1, h2, h3, h4, h5⟩
        · rw [h1]
          refine Or.inr ⟨n, d0, rfl, by omega, hs0, hd, fun v d hv hs e2 => ?_⟩
          rcases lt_or v hv with q | q
          · exact absurd e2 (h2 v d q hs)
          · subst q; rw [hd] at e2; obtain rfl := Option.some.inj e2; exact Nat.le_refl _
        · rw [h1]
          dsimp only
          rw [h4]
          dsimp only
          by_cases hl : d0 < e
          · rw [if_pos hl]
            refine Or.inr ⟨n, d0, rfl, by omega, hs0, hd, fun v d hv hs e2 => ?_⟩
            rcases lt_or v hv with q | q
            · have := h5 v d q hs e2; omega
            · subst q; rw [hd] at e2; obtain rfl := Option.some.inj e2; exact Nat.le_refl _
          · rw [if_neg hl]
            refine Or.inr ⟨x, e, rfl, by omega, h3, h4, fun v d hv hs e2 => ?_⟩
            rcases lt_or v hv with q | q
            · exact h5 v d q hs e2
            · subst q; rw [hd] at e2; obtain rfl := Option.some.inj e2; omega
      · dsimp only
        rw [if_neg hs0]
        rcases ih with ⟨h1, h2⟩ | ⟨x, e, h1, h2, h3, h4, h5⟩
        · refine Or.inl ⟨h1, fun v d hv hs e => ?_⟩
          rcases lt_or v hv with q | q
          · exact h2 v d q hs e
          · subst q; exact hs0 hs
        · refine Or.inr ⟨x, e, h1, by omega, h3, h4, fun v d hv hs e2 => ?_⟩
          rcases lt_or v hv with q | q
          · exact h5 v d q hs e2
          · subst q; exact absurd hs hs0
/-- a round -/
theorem DJ_round {t : TP} {N r s x dx : Nat} {hd : Nat → Option Nat} {lm : Nat → Nat} {y : PS} (hG : TG t N) (hr : r < N) (hx : x < N) (hs : s / 2 ^ x % 2 = 0) (hdx : y.1 ((r * 4 + 1) * 16 + x) = some dx)
    (hmin : ∀ v d, v < N → s / 2 ^ v % 2 = 0 → y.1 ((r * 4 + 1) * 16 + v) = some d → dx ≤ d) (h : DJ t N (km t hd lm r) r s (row ((r * 4 + 1) * 16) y.1) (row ((r * 4 + 1) * 16) y.2)) :
    DJ t N (km t hd lm r) r (s ||| 2 ^ x) (row ((r * 4 + 1) * 16) (itr (go1 t hd lm r ((r * 4 + 1) * 16) x dx (y.2 ((r * 4 + 1) * 16 + x))) (tPc t x) y).1) (row ((r * 4 + 1) * 16) (itr (go1 t hd lm r ((r * 4 + 1) * 16) x dx (y.2 ((r * 4 + 1) * 16 + x))) (tPc t x) y).2) := by
  obtain ⟨h1, h2, h3, h4, h5⟩ := h
  have hbx : ¬ (s ||| 2 ^ x) / 2 ^ x % 2 = 0 := (bit_or s x x).mpr (Or.inr rfl)
  have hxr : x = r → dx = 0 := fun z => by
    have h1 : y.1 ((r * 4 + 1) * 16 + r) = some 0 := h1
    rw [z] at hdx
    rw [hdx] at h1
    exact Option.some.inj h1
  have hg : x ≠ r → y.2 ((r * 4 + 1) * 16 + x) ≠ 0 ∧ fst9 t (km t hd lm r) r x dx (y.2 ((r * 4 + 1) * 16 + x)) := fun z => h5 x dx hx z hdx
  have h0 : DG t N (km t hd lm r) r (s ||| 2 ^ x) x dx (y.2 ((r * 4 + 1) * 16 + x)) 0 (row ((r * 4 + 1) * 16) y.1) (row ((r * 4 + 1) * 16) y.2) := by
    refine ⟨h1, hdx, rfl, fun u hu hsu => ?_, fun v e hv hsv he => ?_, fun q d hq hf hsq hqx hd9 => ?_, fun j hj => absurd hj (Nat.not_lt_zero j), fun v e hv hvr he => ?_, h5⟩
    · rcases (bit_or s x u).mp hsu with z | z
      · obtain ⟨d, a1, a2⟩ := h2 u hu z
        exact ⟨d, a1, a2 x dx hx hs hdx⟩
      · subst z; exact ⟨dx, hdx, Nat.le_refl _⟩
    · refine hmin v e hv ?_ he
      rcases Nat.eq_zero_or_pos (s / 2 ^ v % 2) with z | z
      · exact z
      · exact absurd hsv ((bit_or s x v).mpr (Or.inl (by omega)))
    · rcases (bit_or s x _).mp hsq with z | z
      · exact h3 q d hq hf z hd9
      · exact absurd z.symm hqx
    · obtain ⟨q, d, a1, a2, a3, a4, a5, a6⟩ := h4 v e hv hvr he
      exact ⟨q, d, a1, a2, a3, a4, a5, (bit_or s x _).mpr (Or.inl a6)⟩
  have hi : ∀ i, i ≤ tPc t x → DG t N (km t hd lm r) r (s ||| 2 ^ x) x dx (y.2 ((r * 4 + 1) * 16 + x)) i (row ((r * 4 + 1) * 16) (itr (go1 t hd lm r ((r * 4 + 1) * 16) x dx (y.2 ((r * 4 + 1) * 16 + x))) i y).1) (row ((r * 4 + 1) * 16) (itr (go1 t hd lm r ((r * 4 + 1) * 16) x dx (y.2 ((r * 4 + 1) * 16 + x))) i y).2) := by
    intro i
    induction i with
    | zero => intro _; exact h0
    | succ i ih =>
      intro hle
      have h9 := ih (by omega)
      rw [itr_s]
      generalize itr (go1 t hd lm r ((r * 4 + 1) * 16) x dx (y.2 ((r * 4 + 1) * 16 + x))) i y = z at h9 ⊢
      unfold go1
      split
      · next hk =>
        obtain ⟨a1, a2, a3, a4, a5, a6, a7, a8, a9⟩ := h9
        refine ⟨a1, a2, a3, a4, a5, a6, fun j hj hf => ?_, a8, a9⟩
        rcases Nat.lt_or_ge j i with q | q
        · exact a7 j q hf
        · obtain rfl : j = i := by omega
          exact absurd hk hf
      · next hk => exact DG_step hG hr hx hbx (by omega) hg hxr h9 hk
  obtain ⟨a1, a2, a3, a4, a5, a6, a7, a8, a9⟩ := hi _ (Nat.le_refl _)
  refine ⟨a1, fun u hu hsu => ?_, fun q d hq hf hsq hd9 => ?_, a8, a9⟩
  · obtain ⟨d, b1, b2⟩ := a4 u hu hsu
    exact ⟨d, b1, fun v e hv hsv he => Nat.le_trans b2 (a5 v e hv hsv he)⟩
  · by_cases z : tRp t q = x
    · obtain ⟨j, j1, j2⟩ := hG.2.2.2.2.1 q hq
      rw [z] at j1 j2 hd9
      rw [a2] at hd9
      obtain rfl := Option.some.inj hd9
      have := a7 j j1 (by rw [j2]; exact hf)
      rw [j2] at this
      exact this
    · exact a6 q d hq hf hsq z hd9
/-- how many routers are not settled -/
def uns (N s : Nat) : Nat := ssm (fun v => if s / 2 ^ v % 2 = 0 then 1 else 0) N
theorem dj_SP {t : TP} {N r : Nat} {hd : Nat → Option Nat} {lm : Nat → Nat} (hG : TG t N) (hr : r < N) : ∀ n s (y : PS), uns N s ≤ n → DJ t N (km t hd lm r) r s (row ((r * 4 + 1) * 16) y.1) (row ((r * 4 + 1) * 16) y.2) →
    SP t N (km t hd lm r) r (row ((r * 4 + 1) * 16) (dj t hd lm r ((r * 4 + 1) * 16) n s y).1) (row ((r * 4 + 1) * 16) (dj t hd lm r ((r * 4 + 1) * 16) n s y).2)
  | 0, s, y, hu, h => by
    refine DJ_SP hG h (fun v d hv _ hs => ?_)
    have := ssm_ge (f := fun v => if s / 2 ^ v % 2 = 0 then 1 else 0) hv
    simp only [hs, if_true] at this
    unfold uns at hu
    omega
  | n + 1, s, y, hu, h => by
    rw [dj, hG.1]
    rcases nr_min (ds := y.1) (w := (r * 4 + 1) * 16) (s := s) N with ⟨e, h2⟩ | ⟨x, dx, e, h2, h3, h4, h5⟩
    · rw [e]
      exact DJ_SP hG h (fun v d hv hd9 hs => h2 v d hv hs hd9)
    · rw [e]
      dsimp only
      rw [h4]
      refine dj_SP hG hr n _ _ ?_ (DJ_round hG hr h2 h3 h4 h5 h)
      have h9 : uns N (s ||| 2 ^ x) + 1 ≤ uns N s := by
        unfold uns
        refine Nat.le_trans (ssm_up (g := fun v => if v = x then 1 else if (s ||| 2 ^ x) / 2 ^ v % 2 = 0 then 1 else 0) (k := x) ?_ h2 (fun i _ hi => by rw [if_neg hi])) (ssm_mono (fun v _ => ?_))
        · rw [if_neg ((bit_or s x x).mpr (Or.inr rfl)), if_pos rfl]; omega
        · by_cases z : v = x
          · rw [if_pos z, z, if_pos h3]; exact Nat.le_refl _
          · rw [if_neg z]
            by_cases z2 : s / 2 ^ v % 2 = 0
            · rw [if_pos z2]; split <;> omega
            · rw [if_neg ((bit_or s x v).mpr (Or.inl z2))]; exact Nat.zero_le _
      omega
theorem uns_le {N s : Nat} : uns N s ≤ N := by
  unfold uns
  refine Nat.le_trans (ssm_le (B := 1) (fun i _ => ?_)) (by omega)
  split <;> omega
/-- what compute makes is the shortest paths -/
theorem cpt_SP {t : TP} {N r : Nat} {hd : Nat → Option Nat} {lm : Nat → Nat} (hG : TG t N) (hr : r < N) (y : PS) : SP t N (km t hd lm r) r (row ((r * 4 + 1) * 16) (cpt t hd lm r y).1) (row ((r * 4 + 1) * 16) (cpt t hd lm r y).2) := by
  have hN := hG.2.1
  unfold cpt
  have hrow : ∀ v, v < 16 → row ((r * 4 + 1) * 16) (djs r ((r * 4 + 1) * 16) y).1 v = if v = r then some 0 else none := fun v hv => by
    show row _ (fs _ _ _) v = _
    rw [row_fs]
    unfold fs
    by_cases z : v = r
    · rw [if_pos z, if_pos z]
    · rw [if_neg z, if_neg z]; exact clD_in (by omega) (by omega)
  refine dj_SP hG hr _ _ _ (by rw [hG.1]; exact uns_le) ⟨by rw [hrow r (by omega), if_pos rfl], fun x hx hs => absurd (by rw [Nat.zero_div]) hs, fun q d hq hf hs => absurd (by rw [Nat.zero_div]) hs, fun v e hv hvr he => ?_, fun v e hv hvr he => ?_⟩
  · rw [hrow v (by omega), if_neg hvr] at he; cases he
  · rw [hrow v (by omega), if_neg hvr] at he; cases he
