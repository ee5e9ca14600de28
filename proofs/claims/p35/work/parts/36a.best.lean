/-! the best candidate -/
/-- router i is a candidate for network n in the eyes of r, at distance d with cost c -/
def cnd (hd lo ds : Nat → Option Nat) (r n i d c : Nat) : Prop := ds ((r * 4 + 1) * 16 + i) = some d ∧ ∃ v, hd (r * 1088 + (1 * 272 + i)) = some v ∧ lo (((i * 4 + 1) * 16 + n) * 64 + v % 64) = some c
def BI (hd lo ds : Nat → Option Nat) (fk : Nat → Nat) (r n m : Nat) (B : BS) : Prop :=
  (B.1 = none → (∀ i d c, i < m → ¬ cnd hd lo ds r n i d c) ∧ B.2.1 = 0 ∧ B.2.2 = false) ∧
  (∀ b, B.1 = some b → (∃ i d c, i < m ∧ cnd hd lo ds r n i d c ∧ d + c = b) ∧ (∀ i d c, i < m → cnd hd lo ds r n i d c → b ≤ d + c) ∧
    (∀ k, ¬ B.2.1 / 2 ^ k % 2 = 0 → ∃ i d c, i < m ∧ cnd hd lo ds r n i d c ∧ d + c = b ∧ ¬ fk ((r * 4 + 1) * 16 + i) / 2 ^ k % 2 = 0) ∧
    (∀ i d c, i < m → cnd hd lo ds r n i d c → d + c = b → fk ((r * 4 + 1) * 16 + i) ≠ 0 → B.2.1 ≠ 0) ∧
    (B.2.2 = true ↔ ∃ i d c, i < m ∧ cnd hd lo ds r n i d c ∧ d + c = b ∧ i = r))
theorem cnd_u {hd lo ds : Nat → Option Nat} {r n i d c d2 c2 : Nat} (h : cnd hd lo ds r n i d c) (h2 : cnd hd lo ds r n i d2 c2) : d = d2 ∧ c = c2 := by
  obtain ⟨a1, v, a2, a3⟩ := h
  obtain ⟨b1, w, b2, b3⟩ := h2
  obtain rfl := Option.some.inj (a1.symm.trans b1)
  obtain rfl := Option.some.inj (a2.symm.trans b2)
  exact ⟨rfl, Option.some.inj (a3.symm.trans b3)⟩
theorem or_ne2 {a b : Nat} (h : b ≠ 0) : a ||| b ≠ 0 := by rw [Nat.or_comm]; exact or_ne h
theorem BI_all {t : TP} {hd lo ds : Nat → Option Nat} {fk : Nat → Nat} {r n : Nat} : ∀ m, BI hd lo ds fk r n m (itr (oa1 t hd lo ds fk r n) m (none, 0, false))
  | 0 => ⟨fun _ => ⟨fun i _ _ h => absurd h (Nat.not_lt_zero i), rfl, rfl⟩, (fun b h => by cases h)⟩
  | m + 1 => by
    rw [itr_s]
    have ih := BI_all (t := t) (hd := hd) (lo := lo) (ds := ds) (fk := fk) (r := r) (n := n) m
    generalize itr (oa1 t hd lo ds fk r n) m (none, 0, false) = B at ih ⊢
    have lt_or : ∀ v, v < m + 1 → v < m ∨ v = m := fun v h => by omega
    -- no candidate: nothing changes
    have same : (∀ d c, ¬ cnd hd lo ds r n m d c) → BI hd lo ds fk r n (m + 1) B := fun hno => by
      refine ⟨fun h => ⟨fun i d c hi hc => ?_, (ih.1 h).2⟩, fun b h => ?_⟩
      · rcases lt_or i hi with q | q
        · exact (ih.1 h).1 i d c q hc
        · subst q; exact hno d c hc
      · obtain ⟨⟨i, d, c, a1, a2⟩, a3, a4, a5, a6⟩ := ih.2 b h
        refine ⟨⟨i, d, c, by omega, a2⟩, fun i d c hi hc => ?_, fun k hk => ?_, fun i d c hi hc => ?_, ⟨fun h => ?_, fun ⟨i, d, c, hi, hc⟩ => ?_⟩⟩
        · rcases lt_or i hi with q | q
          · exact a3 i d c q hc
          · subst q; exact absurd hc (hno d c)
        · obtain ⟨i, d, c, b1, b2⟩ := a4 k hk
          exact ⟨i, d, c, by omega, b2⟩
        · rcases lt_or i hi with q | q
          · exact a5 i d c q hc
          · subst q; exact absurd hc (hno d c)
        · obtain ⟨i, d, c, b1, b2⟩ := a6.mp h
          exact ⟨i, d, c, by omega, b2⟩
        · rcases lt_or i hi with q | q
          · exact a6.mpr ⟨i, d, c, q, hc⟩
          · subst q; exact absurd hc.1 (hno d c)
    unfold oa1
    cases h1 : ds ((r * 4 + 1) * 16 + m) with
    | none => exact same (fun d c hc => by rw [hc.1] at h1; cases h1)
    | some d0 =>
      cases h2 : hd (r * 1088 + (1 * 272 + m)) with
      | none => exact same (fun d c hc => by obtain ⟨_, v, q, _⟩ := hc; rw [q] at h2; cases h2)
      | some v0 =>
        dsimp only
        cases h3 : lo (((m * 4 + 1) * 16 + n) * 64 + v0 % 64) with
        | none => exact same (fun d c hc => by obtain ⟨_, v, q, q2⟩ := hc; rw [q] at h2; obtain rfl := Option.some.inj h2; rw [q2] at h3; cases h3)
        | some c0 =>
          dsimp only
          have hc0 : cnd hd lo ds r n m d0 c0 := ⟨h1, v0, h2, h3⟩
          have hun : ∀ d c, cnd hd lo ds r n m d c → d + c = d0 + c0 := fun d c hc => by obtain ⟨rfl, rfl⟩ := cnd_u hc hc0; rfl
          obtain ⟨B1, B2, B3⟩ := B
          -- a new best
          have new : (B1 = none ∨ ∃ b, B1 = some b ∧ d0 + c0 < b) → BI hd lo ds fk r n (m + 1) (some (d0 + c0), fk ((r * 4 + 1) * 16 + m), decide (m = r)) := fun hb => by
            have hlt : ∀ i d c, i < m → cnd hd lo ds r n i d c → d0 + c0 < d + c := fun i d c hi hc => by
              rcases hb with z | ⟨b, z, z2⟩
              · exact absurd hc ((ih.1 z).1 i d c hi)
              · have := (ih.2 b z).2.1 i d c hi hc; omega
            refine ⟨(fun h => by cases h), fun b h => ?_⟩
            obtain rfl : d0 + c0 = b := Option.some.inj h
            refine ⟨⟨m, d0, c0, by omega, hc0, rfl⟩, fun i d c hi hc => ?_, fun k hk => ⟨m, d0, c0, by omega, hc0, rfl, hk⟩, fun i d c hi hc he hf => ?_, ⟨fun h => ⟨m, d0, c0, by omega, hc0, rfl, of_decide_eq_true h⟩, fun ⟨i, d, c, hi, hc, he, hr⟩ => ?_⟩⟩
            · rcases lt_or i hi with q | q
              · have := hlt i d c q hc; omega
              · subst q; have := hun d c hc; omega
            · rcases lt_or i hi with q | q
              · have := hlt i d c q hc; omega
              · subst q; exact hf
            · rcases lt_or i hi with q | q
              · have := hlt i d c q hc; omega
              · subst q; exact decide_eq_true hr
          cases B1 with
          | none => exact new (Or.inl rfl)
          | some b0 =>
            obtain ⟨⟨i0, di, ci, a1, a2⟩, a3, a4, a5, a6⟩ := ih.2 b0 rfl
            unfold bof
            dsimp only
            by_cases hl : b0 < d0 + c0
            · rw [if_pos hl]
              refine ⟨(fun h => by cases h), fun b h => ?_⟩
              obtain rfl : b0 = b := Option.some.inj h
              refine ⟨⟨i0, di, ci, by omega, a2⟩, fun i d c hi hc => ?_, fun k hk => ?_, fun i d c hi hc he hf => ?_, ⟨fun h => ?_, fun ⟨i, d, c, hi, hc, he, hr⟩ => ?_⟩⟩
              · rcases lt_or i hi with q | q
                · exact a3 i d c q hc
                · subst q; have := hun d c hc; omega
              · obtain ⟨i, d, c, b1, b2⟩ := a4 k hk
                exact ⟨i, d, c, by omega, b2⟩
              · rcases lt_or i hi with q | q
                · exact a5 i d c q hc he hf
                · subst q; have := hun d c hc; omega
              · obtain ⟨i, d, c, b1, b2⟩ := a6.mp h
                exact ⟨i, d, c, by omega, b2⟩
              · rcases lt_or i hi with q | q
                · exact a6.mpr ⟨i, d, c, q, hc, he, hr⟩
                · subst q; have := hun d c hc; omega
            · rw [if_neg hl]
              by_cases he0 : d0 + c0 = b0
              · rw [if_pos he0]
                refine ⟨(fun h => by cases h), fun b h => ?_⟩
                obtain rfl : b0 = b := Option.some.inj h
                refine ⟨⟨i0, di, ci, by omega, a2⟩, fun i d c hi hc => ?_, fun k hk => ?_, fun i d c hi hc he hf => ?_, ⟨fun h => ?_, fun ⟨i, d, c, hi, hc, he, hr⟩ => ?_⟩⟩
                · rcases lt_or i hi with q | q
                  · exact a3 i d c q hc
                  · subst q; have := hun d c hc; omega
                · rcases (bit_or2 _ _ _).mp hk with z | z
                  · obtain ⟨i, d, c, b1, b2⟩ := a4 k z
                    exact ⟨i, d, c, by omega, b2⟩
                  · exact ⟨m, d0, c0, by omega, hc0, he0, z⟩
                · rcases lt_or i hi with q | q
                  · exact or_ne (a5 i d c q hc he hf)
                  · subst q; exact or_ne2 hf
                · have h : (B3 || decide (m = r)) = true := h
                  rw [Bool.or_eq_true, decide_eq_true_iff] at h
                  rcases h with z | z
                  · obtain ⟨i, d, c, b1, b2⟩ := a6.mp z
                    exact ⟨i, d, c, by omega, b2⟩
                  · exact ⟨m, d0, c0, by omega, hc0, he0, z⟩
                · show (B3 || decide (m = r)) = true
                  rw [Bool.or_eq_true, decide_eq_true_iff]
                  rcases lt_or i hi with q | q
                  · exact Or.inl (a6.mpr ⟨i, d, c, q, hc, he, hr⟩)
                  · exact Or.inr (by rw [← q]; exact hr)
              · rw [if_neg he0]
                exact new (Or.inr ⟨b0, rfl, by omega⟩)
/-- tables of other routers are left alone -/
theorem cpt_out {t : TP} {hd : Nat → Option Nat} {lm : Nat → Nat} {r j : Nat} (hG : ∀ q, tRp t q < 16) (hr : r < 16) (hj : j < (r * 4 + 1) * 16 ∨ (r * 4 + 1) * 16 + 16 ≤ j) (y : PS) : (cpt t hd lm r y).1 j = y.1 j ∧ (cpt t hd lm r y).2 j = y.2 j := by
  have hgo : ∀ x d g n (z : PS), (itr (go1 t hd lm r ((r * 4 + 1) * 16) x d g) n z).1 j = z.1 j ∧ (itr (go1 t hd lm r ((r * 4 + 1) * 16) x d g) n z).2 j = z.2 j := by
    intro x d g n z
    induction n with
    | zero => exact ⟨rfl, rfl⟩
    | succ n ih =>
      rw [itr_s]
      generalize itr (go1 t hd lm r ((r * 4 + 1) * 16) x d g) n z = z2 at ih ⊢
      unfold go1
      split
      · exact ih
      · have := hG (ot (tPo t (x * 40 + n)))
        exact ⟨(ofD_ne (by omega)).trans ih.1, (ofF_ne (by omega)).trans ih.2⟩
  have hdj : ∀ n s (z : PS), (dj t hd lm r ((r * 4 + 1) * 16) n s z).1 j = z.1 j ∧ (dj t hd lm r ((r * 4 + 1) * 16) n s z).2 j = z.2 j := by
    intro n
    induction n with
    | zero => intro s z; exact ⟨rfl, rfl⟩
    | succ n ih =>
      intro s z
      rw [dj]
      split
      · exact ⟨rfl, rfl⟩
      · next x _ =>
        obtain ⟨a1, a2⟩ := ih (s ||| 2 ^ x) (itr (go1 t hd lm r ((r * 4 + 1) * 16) x ((z.1 ((r * 4 + 1) * 16 + x)).getD 0) (z.2 ((r * 4 + 1) * 16 + x))) (tPc t x) z)
        obtain ⟨b1, b2⟩ := hgo x ((z.1 ((r * 4 + 1) * 16 + x)).getD 0) (z.2 ((r * 4 + 1) * 16 + x)) (tPc t x) z
        exact ⟨a1.trans b1, a2.trans b2⟩
  have hcl : ∀ n, n ≤ 16 → itr (clF ((r * 4 + 1) * 16)) n y.2 j = y.2 j := by
    intro n hn
    induction n with
    | zero => rfl
    | succ n ih =>
      rw [itr_s]
      show fs _ _ 0 j = _
      rw [fs_n (by omega)]
      exact ih (by omega)
  unfold cpt
  obtain ⟨a1, a2⟩ := hdj (tRc t) 0 (djs r ((r * 4 + 1) * 16) y)
  refine ⟨a1.trans ?_, a2.trans ?_⟩
  · show fs _ _ _ j = _
    rw [fs_n (by omega)]
    exact clD_out (by omega)
  · exact hcl 16 (Nat.le_refl _)
theorem rcp_i {t : TP} {hd lo ds : Nat → Option Nat} {fk : Nat → Nat} {r : Nat} (x : RT) : ∀ n, n ≤ 16 → ∀ j, (∀ m, m < n → j = r * 16 + m → (itr (rc1 t hd lo ds fk r) n x).1 j = kdo (fbs t hd lo ds fk r m).1 ∧ (itr (rc1 t hd lo ds fk r) n x).2.1 j = (fbs t hd lo ds fk r m).1 ∧ (itr (rc1 t hd lo ds fk r) n x).2.2.1 j = (fbs t hd lo ds fk r m).2.1 ∧ (itr (rc1 t hd lo ds fk r) n x).2.2.2 j = (fbs t hd lo ds fk r m).2.2) ∧
    ((∀ m, m < n → j ≠ r * 16 + m) → (itr (rc1 t hd lo ds fk r) n x).1 j = x.1 j ∧ (itr (rc1 t hd lo ds fk r) n x).2.1 j = x.2.1 j ∧ (itr (rc1 t hd lo ds fk r) n x).2.2.1 j = x.2.2.1 j ∧ (itr (rc1 t hd lo ds fk r) n x).2.2.2 j = x.2.2.2 j)
  | 0, _, j => ⟨fun m h => absurd h (Nat.not_lt_zero m), fun _ => ⟨rfl, rfl, rfl, rfl⟩⟩
  | n + 1, hn, j => by
    obtain ⟨i1, i2⟩ := rcp_i (t := t) (hd := hd) (lo := lo) (ds := ds) (fk := fk) (r := r) x n (by omega) j
    rw [itr_s]
    generalize itr (rc1 t hd lo ds fk r) n x = z at i1 i2 ⊢
    unfold rc1 rst
    refine ⟨fun m hm hj => ?_, fun h => ?_⟩
    · by_cases q : m = n
      · subst q; subst hj; exact ⟨fs_s, fs_s, fs_s, fs_s⟩
      · obtain ⟨a1, a2, a3, a4⟩ := i1 m (by omega) hj
        exact ⟨(fs_n (by omega)).trans a1, (fs_n (by omega)).trans a2, (fs_n (by omega)).trans a3, (fs_n (by omega)).trans a4⟩
    · obtain ⟨a1, a2, a3, a4⟩ := i2 (fun m hm => h m (by omega))
      have := h n (by omega)
      exact ⟨(fs_n this).trans a1, (fs_n this).trans a2, (fs_n this).trans a3, (fs_n this).trans a4⟩
