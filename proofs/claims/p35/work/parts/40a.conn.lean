/-! what is connected by usable links -/
def rch (t : TP) (u : Nat) : Nat → Nat → Prop
  | 0, v => u = v
  | d + 1, v => rch t u d v ∨ ∃ q, q < 18 ∧ tcc t (q / 2) = true ∧ tRp t q = v ∧ rch t u d (tRp t (ot q))
theorem rch_up {t : TP} {u v : Nat} : ∀ {d e : Nat}, d ≤ e → rch t u d v → rch t u e v := by
  intro d e hde h
  induction e with
  | zero => obtain rfl : d = 0 := by omega
            exact h
  | succ e ih =>
    by_cases z : d = e + 1
    · subst z; exact h
    · exact Or.inl (ih (by omega))
theorem rch_lt {t : TP} {N : Nat} (hG : TG t N) {u : Nat} (hu : u < N) : ∀ {d v : Nat}, rch t u d v → v < N
  | 0, v, h => by have h : u = v := h; omega
  | d + 1, v, h => by
    rcases h with h | ⟨q, h1, h2, h3, h4⟩
    · exact rch_lt hG hu h
    · rw [← h3]; exact (hG.2.2.1 q h1).1
noncomputable def rcnt (t : TP) (N u d : Nat) : Nat := ssm (fun v => @ite _ (rch t u d v) (Classical.propDecidable _) 1 0) N
theorem rcnt_le {t : TP} {N u d : Nat} : rcnt t N u d ≤ N := by
  unfold rcnt
  refine Nat.le_trans (ssm_le (B := 1) (fun i _ => ?_)) (by omega)
  split <;> omega
/-- either it stays so, or there is one more -/
theorem rch_more {t : TP} {N : Nat} (hG : TG t N) {u d : Nat} (hu : u < N) : (∀ v, rch t u (d + 1) v → rch t u d v) ∨ rcnt t N u d + 1 ≤ rcnt t N u (d + 1) := by
  by_cases h : ∀ v, rch t u (d + 1) v → rch t u d v
  · exact Or.inl h
  · refine Or.inr ?_
    obtain ⟨v, hv⟩ := Classical.not_forall.mp h
    have h1 : rch t u (d + 1) v := Classical.byContradiction (fun z => hv (fun z2 => absurd z2 z))
    have h2 : ¬ rch t u d v := fun z => hv (fun _ => z)
    have hvN := rch_lt hG hu h1
    unfold rcnt
    refine Nat.le_trans (ssm_up (g := fun w => if w = v then 1 else @ite _ (rch t u d w) (Classical.propDecidable _) 1 0) (k := v) ?_ hvN (fun i _ hi => by rw [if_neg hi])) (ssm_mono (fun w _ => ?_))
    · rw [if_neg h2, if_pos rfl]; omega
    · by_cases z : w = v
      · rw [if_pos z, if_pos (by rw [z]; exact h1)]; exact Nat.le_refl _
      · rw [if_neg z]
        by_cases z2 : rch t u d w
        · rw [if_pos z2, if_pos (show rch t u (d + 1) w from Or.inl z2)]; exact Nat.le_refl _
        · rw [if_neg z2]; exact Nat.zero_le _
theorem rch_stab {t : TP} {u d : Nat} (h : ∀ v, rch t u (d + 1) v → rch t u d v) : ∀ e v, rch t u (d + e) v → rch t u d v
  | 0, v, h1 => h1
  | e + 1, v, h1 => by
    rcases h1 with h1 | ⟨q, h2, h3, h4, h5⟩
    · exact rch_stab h e v h1
    · exact h v (Or.inr ⟨q, h2, h3, h4, rch_stab h e _ h5⟩)
/-- six routers: five links are enough -/
theorem rch5 {t : TP} {N : Nat} (hG : TG t N) {u v d : Nat} (hu : u < N) (h : rch t u d v) : rch t u 5 v := by
  have hN := hG.2.1
  have key : ∃ e, e ≤ 5 ∧ ∀ v, rch t u (e + 1) v → rch t u e v := by
    refine Classical.byContradiction (fun hno => ?_)
    have hall : ∀ e, e ≤ 5 → rcnt t N u e + 1 ≤ rcnt t N u (e + 1) := fun e he => by
      rcases rch_more hG (d := e) hu with z | z
      · exact absurd ⟨e, he, z⟩ hno
      · exact z
    have h0 : 1 ≤ rcnt t N u 0 := by
      unfold rcnt
      have := ssm_ge (f := fun v => @ite _ (rch t u 0 v) (Classical.propDecidable _) 1 0) hu
      simp only [show rch t u 0 u from rfl, if_true] at this
      exact this
    have a0 : rcnt t N u 0 + 1 ≤ rcnt t N u 1 := hall 0 (by omega); have a1 : rcnt t N u 1 + 1 ≤ rcnt t N u 2 := hall 1 (by omega); have a2 : rcnt t N u 2 + 1 ≤ rcnt t N u 3 := hall 2 (by omega); have a3 : rcnt t N u 3 + 1 ≤ rcnt t N u 4 := hall 3 (by omega); have a4 : rcnt t N u 4 + 1 ≤ rcnt t N u 5 := hall 4 (by omega); have a5 : rcnt t N u 5 + 1 ≤ rcnt t N u 6 := hall 5 (by omega)
    have a6 := rcnt_le (t := t) (N := N) (u := u) (d := 6)
    omega
  obtain ⟨e, he, hs⟩ := key
  exact rch_up he (rch_stab hs d v (rch_up (by omega) h))
def conn (t : TP) (u v : Nat) : Prop := rch t u 5 v
theorem conn_s {t : TP} {N : Nat} (hG : TG t N) {u q : Nat} (hu : u < N) (hq : q < 18) (hc : tcc t (q / 2) = true) (h : conn t u (tRp t (ot q))) : conn t u (tRp t q) :=
  rch5 hG hu (d := 6) (Or.inr ⟨q, hq, hc, rfl, h⟩)
theorem conn_s2 {t : TP} {N : Nat} (hG : TG t N) {u q : Nat} (hu : u < N) (hq : q < 18) (hc : tcc t (q / 2) = true) (h : conn t u (tRp t q)) : conn t u (tRp t (ot q)) :=
  conn_s hG hu (ot18 hq) (by rw [ot_div]; exact hc) (by rw [ot_ot]; exact h)
theorem rch_pre {t : TP} {q : Nat} (hq : q < 18) (hc : tcc t (q / 2) = true) : ∀ {d v : Nat}, rch t (tRp t q) d v → rch t (tRp t (ot q)) (d + 1) v
  | 0, v, h => by
    have h : tRp t q = v := h
    exact Or.inr ⟨q, hq, hc, h, rfl⟩
  | d + 1, v, h => by
    rcases h with h | ⟨p, h1, h2, h3, h4⟩
    · exact Or.inl (rch_pre hq hc h)
    · exact Or.inr ⟨p, h1, h2, h3, rch_pre hq hc h4⟩
theorem rch_sym {t : TP} {u : Nat} : ∀ {d v : Nat}, rch t u d v → rch t v d u
  | 0, v, h => Eq.symm h
  | d + 1, v, h => by
    rcases h with h | ⟨q, h1, h2, h3, h4⟩
    · exact rch_up (Nat.le_succ d) (rch_sym h)
    · have := rch_pre (q := ot q) (ot18 h1) (by rw [ot_div]; exact h2) (rch_sym h4)
      rw [ot_ot, h3] at this
      exact this
theorem rch_trans {t : TP} {u v : Nat} {d : Nat} (h : rch t u d v) : ∀ {e w : Nat}, rch t v e w → rch t u (d + e) w
  | 0, w, h1 => by have h1 : v = w := h1; subst h1; exact h
  | e + 1, w, h1 => by
    rcases h1 with h1 | ⟨q, h2, h3, h4, h5⟩
    · exact Or.inl (rch_trans h h1)
    · exact Or.inr ⟨q, h2, h3, h4, rch_trans h h5⟩
theorem conn_sym {t : TP} {u v : Nat} (h : conn t u v) : conn t v u := rch_sym h
theorem conn_trans {t : TP} {N : Nat} (hG : TG t N) {u v w : Nat} (hu : u < N) (h1 : conn t u v) (h2 : conn t v w) : conn t u w := rch5 hG hu (rch_trans h1 h2)
theorem conn_rfl {t : TP} (u : Nat) : conn t u u := rch_up (Nat.zero_le 5) (show rch t u 0 u from rfl)
