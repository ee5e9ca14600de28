/-! the caller's own distances: rounds over the links in both directions -/
def far9 : Nat := 1000000
def rx (t : TP) (q : Nat) (A : Nat → Nat) : Nat → Nat := fs A (tRp t (ot q)) (min (A (tRp t (ot q))) (A (tRp t q) + tMp t q))
/-- one link, both ways, if it is usable -/
def bf1 (t : TP) (k : Nat) (A : Nat → Nat) : Nat → Nat := if tcc t k = true then rx t (2 * k + 1) (rx t (2 * k) A) else A
def bfR (t : TP) (_ : Nat) (A : Nat → Nat) : Nat → Nat := itr (bf1 t) 9 A
def bf0 (r : Nat) : Nat → Nat := fun v => if v = r then 0 else far9
def gD (D : Nat → Option Nat) (v : Nat) : Nat := (D v).getD far9
/-- never below, never above the far -/
def LB (N : Nat) (D : Nat → Option Nat) (A : Nat → Nat) : Prop := ∀ v, v < N → gD D v ≤ A v ∧ A v ≤ far9
theorem gD_s {D : Nat → Option Nat} {v e : Nat} (h : D v = some e) : gD D v = e := by unfold gD; rw [h]; rfl
theorem gD_n {D : Nat → Option Nat} {v : Nat} (h : D v = none) : gD D v = far9 := by unfold gD; rw [h]; rfl
theorem gw_on {t : TP} {q : Nat} (h : tcc t (q / 2) = true) : gw9 t q = tMp t q := by unfold gw9; rw [if_pos h]
theorem rx_LB {t : TP} {N r q : Nat} {D : Nat → Option Nat} {K : Nat → Nat} {A : Nat → Nat} (hG : TG t N) (hS : SP t N (gw9 t) r D K) (hm : 1 ≤ tMp t q) (hq : q < 18) (hc : tcc t (q / 2) = true) (h : LB N D A) : LB N D (rx t q A) ∧ ∀ v, rx t q A v ≤ A v := by
  have hu := (hG.2.2.1 q hq).1
  have hw := (hG.2.2.1 _ (ot18 hq)).1
  have hle : ∀ v, rx t q A v ≤ A v := fun v => by
    unfold rx
    by_cases z : v = tRp t (ot q)
    · subst z; rw [fs_s]; exact Nat.min_le_left _ _
    · rw [fs_n z]; exact Nat.le_refl _
  refine ⟨fun v hv => ⟨?_, Nat.le_trans (hle v) (h v hv).2⟩, hle⟩
  unfold rx
  by_cases z : v = tRp t (ot q)
  · subst z
    rw [fs_s]
    have h1 := h _ hu
    have h2 := h _ hw
    have h3 : gD D (tRp t (ot q)) ≤ gD D (tRp t q) + tMp t q := by
      cases e : D (tRp t q) with
      | none => rw [gD_n e]; omega
      | some d =>
        obtain ⟨e2, k1, k2⟩ := hS.2.1 q d hq (by rw [gw_on hc]; omega) e
        rw [gD_s e, gD_s k1, ← gw_on hc]; exact k2
    rw [Nat.le_min]
    exact ⟨h2.1, by omega⟩
  · rw [fs_n z]; exact (h v hv).1
theorem bf1_LB {t : TP} {N r k : Nat} {D : Nat → Option Nat} {K : Nat → Nat} {A : Nat → Nat} (hG : TG t N) (hS : SP t N (gw9 t) r D K) (hmp : ∀ q, q < 18 → 1 ≤ tMp t q) (hk : k < 9) (h : LB N D A) : LB N D (bf1 t k A) ∧ ∀ v, bf1 t k A v ≤ A v := by
  unfold bf1
  split
  · next hc =>
    obtain ⟨a1, a2⟩ := rx_LB (q := 2 * k) hG hS (hmp _ (by omega)) (by omega) (by rw [show 2 * k / 2 = k by omega]; exact hc) h
    obtain ⟨b1, b2⟩ := rx_LB (q := 2 * k + 1) hG hS (hmp _ (by omega)) (by omega) (by rw [show (2 * k + 1) / 2 = k by omega]; exact hc) a1
    exact ⟨b1, fun v => Nat.le_trans (b2 v) (a2 v)⟩
  · exact ⟨h, fun v => Nat.le_refl _⟩
theorem bfi_LB {t : TP} {N r : Nat} {D : Nat → Option Nat} {K : Nat → Nat} {A : Nat → Nat} (hG : TG t N) (hS : SP t N (gw9 t) r D K) (hmp : ∀ q, q < 18 → 1 ≤ tMp t q) (h : LB N D A) : ∀ n, n ≤ 9 → LB N D (itr (bf1 t) n A) ∧ ∀ v, itr (bf1 t) n A v ≤ A v
  | 0, _ => ⟨h, fun v => Nat.le_refl _⟩
  | n + 1, hn => by
    obtain ⟨a1, a2⟩ := bfi_LB hG hS hmp h n (by omega)
    rw [itr_s]
    obtain ⟨b1, b2⟩ := bf1_LB (k := n) hG hS hmp (by omega) a1
    exact ⟨b1, fun v => Nat.le_trans (b2 v) (a2 v)⟩
/-- what a port's link brings, a round brings -/
theorem bfi_q {t : TP} {N r q d : Nat} {D : Nat → Option Nat} {K : Nat → Nat} {A : Nat → Nat} (hG : TG t N) (hS : SP t N (gw9 t) r D K) (hmp : ∀ q, q < 18 → 1 ≤ tMp t q) (h : LB N D A) (hq : q < 18) (hc : tcc t (q / 2) = true) (hd : A (tRp t q) ≤ d) : bfR t 0 A (tRp t (ot q)) ≤ d + tMp t q := by
  have step : ∀ n, q / 2 < n → n ≤ 9 → itr (bf1 t) n A (tRp t (ot q)) ≤ d + tMp t q := by
    intro n
    induction n with
    | zero => intro h1; omega
    | succ n ih =>
      intro h1 h2
      rw [itr_s]
      obtain ⟨a1, a2⟩ := bfi_LB hG hS hmp h n (by omega)
      rcases Nat.lt_or_ge (q / 2) n with z | z
      · exact Nat.le_trans ((bf1_LB (k := n) hG hS hmp (by omega) a1).2 _) (ih z (by omega))
      · have hn : n = q / 2 := by omega
        subst hn
        have hA := a2 (tRp t q)
        generalize itr (bf1 t) (q / 2) A = B at a1 hA ⊢
        unfold bf1
        rw [if_pos hc]
        obtain ⟨b1, b2⟩ := rx_LB (q := 2 * (q / 2)) hG hS (hmp _ (by omega)) (by omega) (by rw [show 2 * (q / 2) / 2 = q / 2 by omega]; exact hc) a1
        rcases Nat.mod_two_eq_zero_or_one q with e | e
        · have e1 : 2 * (q / 2) = q := by omega
          have e2 : 2 * (q / 2) + 1 < 18 := by omega
          refine Nat.le_trans ((rx_LB (q := 2 * (q / 2) + 1) hG hS (hmp _ e2) e2 (by rw [show (2 * (q / 2) + 1) / 2 = q / 2 by omega]; exact hc) b1).2 _) ?_
          rw [e1]
          unfold rx
          rw [fs_s]
          refine Nat.le_trans (Nat.min_le_right _ _) ?_
          omega
        · have e1 : 2 * (q / 2) + 1 = q := by omega
          rw [e1]
          have := b2 (tRp t q)
          generalize rx t (2 * (q / 2)) B = C at b1 this ⊢
          unfold rx
          rw [fs_s]
          refine Nat.le_trans (Nat.min_le_right _ _) ?_
          omega
  exact step 9 (by omega) (Nat.le_refl _)
def bcn (N : Nat) (D : Nat → Option Nat) (A : Nat → Nat) : Nat := ssm (fun v => if A v = gD D v then 1 else 0) N
/-- a wrong one of least distance -/
theorem least {P : Nat → Prop} {f : Nat → Nat} {v : Nat} (h : P v) : ∃ w, P w ∧ ∀ x, P x → f w ≤ f x := by
  have key : ∀ m v, P v → f v ≤ m → ∃ w, P w ∧ ∀ x, P x → f w ≤ f x := by
    intro m
    induction m with
    | zero => exact fun v hv h0 => ⟨v, hv, fun x _ => by omega⟩
    | succ m ih =>
      intro v hv h0
      by_cases z : ∃ x, P x ∧ f x < f v
      · obtain ⟨x, x1, x2⟩ := z
        exact ih x x1 (by omega)
      · exact ⟨v, hv, fun x hx => by
          rcases Nat.lt_or_ge (f x) (f v) with q | q
          · exact absurd ⟨x, hx, q⟩ z
          · exact q⟩
  exact key (f v) v h (Nat.le_refl _)
theorem bfR_more {t : TP} {N r : Nat} {D : Nat → Option Nat} {K : Nat → Nat} {A : Nat → Nat} (hG : TG t N) (hS : SP t N (gw9 t) r D K) (hmp : ∀ q, q < 18 → 1 ≤ tMp t q) (h : LB N D A) (hr : A r = 0) :
    (∀ v, v < N → A v = gD D v) ∨ bcn N D A + 1 ≤ bcn N D (bfR t 0 A) := by
  by_cases hall : ∀ v, v < N → A v = gD D v
  · exact Or.inl hall
  · refine Or.inr ?_
    have hex : ∃ v, v < N ∧ A v ≠ gD D v := Classical.byContradiction (fun z => hall (fun v hv => Classical.byContradiction (fun z2 => z ⟨v, hv, z2⟩)))
    obtain ⟨v0, hv0⟩ := hex
    obtain ⟨v, ⟨hv, hne⟩, hmin⟩ := least (P := fun v => v < N ∧ A v ≠ gD D v) (f := gD D) hv0
    obtain ⟨b1, b2⟩ := bfi_LB hG hS hmp h 9 (Nat.le_refl _)
    have hkeep : ∀ w, w < N → A w = gD D w → bfR t 0 A w = gD D w := fun w hw e => by
      have k1 := (b1 w hw).1
      have k2 := b2 w
      unfold bfR; omega
    have hnew : bfR t 0 A v = gD D v := by
      cases e : D v with
      | none => exfalso; apply hne; have := h v hv; rw [gD_n e] at this ⊢; omega
      | some d =>
        have hvr : v ≠ r := fun z => by
          subst z
          apply hne
          rw [hS.1] at e
          rw [hr, gD_s hS.1]
        obtain ⟨q, d0, q1, q2, q3, q4, q5⟩ := hS.2.2.1 v d hv hvr e
        have hc : tcc t (q / 2) = true := by
          cases z : tcc t (q / 2) with
          | true => rfl
          | false => exfalso; apply q2; unfold gw9; rw [if_neg (by rw [z]; decide)]
        rw [gw_on hc] at q5
        have hm := hmp q q1
        have hok : A (tRp t q) = d0 := by
          refine Classical.byContradiction (fun z => ?_)
          have := hmin (tRp t q) ⟨(hG.2.2.1 q q1).1, by rw [gD_s q4]; exact z⟩
          rw [gD_s q4, gD_s e] at this
          omega
        have k1 := bfi_q hG hS hmp h q1 hc (Nat.le_of_eq hok)
        rw [q3] at k1
        have k2 := (b1 v hv).1
        rw [gD_s e] at k2 ⊢
        have k3 : d ≤ bfR t 0 A v := k2
        omega
    unfold bcn
    refine Nat.le_trans (ssm_up (g := fun w => if w = v then 1 else if A w = gD D w then 1 else 0) (k := v) ?_ hv (fun i _ hi => by rw [if_neg hi])) (ssm_mono (fun w hw => ?_))
    · rw [if_neg hne, if_pos rfl]; exact Nat.le_refl _
    · by_cases z : w = v
      · rw [if_pos z, z, if_pos hnew]; exact Nat.le_refl _
      · rw [if_neg z]
        by_cases z2 : A w = gD D w
        · rw [if_pos z2, if_pos (hkeep w hw z2)]; exact Nat.le_refl _
        · rw [if_neg z2]; exact Nat.zero_le _
/-- after as many rounds as there are routers the caller's distances are the shortest paths -/
theorem BF {t : TP} {N r : Nat} {D : Nat → Option Nat} {K : Nat → Nat} (hG : TG t N) (hS : SP t N (gw9 t) r D K) (hmp : ∀ q, q < 18 → 1 ≤ tMp t q) (hr : r < N) (hfar : ∀ v d, v < N → D v = some d → d ≤ far9) :
    ∀ v, v < N → itr (bfR t) N (bf0 r) v = gD D v := by
  have h0 : LB N D (bf0 r) := fun v hv => by
    unfold bf0
    by_cases z : v = r
    · rw [if_pos z, z, gD_s hS.1]; exact ⟨Nat.le_refl _, Nat.zero_le _⟩
    · rw [if_neg z]
      refine ⟨?_, Nat.le_refl _⟩
      cases e : D v with
      | none => rw [gD_n e]; exact Nat.le_refl _
      | some d => rw [gD_s e]; exact hfar v d hv e
  have key : ∀ n, LB N D (itr (bfR t) n (bf0 r)) ∧ itr (bfR t) n (bf0 r) r = 0 ∧ ((∀ v, v < N → itr (bfR t) n (bf0 r) v = gD D v) ∨ n + 1 ≤ bcn N D (itr (bfR t) n (bf0 r))) := by
    intro n
    induction n with
    | zero =>
      have e0 : bf0 r r = 0 := by unfold bf0; rw [if_pos rfl]
      refine ⟨h0, e0, Or.inr ?_⟩
      unfold bcn
      have := ssm_ge (f := fun v => if bf0 r v = gD D v then 1 else 0) hr
      rw [show (if bf0 r r = gD D r then 1 else 0) = 1 from if_pos (by rw [e0, gD_s hS.1])] at this
      exact this
    | succ n ih =>
      obtain ⟨a1, a2, a3⟩ := ih
      rw [itr_s]
      generalize itr (bfR t) n (bf0 r) = A at a1 a2 a3 ⊢
      obtain ⟨b1, b2⟩ := bfi_LB hG hS hmp a1 9 (Nat.le_refl _)
      refine ⟨b1, ?_, ?_⟩
      · have := b2 r
        show itr (bf1 t) 9 A r = 0
        omega
      · have hall : (∀ v, v < N → A v = gD D v) → ∀ v, v < N → bfR t n A v = gD D v := fun hv v hvN => by
          have k1 := (b1 v hvN).1
          have k2 := b2 v
          have k3 := hv v hvN
          show itr (bf1 t) 9 A v = gD D v
          omega
        rcases a3 with a3 | a3
        · exact Or.inl (hall a3)
        · rcases bfR_more hG hS hmp a1 a2 with k | k
          · exact Or.inl (hall k)
          · refine Or.inr ?_
            have k : bcn N D A + 1 ≤ bcn N D (bfR t n A) := k
            omega
  obtain ⟨_, _, k⟩ := key N
  rcases k with k | k
  · exact k
  · exfalso
    have : bcn N D (itr (bfR t) N (bf0 r)) ≤ N * 1 := ssm_le (fun i _ => by split <;> omega)
    omega
