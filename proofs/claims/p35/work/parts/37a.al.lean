/-! the routers' turns: links and messages -/
def QW (t : TP) (N n : Nat) (a : AS) (r : Nat) : Prop := ∃ v, aH a r r = some v ∧ aNw a r ≤ n - ag n v + 30 ∧ utb t (aLm a) (aLo a) v r 1 = true ∧ aMr a (272 + r) = false ∧ aOld a (r * 4 + 1) = false ∧ FPR t N a r ∧ FRR t a r
def QR (t : TP) (N n : Nat) (a : AS) (r : Nat) : Prop := QW t N n a r ∧ ∃ v, aH a r r = some v ∧ ag n v < 30
/-- a router before its turn: it will act, or it has nothing to do -/
def AW (t : TP) (N n : Nat) (wu : Nat → Bool) (a : AS) (r : Nat) : Prop := (aNw a r = 0 ∨ (QW t N n a r ∧ ∀ q, q < 18 → tRp t q = r → tcc t (q / 2) = true → wu (q / 2) = true)) ∧ (aOld a (r * 4 + 1) = true ∨ aH a r r = none ∨ FPR t N a r)
def AQ (t : TP) (N n : Nat) (wu : Nat → Bool) (i : Nat) (a : AS) : Prop := ∀ r, r < N → tRu t r = true → (r < i → QR t N n a r) ∧ (i ≤ r → AW t N n wu a r)
theorem AQ_act {t : TP} {N n r : Nat} {wu : Nat → Bool} (hG : TG t N) (hT : TOK t) (hr : r < N) {x : AS} (hB : AB t N n r x) (h : AQ t N n wu r x) : AQ t N n wu (r + 1) (act1 t wu n r x) := by
  have hN := hG.2.1
  rcases act_cases (n := n) (wu := wu) hG hT hr x with ⟨e, h1⟩ | ⟨hup, _, hF⟩
  · rw [e]
    intro u hu hup
    obtain ⟨k1, k2⟩ := h u hu hup
    refine ⟨fun hlt => ?_, fun hle => k2 (by omega)⟩
    by_cases z : u = r
    · subst z
      rcases h1 with h1 | ⟨_, h1⟩
      · rw [hup] at h1; cases h1
      · rcases (k2 (Nat.le_refl _)).1 with k | ⟨k, _⟩
        · omega
        · refine ⟨k, ?_⟩
          obtain ⟨v, a1, a2, _⟩ := k
          have := (AB_h hN hB (u := u) (o := u) (by omega) a1).2.2.1.2.1
          exact ⟨v, a1, by omega⟩
    · exact k1 (by omega)
  · have hFx := hF
    generalize act1 t wu n r x = y at hF hFx ⊢
    obtain ⟨⟨v, f1, f1b, f1c, f1d⟩, f2, f3, f4, f5, f6, f7, f8, f9, f10, f11, f12, f13⟩ := hF
    intro u hu hupu
    obtain ⟨k1, k2⟩ := h u hu hupu
    by_cases z : u = r
    · subst z
      refine ⟨fun _ => ?_, fun hle => absurd hle (by omega)⟩
      obtain ⟨g1, g2⟩ := act_fresh hG hu hFx (k2 (Nat.le_refl _)).2
      refine ⟨⟨v, f1, f1c, f1b, f2, f8, g1, g2⟩, v, f1, ?_⟩
      rcases f1d with ⟨e, _⟩ | ⟨_, e, _⟩
      · rw [e, ag_nwv]; omega
      · exact e
    · obtain ⟨g1, g2, g3⟩ := act_keep hG hT hr hu z hB hFx
      have hH : ∀ o, o < 16 → aH y u o = aH x u o := fun o ho => aH_upd f4 (by omega) (by omega) (fun q => z q.1)
      have hQ : QW t N n x u → QW t N n y u := fun ⟨w, a1, a2, a3, a4, a5, a6, a7⟩ => ⟨w, (hH u (by omega)).trans a1, by rw [(f7 u z).1]; exact a2, g3 w a3, (f3 _ (by omega)).2.trans a4, (f7 u z).2.trans a5, g1 a6, g2 a7⟩
      refine ⟨fun hlt => ?_, fun hle => ?_⟩
      · obtain ⟨b1, w, b2, b3⟩ := k1 (by omega)
        exact ⟨hQ b1, w, (hH u (by omega)).trans b2, b3⟩
      · obtain ⟨b1, b2⟩ := k2 (by omega)
        refine ⟨?_, ?_⟩
        · rcases b1 with b | ⟨b, b3⟩
          · exact Or.inl ((f7 u z).1.trans b)
          · exact Or.inr ⟨hQ b, b3⟩
        · rcases b2 with b | b | b
          · exact Or.inl ((f7 u z).2.trans b)
          · exact Or.inr (Or.inl ((hH u (by omega)).trans b))
          · exact Or.inr (Or.inr (g1 b))
def AL (t : TP) (N n : Nat) (sq : Nat → Nat) (wu : Nat → Bool) (Rel : Nat → Nat → Prop) (L : List Nat) (x0 : RS) (i : Nat) (a : AS) : Prop :=
  (∀ u o, u < N → o < N → rC n sq x0 u o ≤ aC n a u o) ∧
  (∀ q o, q < 18 → tcc t (q / 2) = true → o < N → Rel (tRp t q) o → (wu (q / 2) = true ∨ tRp t (ot q) < i) → aC n a (tRp t (ot q)) o ≤ aE n a (tRp t q) o ∨ snt n (aSq a) (aMb a).1 q o (aC n a (tRp t (ot q)) o)) ∧
  (∀ q o, q < 18 → wu (q / 2) = true → o < N → Rel (tRp t q) o → rC n sq x0 (tRp t (ot q)) o ≤ aE n a (tRp t q) o) ∧
  (∀ m o, m ∈ (aMb a).1 → o < N → m / 128 / 64 = 272 + o → cod n (aSq a) (m / 128) ≤ aC n a (tRp t (ot (m % 128))) o ∧ rC n sq x0 (tRp t (ot (m % 128))) o ≤ cod n (aSq a) (m / 128) ∧ (src t x0 L L.length (tRp t (ot (m % 128))) o (m / 128) ∨ (m / 128 = nwv n o ∧ tRp t (ot (m % 128)) = o ∧ aH a o o = some (nwv n o)))) ∧
  (∀ u o v, u < N → o < N → aH a u o = some v → (src t x0 L L.length u o v ∨ (u = o ∧ v = nwv n o)) ∧ (u = o → rH x0 u o = some v ∨ v = nwv n o)) ∧
  ((∀ w, (∀ r, r < i → w ≠ nwv n r) → aSq a w = sq w) ∧ (∀ r, r < N → aH a r r = some (nwv n r) → x0.1 (272 + r) + 1 ≤ aSq a (nwv n r)) ∧ ∀ j, x0.1 j ≤ aKs a j)
theorem AL_act {t : TP} {N n r : Nat} {sq : Nat → Nat} {wu : Nat → Bool} {Rel : Nat → Nat → Prop} {L : List Nat} {x0 : RS} (hG : TG t N) (hT : TOK t) (hr : r < N) (hn : n < 128) {x : AS} (hB : AB t N n r x) (hQ : AQ t N n wu r x) (h : AL t N n sq wu Rel L x0 r x) : AL t N n sq wu Rel L x0 (r + 1) (act1 t wu n r x) := by
  have hN := hG.2.1
  obtain ⟨h1, h2, h3, h4, h5, h6, h7, h8⟩ := h
  have hsu : ∀ q, q < 18 → tRp t (ot q) < N := fun q hq => (hG.2.2.1 _ (ot18 hq)).1
  rcases act_cases (n := n) (wu := wu) hG hT hr x with ⟨e, hw⟩ | ⟨hup, _, hF⟩
  · rw [e]
    refine ⟨h1, fun q o hq hc ho hR hor => ?_, h3, h4, h5, fun w hw => h6 w (fun r2 h => hw r2 (by omega)), h7, h8⟩
    by_cases z : wu (q / 2) = true ∨ tRp t (ot q) < r
    · exact h2 q o hq hc ho hR z
    · exfalso
      have z1 : tRp t (ot q) = r := by rcases hor with k | k; exact absurd (Or.inl k) z; by_cases z2 : tRp t (ot q) < r; exact absurd (Or.inr z2) z; omega
      have hup := (tcc_up hc).2
      rw [z1] at hup
      rcases hw with k | ⟨_, k⟩
      · rw [hup] at k; cases k
      · rcases ((hQ r hr hup).2 (Nat.le_refl _)).1 with k2 | ⟨_, k2⟩
        · omega
        · exact z (Or.inl (by have := k2 (ot q) (ot18 hq) z1 (by rw [ot_div]; exact hc); rw [ot_div] at this; exact this))
  · generalize act1 t wu n r x = y at hF ⊢
    obtain ⟨⟨v, f1, f1b, f1c, f1d⟩, f2, f3, f4, f5, f6, f7, f8, ⟨f9, f9b⟩, f10, f11, f12, f13⟩ := hF
    have hH : ∀ u o, o < N → ¬ (u = r ∧ o = r) → aH y u o = aH x u o := fun u o ho hne => aH_upd f4 (by omega) (by omega) hne
    -- versions of the state before keep their numbers
    have old : ∀ {o v : Nat}, lvv n (aSq x) o v → (ag n v = 0 → o < r) → aSq y v = aSq x v := fun {o v} k1 k2 => f5 v (ne_nwv (by
      by_cases z : ag n v = 0
      · right; have := k1.1; have := k2 z; omega
      · exact Or.inl z))
    have oldH : ∀ {u o v : Nat}, o < 16 → aH x u o = some v → aSq y v = aSq x v := fun {u o v} ho e => by
      obtain ⟨_, _, k1, _, k2⟩ := AB_h hN hB ho e
      exact old k1 (fun z => (k2 z).2)
    have oldM : ∀ {m : Nat}, m ∈ (aMb x).1 → aSq y (m / 128) = aSq x (m / 128) := fun {m} hm => by
      obtain ⟨_, _, o, _, k1, _, k2⟩ := hB.2.1 m hm
      exact old k1 (fun z => (k2 z).2)
    have same : ∀ u o, u < N → o < N → ¬ (u = r ∧ o = r) → aC n y u o = aC n x u o := fun u o hu ho hne => by
      unfold aC
      rw [hH u o ho hne]
      cases e : aH x u o with
      | none => rfl
      | some w => exact cod_c (oldH (by omega) e)
    have hvk : v / 64 = 272 + r ∧ v < 2 ^ 20 := by
      rcases f1d with ⟨g1, _⟩ | ⟨g1, _⟩
      · rw [g1]; exact ⟨nwv_key, by unfold nwv; omega⟩
      · have := (AB_h hN hB (by omega) g1).2.2.1.1; exact ⟨this, by omega⟩
    have own : aC n x r r ≤ aC n y r r ∧ aE n x r r ≤ aC n y r r := by
      have hy : aC n y r r = cod n (aSq y) v := by unfold aC; rw [f1]; rfl
      rcases f1d with ⟨g1, g2, g3, g4⟩ | ⟨g1, g2, g3, g4, g5, _⟩
      · have hc : aC n y r r = (aKs x (272 + r) + 1) * 128 + n := by
          rw [hy]; unfold cod; rw [g3, g1, ag_nwv]; rfl
        have hx : aC n x r r ≤ aKs x (272 + r) * 128 + 127 := by
          unfold aC
          cases e : aH x r r with
          | none => exact Nat.zero_le _
          | some w =>
            have := hB.2.2.2.1 r hr hup w e
            show cod n (aSq x) w ≤ _
            unfold cod; omega
        refine ⟨by omega, ?_⟩
        unfold aE
        split <;> omega
      · have hc : aC n y r r = aC n x r r := by
          rw [hy]; unfold aC; rw [g1]; exact cod_c (g5 v)
        refine ⟨by omega, ?_⟩
        unfold aE
        rw [if_neg (fun z => by rw [g4] at z; cases z.2)]
        omega
    have cmono : ∀ u o, u < N → o < N → aC n x u o ≤ aC n y u o := fun u o hu ho => by
      by_cases z : u = r ∧ o = r
      · rw [z.1, z.2]; exact own.1
      · rw [same u o hu ho z]; exact Nat.le_refl _
    have emono : ∀ u o, u < N → o < N → aE n x u o ≤ aE n y u o := fun u o hu ho => by
      by_cases z : u = r ∧ o = r
      · rw [z.1, z.2]; exact Nat.le_trans own.2 (Nat.le_max_left _ _)
      · have hc := same u o hu ho z
        unfold aE
        rw [hc]
        by_cases z2 : u = o
        · have : o ≠ r := fun q => z ⟨by omega, q⟩
          rw [(f3 _ (by omega)).1, (f3 _ (by omega)).2]; exact Nat.le_refl _
        · rw [if_neg (fun q => z2 q.1)]; omega
    have sntm : ∀ q o c, snt n (aSq x) (aMb x).1 q o c → snt n (aSq y) (aMb y).1 q o c := fun q o c ⟨m, m1, m2, m3, m4⟩ => ⟨m, f9 m m1, m2, m3, by rw [cod_c (oldM m1)]; exact m4⟩
    -- the flood, if it describes itself anew
    have flood : ∀ q, q < 18 → tRp t (ot q) = r → tcc t (q / 2) = true → (aH x r r = some v → wu (q / 2) = false ∨ snt n (aSq x) (aMb x).1 q r (aC n x r r) ∨ aC n x r r ≤ aE n x (tRp t q) r) → aC n y r r ≤ aE n y (tRp t q) r ∨ snt n (aSq y) (aMb y).1 q r (aC n y r r) := fun q hq e1 hc hor => by
      have hy : aC n y r r = cod n (aSq y) v := by unfold aC; rw [f1]; rfl
      rcases f1d with ⟨g1, g2, g3, g4⟩ | ⟨g1, g2, g3, g4, g5, _⟩
      · exact Or.inr ⟨v * 128 + q, g4 q hq e1 hc, m_mod _ _ (by omega), by rw [m_div _ _ (by omega)]; exact hvk.1, by rw [m_div _ _ (by omega), hy]; exact Nat.le_refl _⟩
      · have hc9 : aC n y r r = aC n x r r := by rw [hy]; unfold aC; rw [g1]; exact cod_c (g5 v)
        rcases hor g1 with k | k | k
        · exact Or.inr ⟨v * 128 + q, f10 q r v hq e1 hc k hr g1, m_mod _ _ (by omega), by rw [m_div _ _ (by omega)]; exact hvk.1, by rw [m_div _ _ (by omega), hy]; exact Nat.le_refl _⟩
        · rw [hc9]; exact Or.inr (sntm _ _ _ k)
        · rw [hc9]; exact Or.inl (Nat.le_trans k (emono _ _ (hG.2.2.1 q hq).1 hr))
    refine ⟨fun u o hu ho => Nat.le_trans (h1 u o hu ho) (cmono u o hu ho), fun q o hq hc ho hR hor => ?_, fun q o hq hw ho hR => Nat.le_trans (h3 q o hq hw ho hR) (emono _ _ (hG.2.2.1 q hq).1 ho), fun m o hm ho hk => ?_, fun u o w hu ho hw => ?_, fun w hw => ?_, fun r2 h2 hw => ?_, fun j => ?_⟩
    · -- links
      by_cases z : tRp t (ot q) = r ∧ o = r
      · obtain ⟨z1, z2⟩ := z
        rw [z1, z2]
        rw [z2] at hR
        refine flood q hq z1 hc (fun g1 => ?_)
        by_cases z3 : wu (q / 2) = true
        · rcases h2 q r hq hc hr hR (Or.inl z3) with k | k
          · rw [z1] at k; exact Or.inr (Or.inr k)
          · rw [z1] at k; exact Or.inr (Or.inl k)
        · exact Or.inl (by cases e : wu (q / 2) with
            | true => exact absurd e z3
            | false => rfl)
      · have hc9 := same _ o (hsu q hq) ho z
        by_cases z2 : wu (q / 2) = true ∨ tRp t (ot q) < r
        · rw [hc9]
          rcases h2 q o hq hc ho hR z2 with k | k
          · exact Or.inl (Nat.le_trans k (emono _ _ (hG.2.2.1 q hq).1 ho))
          · exact Or.inr (sntm _ _ _ k)
        · have z3 : tRp t (ot q) = r := by rcases hor with k | k; exact absurd (Or.inl k) z2; by_cases z4 : tRp t (ot q) < r; exact absurd (Or.inr z4) z2; omega
          have z5 : wu (q / 2) = false := by cases e : wu (q / 2) with
            | true => exact absurd (Or.inl e) z2
            | false => rfl
          rw [hc9, z3]
          cases e : aH x r o with
          | none => exact Or.inl (by unfold aC; rw [e]; exact Nat.zero_le _)
          | some w =>
            have k := AB_h hN hB (by omega) e
            refine Or.inr ⟨w * 128 + q, f10 q o w hq z3 hc z5 ho e, m_mod _ _ (by omega), by rw [m_div _ _ (by omega)]; exact k.2.2.1.1, ?_⟩
            rw [m_div _ _ (by omega), cod_c (oldH (by omega) e)]
            unfold aC
            rw [e]; exact Nat.le_refl _
    · -- messages
      rcases f9b m hm with hm | ⟨g1, g2, g3, ⟨g4, k, g5, g6⟩ | ⟨g4, g5⟩⟩
      · obtain ⟨a1, a2, a3⟩ := h4 m o hm ho hk
        rw [cod_c (oldM hm)]
        refine ⟨Nat.le_trans a1 (cmono _ _ (hsu _ (hB.2.1 m hm).1) ho), a2, ?_⟩
        rcases a3 with k | ⟨k1, k2, k3⟩
        · exact Or.inl k
        · refine Or.inr ⟨k1, k2, ?_⟩
          have : o ≠ r := fun e => by
            subst e
            have := (AB_h hN hB (u := o) (o := o) (by omega) k3).2.2.2.2 (ag_nwv n o)
            omega
          rw [hH o o ho (fun q => this q.1)]; exact k3
      · obtain ⟨u2, o2, c1, c2, c3, c4, c5, c6⟩ := hB.1 _ _ g6
        obtain ⟨q1, q2⟩ := ix_inj (by omega) (by omega) c3
        have hko : k = o := by have := c4.1; omega
        subst hko
        have e9 : aH x r k = some (m / 128) := g6
        rw [g2, cod_c (oldH (by omega) e9)]
        have hcx : aC n x r k = cod n (aSq x) (m / 128) := by unfold aC; rw [e9]; rfl
        refine ⟨by rw [← hcx]; exact cmono _ _ hr ho, by rw [← hcx]; exact h1 r k hr ho, ?_⟩
        rcases (h5 r k _ hr ho e9).1 with w | ⟨w1, w2⟩
        · exact Or.inl w
        · exfalso
          subst w1
          have := (AB_h hN hB (u := r) (o := r) (by omega) e9).2.2.2.2 (by rw [w2, ag_nwv])
          omega
      · have e9 : v = nwv n r := Option.some.inj (f1.symm.trans g5)
        have hko : o = r := by rw [g4, nwv_key] at hk; omega
        subst hko
        have hy : aC n y o o = cod n (aSq y) (m / 128) := by unfold aC; rw [f1, e9, g4]; rfl
        rw [g2, ← hy]
        exact ⟨Nat.le_refl _, Nat.le_trans (h1 o o hr hr) own.1, Or.inr ⟨g4, rfl, g5⟩⟩
    · by_cases z : u = r ∧ o = r
      · obtain ⟨z1, z2⟩ := z
        subst z1; subst z2
        have e9 : v = w := Option.some.inj (f1.symm.trans hw)
        rcases f1d with ⟨g1, _⟩ | ⟨g1, _⟩
        · exact ⟨Or.inr ⟨rfl, by rw [← e9]; exact g1⟩, fun _ => Or.inr (by rw [← e9]; exact g1)⟩
        · exact h5 _ _ w hu ho (by rw [← e9]; exact g1)
      · rw [hH u o ho z] at hw
        exact h5 u o w hu ho hw
    · rw [f5 w (hw r (by omega))]
      exact h6 w (fun r2 h => hw r2 (by omega))
    · by_cases z : r2 = r
      · subst z
        have e9 : v = nwv n r2 := Option.some.inj (f1.symm.trans hw)
        rcases f1d with ⟨g1, g2, g3, g4⟩ | ⟨g1, g2, g3, g4, g5, _⟩
        · rw [← e9, g3]; have := h8 (272 + r2); omega
        · exfalso
          have := (AB_h hN hB (u := r2) (o := r2) (by omega) g1).2.2.2.2 (by rw [e9, ag_nwv])
          omega
      · rw [hH r2 r2 h2 (fun q => z q.1)] at hw
        rw [oldH (by omega) hw]
        exact h7 r2 h2 hw
    · by_cases z : j = 272 + r
      · subst z
        rcases f1d with ⟨g1, g2, g3, g4⟩ | ⟨g1, g2, g3, g4, g5, _⟩
        · have := h8 (272 + r); omega
        · rw [g3]; exact h8 _
      · rw [(f3 j z).1]; exact h8 j
