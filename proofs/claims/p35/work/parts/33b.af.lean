/-! what a router's turn changes -/
theorem ssm_ge {f : Nat → Nat} {k : Nat} : ∀ {n : Nat}, k < n → f k ≤ ssm f n
  | 0, h => absurd h (Nat.not_lt_zero _)
  | n + 1, h => by
    rw [ssm_s]
    by_cases z : k = n
    · subst z; omega
    · have := ssm_ge (f := f) (n := n) (k := k) (by omega)
      omega
def aH (a : AS) (u o : Nat) : Option Nat := aHd a (u * 1088 + (272 + o))
def AF (t : TP) (N : Nat) (wu : Nat → Bool) (n r : Nat) (x y : AS) : Prop :=
  (∃ v, aH y r r = some v ∧ utb t (aLm y) (aLo y) v r 1 = true ∧ aNw y r ≤ n - ag n v + 30 ∧
    ((v = nwv n r ∧ aKs y (272 + r) = aKs x (272 + r) + 1 ∧ aSq y v = aKs x (272 + r) + 1 ∧ ∀ q, q < 18 → tRp t (ot q) = r → tcc t (q / 2) = true → v * 128 + q ∈ (aMb y).1) ∨
     (aH x r r = some v ∧ ag n v < 30 ∧ aKs y (272 + r) = aKs x (272 + r) ∧ aMr x (272 + r) = false ∧ (∀ w, aSq y w = aSq x w) ∧ aHd y = aHd x ∧ aLm y = aLm x))) ∧
  aMr y (272 + r) = false ∧
  (∀ j, j ≠ 272 + r → aKs y j = aKs x j ∧ aMr y j = aMr x j) ∧
  (∀ j, j ≠ r * 1088 + (272 + r) → aHd y j = aHd x j) ∧
  (∀ w, w ≠ nwv n r → aSq y w = aSq x w) ∧
  ((∀ j, (j % 64 ≠ n % 64 ∨ tRp t (j / 64) ≠ r) → aLm y j = aLm x j) ∧ ∀ j, (j % 64 ≠ n % 64 ∨ j / 64 / 64 ≠ r) → aLo y j = aLo x j) ∧
  (∀ u, u ≠ r → aNw y u = aNw x u ∧ aOld y (u * 4 + 1) = aOld x (u * 4 + 1)) ∧
  aOld y (r * 4 + 1) = false ∧
  ((∀ m, m ∈ (aMb x).1 → m ∈ (aMb y).1) ∧ ∀ m, m ∈ (aMb y).1 → m ∈ (aMb x).1 ∨ (m % 128 < 18 ∧ tRp t (ot (m % 128)) = r ∧ tcc t (m % 128 / 2) = true ∧
    ((wu (m % 128 / 2) = false ∧ ∃ o, o < 272 ∧ aHd x (r * 1088 + (272 + o)) = some (m / 128)) ∨ (m / 128 = nwv n r ∧ aH y r r = some (nwv n r))))) ∧
  (∀ q o v, q < 18 → tRp t (ot q) = r → tcc t (q / 2) = true → wu (q / 2) = false → o < N → aH x r o = some v → v * 128 + q ∈ (aMb y).1) ∧
  (mOK (aMb x) → mL (aMb x) + 12000 ≤ 2 ^ 20 → mOK (aMb y) ∧ mL (aMb y) ≤ mL (aMb x) + 273 * tPc t r) ∧
  ((aDs y, aFk y) = cpt t (aHd y) (aLm y) r (aDs x, aFk x) ∨ (aOld x (r * 4 + 1) = false ∧ (aDs y, aFk y) = (aDs x, aFk x) ∧ aHd y = aHd x ∧ aLm y = aLm x)) ∧
  (aKd y, aCo y, aLi y, aLc y) = rcp t (aHd y) (aLo y) (aDs y) (aFk y) r (aKd x, aCo x, aLi x, aLc x)
theorem act_cases {t : TP} {N n r : Nat} {wu : Nat → Bool} (hG : TG t N) (hT : TOK t) (hr : r < N) (x : AS) :
    (act1 t wu n r x = x ∧ (tRu t r = false ∨ (tRu t r = true ∧ n < aNw x r))) ∨ (tRu t r = true ∧ ¬ n < aNw x r ∧ AF t N wu n r x (act1 t wu n r x)) := by
  have hN := hG.2.1
  unfold act1
  split
  · next h => exact Or.inl ⟨rfl, Or.inl h⟩
  · next h =>
    have hup : tRu t r = true := by cases e : tRu t r with
      | true => rfl
      | false => exact absurd e h
    split
    · next h2 => exact Or.inl ⟨rfl, Or.inr ⟨hup, h2⟩⟩
    · next h2 =>
      refine Or.inr ⟨hup, h2, ?_⟩
      have hcif : ∀ (hd : Nat → Option Nat) (lm : Nat → Nat) (old : Nat → Bool), (cif t hd lm r (old, aDs x, aFk x)).1 (r * 4 + 1) = false ∧ (∀ u, u ≠ r → (cif t hd lm r (old, aDs x, aFk x)).1 (u * 4 + 1) = old (u * 4 + 1)) ∧ ((cif t hd lm r (old, aDs x, aFk x)).2 = cpt t hd lm r (aDs x, aFk x) ∨ (old (r * 4 + 1) = false ∧ (cif t hd lm r (old, aDs x, aFk x)).2 = (aDs x, aFk x))) := by
        intro hd lm old
        unfold cif
        split
        · next z => exact ⟨fs_s, fun u hu => fs_n (by omega), Or.inl rfl⟩
        · next z =>
          have z2 : old (r * 4 + 1) = false := by cases e : old (r * 4 + 1) with
            | true => exact absurd e z
            | false => rfl
          exact ⟨z2, fun u hu => rfl, Or.inr ⟨z2, rfl⟩⟩
      have hfn := fun m => mem_fnl hG (wu := wu) (hd := aHd x) (mb := aMb x) (y := m) hr
      have hcap : mOK (aMb x) → mL (aMb x) + 12000 ≤ 2 ^ 20 → mOK (fnl t wu (aHd x) r (aMb x)) ∧ mL (fnl t wu (aHd x) r (aMb x)) ≤ mL (aMb x) + 272 * tPc t r ∧ 272 * tPc t r ≤ 4896 := fun k1 k2 => by
        have k3 := fnl_ok hT wu (aHd x) r k1 (by omega)
        have k4 : tPc t r ≤ 18 := by
          have h9 := ssm_ge (f := tPc t) hr
          have : ssm (tPc t) N ≤ 18 := hG.2.2.2.2.2
          omega
        exact ⟨k3.1, k3.2, by omega⟩
      rcases dsc_cases t n r (aKs x, aMr x, aOld x, aHd x, aSq x, aLm x, aLo x, fs (aNw x) r (n + 30), fnl t wu (aHd x) r (aMb x)) with ⟨hdue, e⟩ | ⟨v, hdue, hv, e⟩
      · have e2 : aDsc t wu n r x = _ := e
        rw [e2]
        obtain ⟨c1, c2, c3⟩ := hcif (fs (aHd x) (r * 1088 + (272 + r)) (some (nwv n r))) (dlm t (nwv n r) r (aLm x)) (rol (aOld x) r (272 + r))
        have hf := fun m => mem_flo hG (v := nwv n r) (x := none) (mb := fnl t wu (aHd x) r (aMb x)) (y := m) hr
        refine ⟨⟨nwv n r, fs_s, utb_new hG hr, ?_, Or.inl ⟨rfl, fs_s, fs_s, fun q hq h3 h4 => (hf _).mpr (Or.inr ⟨q, hq, h3, (fun z => by cases z), h4, rfl⟩)⟩⟩, fs_s, fun j hj => ⟨fs_n hj, fs_n hj⟩, fun j hj => fs_n hj, fun w hw => fs_n hw, ⟨fun j hj => dlm_same hG hr (by rw [nwv_slot]; exact hj), fun j hj => dlo_same (by rw [nwv_slot]; exact hj)⟩, fun u hu => ⟨fs_n hu, ?_⟩, c1, ⟨fun m hm => (hf m).mpr (Or.inl ((hfn m).mpr (Or.inl hm))), fun m hm => ?_⟩, fun q o v hq h3 h4 h5 ho hH => (hf _).mpr (Or.inl ((hfn _).mpr (Or.inr ⟨q, hq, h3, h4, h5, o, v, by omega, hH, rfl⟩))), fun k1 k2 => ?_, ?_, rfl⟩
        · show fs (aNw x) r (n + 30) r ≤ _
          rw [fs_s, ag_nwv]; omega
        · refine (c2 u hu).trans ?_
          rw [rol_r (by omega), fs_n (by omega)]
        · rcases (hf m).mp hm with hm | ⟨q, hq, h3, h4, h5, rfl⟩
          · rcases (hfn m).mp hm with hm | ⟨q, hq, h3, h4, h5, k, v, h6, h7, rfl⟩
            · exact Or.inl hm
            · refine Or.inr ?_
              rw [m_div _ _ (by omega), m_mod _ _ (by omega)]
              exact ⟨hq, h3, h4, Or.inl ⟨h5, k, h6, h7⟩⟩
          · refine Or.inr ?_
            rw [m_div _ _ (by omega), m_mod _ _ (by omega)]
            exact ⟨hq, h3, h5, Or.inr ⟨rfl, fs_s⟩⟩
        · obtain ⟨k3, k4, k5⟩ := hcap k1 k2
          have k6 := flo_ok hT (nwv n r) r 1 none k3 (by omega)
          exact ⟨k6.1, Nat.le_trans k6.2 (by omega)⟩
        · rcases c3 with z | ⟨z1, z2⟩
          · exact Or.inl z
          · rw [rol_r (by omega), fs_s] at z1; cases z1
      · have e2 : aDsc t wu n r x = _ := e
        rw [e2]
        obtain ⟨c1, c2, c3⟩ := hcif (aHd x) (aLm x) (aOld x)
        -- not due
        have hd9 : due t n r (aKs x, aMr x, aOld x, aHd x, aSq x, aLm x, aLo x, fs (aNw x) r (n + 30), fnl t wu (aHd x) r (aMb x)) = (aMr x (1 * 272 + r) || decide (30 ≤ ag n v) || !utb t (aLm x) (aLo x) v r 1) := by
          unfold due
          rw [show (aKs x, aMr x, aOld x, aHd x, aSq x, aLm x, aLo x, fs (aNw x) r (n + 30), fnl t wu (aHd x) r (aMb x)).2.2.2.1 (r * 1088 + (1 * 272 + r)) = some v from hv]
        rw [hd9, Bool.or_eq_false_iff, Bool.or_eq_false_iff] at hdue
        obtain ⟨⟨d1, d2⟩, d3⟩ := hdue
        have d2 := of_decide_eq_false d2
        have d4 : utb t (aLm x) (aLo x) v r 1 = true := by
          cases e9 : utb t (aLm x) (aLo x) v r 1 with
          | true => rfl
          | false => rw [e9] at d3; cases d3
        refine ⟨⟨v, hv, d4, ?_, Or.inr ⟨hv, by omega, rfl, d1, fun w => rfl, rfl, rfl⟩⟩, d1, fun j hj => ⟨rfl, rfl⟩, fun j hj => rfl, fun w hw => rfl, ⟨fun j hj => rfl, fun j hj => rfl⟩, fun u hu => ⟨?_, c2 u hu⟩, c1, ⟨fun m hm => (hfn m).mpr (Or.inl hm), fun m hm => ?_⟩, fun q o v hq h3 h4 h5 ho hH => (hfn _).mpr (Or.inr ⟨q, hq, h3, h4, h5, o, v, by omega, hH, rfl⟩), fun k1 k2 => ?_, ?_, rfl⟩
        · show nrf n v r (fs (aNw x) r (n + 30)) r ≤ _
          unfold nrf
          rw [fs_s]
          omega
        · show nrf n v r (fs (aNw x) r (n + 30)) u = _
          unfold nrf
          rw [fs_n hu, fs_n hu]
        · rcases (hfn m).mp hm with hm | ⟨q, hq, h3, h4, h5, k, v, h6, h7, rfl⟩
          · exact Or.inl hm
          · refine Or.inr ?_
            rw [m_div _ _ (by omega), m_mod _ _ (by omega)]
            exact ⟨hq, h3, h4, Or.inl ⟨h5, k, h6, h7⟩⟩
        · obtain ⟨k3, k4, k5⟩ := hcap k1 k2
          exact ⟨k3, Nat.le_trans k4 (by omega)⟩
        · rcases c3 with z | ⟨z1, z2⟩
          · exact Or.inl z
          · exact Or.inr ⟨z1, z2, rfl, rfl⟩
