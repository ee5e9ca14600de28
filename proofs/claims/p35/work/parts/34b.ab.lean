/-! the routers' turns: living versions -/
def aC (n : Nat) (a : AS) (u o : Nat) : Nat := cdo n (aSq a) (aH a u o)
def aE (n : Nat) (a : AS) (u o : Nat) : Nat := max (aC n a u o) (if u = o ∧ aMr a (272 + o) = true then aKs a (272 + o) * 128 + 127 else 0)
def AB (t : TP) (N n i : Nat) (a : AS) : Prop :=
  (∀ j v, aHd a j = some v → ∃ u o, u < N ∧ o < N ∧ j = u * 1088 + (272 + o) ∧ lvv n (aSq a) o v ∧ ag n v < 60 ∧ (ag n v = 0 → u = o ∧ o < i)) ∧
  (∀ m, m ∈ (aMb a).1 → m % 128 < 18 ∧ tcc t (m % 128 / 2) = true ∧ ∃ o, o < N ∧ lvv n (aSq a) o (m / 128) ∧ ag n (m / 128) < 60 ∧ (ag n (m / 128) = 0 → tRp t (ot (m % 128)) = o ∧ o < i)) ∧
  ((∀ j, aKs a j ≤ n) ∧ ∀ r, i ≤ r → aKs a (272 + r) + 1 ≤ n) ∧
  (∀ r, r < N → tRu t r = true → ∀ v, aH a r r = some v → aSq a v ≤ aKs a (272 + r)) ∧
  (∀ r, r < N → tRu t r = false → (∀ o, o < N → aH a r o = none) ∧ aMr a (272 + r) = false)
theorem AB_h {t : TP} {N n i : Nat} {a : AS} (hN : N ≤ 6) (h : AB t N n i a) {u o v : Nat} (ho : o < 16) (e : aH a u o = some v) : u < N ∧ o < N ∧ lvv n (aSq a) o v ∧ ag n v < 60 ∧ (ag n v = 0 → u = o ∧ o < i) := by
  obtain ⟨u2, o2, h1, h2, h3, h4⟩ := h.1 _ _ e
  obtain ⟨h5, h6⟩ := ix_inj (by omega) (by omega) h3
  obtain rfl : o = o2 := by omega
  subst h5
  exact ⟨h1, h2, h4⟩
theorem aH_upd {a b : AS} {r : Nat} (h : ∀ j, j ≠ r * 1088 + (272 + r) → aHd b j = aHd a j) {u o : Nat} (hr : r < 800) (ho : o < 800) (hne : ¬ (u = r ∧ o = r)) : aH b u o = aH a u o :=
  h _ (fun e => hne (by obtain ⟨p, q⟩ := ix_inj (by omega) (by omega) e; exact ⟨p, by omega⟩))
/-- a living version isn't the one that is made now -/
theorem ne_nwv {n r v : Nat} (h : ag n v ≠ 0 ∨ v / 64 ≠ 272 + r) : v ≠ nwv n r := fun e => by
  rcases h with h | h
  · exact h (by rw [e, ag_nwv])
  · exact h (by rw [e, nwv_key])
theorem lvv_c {n o v : Nat} {sq sq2 : Nat → Nat} (h : lvv n sq o v) (e : sq2 v = sq v) : lvv n sq2 o v := by
  obtain ⟨h1, h2, h3, h4, h5⟩ := h
  exact ⟨h1, h2, h3, by rw [e]; exact h4, by rw [e]; exact h5⟩
theorem cod_c {n v : Nat} {sq sq2 : Nat → Nat} (e : sq2 v = sq v) : cod n sq2 v = cod n sq v := by unfold cod; rw [e]
theorem AB_act {t : TP} {N n r : Nat} {wu : Nat → Bool} (hG : TG t N) (hT : TOK t) (hr : r < N) (hn : 1 ≤ n) {x : AS} (h : AB t N n r x) : AB t N n (r + 1) (act1 t wu n r x) := by
  have hN := hG.2.1
  rcases act_cases (n := n) (wu := wu) hG hT hr x with ⟨e, _⟩ | ⟨hup, _, hF⟩
  · rw [e]
    obtain ⟨b1, b2, b3, b4, b5⟩ := h
    refine ⟨fun j v hj => ?_, fun m hm => ?_, ⟨b3.1, fun r2 h2 => b3.2 r2 (by omega)⟩, b4, b5⟩
    · obtain ⟨u, o, c1, c2, c3, c4, c5, c6⟩ := b1 j v hj
      exact ⟨u, o, c1, c2, c3, c4, c5, fun z => ⟨(c6 z).1, by have := (c6 z).2; omega⟩⟩
    · obtain ⟨d1, d2, o, c2, c4, c5, c6⟩ := b2 m hm
      exact ⟨d1, d2, o, c2, c4, c5, fun z => ⟨(c6 z).1, by have := (c6 z).2; omega⟩⟩
  · generalize act1 t wu n r x = y at hF ⊢
    obtain ⟨⟨v, f1, f1b, f1c, f1d⟩, f2, f3, f4, f5, f6, f7, f8, ⟨f9, f9b⟩, f10, f11, f12, f13⟩ := hF
    have hx := fun {u o v : Nat} (ho : o < 16) (e : aH x u o = some v) => AB_h hN h ho e
    obtain ⟨b1, b2, b3, b4, b5⟩ := h
    have hks := b3.2 r (Nat.le_refl _)
    -- versions of the state before keep their numbers
    have old : ∀ {o v : Nat}, lvv n (aSq x) o v → (ag n v = 0 → o < r) → aSq y v = aSq x v := fun {o v} k1 k2 => f5 v (ne_nwv (by
      by_cases z : ag n v = 0
      · right; have := k1.1; have := k2 z; omega
      · exact Or.inl z))
    have hv : lvv n (aSq y) r v ∧ ag n v < 60 := by
      rcases f1d with ⟨g1, g2, g3, g4⟩ | ⟨g1, g2, g3, g4, g5, _⟩
      · subst g1
        have := ag_nwv n r
        exact ⟨⟨nwv_key, by omega, by omega, by omega, by omega⟩, by omega⟩
      · obtain ⟨_, _, k1, k2, _⟩ := hx (by omega) g1
        exact ⟨lvv_c k1 (g5 v), k2⟩
    have hsqv : aSq y v ≤ aKs y (272 + r) := by
      rcases f1d with ⟨g1, g2, g3, g4⟩ | ⟨g1, g2, g3, g4, g5, _⟩
      · omega
      · rw [g5, g3]; exact b4 r hr hup v g1
    have hksy : aKs y (272 + r) ≤ n := by rcases f1d with ⟨g1, g2, g3, g4⟩ | ⟨g1, g2, g3, g4, g5, _⟩ <;> omega
    refine ⟨fun j w hj => ?_, fun m hm => ?_, ⟨fun j => ?_, fun r2 h2 => ?_⟩, fun r2 h2 hu2 w hw => ?_, fun r2 h2 hd2 => ?_⟩
    · by_cases z : j = r * 1088 + (272 + r)
      · subst z
        have e9 : v = w := Option.some.inj (f1.symm.trans hj)
        subst e9
        exact ⟨r, r, hr, hr, rfl, hv.1, hv.2, fun _ => ⟨rfl, by omega⟩⟩
      · rw [f4 j z] at hj
        obtain ⟨u, o, c1, c2, c3, c4, c5, c6⟩ := b1 j w hj
        exact ⟨u, o, c1, c2, c3, lvv_c c4 (old c4 (fun z => (c6 z).2)), c5, fun z => ⟨(c6 z).1, by have := (c6 z).2; omega⟩⟩
    · rcases f9b m hm with hm | ⟨g1, g2, g3, ⟨g4, o, g5, g6⟩ | ⟨g4, g5⟩⟩
      · obtain ⟨d1, d2, o, c2, c4, c5, c6⟩ := b2 m hm
        exact ⟨d1, d2, o, c2, lvv_c c4 (old c4 (fun z => (c6 z).2)), c5, fun z => ⟨(c6 z).1, by have := (c6 z).2; omega⟩⟩
      · obtain ⟨u, o2, c1, c2, c3, c4, c5, c6⟩ := b1 _ _ g6
        obtain ⟨q1, q2⟩ := ix_inj (by omega) (by omega) c3
        exact ⟨g1, g3, o2, c2, lvv_c c4 (old c4 (fun z => (c6 z).2)), c5, fun z => ⟨by rw [g2, q1]; exact (c6 z).1, by have := (c6 z).2; omega⟩⟩
      · have e9 : v = nwv n r := Option.some.inj (f1.symm.trans g5)
        rw [g4]
        subst e9
        exact ⟨g1, g3, r, hr, hv.1, hv.2, fun _ => ⟨g2, by omega⟩⟩
    · by_cases z : j = 272 + r
      · subst z; exact hksy
      · rw [(f3 j z).1]; exact b3.1 j
    · rw [(f3 _ (by omega)).1]; exact b3.2 r2 (by omega)
    · by_cases z : r2 = r
      · subst z
        have e9 : v = w := Option.some.inj (f1.symm.trans hw)
        subst e9; exact hsqv
      · rw [aH_upd f4 (by omega) (by omega) (fun q => z q.1)] at hw
        obtain ⟨_, _, k1, k2, k3⟩ := hx (by omega) hw
        rw [old k1 (fun z => (k3 z).2), (f3 _ (by omega)).1]
        exact b4 r2 h2 hu2 w hw
    · have z : r2 ≠ r := fun e => by rw [e, hup] at hd2; cases hd2
      obtain ⟨k1, k2⟩ := b5 r2 h2 hd2
      exact ⟨fun o ho => (aH_upd f4 (by omega) (by omega) (fun q => z q.1)).trans (k1 o ho), ((f3 _ (by omega)).2).trans k2⟩
