/-! the delivery of a tick's messages -/
/-- the messages that arrive -/
def ML (t : TP) (N n : Nat) (sq : Nat → Nat) (L : List Nat) : Prop := ∀ j, j < L.length → L.getD j 0 % 128 < 18 ∧ ∃ o, o < N ∧ lvv n sq o (L.getD j 0 / 128) ∧ 1 ≤ ag n (L.getD j 0 / 128)
theorem dl1_cases {t : TP} {N n : Nat} {sq : Nat → Nat} {L : List Nat} (hM : ML t N n sq L) {i : Nat} (hi : i < L.length) (x : RS) :
    (∃ o, msgOK t N n sq (L.getD i 0 / 128) (L.getD i 0 % 128) o ∧ dl1 t n sq L i x = rcv t n sq (L.getD i 0 / 128) (L.getD i 0 % 128) x) ∨
    (¬ (tcc t (L.getD i 0 % 128 / 2) = true ∧ ag n (L.getD i 0 / 128) < 60) ∧ dl1 t n sq L i x = x) := by
  unfold dl1
  split
  · next h =>
    obtain ⟨h1, o, h2, h3, h4⟩ := hM i hi
    exact Or.inl ⟨o, ⟨h1, h.1, h2, h3, h4, h.2⟩, rfl⟩
  · next h => exact Or.inr ⟨h, rfl⟩
theorem DB_dl {t : TP} {N n : Nat} {sq : Nat → Nat} (hG : TG t N) {L : List Nat} (hM : ML t N n sq L) {x0 : RS} (h0 : DB t N n sq x0) : ∀ i, i ≤ L.length → DB t N n sq (itr (dl1 t n sq L) i x0)
  | 0, _ => h0
  | i + 1, hi => by
    have ih := DB_dl hG hM h0 i (by omega)
    rw [itr_s]
    rcases dl1_cases hM (show i < L.length by omega) (itr (dl1 t n sq L) i x0) with ⟨o, hm, e⟩ | ⟨_, e⟩
    · rw [e]; exact DB_rcv hG ih hm
    · rw [e]; exact ih
/-- a message to come that tells port q of key o at least c -/
def pnd (n : Nat) (sq : Nat → Nat) (L : List Nat) (i q o c : Nat) : Prop := ∃ j, i ≤ j ∧ j < L.length ∧ L.getD j 0 % 128 = q ∧ L.getD j 0 / 128 / 64 = 272 + o ∧ c ≤ cod n sq (L.getD j 0 / 128)
/-- a message sent that does so -/
def snt (n : Nat) (sq : Nat → Nat) (L : List Nat) (q o c : Nat) : Prop := ∃ m, m ∈ L ∧ m % 128 = q ∧ m / 128 / 64 = 272 + o ∧ c ≤ cod n sq (m / 128)
/-- where a version comes from: held at first, or one of the first i messages brought it -/
def src (t : TP) (x0 : RS) (L : List Nat) (i u o v : Nat) : Prop := rH x0 u o = some v ∨ ∃ j, j < i ∧ j < L.length ∧ L.getD j 0 % 128 < 18 ∧ tRp t (L.getD j 0 % 128) = u ∧ tcc t (L.getD j 0 % 128 / 2) = true ∧ L.getD j 0 / 128 = v ∧ L.getD j 0 / 128 / 64 = 272 + o
theorem src_s {t : TP} {x0 : RS} {L : List Nat} {i u o v : Nat} (h : src t x0 L i u o v) : src t x0 L (i + 1) u o v := h.elim Or.inl (fun ⟨j, a, b⟩ => Or.inr ⟨j, by omega, b⟩)
def DI (t : TP) (N n : Nat) (sq : Nat → Nat) (wu : Nat → Bool) (Rel : Nat → Nat → Prop) (L : List Nat) (x0 : RS) (i : Nat) (x : RS) : Prop :=
  (∀ u o, u < N → o < N → rC n sq x0 u o ≤ rC n sq x u o) ∧
  (∀ q o, q < 18 → wu (q / 2) = true → o < N → Rel (tRp t q) o → rC n sq x (tRp t (ot q)) o ≤ rE n sq x (tRp t q) o ∨ pnd n sq L i q o (rC n sq x (tRp t (ot q)) o) ∨ snt n sq (rmb x).1 q o (rC n sq x (tRp t (ot q)) o)) ∧
  (∀ q o, q < 18 → wu (q / 2) = true → o < N → Rel (tRp t q) o → rC n sq x0 (tRp t (ot q)) o ≤ rE n sq x (tRp t q) o ∨ pnd n sq L i q o (rC n sq x0 (tRp t (ot q)) o)) ∧
  (∀ j o, i ≤ j → j < L.length → wu (L.getD j 0 % 128 / 2) = true → o < N → L.getD j 0 / 128 / 64 = 272 + o → Rel (tRp t (L.getD j 0 % 128)) o → cod n sq (L.getD j 0 / 128) ≤ rC n sq x (tRp t (ot (L.getD j 0 % 128))) o) ∧
  (∀ m o, m ∈ (rmb x).1 → o < N → m / 128 / 64 = 272 + o → cod n sq (m / 128) ≤ rC n sq x (tRp t (ot (m % 128))) o ∧ rC n sq x0 (tRp t (ot (m % 128))) o ≤ cod n sq (m / 128) ∧ src t x0 L i (tRp t (ot (m % 128))) o (m / 128)) ∧
  (∀ u o v, u < N → o < N → rH x u o = some v → src t x0 L i u o v ∧ (u = o → rH x0 u o = some v)) ∧
  (∀ u, u < N → x.2.2.2.2.1 u = 0 ∨ (x.2.2.2.2.1 u = x0.2.2.2.2.1 u ∧ (∀ o2, o2 < N → rH x u o2 = rH x0 u o2) ∧ x.2.1 (272 + u) = x0.2.1 (272 + u) ∧ x.1 (272 + u) = x0.1 (272 + u) ∧ x.2.2.1 (u * 4 + 1) = x0.2.2.1 (u * 4 + 1))) ∧
  (∀ u, u < N → x.2.2.1 (u * 4 + 1) = true ∨ (x.2.2.1 (u * 4 + 1) = x0.2.2.1 (u * 4 + 1) ∧ ∀ o2, o2 < N → rH x u o2 = rH x0 u o2)) ∧
  (∀ j, x0.1 j ≤ x.1 j)
theorem DI_step {t : TP} {N n : Nat} {sq : Nat → Nat} {wu : Nat → Bool} {Rel : Nat → Nat → Prop} {L : List Nat} {x0 x : RS} {i : Nat} (hG : TG t N) (hn : n < 128) (hM : ML t N n sq L) (hi : i < L.length)
    (hwu : ∀ k, k < 9 → wu k = true → tcc t k = true) (hRel : ∀ q o, q < 18 → tcc t (q / 2) = true → o < N → Rel (tRp t q) o → Rel (tRp t (ot q)) o)
    (hage : ∀ j o, j < L.length → wu (L.getD j 0 % 128 / 2) = true → o < N → L.getD j 0 / 128 / 64 = 272 + o → Rel (tRp t (L.getD j 0 % 128)) o → ag n (L.getD j 0 / 128) < 60)
    (hDB : DB t N n sq x) (h : DI t N n sq wu Rel L x0 i x) : DI t N n sq wu Rel L x0 (i + 1) (dl1 t n sq L i x) := by
  obtain ⟨ha, hb, hp, hs, hs2, hv, hnw, hol, hks⟩ := h
  have hN : N ≤ 6 := hG.2.1
  rcases dl1_cases hM hi x with ⟨o1, hm, e⟩ | ⟨hno, e⟩
  · rw [e]
    obtain ⟨f1, f2, f3, f4, f5, f6, f7, f8, f9⟩ := rcv_RF hG hn hDB hm
    obtain ⟨m1, m2, m3, m4, m5, m6⟩ := hm
    generalize rcv t n sq (L.getD i 0 / 128) (L.getD i 0 % 128) x = y at f1 f2 f3 f4 f5 f6 f7 f8 f9 ⊢
    have hr : tRp t (L.getD i 0 % 128) < N := (hG.2.2.1 _ m1).1
    have hsu : ∀ q, q < 18 → tRp t (ot q) < N := fun q hq => (hG.2.2.1 _ (ot18 hq)).1
    have hsi : ∀ o2, L.getD i 0 / 128 / 64 = 272 + o2 → o2 = o1 := fun o2 z => by have := m4.1; omega
    -- one message taken off: what it told is there
    have hpnd : ∀ q o c, o < N → pnd n sq L i q o c → c ≤ rE n sq y (tRp t q) o ∨ pnd n sq L (i + 1) q o c := by
      intro q o c ho ⟨j, j1, j2, j3, j4, j5⟩
      rcases Nat.lt_or_ge i j with z | z
      · exact Or.inr ⟨j, z, j2, j3, j4, j5⟩
      · obtain rfl : j = i := by omega
        obtain rfl := hsi o j4
        rw [← j3]
        exact Or.inl (Nat.le_trans j5 f3)
    refine ⟨fun u o hu ho => Nat.le_trans (ha u o hu ho) (f1 u o hu ho), fun q o hq hw ho hR => ?_, fun q o hq hw ho hR => ?_, fun j o j1 j2 hw ho j3 hR => ?_, fun m o hm ho hk => ?_, fun u o v hu ho hH => ?_, fun u hu => ?_, fun u hu => ?_, fun j => Nat.le_trans (hks j) (f9 j)⟩
    · -- link invariant
      have hu := hsu q hq
      have hq1 : tRp t q < N := (hG.2.2.1 q hq).1
      rcases f5 (tRp t (ot q)) o hu ho with e1 | ⟨e1, e2, e3, e4, e5, e6⟩
      · have ec : rC n sq y (tRp t (ot q)) o = rC n sq x (tRp t (ot q)) o := by unfold rC; rw [e1]
        rw [ec]
        rcases hb q o hq hw ho hR with z | z | ⟨m, z1, z2⟩
        · exact Or.inl (Nat.le_trans z (f2 _ _ hq1 ho))
        · rcases hpnd q o _ ho z with z | z
          · exact Or.inl z
          · exact Or.inr (Or.inl z)
        · exact Or.inr (Or.inr ⟨m, f4 m z1, z2⟩)
      · have ec : rC n sq y (tRp t (ot q)) o = cod n sq (L.getD i 0 / 128) := by unfold rC; rw [e4]; rfl
        rw [ec]
        by_cases z : q = ot (L.getD i 0 % 128)
        · refine Or.inl ?_
          subst e2
          have hw2 : wu (L.getD i 0 % 128 / 2) = true := by rw [z, ot_div] at hw; exact hw
          have hR2 : Rel (tRp t (L.getD i 0 % 128)) o := by
            have := hRel q o hq (by rw [z, ot_div]; exact m2) ho hR
            rw [z, ot_ot] at this
            exact this
          have h9 := hs i o (Nat.le_refl _) hi hw2 ho m4.1 hR2
          rw [← z] at h9
          refine Nat.le_trans h9 (Nat.le_trans (f1 _ _ hq1 ho) ?_)
          exact Nat.le_max_left _ _
        · refine Or.inr (Or.inr ⟨L.getD i 0 / 128 * 128 + q, e6 q hq rfl z (hwu _ (by omega) hw), m_mod _ _ (by omega), ?_, ?_⟩)
          · rw [m_div _ _ (by omega), e2]; exact m4.1
          · rw [m_div _ _ (by omega)]; exact Nat.le_refl _
    · rcases hp q o hq hw ho hR with z | z
      · exact Or.inl (Nat.le_trans z (f2 _ _ (hG.2.2.1 q hq).1 ho))
      · exact hpnd q o _ ho z
    · exact Nat.le_trans (hs j o (by omega) j2 hw ho j3 hR) (f1 _ _ (hsu _ (hM j j2).1) ho)
    · have hold := fun z => hs2 m o z ho hk
      rcases f6 m hm with z | ⟨z1, z2, z3, z4, z5, z6⟩
      · obtain ⟨w1, w2, w3⟩ := hold z
        have hm18 := (hDB.2.1 m z).1
        exact ⟨Nat.le_trans w1 (f1 _ _ (hsu _ hm18) ho), w2, src_s w3⟩
      · obtain rfl : o = o1 := by omega
        rw [z2]
        have ec : rC n sq y (tRp t (L.getD i 0 % 128)) o = cod n sq (m / 128) := by unfold rC; rw [z4]; rfl
        refine ⟨by rw [ec]; exact Nat.le_refl _, ?_, ?_⟩
        · rw [← ec]; exact Nat.le_trans (ha _ _ hr ho) (f1 _ _ hr ho)
        · rcases f5 _ _ hr ho with e1 | ⟨e1, e2, e3, e4, e5, e6⟩
          · exact src_s (hv _ _ _ hr ho (e1.symm.trans z4)).1
          · have e9 := Option.some.inj (z4.symm.trans e4)
            exact Or.inr ⟨i, by omega, hi, m1, rfl, m2, e9.symm, m4.1⟩
    · rcases f5 u o hu ho with e1 | ⟨e1, e2, e3, e4, e5, e6⟩
      · obtain ⟨w1, w2⟩ := hv u o v hu ho (e1.symm.trans hH)
        exact ⟨src_s w1, w2⟩
      · have e9 := Option.some.inj (hH.symm.trans e4)
        exact ⟨Or.inr ⟨i, by omega, hi, m1, e1.symm, m2, e9.symm, by rw [e2]; exact m4.1⟩, fun z => absurd z (by omega)⟩
    · rcases f7 u hu with z | ⟨z1, z2, z3, z4, z5⟩
      · exact Or.inl z
      · rcases hnw u hu with w | ⟨w1, w2, w3, w4, w5⟩
        · exact Or.inl (z1.trans w)
        · exact Or.inr ⟨z1.trans w1, fun o2 h2 => (z2 o2 h2).trans (w2 o2 h2), z3.trans w3, z4.trans w4, z5.trans w5⟩
    · rcases f8 u hu with z | ⟨z1, z2⟩
      · exact Or.inl z
      · rcases hol u hu with w | ⟨w1, w2⟩
        · exact Or.inl (z1.trans w)
        · exact Or.inr ⟨z1.trans w1, fun o2 h2 => (z2 o2 h2).trans (w2 o2 h2)⟩
  · rw [e]
    have hpnd : ∀ q o c, q < 18 → wu (q / 2) = true → o < N → Rel (tRp t q) o → pnd n sq L i q o c → pnd n sq L (i + 1) q o c := by
      intro q o c hq hw ho hR ⟨j, j1, j2, j3, j4, j5⟩
      rcases Nat.lt_or_ge i j with z | z
      · exact ⟨j, z, j2, j3, j4, j5⟩
      · obtain rfl : j = i := by omega
        subst j3
        exact absurd ⟨hwu _ (by omega) hw, hage j o hi hw ho j4 hR⟩ hno
    refine ⟨ha, fun q o hq hw ho hR => ?_, fun q o hq hw ho hR => ?_, fun j o j1 => hs j o (by omega), fun m o hm ho hk => ?_, fun u o v hu ho hH => ?_, hnw, hol, hks⟩
    · rcases hb q o hq hw ho hR with z | z | z
      · exact Or.inl z
      · exact Or.inr (Or.inl (hpnd q o _ hq hw ho hR z))
      · exact Or.inr (Or.inr z)
    · rcases hp q o hq hw ho hR with z | z
      · exact Or.inl z
      · exact Or.inr (hpnd q o _ hq hw ho hR z)
    · obtain ⟨w1, w2, w3⟩ := hs2 m o hm ho hk
      exact ⟨w1, w2, src_s w3⟩
    · obtain ⟨w1, w2⟩ := hv u o v hu ho hH
      exact ⟨src_s w1, w2⟩
