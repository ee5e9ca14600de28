/-! expiry -/
def eH (x : ES) (u o : Nat) : Option Nat := x.2.1 (u * 1088 + (272 + o))
/-- what an expiry does to a state of databases: rows u below i are done, of row i the keys below k -/
def EXI (n : Nat) (x0 : ES) (P : Nat → Prop) (x : ES) : Prop :=
  (∀ j v, x.2.1 j = some v → x0.2.1 j = some v ∧ (P j → ag n v < 60)) ∧
  (∀ j v, x0.2.1 j = some v → ag n v < 60 → x.2.1 j = some v) ∧
  (∀ u, u < 16 → x.1 (u * 4 + 1) = true ∨ (x.1 (u * 4 + 1) = x0.1 (u * 4 + 1) ∧ ∀ o, o < 16 → eH x u o = eH x0 u o)) ∧
  (∀ u, u < 16 → x.2.2 u = 0 ∨ (x.2.2 u = x0.2.2 u ∧ x.1 (u * 4 + 1) = x0.1 (u * 4 + 1) ∧ ∀ o, o < 16 → eH x u o = eH x0 u o))
theorem rol_other {old : Nat → Bool} {r k u : Nat} (hu : u ≠ r) (hk : k < 1088) (h : u < 16) : rol old r k (u * 4 + 1) = old (u * 4 + 1) := by
  unfold rol
  split
  · rw [fs_n (by omega)]
  · rfl
theorem rol_true {old : Nat → Bool} {r k j : Nat} (h : old j = true) : rol old r k j = true := by
  unfold rol
  split
  · by_cases z : j = r * 4 + k / 272
    · subst z; exact fs_s
    · rw [fs_n z]; exact h
  · exact h
theorem EXI_step {n r k : Nat} {x0 x : ES} {P P2 : Nat → Prop} (hr : r < 16) (hk : k < 1088) (hP : ∀ j, P2 j → P j ∨ j = r * 1088 + k) (h : EXI n x0 P x) : EXI n x0 P2 (ex1 n r k x) := by
  obtain ⟨h1, h2, h3, h4⟩ := h
  have same : (∀ v, x.2.1 (r * 1088 + k) = some v → ag n v < 60) → EXI n x0 P2 x := fun hq => ⟨fun j v e => ⟨(h1 j v e).1, fun p => (hP j p).elim (h1 j v e).2 (fun q => hq v (by rw [← q]; exact e))⟩, h2, h3, h4⟩
  unfold ex1
  cases hv : x.2.1 (r * 1088 + k) with
  | none => exact same (fun v e => by rw [hv] at e; cases e)
  | some v =>
    show EXI n x0 P2 (if 60 ≤ ag n v then _ else _)
    split
    · next hg =>
      refine ⟨fun j w e => ?_, fun j w e ha => ?_, fun u hu => ?_, fun u hu => ?_⟩
      · have e : fs x.2.1 (r * 1088 + k) none j = some w := e
        by_cases z : j = r * 1088 + k
        · subst z; rw [fs_s] at e; cases e
        · rw [fs_n z] at e
          exact ⟨(h1 j w e).1, fun p => (hP j p).elim (h1 j w e).2 (fun q => absurd q z)⟩
      · show fs x.2.1 (r * 1088 + k) none j = some w
        have h9 := h2 j w e ha
        rw [fs_n (fun z => by rw [z, hv] at h9; obtain rfl := Option.some.inj h9; omega)]
        exact h9
      · by_cases z : u = r
        · subst z
          by_cases z2 : k < 272 ∨ 288 ≤ k
          · rcases h3 u hu with w | ⟨w1, w2⟩
            · exact Or.inl (rol_true w)
            · by_cases z3 : rol x.1 u k (u * 4 + 1) = true
              · exact Or.inl z3
              · refine Or.inr ⟨?_, fun o ho => ?_⟩
                · have : rol x.1 u k (u * 4 + 1) = x.1 (u * 4 + 1) := by
                    unfold rol
                    split
                    · by_cases z4 : u * 4 + 1 = u * 4 + k / 272
                      · exfalso; apply z3; unfold rol; rw [if_pos (by assumption), z4]; exact fs_s
                      · exact fs_n z4
                    · rfl
                  exact this.trans w1
                · refine Eq.trans ?_ (w2 o ho)
                  exact fs_n (by omega)
          · refine Or.inl ?_
            show rol x.1 u k (u * 4 + 1) = true
            obtain ⟨o, rfl⟩ : ∃ o, k = 272 + o := ⟨k - 272, by omega⟩
            rw [rol_r (by omega), fs_s]
        · rcases h3 u hu with w | ⟨w1, w2⟩
          · exact Or.inl (rol_true w)
          · exact Or.inr ⟨(rol_other z hk hu).trans w1, fun o ho => (show fs x.2.1 (r * 1088 + k) none (u * 1088 + (272 + o)) = _ from fs_n (fun e => z (ix_inj (by omega) hk e).1)).trans (w2 o ho)⟩
      · by_cases z : u = r
        · subst z; exact Or.inl fs_s
        · rcases h4 u hu with w | ⟨w1, w2, w3⟩
          · exact Or.inl ((fs_n z).trans w)
          · exact Or.inr ⟨(fs_n z).trans w1, (rol_other z hk hu).trans w2, fun o ho => (show fs x.2.1 (r * 1088 + k) none (u * 1088 + (272 + o)) = _ from fs_n (fun e => z (ix_inj (by omega) hk e).1)).trans (w3 o ho)⟩
    · next hg => exact same (fun w e => by rw [hv] at e; obtain rfl := Option.some.inj e; omega)
theorem EXI_row {n r : Nat} {x0 x : ES} {P : Nat → Prop} (hr : r < 16) (h : EXI n x0 P x) : ∀ k, k ≤ 1088 → EXI n x0 (fun j => P j ∨ (r * 1088 ≤ j ∧ j < r * 1088 + k)) (itr (ex1 n r) k x)
  | 0, _ => ⟨fun j v e => ⟨(h.1 j v e).1, fun p => p.elim (h.1 j v e).2 (fun q => absurd q (by omega))⟩, h.2⟩
  | k + 1, hk => by
    rw [itr_s]
    refine EXI_step hr (by omega) (fun j p => ?_) (EXI_row hr h k (by omega))
    rcases p with p | p
    · exact Or.inl (Or.inl p)
    · by_cases z : j = r * 1088 + k
      · exact Or.inr z
      · exact Or.inl (Or.inr (by omega))
theorem EXI_all {n : Nat} {x0 : ES} : ∀ i, i ≤ 16 → EXI n x0 (fun j => j < i * 1088) (itr (ex2 n) i x0)
  | 0, _ => ⟨fun j v e => ⟨e, fun p => absurd p (by omega)⟩, fun j v e _ => e, fun u _ => Or.inr ⟨rfl, fun _ _ => rfl⟩, fun u _ => Or.inr ⟨rfl, rfl, fun _ _ => rfl⟩⟩
  | i + 1, hi => by
    rw [itr_s]
    have h := EXI_row (r := i) (by omega) (EXI_all (n := n) (x0 := x0) i (by omega)) 1088 (Nat.le_refl _)
    have e2 : ex2 n i (itr (ex2 n) i x0) = itr (ex1 n i) 1088 (itr (ex2 n) i x0) := by unfold ex2; rfl
    rw [e2]
    generalize itr (ex1 n i) 1088 (itr (ex2 n) i x0) = z at h ⊢
    refine ⟨fun j v e => ⟨(h.1 j v e).1, fun p => (h.1 j v e).2 ?_⟩, h.2⟩
    rcases Nat.lt_or_ge j (i * 1088) with z | z
    · exact Or.inl z
    · exact Or.inr ⟨z, by omega⟩
theorem cnt_zero {hd : Nat → Option Nat} {s : Nat} : ∀ {m k v : Nat}, k < m → hd k = some v → v % 64 = s → 0 < cnt hd s m
  | 0, k, v, h, _, _ => absurd h (Nat.not_lt_zero _)
  | m + 1, k, v, h, h1, h2 => by
    rw [cnt_s]
    by_cases z : k = m
    · subst z; rw [h1]; simp [one, h2]
    · have := cnt_zero (hd := hd) (s := s) (m := m) (k := k) (v := v) (by omega) h1 h2
      omega
/-- an expiry takes what is 60 ticks old, and nothing else -/
theorem exA_spec {N n : Nat} {x0 : ES} (hN : N ≤ 6) (h0 : ∀ j v, x0.2.1 j = some v → j < N * 1088 ∧ ag n v ≤ 60) :
    (∀ j v, (exA N n x0).2.1 j = some v ↔ x0.2.1 j = some v ∧ ag n v < 60) ∧
    (∀ u, u < 16 → (exA N n x0).1 (u * 4 + 1) = true ∨ ((exA N n x0).1 (u * 4 + 1) = x0.1 (u * 4 + 1) ∧ ∀ o, o < 16 → eH (exA N n x0) u o = eH x0 u o)) ∧
    (∀ u, u < 16 → (exA N n x0).2.2 u = 0 ∨ ((exA N n x0).2.2 u = x0.2.2 u ∧ (exA N n x0).1 (u * 4 + 1) = x0.1 (u * 4 + 1) ∧ ∀ o, o < 16 → eH (exA N n x0) u o = eH x0 u o)) := by
  unfold exA
  split
  · next hc =>
    obtain ⟨a1, a2, a3, a4⟩ := EXI_all (n := n) (x0 := x0) N (by omega)
    exact ⟨fun j v => ⟨fun e => ⟨(a1 j v e).1, (a1 j v e).2 (h0 j v (a1 j v e).1).1⟩, fun e => a2 j v e.1 e.2⟩, a3, a4⟩
  · next hc =>
    refine ⟨fun j v => ⟨fun e => ⟨e, ?_⟩, fun e => e.1⟩, fun u _ => Or.inr ⟨rfl, fun _ _ => rfl⟩, fun u _ => Or.inr ⟨rfl, rfl, fun _ _ => rfl⟩⟩
    obtain ⟨h1, h2⟩ := h0 j v e
    rcases Nat.lt_or_ge (ag n v) 60 with z | z
    · exact z
    · exfalso
      apply hc
      unfold cn
      refine cnt_zero (k := j) (v := v) (by omega) e ?_
      unfold exs ag
      unfold ag at h2 z
      omega
