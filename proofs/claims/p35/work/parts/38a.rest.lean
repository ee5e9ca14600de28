/-! the state between two ticks, and the first half of a tick -/
def REST (t : TP) (N : Nat) (Rel : Nat → Nat → Prop) (n : Nat) (wu : Nat → Bool) (ka : Nat) (a : AS) : Prop :=
  (mOK (aMb a) ∧ mOK (e0 ka) ∧ mL (aMb a) ≤ 11826 * n) ∧
  (∀ j v, aHd a j = some v → ∃ u o, u < N ∧ o < N ∧ j = u * 1088 + (272 + o) ∧ lvv n (aSq a) o v ∧ ag n v < 60) ∧
  (∀ m, m ∈ (aMb a).1 → m % 128 < 18 ∧ ∃ o, o < N ∧ lvv n (aSq a) o (m / 128) ∧ ag n (m / 128) < 60) ∧
  (∀ j, aKs a j ≤ n) ∧
  (∀ r, r < N → tRu t r = true → ∀ v, aH a r r = some v → aSq a v ≤ aKs a (272 + r)) ∧
  (∀ r, r < N → tRu t r = false → (∀ o, o < N → aH a r o = none) ∧ aMr a (272 + r) = false ∧ DR a r) ∧
  (∀ k, k < 9 → wu k = true → tcc t k = true) ∧
  (∀ q o, q < 18 → wu (q / 2) = true → o < N → Rel (tRp t q) o → aC n a (tRp t (ot q)) o ≤ aE n a (tRp t q) o ∨ snt n (aSq a) (aMb a).1 q o (aC n a (tRp t (ot q)) o)) ∧
  (∀ m o, m ∈ (aMb a).1 → wu (m % 128 / 2) = true → o < N → m / 128 / 64 = 272 + o → Rel (tRp t (m % 128)) o → cod n (aSq a) (m / 128) ≤ aC n a (tRp t (ot (m % 128))) o) ∧
  (∀ r, r < N → tRu t r = true → AW t N n wu a r) ∧
  NU n a
/-- nothing that matters is 60 ticks old in the next tick -/
def FRSH (t : TP) (N : Nat) (Rel : Nat → Nat → Prop) (n : Nat) (wu : Nat → Bool) (a : AS) : Prop :=
  (∀ u o v, u < N → o < N → Rel u o → aH a u o = some v → ag n v + 1 < 60) ∧
  (∀ m o, m ∈ (aMb a).1 → wu (m % 128 / 2) = true → o < N → m / 128 / 64 = 272 + o → Rel (tRp t (m % 128)) o → ag n (m / 128) + 1 < 60)
def CLO (t : TP) (N : Nat) (Rel : Nat → Nat → Prop) : Prop := ∀ q o, q < 18 → tcc t (q / 2) = true → o < N → Rel (tRp t q) o → Rel (tRp t (ot q)) o
theorem ex_r {t : TP} {N n ka : Nat} {a : AS} (hG : TG t N) (h1 : ∀ j v, aHd a j = some v → ∃ u o, u < N ∧ o < N ∧ j = u * 1088 + (272 + o) ∧ lvv n (aSq a) o v ∧ ag n v < 60) :
    (∀ u o v, rH (tkR t (n + 1) ka a) u o = some v ↔ aH a u o = some v ∧ ag (n + 1) v < 60) ∧
    (∀ j v, (tkR t (n + 1) ka a).2.2.2.1 j = some v → aHd a j = some v ∧ ag (n + 1) v < 60) ∧
    (∀ u, u < 16 → (tkR t (n + 1) ka a).2.2.1 (u * 4 + 1) = true ∨ ((tkR t (n + 1) ka a).2.2.1 (u * 4 + 1) = aOld a (u * 4 + 1) ∧ ∀ o, o < 16 → rH (tkR t (n + 1) ka a) u o = aH a u o)) ∧
    (∀ u, u < 16 → (tkR t (n + 1) ka a).2.2.2.2.1 u = 0 ∨ ((tkR t (n + 1) ka a).2.2.2.2.1 u = aNw a u ∧ (tkR t (n + 1) ka a).2.2.1 (u * 4 + 1) = aOld a (u * 4 + 1) ∧ ∀ o, o < 16 → rH (tkR t (n + 1) ka a) u o = aH a u o)) := by
  have hN := hG.2.1
  have hsp := exA_spec (N := N) (n := n + 1) (x0 := (aOld a, aHd a, aNw a)) hN (fun j v e => by
    obtain ⟨u, o, c1, c2, c3, c4, c5⟩ := h1 j v e
    have := ag_s (n := n) (v := v) (by omega)
    exact ⟨by omega, by omega⟩)
  obtain ⟨s1, s2, s3⟩ := hsp
  have e : tkR t (n + 1) ka a = (aKs a, aMr a, (exA N (n + 1) (aOld a, aHd a, aNw a)).1, (exA N (n + 1) (aOld a, aHd a, aNw a)).2.1, (exA N (n + 1) (aOld a, aHd a, aNw a)).2.2, e0 ka) := by
    unfold tkR tkE
    rw [hG.1]
  rw [e]
  exact ⟨fun u o v => s1 _ v, fun j v h => (s1 j v).mp h, s2, s3⟩
theorem DB_0 {t : TP} {N n ka : Nat} {Rel : Nat → Nat → Prop} {wu : Nat → Bool} {a : AS} (hG : TG t N) (h : REST t N Rel n wu ka a) : DB t N (n + 1) (aSq a) (tkR t (n + 1) ka a) := by
  obtain ⟨_, r1, _, r3, r4, r5, _⟩ := h
  obtain ⟨s1, s2, s3, s4⟩ := ex_r (ka := ka) hG r1
  refine ⟨fun j v e => ?_, (fun m hm => by cases hm), fun j => Nat.succ_le_succ (r3 j), fun r hr hup v e => r4 r hr hup v ((s1 r r v).mp e).1, fun r hr hd => ⟨fun o ho => ?_, (r5 r hr hd).2.1⟩⟩
  · obtain ⟨e1, e2⟩ := s2 j v e
    obtain ⟨u, o, c1, c2, c3, c4, c5⟩ := r1 j v e1
    have := ag_s (n := n) (v := v) (by omega)
    exact ⟨u, o, c1, c2, c3, lvv_s c4 (by omega), by omega, e2⟩
  · cases e : rH (tkR t (n + 1) ka a) r o with
    | none => rfl
    | some v =>
      have := ((s1 r o v).mp e).1
      rw [(r5 r hr hd).1 o ho] at this; cases this
theorem ML_0 {t : TP} {N n ka : Nat} {Rel : Nat → Nat → Prop} {wu : Nat → Bool} {a : AS} (h : REST t N Rel n wu ka a) : ML t N (n + 1) (aSq a) (aMb a).1 := by
  intro j hj
  obtain ⟨k1, o, k2, k3, k4⟩ := h.2.2.1 _ (get_mem hj)
  have := ag_s (n := n) (v := (aMb a).1.getD j 0 / 128) (by omega)
  exact ⟨k1, o, k2, lvv_s k3 (by omega), by omega⟩
/-- codes don't change with the clock -/
theorem rC_0 {t : TP} {N n ka : Nat} {Rel : Nat → Nat → Prop} {wu : Nat → Bool} {a : AS} (hG : TG t N) (h : REST t N Rel n wu ka a) (hf : FRSH t N Rel n wu a) {u o : Nat} (hu : u < N) (ho : o < N) (hR : Rel u o) : rC (n + 1) (aSq a) (tkR t (n + 1) ka a) u o = aC n a u o ∧ rH (tkR t (n + 1) ka a) u o = aH a u o := by
  obtain ⟨s1, _⟩ := ex_r (ka := ka) hG h.2.1
  unfold rC aC
  cases e : aH a u o with
  | none =>
    cases e2 : rH (tkR t (n + 1) ka a) u o with
    | none => exact ⟨rfl, rfl⟩
    | some w => have := ((s1 u o w).mp e2).1; rw [e] at this; cases this
  | some v =>
    have k := hf.1 u o v hu ho hR e
    have k2 := ag_s (n := n) (v := v) (by omega)
    rw [(s1 u o v).mpr ⟨e, by omega⟩]
    exact ⟨cod_s (by omega), rfl⟩
theorem rC_le {t : TP} {N n ka : Nat} {Rel : Nat → Nat → Prop} {wu : Nat → Bool} {a : AS} (hG : TG t N) (h : REST t N Rel n wu ka a) (u o : Nat) : rC (n + 1) (aSq a) (tkR t (n + 1) ka a) u o ≤ aC n a u o := by
  obtain ⟨s1, _⟩ := ex_r (ka := ka) hG h.2.1
  unfold rC aC
  cases e2 : rH (tkR t (n + 1) ka a) u o with
  | none => exact Nat.zero_le _
  | some w =>
    obtain ⟨k1, k2⟩ := (s1 u o w).mp e2
    rw [k1]
    obtain ⟨_, _, _, _, _, _, c5⟩ := h.2.1 _ _ k1
    show cod (n + 1) (aSq a) w ≤ cod n (aSq a) w
    rw [cod_s (by omega)]; exact Nat.le_refl _
theorem DI_r {t : TP} {N n ka : Nat} {Rel : Nat → Nat → Prop} {wu : Nat → Bool} {a : AS} (hG : TG t N) (hR : CLO t N Rel) (h : REST t N Rel n wu ka a) (hf : FRSH t N Rel n wu a) : DI t N (n + 1) (aSq a) wu Rel (aMb a).1 (tkR t (n + 1) ka a) 0 (tkR t (n + 1) ka a) := by
  have hcs : ∀ m, m ∈ (aMb a).1 → cod (n + 1) (aSq a) (m / 128) = cod n (aSq a) (m / 128) := fun m hm => by
    obtain ⟨_, o, _, _, k4⟩ := h.2.2.1 m hm
    exact cod_s (by omega)
  refine DI_0 rfl (fun q o hq hw ho hRq => ?_) (fun m o hm hw ho hk hRq => ?_)
  · have hc := h.2.2.2.2.2.2.1 _ (show q / 2 < 9 by omega) hw
    have hR2 := hR q o hq hc ho hRq
    have hs := rC_0 (ka := ka) hG h hf (hG.2.2.1 _ (ot18 hq)).1 ho hR2
    have hr := rC_0 (ka := ka) hG h hf (hG.2.2.1 q hq).1 ho hRq
    rw [hs.1]
    have hE : rE (n + 1) (aSq a) (tkR t (n + 1) ka a) (tRp t q) o = aE n a (tRp t q) o := by
      unfold rE aE
      rw [hr.1]
      rfl
    rw [hE]
    rcases h.2.2.2.2.2.2.2.1 q o hq hw ho hRq with k | ⟨m, m1, m2, m3, m4⟩
    · exact Or.inl k
    · exact Or.inr ⟨m, m1, m2, m3, by rw [hcs m m1]; exact m4⟩
  · have hm18 := (h.2.2.1 m hm).1
    have hc := h.2.2.2.2.2.2.1 _ (show m % 128 / 2 < 9 by omega) hw
    have hR2 := hR (m % 128) o hm18 hc ho hRq
    have hs := rC_0 (ka := ka) hG h hf (hG.2.2.1 _ (ot18 hm18)).1 ho hR2
    rw [hs.1, hcs m hm]
    exact h.2.2.2.2.2.2.2.2.1 m o hm hw ho hk hRq
/-- the delivery, whole -/
theorem DL_r {t : TP} {N n ka : Nat} {Rel : Nat → Nat → Prop} {wu : Nat → Bool} {a : AS} (hG : TG t N) (hT : TOK t) (hn : n ≤ 80) (hR : CLO t N Rel) (h : REST t N Rel n wu ka a) (hf : FRSH t N Rel n wu a) :
    ∀ i, i ≤ mL (aMb a) → DB t N (n + 1) (aSq a) (itr (dl1 t (n + 1) (aSq a) (aMb a).1) i (tkR t (n + 1) ka a)) ∧ DI t N (n + 1) (aSq a) wu Rel (aMb a).1 (tkR t (n + 1) ka a) i (itr (dl1 t (n + 1) (aSq a) (aMb a).1) i (tkR t (n + 1) ka a)) ∧
      mOK (rmb (itr (dl1 t (n + 1) (aSq a) (aMb a).1) i (tkR t (n + 1) ka a))) ∧ mL (rmb (itr (dl1 t (n + 1) (aSq a) (aMb a).1) i (tkR t (n + 1) ka a))) ≤ mL (aMb a) + 6912 := by
  intro i hi
  have hDB := DB_0 (ka := ka) hG h
  have hML := ML_0 (t := t) h
  have hlen : (aMb a).1.length + 6953 ≤ 2 ^ 20 := by have : (aMb a).1.length ≤ 11826 * n := h.1.2.2; omega
  have hcap := dl_cap hG hT (by omega) hML hDB (show (rmb (tkR t (n + 1) ka a)).1 = [] from rfl) h.1.2.1 hlen i hi
  refine ⟨DB_dl hG hML hDB i hi, DI_dl hG (by omega) hML h.2.2.2.2.2.2.1 hR (fun j o hj hw ho hk hRq => ?_) hDB (DI_r hG hR h hf) i hi, hcap.1, ?_⟩
  · have k := hf.2 _ o (get_mem hj) hw ho hk hRq
    have := ag_s (n := n) (v := (aMb a).1.getD j 0 / 128) (by omega)
    omega
  · have := phi_le (n := n + 1) (sq := aSq a) hG (itr (dl1 t (n + 1) (aSq a) (aMb a).1) i (tkR t (n + 1) ka a))
    have := hcap.2
    omega
