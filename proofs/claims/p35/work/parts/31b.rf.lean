/-! what one message changes -/
theorem rol_r {old : Nat → Bool} {r o : Nat} (ho : o < 16) : rol old r (272 + o) = fs old (r * 4 + 1) true := by
  unfold rol
  have e1 : (272 + o) / 272 = 1 := by omega
  rw [e1, if_pos (by omega)]
def RF (t : TP) (N n : Nat) (sq : Nat → Nat) (v q o : Nat) (x y : RS) : Prop :=
  (∀ u o2, u < N → o2 < N → rC n sq x u o2 ≤ rC n sq y u o2) ∧
  (∀ u o2, u < N → o2 < N → rE n sq x u o2 ≤ rE n sq y u o2) ∧
  cod n sq v ≤ rE n sq y (tRp t q) o ∧
  (∀ m, m ∈ (rmb x).1 → m ∈ (rmb y).1) ∧
  (∀ u o2, u < N → o2 < N → rH y u o2 = rH x u o2 ∨ (u = tRp t q ∧ o2 = o ∧ u ≠ o ∧ rH y u o2 = some v ∧ rC n sq x u o2 ≤ cod n sq v ∧ ∀ q2, q2 < 18 → tRp t (ot q2) = u → q2 ≠ ot q → tcc t (q2 / 2) = true → v * 128 + q2 ∈ (rmb y).1)) ∧
  (∀ m, m ∈ (rmb y).1 → m ∈ (rmb x).1 ∨ (m % 128 < 18 ∧ tRp t (ot (m % 128)) = tRp t q ∧ m / 128 / 64 = 272 + o ∧ rH y (tRp t q) o = some (m / 128) ∧ tcc t (m % 128 / 2) = true ∧ rH x (tRp t q) o ≠ some v)) ∧
  (∀ u, u < N → y.2.2.2.2.1 u = 0 ∨ (y.2.2.2.2.1 u = x.2.2.2.2.1 u ∧ (∀ o2, o2 < N → rH y u o2 = rH x u o2) ∧ y.2.1 (272 + u) = x.2.1 (272 + u) ∧ y.1 (272 + u) = x.1 (272 + u) ∧ y.2.2.1 (u * 4 + 1) = x.2.2.1 (u * 4 + 1))) ∧
  (∀ u, u < N → y.2.2.1 (u * 4 + 1) = true ∨ (y.2.2.1 (u * 4 + 1) = x.2.2.1 (u * 4 + 1) ∧ ∀ o2, o2 < N → rH y u o2 = rH x u o2)) ∧
  (∀ j, x.1 j ≤ y.1 j)
theorem rE_max {n : Nat} {sq : Nat → Nat} {x y : RS} {u o : Nat} (h1 : rC n sq x u o ≤ rC n sq y u o) (h2 : x.2.1 (272 + o) = true → y.2.1 (272 + o) = true) (h3 : x.1 (272 + o) ≤ y.1 (272 + o)) : rE n sq x u o ≤ rE n sq y u o := by
  unfold rE
  by_cases hx : u = o ∧ x.2.1 (272 + o) = true
  · rw [if_pos hx, if_pos ⟨hx.1, h2 hx.2⟩]; omega
  · rw [if_neg hx]; omega
theorem rcv_RF {t : TP} {N n : Nat} {sq : Nat → Nat} (hG : TG t N) (hn : n < 128) {v q o : Nat} {x : RS} (h : DB t N n sq x) (hm : msgOK t N n sq v q o) : RF t N n sq v q o x (rcv t n sq v q x) := by
  obtain ⟨m1, m2, m3, m4, m5, m6⟩ := hm
  have hN : N ≤ 6 := hG.2.1
  have hr : tRp t q < N := (hG.2.2.1 q m1).1
  have hv : v / 64 = 272 + o := m4.1
  have hage : n - ag n v ≤ 127 := by omega
  rcases rcv_cases t n sq (q := q) x hv with ⟨hw, e⟩ | ⟨w, hw, hwv, hnw, e⟩ | ⟨hw, hor, e⟩ | ⟨hw, hor, e⟩
  · rw [e]
    refine ⟨fun _ _ _ _ => Nat.le_refl _, fun _ _ _ _ => Nat.le_refl _, ?_, fun _ h => h, fun _ _ _ _ => Or.inl rfl, fun _ h => Or.inl h, fun _ _ => Or.inr ⟨rfl, fun _ _ => rfl, rfl, rfl, rfl⟩, fun _ _ => Or.inr ⟨rfl, fun _ _ => rfl⟩, fun _ => Nat.le_refl _⟩
    unfold rE rC
    rw [hw]
    exact Nat.le_max_left _ _
  · rw [e]
    have k := DB_h hN h m3 hr hw
    have hc := (nwr_iff hn (by have := k.1.2.1; omega) (by have := m4.2.1; omega)).mp hnw
    refine ⟨fun _ _ _ _ => Nat.le_refl _, fun _ _ _ _ => Nat.le_refl _, ?_, fun m hm => mem_put.mpr (Or.inl hm), fun _ _ _ _ => Or.inl rfl, fun m hm => ?_, fun _ _ => Or.inr ⟨rfl, fun _ _ => rfl, rfl, rfl, rfl⟩, fun _ _ => Or.inr ⟨rfl, fun _ _ => rfl⟩, fun _ => Nat.le_refl _⟩
    · have e9 : rC n sq x (tRp t q) o = cod n sq w := by unfold rC; rw [hw]; rfl
      show cod n sq v ≤ max (rC n sq x (tRp t q) o) _
      rw [e9]
      omega
    · rcases mem_put.mp hm with hm | rfl
      · exact Or.inl hm
      · refine Or.inr ?_
        have hq := ot18 m1
        rw [m_div _ _ (by omega), m_mod _ _ (by omega), ot_ot]
        exact ⟨hq, rfl, k.1.1, hw, by rw [ot_div]; exact m2, fun z => hwv (Option.some.inj (hw.symm.trans z))⟩
  · rw [e]
    have hks : ∀ j, x.1 j ≤ fs x.1 (272 + o) (max (x.1 (272 + o)) (sq v)) j := fun j => by
      by_cases z : j = 272 + o
      · subst z; rw [fs_s]; omega
      · rw [fs_n z]; exact Nat.le_refl _
    refine ⟨fun _ _ _ _ => Nat.le_refl _, fun u o2 _ _ => ?_, ?_, fun _ h => h, fun _ _ _ _ => Or.inl rfl, fun _ h => Or.inl h, fun u hu => ?_, fun _ _ => Or.inr ⟨rfl, fun _ _ => rfl⟩, hks⟩
    · refine rE_max (Nat.le_refl _) (fun z => ?_) (hks _)
      show fs x.2.1 (272 + o) true (272 + o2) = true
      by_cases q9 : o2 = o
      · subst q9; exact fs_s
      · rw [fs_n (by omega)]; exact z
    · show cod n sq v ≤ max _ (if tRp t q = o ∧ fs x.2.1 (272 + o) true (272 + o) = true then fs x.1 (272 + o) (max (x.1 (272 + o)) (sq v)) (272 + o) * 128 + 127 else 0)
      rw [fs_s, fs_s, if_pos ⟨hor.symm, rfl⟩]
      unfold cod
      omega
    · by_cases z : u = tRp t q
      · subst z; exact Or.inl fs_s
      · exact Or.inr ⟨fs_n z, fun _ _ => rfl, fs_n (by omega), fs_n (by omega), rfl⟩
  · rw [e]
    have hc : rC n sq x (tRp t q) o ≤ cod n sq v := by
      unfold rC
      cases hw2 : rH x (tRp t q) o with
      | none => exact Nat.zero_le _
      | some w =>
        have k := DB_h hN h m3 hr hw2
        have h9 := (hw w hw2).2
        rcases Nat.lt_or_ge (cod n sq v) (cod n sq w) with z | z
        · rw [(nwr_iff hn (by have := k.1.2.1; omega) (by have := m4.2.1; omega)).mpr z] at h9; cases h9
        · exact z
    have hH : ∀ u o2, o2 < N → rH (x.1, x.2.1, rol x.2.2.1 (tRp t q) (272 + o), fs x.2.2.2.1 (tRp t q * 1088 + (272 + o)) (some v), fs x.2.2.2.2.1 (tRp t q) 0, flo t v (tRp t q) 1 (some q) x.2.2.2.2.2) u o2 = if u = tRp t q ∧ o2 = o then some v else rH x u o2 := fun u o2 h2 => rH_fs (by omega) (by omega)
    have hmono : ∀ u o2, o2 < N → rC n sq x u o2 ≤ rC n sq (x.1, x.2.1, rol x.2.2.1 (tRp t q) (272 + o), fs x.2.2.2.1 (tRp t q * 1088 + (272 + o)) (some v), fs x.2.2.2.2.1 (tRp t q) 0, flo t v (tRp t q) 1 (some q) x.2.2.2.2.2) u o2 := fun u o2 h2 => by
      show _ ≤ cdo n sq (rH _ u o2)
      rw [hH u o2 h2]
      split
      · next z => rw [z.1, z.2]; exact hc
      · exact Nat.le_refl _
    refine ⟨fun u o2 _ h2 => hmono u o2 h2, fun u o2 _ h2 => rE_max (hmono u o2 h2) (fun z => z) (Nat.le_refl _), ?_, fun m hm => (mem_flo hG hr).mpr (Or.inl hm), fun u o2 _ h2 => ?_, fun m hm => ?_, fun u hu => ?_, fun u hu => ?_, fun _ => Nat.le_refl _⟩
    · unfold rE rC
      rw [hH _ _ m3, if_pos ⟨rfl, rfl⟩]
      exact Nat.le_max_left _ _
    · by_cases z : u = tRp t q ∧ o2 = o
      · refine Or.inr ⟨z.1, z.2, fun z2 => hor (by rw [← z2, z.1]), (hH u o2 h2).trans (if_pos z), by rw [z.1, z.2]; exact hc, fun q2 a1 a2 a3 a4 => ?_⟩
        refine (mem_flo hG hr).mpr (Or.inr ⟨q2, a1, by rw [a2, z.1], fun z3 => a3 ?_, a4, rfl⟩)
        rw [← Option.some.inj z3, ot_ot]
      · exact Or.inl ((hH u o2 h2).trans (if_neg z))
    · rcases (mem_flo hG hr).mp hm with hm | ⟨q2, a1, a2, a3, a4, rfl⟩
      · exact Or.inl hm
      · refine Or.inr ?_
        rw [m_div _ _ (by omega), m_mod _ _ (by omega)]
        exact ⟨a1, a2, hv, (hH _ _ m3).trans (if_pos ⟨rfl, rfl⟩), a4, fun z => (hw v z).1 rfl⟩
    · by_cases z : u = tRp t q
      · subst z; exact Or.inl fs_s
      · refine Or.inr ⟨fs_n z, fun o2 h2 => (hH u o2 h2).trans (if_neg (fun z2 => z z2.1)), rfl, rfl, ?_⟩
        show rol x.2.2.1 (tRp t q) (272 + o) (u * 4 + 1) = _
        rw [rol_r (by omega), fs_n (by omega)]
    · by_cases z : u = tRp t q
      · subst z
        refine Or.inl ?_
        show rol x.2.2.1 (tRp t q) (272 + o) (tRp t q * 4 + 1) = true
        rw [rol_r (by omega), fs_s]
      · refine Or.inr ⟨?_, fun o2 h2 => (hH u o2 h2).trans (if_neg (fun z2 => z z2.1))⟩
        show rol x.2.2.1 (tRp t q) (272 + o) (u * 4 + 1) = _
        rw [rol_r (by omega), fs_n (by omega)]
