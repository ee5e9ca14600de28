/-! a router's turn, a tick -/
theorem ix_div {r a : Nat} (ha : a < 1088) : (r * 1088 + a) / 1088 = r := by omega
theorem ix_inj {r u a b : Nat} (ha : a < 1088) (hb : b < 1088) (h : r * 1088 + a = u * 1088 + b) : r = u ∧ a = b := by
  have h3 : r = u := by rw [← ix_div (r := r) ha, h, ix_div hb]
  subst h3
  exact ⟨rfl, Nat.add_left_cancel h⟩
theorem dsc_none {t : TP} {now r : Nat} {x : DS} (h : x.2.2.2.1 (r * 1088 + (1 * 272 + r)) = none) : due t now r x = true := by
  unfold due; rw [h]
theorem nwv_key {now r : Nat} : nwv now r / 64 = 272 + r := by unfold nwv; omega
theorem nwv_slot {now r : Nat} : nwv now r % 64 = now % 64 := by unfold nwv; omega
theorem nwv_lt {now r : Nat} (h : r < 16) : nwv now r < 69632 := by unfold nwv; omega
/-- the three ways of describeLinks -/
theorem dsc_cases (t : TP) (now r : Nat) (x : DS) :
    (due t now r x = true ∧ dsc t now r x = (fs x.1 (272 + r) (x.1 (272 + r) + 1), fs x.2.1 (272 + r) false, rol x.2.2.1 r (272 + r), fs x.2.2.2.1 (r * 1088 + (272 + r)) (some (nwv now r)), fs x.2.2.2.2.1 (nwv now r) (x.1 (272 + r) + 1), dlm t (nwv now r) r x.2.2.2.2.2.1, dlo t (nwv now r) r x.2.2.2.2.2.2.1, x.2.2.2.2.2.2.2.1, flo t (nwv now r) r 1 none x.2.2.2.2.2.2.2.2)) ∨
    (∃ v, due t now r x = false ∧ x.2.2.2.1 (r * 1088 + (272 + r)) = some v ∧ dsc t now r x = (x.1, x.2.1, x.2.2.1, x.2.2.2.1, x.2.2.2.2.1, x.2.2.2.2.2.1, x.2.2.2.2.2.2.1, nrf now v r x.2.2.2.2.2.2.2.1, x.2.2.2.2.2.2.2.2)) := by
  cases hd : due t now r x with
  | true =>
    refine Or.inl ⟨rfl, ?_⟩
    rw [dsc_due hd]
    unfold org
    rw [nwv_key]
  | false =>
    refine Or.inr ?_
    cases hv : x.2.2.2.1 (r * 1088 + (1 * 272 + r)) with
    | none => rw [dsc_none hv] at hd; cases hd
    | some v => exact ⟨v, rfl, rfl, dsc_not hd hv⟩
theorem dsc_ge (t : TP) (now r : Nat) (x : DS) : x.2.2.2.2.2.2.2.2.2 ≤ (dsc t now r x).2.2.2.2.2.2.2.2.2 := by
  rcases dsc_cases t now r x with ⟨_, e⟩ | ⟨v, _, _, e⟩
  · rw [e]; exact flo_ge _ _ _ _ _ _
  · rw [e]; exact Nat.le_refl _
theorem itr_ind {σ : Type} {P : σ → Prop} {f : Nat → σ → σ} {s : σ} (h0 : P s) (hs : ∀ i s, P s → P (f i s)) : ∀ n, P (itr f n s)
  | 0 => h0
  | n + 1 => by rw [itr_s]; exact hs _ _ (itr_ind h0 hs n)
theorem dlm_le {t : TP} (hmp : ∀ j, tMp t j ≤ 1000) {v r : Nat} {lm : Nat → Nat} (h : ∀ j, lm j ≤ 1000) : ∀ j, dlm t v r lm j ≤ 1000 := by
  unfold dlm
  refine itr_ind (P := fun (f : Nat → Nat) => ∀ j, f j ≤ 1000) h (fun i f hf j => ?_) _
  unfold dsB
  split
  · by_cases q : j = tPo t (r * 40 + i) * 64 + v % 64
    · subst q; rw [fs_s]; unfold mtl; split
      · exact hmp _
      · omega
    · rw [fs_n q]; exact hf j
  · exact hf j
theorem dlo_lt {t : TP} (han : ∀ j w, tAn t j = some w → w < 2 ^ 20) {v r : Nat} {lo : Nat → Option Nat} (h : ∀ j w, lo j = some w → w < 2 ^ 20) : ∀ j w, dlo t v r lo j = some w → w < 2 ^ 20 := by
  unfold dlo
  refine itr_ind (P := fun (f : Nat → Option Nat) => ∀ j w, f j = some w → w < 2 ^ 20) h (fun i f hf j w e => ?_) _
  unfold dsC at e
  by_cases q : j = ((r * 4 + 1) * 16 + i) * 64 + v % 64
  · subst q; rw [fs_s] at e; exact han _ _ e
  · rw [fs_n q] at e; exact hf j w e
/-- the whole state of a tick: known sequences, renewals, old paths, databases, sequences, metrics, costs, next work, messages, distances, first links, kinds, costs, links, locals -/
abbrev AS : Type := (Nat → Nat) × (Nat → Bool) × (Nat → Bool) × (Nat → Option Nat) × (Nat → Nat) × (Nat → Nat) × (Nat → Option Nat) × (Nat → Nat) × MB × (Nat → Option Nat) × (Nat → Nat) × (Nat → Nat) × (Nat → Option Nat) × (Nat → Nat) × (Nat → Bool)
def aKs (x : AS) := x.1
def aMr (x : AS) := x.2.1
def aOld (x : AS) := x.2.2.1
def aHd (x : AS) := x.2.2.2.1
def aSq (x : AS) := x.2.2.2.2.1
def aLm (x : AS) := x.2.2.2.2.2.1
def aLo (x : AS) := x.2.2.2.2.2.2.1
def aNw (x : AS) := x.2.2.2.2.2.2.2.1
def aMb (x : AS) := x.2.2.2.2.2.2.2.2.1
def aDs (x : AS) := x.2.2.2.2.2.2.2.2.2.1
def aFk (x : AS) := x.2.2.2.2.2.2.2.2.2.2.1
def aKd (x : AS) := x.2.2.2.2.2.2.2.2.2.2.2.1
def aCo (x : AS) := x.2.2.2.2.2.2.2.2.2.2.2.2.1
def aLi (x : AS) := x.2.2.2.2.2.2.2.2.2.2.2.2.2.1
def aLc (x : AS) := x.2.2.2.2.2.2.2.2.2.2.2.2.2.2
noncomputable def aDsc (t : TP) (wu : Nat → Bool) (now r : Nat) (x : AS) : DS := dsc t now r (aKs x, aMr x, aOld x, aHd x, aSq x, aLm x, aLo x, fs (aNw x) r (now + 30), fnl t wu (aHd x) r (aMb x))
noncomputable def actD (t : TP) (r : Nat) (y : DS) (x : AS) : AS :=
  let z := cif t y.2.2.2.1 y.2.2.2.2.2.1 r (y.2.2.1, aDs x, aFk x)
  let w := rcp t y.2.2.2.1 y.2.2.2.2.2.2.1 z.2.1 z.2.2 r (aKd x, aCo x, aLi x, aLc x)
  (y.1, y.2.1, z.1, y.2.2.2.1, y.2.2.2.2.1, y.2.2.2.2.2.1, y.2.2.2.2.2.2.1, y.2.2.2.2.2.2.2.1, y.2.2.2.2.2.2.2.2, z.2.1, z.2.2, w.1, w.2.1, w.2.2.1, w.2.2.2)
noncomputable def act1 (t : TP) (wu : Nat → Bool) (now : Nat) (r : Nat) (x : AS) : AS :=
  if tRu t r = false then x else if now < aNw x r then x else actD t r (aDsc t wu now r x) x
theorem act1_ge (t : TP) (wu : Nat → Bool) (now r : Nat) (x : AS) : (aMb x).2 ≤ (aMb (act1 t wu now r x)).2 := by
  unfold act1
  split
  · exact Nat.le_refl _
  · split
    · exact Nat.le_refl _
    · refine Nat.le_trans (fnl_ge t wu (aHd x) r (aMb x)) ?_
      show _ ≤ (aDsc t wu now r x).2.2.2.2.2.2.2.2.2
      exact dsc_ge t now r (aKs x, aMr x, aOld x, aHd x, aSq x, aLm x, aLo x, fs (aNw x) r (now + 30), fnl t wu (aHd x) r (aMb x))
theorem act1_m (t : TP) (wu : Nat → Bool) (now : Nat) (x : AS) {i j : Nat} (h : i ≤ j) : (aMb (itr (act1 t wu now) i x)).2 ≤ (aMb (itr (act1 t wu now) j x)).2 := itr_mono (g := fun z => (aMb z).2) (fun i s => act1_ge t wu now i s) x h
/-- what the walk of a turn asks of the state -/
def aOK (now : Nat) (x : AS) : Prop := (∀ j, aKs x j < 2 ^ 20) ∧ (∀ j w, aHd x j = some w → w < 69632) ∧ (∀ j, aLm x j ≤ 1000) ∧ (∀ j w, aLo x j = some w → w < 2 ^ 20) ∧ (∀ j, aNw x j < 2 ^ 21) ∧ mOK (aMb x) ∧ mL (aMb x) + 12000 ≤ 2 ^ 20 ∧
  (∀ r v, r < 16 → aHd x (r * 1088 + (1 * 272 + r)) = some v → ag now v ≤ now) ∧ (∀ j d, aDs x j = some d → d ≤ 16000) ∧ (∀ r i n, r < 16 → i < 16 → n < 16 → aHd x (r * 1088 + (1 * 272 + 16 + i * 16 + n)) = none)
theorem dsc_hd9 {t : TP} {now r : Nat} {x : DS} (hr : r < 16) (h : ∀ j w, x.2.2.2.1 j = some w → w < 69632) : ∀ j w, (dsc t now r x).2.2.2.1 j = some w → w < 69632 := by
  intro j w e
  rcases dsc_cases t now r x with ⟨_, q⟩ | ⟨v, _, _, q⟩
  · rw [q] at e
    by_cases z : j = r * 1088 + (272 + r)
    · subst z
      have e2 : fs x.2.2.2.1 (r * 1088 + (272 + r)) (some (nwv now r)) (r * 1088 + (272 + r)) = some w := e
      rw [fs_s] at e2
      obtain rfl := Option.some.inj e2
      exact nwv_lt hr
    · exact h j w ((fs_n z).symm.trans e)
  · rw [q] at e; exact h j w e
theorem dsc_lm9 {t : TP} {now r : Nat} {x : DS} (hmp : ∀ j, tMp t j ≤ 1000) (h : ∀ j, x.2.2.2.2.2.1 j ≤ 1000) : ∀ j, (dsc t now r x).2.2.2.2.2.1 j ≤ 1000 := by
  rcases dsc_cases t now r x with ⟨_, q⟩ | ⟨v, _, _, q⟩
  · rw [q]; exact dlm_le hmp h
  · rw [q]; exact h
theorem dsc_lo9 {t : TP} {now r : Nat} {x : DS} (han : ∀ j w, tAn t j = some w → w < 2 ^ 20) (h : ∀ j w, x.2.2.2.2.2.2.1 j = some w → w < 2 ^ 20) : ∀ j w, (dsc t now r x).2.2.2.2.2.2.1 j = some w → w < 2 ^ 20 := by
  rcases dsc_cases t now r x with ⟨_, q⟩ | ⟨v, _, _, q⟩
  · rw [q]; exact dlo_lt han h
  · rw [q]; exact h
theorem dsc_ns9 {t : TP} {now r : Nat} {x : DS} (hr : r < 16) (h : ∀ u i n, u < 16 → i < 16 → n < 16 → x.2.2.2.1 (u * 1088 + (1 * 272 + 16 + i * 16 + n)) = none) : ∀ u i n, u < 16 → i < 16 → n < 16 → (dsc t now r x).2.2.2.1 (u * 1088 + (1 * 272 + 16 + i * 16 + n)) = none := by
  intro u i n hu hi hn
  rcases dsc_cases t now r x with ⟨_, q⟩ | ⟨v, _, _, q⟩
  · rw [q]; exact (fs_n (fun e => absurd (ix_inj (by omega) (by omega) e).2 (by omega))).trans (h u i n hu hi hn)
  · rw [q]; exact h u i n hu hi hn
