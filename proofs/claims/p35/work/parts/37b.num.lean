/-! bounds through the turns; routers that are down -/
theorem or_lt {a b n : Nat} (ha : a < 2 ^ n) (hb : b < 2 ^ n) : a ||| b < 2 ^ n := Nat.or_lt_two_pow ha hb
theorem go1_lt {t : TP} {hd : Nat → Option Nat} {lm : Nat → Nat} {r w x d g : Nat} (hT : TOK t) (hg : g < 2 ^ 40) {y : PS} (hy : ∀ j, y.2 j < 2 ^ 40) : ∀ n, ∀ j, (itr (go1 t hd lm r w x d g) n y).2 j < 2 ^ 40
  | 0 => hy
  | n + 1 => by
    rw [itr_s]
    have ih := go1_lt (hd := hd) (lm := lm) (r := r) (w := w) (x := x) (d := d) hT hg hy n
    generalize itr (go1 t hd lm r w x d g) n y = z at ih ⊢
    unfold go1
    split
    · exact ih
    · have hp := hT.2.2.1 (x * 40 + n)
      have hnew : (if x = r then 2 ^ (tPo t (x * 40 + n) / 2) else g) < 2 ^ 40 := by
        split
        · exact Nat.pow_lt_pow_right (by decide) (by omega)
        · exact hg
      intro j
      show ofF _ _ _ _ _ j < _
      rcases of_cases z.1 z.2 (w + tRp t (ot (tPo t (x * 40 + n)))) (d + km t hd lm r (tPo t (x * 40 + n))) (if x = r then 2 ^ (tPo t (x * 40 + n) / 2) else g) with ⟨_, _, e⟩ | ⟨_, _, e⟩ | ⟨_, _, _, _, e⟩
      · rw [e]
        by_cases q : j = w + tRp t (ot (tPo t (x * 40 + n)))
        · rw [q, fs_s]; exact hnew
        · rw [fs_n q]; exact ih j
      · rw [e]
        by_cases q : j = w + tRp t (ot (tPo t (x * 40 + n)))
        · rw [q, fs_s]; exact or_lt (ih _) hnew
        · rw [fs_n q]; exact ih j
      · rw [e]; exact ih j
theorem dj_num {t : TP} {N r : Nat} {hd : Nat → Option Nat} {lm : Nat → Nat} (hG : TG t N) (hT : TOK t) (hlm : ∀ j, lm j ≤ 1000) : ∀ n k s (y : PS), k + n ≤ 16 → bnd ((r * 4 + 1) * 16) k y.1 → (∀ j, y.2 j < 2 ^ 40) →
    (∀ j d, (dj t hd lm r ((r * 4 + 1) * 16) n s y).1 j = some d → d ≤ 16000) ∧ ∀ j, (dj t hd lm r ((r * 4 + 1) * 16) n s y).2 j < 2 ^ 40
  | 0, _, _, y, _, hb, hf => ⟨fun j d e => (hb j d e).1, hf⟩
  | n + 1, k, s, y, hk, hb, hf => by
    have hN := hG.2.1
    rw [dj]
    split
    · exact ⟨fun j d e => (hb j d e).1, hf⟩
    · next x hx =>
      rw [hG.1] at hx
      obtain ⟨h1, ⟨dx, h2⟩, _⟩ := nr_spec hx
      have hdk := (hb _ _ h2).2 (by omega) (by omega)
      rw [h2]
      have h9 := go1_i (t := t) (hd := hd) (lm := lm) (r := r) (w := (r * 4 + 1) * 16) (x := x) (d := dx) (g := y.2 ((r * 4 + 1) * 16 + x)) (k := k) hlm hdk (by omega) (fun i hi => by
        obtain ⟨k1, k2⟩ := hG.2.2.2.1 x i h1 hi
        have := (hG.2.2.1 _ k1).2.1
        rw [k2] at this; exact this) hb h2 rfl _ (Nat.le_refl _)
      exact dj_num hG hT hlm n (k + 1) _ _ (by omega) h9.1 (go1_lt hT (hf _) hf _)
theorem cpt_num {t : TP} {N r : Nat} {hd : Nat → Option Nat} {lm : Nat → Nat} {y : PS} (hG : TG t N) (hT : TOK t) (hr : r < N) (hlm : ∀ j, lm j ≤ 1000) (hb : ∀ j d, y.1 j = some d → d ≤ 16000) (hf : ∀ j, y.2 j < 2 ^ 40) : (∀ j d, (cpt t hd lm r y).1 j = some d → d ≤ 16000) ∧ ∀ j, (cpt t hd lm r y).2 j < 2 ^ 40 := by
  have hN := hG.2.1
  unfold cpt
  refine dj_num hG hT hlm _ 0 _ _ (by rw [hG.1]; omega) (djs_bnd (by omega) hb) ?_
  show ∀ j, itr (clF _) 16 y.2 j < 2 ^ 40
  refine itr_ind (P := fun (f : Nat → Nat) => ∀ j, f j < 2 ^ 40) hf (fun i f hf j => ?_) 16
  show fs f _ 0 j < _
  by_cases q : j = (r * 4 + 1) * 16 + i
  · rw [q, fs_s]; decide
  · rw [fs_n q]; exact hf j
theorem fbs_lt {t : TP} {hd lo ds : Nat → Option Nat} {fk : Nat → Nat} {r n : Nat} (hf : ∀ j, fk j < 2 ^ 40) : (fbs t hd lo ds fk r n).2.1 < 2 ^ 40 := by
  unfold fbs
  refine itr_ind (P := fun (B : BS) => B.2.1 < 2 ^ 40) (by decide) (fun i B hB => ?_) _
  unfold oa1
  split
  · split
    · exact hB
    · unfold bof
      split
      · exact hf _
      · split
        · exact hB
        · split
          · exact or_lt hB (hf _)
          · exact hf _
  · exact hB
/-- bounds -/
def NU (n : Nat) (a : AS) : Prop := (∀ j, aSq a j ≤ n) ∧ (∀ j, aLm a j ≤ 1000) ∧ (∀ j w, aLo a j = some w → w < 2 ^ 20) ∧ (∀ j, aNw a j ≤ n + 30) ∧ (∀ j d, aDs a j = some d → d ≤ 16000) ∧ (∀ j, aFk a j < 2 ^ 40) ∧ (∀ j, aLi a j < 2 ^ 40)
theorem fs_le {f : Nat → Nat} {k v B : Nat} (hf : ∀ j, f j ≤ B) (hv : v ≤ B) : ∀ j, fs f k v j ≤ B := fun j => by
  by_cases q : j = k
  · subst q; rw [fs_s]; exact hv
  · rw [fs_n q]; exact hf j
theorem NU_act {t : TP} {N n r : Nat} {wu : Nat → Bool} (hG : TG t N) (hT : TOK t) (hmp : ∀ j, tMp t j ≤ 1000) (hr : r < N) {x : AS} (hB : AB t N n r x) (h : NU n x) : NU n (act1 t wu n r x) := by
  have hc := act_cases (n := n) (wu := wu) hG hT hr x
  obtain ⟨h1, h2, h3, h4, h5, h6, h7⟩ := h
  have hks := hB.2.2.1.2 r (Nat.le_refl _)
  have han := hT.2.2.2.2.2.2
  rcases hc with ⟨e, _⟩ | ⟨hup, hnw, hF⟩
  · rw [e]; exact ⟨h1, h2, h3, h4, h5, h6, h7⟩
  · have e : act1 t wu n r x = actD t r (aDsc t wu n r x) x := by
      unfold act1
      rw [if_neg (by rw [hup]; decide), if_neg hnw]
    have hlm : ∀ j, aLm (act1 t wu n r x) j ≤ 1000 := by
      rw [e]; exact dsc_lm9 (x := (aKs x, aMr x, aOld x, aHd x, aSq x, aLm x, aLo x, fs (aNw x) r (n + 30), fnl t wu (aHd x) r (aMb x))) hmp h2
    have hlo : ∀ j w, aLo (act1 t wu n r x) j = some w → w < 2 ^ 20 := by
      rw [e]; exact dsc_lo9 (x := (aKs x, aMr x, aOld x, aHd x, aSq x, aLm x, aLo x, fs (aNw x) r (n + 30), fnl t wu (aHd x) r (aMb x))) han h3
    have hsn : (∀ j, aSq (act1 t wu n r x) j ≤ n) ∧ ∀ j, aNw (act1 t wu n r x) j ≤ n + 30 := by
      rw [e]
      show (∀ j, (aDsc t wu n r x).2.2.2.2.1 j ≤ n) ∧ ∀ j, (aDsc t wu n r x).2.2.2.2.2.2.2.1 j ≤ n + 30
      rcases dsc_cases t n r (aKs x, aMr x, aOld x, aHd x, aSq x, aLm x, aLo x, fs (aNw x) r (n + 30), fnl t wu (aHd x) r (aMb x)) with ⟨_, e2⟩ | ⟨v, _, _, e2⟩
      · have e3 : aDsc t wu n r x = _ := e2
        rw [e3]
        exact ⟨fs_le h1 (by show aKs x (272 + r) + 1 ≤ n; exact hks), fs_le h4 (Nat.le_refl _)⟩
      · have e3 : aDsc t wu n r x = _ := e2
        rw [e3]
        refine ⟨h1, ?_⟩
        show ∀ j, nrf n v r (fs (aNw x) r (n + 30)) j ≤ n + 30
        unfold nrf
        refine fs_le (fs_le h4 (Nat.le_refl _)) ?_
        rw [fs_s]; omega
    generalize act1 t wu n r x = y at hF hlm hlo hsn ⊢
    obtain ⟨_, _, _, _, _, _, _, _, _, _, _, f12, f13⟩ := hF
    have hdf : (∀ j d, aDs y j = some d → d ≤ 16000) ∧ ∀ j, aFk y j < 2 ^ 40 := by
      rcases f12 with e | ⟨_, e, _⟩
      · have e1 : aDs y = (cpt t (aHd y) (aLm y) r (aDs x, aFk x)).1 := congrArg Prod.fst e
        have e2 : aFk y = (cpt t (aHd y) (aLm y) r (aDs x, aFk x)).2 := congrArg Prod.snd e
        rw [e1, e2]
        exact cpt_num hG hT hr hlm h5 h6
      · obtain ⟨e1, e2⟩ := Prod.mk.inj e
        rw [e1, e2]; exact ⟨h5, h6⟩
    refine ⟨hsn.1, hlm, hlo, hsn.2, hdf.1, hdf.2, fun j => ?_⟩
    obtain ⟨i1, i2⟩ := rcp_i (t := t) (hd := aHd y) (lo := aLo y) (ds := aDs y) (fk := aFk y) (r := r) (aKd x, aCo x, aLi x, aLc x) 16 (Nat.le_refl _) j
    unfold rcp at f13
    rw [← f13] at i1 i2
    by_cases z : ∃ m, m < 16 ∧ j = r * 16 + m
    · obtain ⟨m, m1, m2⟩ := z
      have k := (i1 m m1 m2).2.2.1
      have k : aLi y j = _ := k
      rw [k]; exact fbs_lt hdf.2
    · have k := (i2 (fun m hm e => z ⟨m, hm, e⟩)).2.2.1
      have k : aLi y j = aLi x j := k
      rw [k]; exact h7 j
/-- a router that is down has no distances and no routes -/
def DR (a : AS) (r : Nat) : Prop := (∀ v, v < 16 → aDs a ((r * 4 + 1) * 16 + v) = none) ∧ aKd a (r * 16 + 7) = 0 ∧ aLi a (r * 16 + 7) = 0 ∧ aLc a (r * 16 + 7) = false
theorem DR_act {t : TP} {N n r u : Nat} {wu : Nat → Bool} (hG : TG t N) (hT : TOK t) (hr : r < N) (hd : tRu t u = false) {x : AS} (h : DR x u) : DR (act1 t wu n r x) u := by
  have hN := hG.2.1
  rcases act_cases (n := n) (wu := wu) hG hT hr x with ⟨e, _⟩ | ⟨hup, _, hF⟩
  · rw [e]; exact h
  · have hne : u ≠ r := fun e => by rw [e, hup] at hd; cases hd
    generalize act1 t wu n r x = y at hF ⊢
    obtain ⟨_, _, _, _, _, _, _, _, _, _, _, f12, f13⟩ := hF
    obtain ⟨h1, h2, h3, h4⟩ := h
    obtain ⟨a1, a2, a3, a4⟩ := (rcp_i (t := t) (hd := aHd y) (lo := aLo y) (ds := aDs y) (fk := aFk y) (r := r) (aKd x, aCo x, aLi x, aLc x) 16 (Nat.le_refl _) (u * 16 + 7)).2 (fun m hm => by omega)
    unfold rcp at f13
    rw [← f13] at a1 a2 a3 a4
    refine ⟨fun v hv => ?_, a1.trans h2, a3.trans h3, a4.trans h4⟩
    rcases f12 with e | ⟨_, e, _⟩
    · have e1 : aDs y = (cpt t (aHd y) (aLm y) r (aDs x, aFk x)).1 := congrArg Prod.fst e
      rw [e1]
      exact (cpt_out (t := t) (hd := aHd y) (lm := aLm y) (r := r) (j := (u * 4 + 1) * 16 + v) hT.2.1 (by omega) (by omega) (aDs x, aFk x)).1.trans (h1 v hv)
    · rw [(Prod.mk.inj e).1]; exact h1 v hv
/-- how many messages the turns send -/
theorem act_cap {t : TP} {N n : Nat} {wu : Nat → Bool} (hG : TG t N) (hT : TOK t) {x : AS} (h : mOK (aMb x)) (hL : mL (aMb x) + 18000 ≤ 2 ^ 20) : ∀ i, i ≤ N → mOK (aMb (itr (act1 t wu n) i x)) ∧ mL (aMb (itr (act1 t wu n) i x)) ≤ mL (aMb x) + 273 * ssm (tPc t) i
  | 0, _ => ⟨h, Nat.le_refl _⟩
  | i + 1, hi => by
    obtain ⟨k1, k2⟩ := act_cap hG hT h hL i (by omega)
    rw [itr_s, ssm_s]
    generalize itr (act1 t wu n) i x = z at k1 k2 ⊢
    have hs : ssm (tPc t) i ≤ 18 := by
      have h9 : ∀ k, i + k ≤ N → ssm (tPc t) i ≤ ssm (tPc t) (i + k) := fun k => by
        induction k with
        | zero => intro _; exact Nat.le_refl _
        | succ k ih => intro hk; rw [← Nat.add_assoc, ssm_s]; have := ih (by omega); omega
      have := h9 (N - i) (by omega)
      rw [show i + (N - i) = N by omega] at this
      exact Nat.le_trans this hG.2.2.2.2.2
    rcases act_cases (n := n) (wu := wu) hG hT (show i < N by omega) z with ⟨e, _⟩ | ⟨_, _, hF⟩
    · rw [e]; exact ⟨k1, by omega⟩
    · obtain ⟨_, _, _, _, _, _, _, _, _, _, f11, _, _⟩ := hF
      obtain ⟨a1, a2⟩ := f11 k1 (by omega)
      exact ⟨a1, by omega⟩
