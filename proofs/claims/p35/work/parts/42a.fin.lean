/-! what holds in the end -/
/-- the usable links, with their metrics -/
def gw9 (t : TP) (q : Nat) : Nat := if tcc t (q / 2) = true then tMp t q else 0
theorem own_says {t : TP} {N n : Nat} {a : AS} (hG : TG t N) (h : FIN t N n a) {u o : Nat} (hu : u < N) (ho : o < N) (hup : tRu t o = true) (hc : conn t o u) : ∃ X, aH a u o = some X ∧ utb t (aLm a) (aLo a) X o 1 = true := by
  obtain ⟨⟨_, hQ, _, _⟩, _, _⟩ := h
  obtain ⟨K, _, q1, _, q3, _⟩ := hQ o ho hup
  obtain ⟨X, x1, x2, _⟩ := q3 5 u (Nat.le_refl _) (Nat.le_refl _) hu hc
  exact ⟨X, x1, q1 X (Or.inl ⟨u, hu, hc, x1⟩) x2⟩
theorem utb_q {t : TP} {N X o q : Nat} {lm : Nat → Nat} {lo : Nat → Option Nat} (hG : TG t N) (h : utb t lm lo X o 1 = true) (hq : q < 18) (ho : tRp t q = o) : lm (q * 64 + X % 64) = gw9 t q := by
  rw [utb_true] at h
  obtain ⟨i, hi, he⟩ := hG.2.2.2.2.1 q hq
  rw [ho] at hi he
  have := h.1 i hi (by rw [he]; exact (hG.2.2.1 q hq).2.2)
  rw [he] at this
  rw [this]
  rfl
/-- what a router knows of the connections in its part of the net is what is -/
theorem km_fin {t : TP} {N n : Nat} {a : AS} (hG : TG t N) (hmp : ∀ q, q < 18 → 1 ≤ tMp t q) (h : FIN t N n a) {r q : Nat} (hr : r < N) (hq : q < 18) (hc : conn t r (tRp t q)) (hup : tRu t (tRp t q) = true) : km t (aHd a) (aLm a) r q = gw9 t q := by
  have h1 := (hG.2.2.1 q hq).1
  have h2 := (hG.2.2.1 _ (ot18 hq)).1
  obtain ⟨X, x1, x2⟩ := own_says hG h hr h1 hup (conn_sym hc)
  have e1 := utb_q hG x2 hq rfl
  unfold km
  rw [show r * 1088 + (1 * 272 + tRp t q) = r * 1088 + (272 + tRp t q) by omega, show r * 1088 + (1 * 272 + tRp t (ot q)) = r * 1088 + (272 + tRp t (ot q)) by omega]
  rw [show aHd a (r * 1088 + (272 + tRp t q)) = some X from x1]
  by_cases z : tcc t (q / 2) = true
  · obtain ⟨Y, y1, y2⟩ := own_says hG h hr h2 (tcc_up z).2 (conn_sym (conn_s2 hG hr hq z hc))
    rw [show aHd a (r * 1088 + (272 + tRp t (ot q))) = some Y from y1]
    dsimp only
    have e2 := utb_q hG y2 (ot18 hq) rfl
    have e3 : gw9 t (ot q) = tMp t (ot q) := by unfold gw9; rw [ot_div, if_pos z]
    have := hmp _ (ot18 hq)
    rw [if_neg (by omega), e1]
  · have e3 : gw9 t q = 0 := by unfold gw9; rw [if_neg z]
    cases aHd a (r * 1088 + (272 + tRp t (ot q))) with
    | none => exact e3.symm
    | some Y =>
      dsimp only
      split
      · exact e3.symm
      · exact e1
theorem FIN_D {t : TP} {N n : Nat} {a : AS} (hG : TG t N) (hmp : ∀ q, q < 18 → 1 ≤ tMp t q) (h : FIN t N n a) {r : Nat} (hr : r < N) (hup : tRu t r = true) :
    SP t N (gw9 t) r (row ((r * 4 + 1) * 16) (aDs a)) (row ((r * 4 + 1) * 16) (aFk a)) ∧ ∀ v e, v < N → row ((r * 4 + 1) * 16) (aDs a) v = some e → conn t r v ∧ tRu t v = true := by
  obtain ⟨⟨_, _, _, _, _, _, hP, _⟩, _⟩ := h.2.1 r hr hup
  unfold FPR at hP
  obtain ⟨p1, p2, p3, p4⟩ := hP
  have hconn : ∀ m v e, e ≤ m → v < N → row ((r * 4 + 1) * 16) (aDs a) v = some e → conn t r v ∧ tRu t v = true := by
    intro m
    induction m with
    | zero =>
      intro v e he hv hd
      by_cases z : v = r
      · rw [z]; exact ⟨conn_rfl r, hup⟩
      · obtain ⟨q, d, a1, a2, a3, a4, a5⟩ := p3 v e hv z hd
        omega
    | succ m ih =>
      intro v e he hv hd
      by_cases z : v = r
      · rw [z]; exact ⟨conn_rfl r, hup⟩
      · obtain ⟨q, d, a1, a2, a3, a4, a5⟩ := p3 v e hv z hd
        obtain ⟨k1, k2⟩ := ih (tRp t q) d (by omega) (hG.2.2.1 q a1).1 a4
        have e9 := km_fin hG hmp h hr a1 k1 k2
        have hc : tcc t (q / 2) = true := by
          cases e : tcc t (q / 2) with
          | true => rfl
          | false =>
            exfalso
            apply a2
            rw [e9]; unfold gw9; rw [if_neg (by rw [e]; decide)]
        rw [← a3]
        exact ⟨conn_s2 hG hr a1 hc k1, (tcc_up hc).2⟩
  have hkm : ∀ q, q < 18 → conn t r (tRp t q) → tRu t (tRp t q) = true → km t (aHd a) (aLm a) r q = gw9 t q := fun q hq hc hu => km_fin hG hmp h hr hq hc hu
  refine ⟨⟨p1, fun q d hq hg hd => ?_, fun v e hv hvr he => ?_, fun v e hv hvr he => ?_⟩, fun v e hv he => hconn e v e (Nat.le_refl _) hv he⟩
  · obtain ⟨k1, k2⟩ := hconn d _ d (Nat.le_refl _) (hG.2.2.1 q hq).1 hd
    rw [← hkm q hq k1 k2] at hg ⊢
    exact p2 q d hq hg hd
  · obtain ⟨q, d, a1, a2, a3, a4, a5⟩ := p3 v e hv hvr he
    obtain ⟨k1, k2⟩ := hconn d _ d (Nat.le_refl _) (hG.2.2.1 q a1).1 a4
    rw [hkm q a1 k1 k2] at a2 a5
    exact ⟨q, d, a1, a2, a3, a4, a5⟩
  · obtain ⟨b1, b2⟩ := p4 v e hv hvr he
    refine ⟨b1, fun k hk => ?_⟩
    obtain ⟨q, n9, c, a1, a2, a3, a4, a5, a6⟩ := b2 k hk
    rw [hkm q a1 (by rw [a3]; exact conn_rfl r) (by rw [a3]; exact hup)] at a4 a6
    have hcq : tcc t (q / 2) = true := by
      cases e : tcc t (q / 2) with
      | true => rfl
      | false => exfalso; apply a4; unfold gw9; rw [if_neg (by rw [e]; decide)]
    have hy : conn t r (tRp t (ot q)) ∧ tRu t (tRp t (ot q)) = true := ⟨conn_s2 hG hr a1 hcq (by rw [a3]; exact conn_rfl r), (tcc_up hcq).2⟩
    have hwk : ∀ m b c, wk t (km t (aHd a) (aLm a) r) (tRp t (ot q)) m b c → wk t (gw9 t) (tRp t (ot q)) m b c ∧ conn t r b ∧ tRu t b = true := by
      intro m
      induction m with
      | zero => intro b c hw; exact ⟨hw, by rw [← hw.1]; exact hy.1, by rw [← hw.1]; exact hy.2⟩
      | succ m ih =>
        intro b c ⟨p, d, w1, w2, w3, w4, w5⟩
        obtain ⟨g1, g2, g3⟩ := ih _ _ w4
        rw [hkm p w1 g2 g3] at w2 w5
        have hcp : tcc t (p / 2) = true := by
          cases e : tcc t (p / 2) with
          | true => rfl
          | false => exfalso; apply w2; unfold gw9; rw [if_neg (by rw [e]; decide)]
        exact ⟨⟨p, d, w1, w2, w3, g1, w5⟩, by rw [← w3]; exact conn_s2 hG hr w1 hcp g2, by rw [← w3]; exact (tcc_up hcp).2⟩
    exact ⟨q, n9, c, a1, a2, a3, a4, (hwk _ _ _ a5).1, a6⟩
theorem ix_1 (u i : Nat) : u * 1088 + (1 * 272 + i) = u * 1088 + (272 + i) := by omega
theorem ix_2 {i o : Nat} (h : 272 + i = 272 + o) : i = o := Nat.add_left_cancel h
/-- if nothing is on the way, connected routers have the same databases -/
theorem FIN_A {t : TP} {N n : Nat} {a : AS} (hG : TG t N) (hn : n < 100) (h : FIN t N n a) (hq : (aMb a).1 = []) {r v : Nat} (hr : r < N) (hv : v < N) (hc : conn t r v) : ∀ i, i < 272 → aHd a (r * 1088 + (1 * 272 + i)) = aHd a (v * 1088 + (1 * 272 + i)) := by
  have hN := hG.2.1
  obtain ⟨_, hQ, wu, ka, hR, hw⟩ := h
  have hE : ∀ w o, w < N → o < N → aE n a w o = aC n a w o := fun w o hw2 ho => by
    unfold aE
    have : ¬ (w = o ∧ aMr a (272 + o) = true) := fun ⟨_, z2⟩ => by
      cases e : tRu t o with
      | true =>
        obtain ⟨⟨v, _, _, _, q, _⟩, _⟩ := hQ o ho e
        rw [q] at z2; cases z2
      | false => rw [(hR.2.2.2.2.2.1 o ho e).2.1] at z2; cases z2
    rw [if_neg this]; omega
  have hle : ∀ q o, q < 18 → tcc t (q / 2) = true → o < N → aC n a (tRp t (ot q)) o ≤ aC n a (tRp t q) o := fun q o hq2 hc2 ho => by
    rcases hR.2.2.2.2.2.2.2.1 q o hq2 (by rw [hw _ (by omega)]; exact hc2) ho trivial with k | ⟨m, m1, _⟩
    · rw [hE _ _ (hG.2.2.1 q hq2).1 ho] at k; exact k
    · rw [hq] at m1; cases m1
  have hcc : ∀ d v, rch t r d v → ∀ o, o < N → aC n a r o = aC n a v o := by
    intro d
    induction d with
    | zero => intro v hv o _; have hv : r = v := hv; rw [hv]
    | succ d ih =>
      intro v hv o ho
      rcases hv with hv | ⟨q, h1, h2, h3, h4⟩
      · exact ih v hv o ho
      · have e1 := hle q o h1 h2 ho
        have e2 := hle (ot q) o (ot18 h1) (by rw [ot_div]; exact h2) ho
        rw [ot_ot] at e2
        rw [← h3, ih _ h4 o ho]; omega
  intro i hi
  have hsome : ∀ u w, u < N → (∀ o, o < N → aC n a u o = aC n a w o) → ∀ X, aH a u i = some X → aH a w i = some X := fun u w hu he X hX => by
    obtain ⟨u2, o, c1, c2, c3, c4, c5⟩ := hR.2.1 _ _ hX
    have hio : i = o := ix_2 (ix_inj (by omega) (by omega) c3).2
    subst hio
    have e := he i c2
    have hp := cod_pos c4
    unfold aC at e
    rw [hX] at e
    cases hY : aH a w i with
    | none =>
      rw [hY] at e
      have e : cod n (aSq a) X = 0 := e
      omega
    | some Y =>
      rw [hY] at e
      obtain ⟨_, o2, _, d2, d3, d4, _⟩ := hR.2.1 _ _ hY
      have : i = o2 := ix_2 (ix_inj (by omega) (by omega) d3).2
      subst this
      rw [cod_inj (sq := aSq a) (by omega) (c4.1.trans d4.1.symm) (by have := c4.2.1; omega) (by have := d4.2.1; omega) e]
  rw [ix_1, ix_1]
  show aH a r i = aH a v i
  cases e1 : aH a r i with
  | some X => exact (hsome r v hr (fun o ho => hcc 5 v hc o ho) X e1).symm
  | none =>
    cases e2 : aH a v i with
    | none => rfl
    | some Y =>
      have := hsome v r hv (fun o ho => (hcc 5 v hc o ho).symm) Y e2
      rw [e1] at this; cases this
