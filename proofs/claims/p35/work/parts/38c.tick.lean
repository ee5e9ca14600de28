/-! a tick, whole -/
theorem rm_all {ru lu : Nat → Bool} {rp : Nat → Nat} {w : Nat → Bool} : ∀ n k, itr (rmB ru lu rp) n w k = if k < n then cc ru lu rp k else w k
  | 0, k => by rw [if_neg (Nat.not_lt_zero k)]; rfl
  | n + 1, k => by
    rw [itr_s]
    have ih := rm_all (ru := ru) (lu := lu) (rp := rp) (w := w) n k
    generalize itr (rmB ru lu rp) n w = z at ih ⊢
    unfold rmB
    by_cases h : k = n
    · subst h; rw [fs_s, if_pos (Nat.lt_succ_self k)]
    · rw [fs_n h, ih]
      by_cases h2 : k < n
      · rw [if_pos h2, if_pos (by omega)]
      · rw [if_neg h2, if_neg (by omega)]
/-- where a version at router u comes from, over a tick -/
def org9 (t : TP) (n : Nat) (a : AS) (u o v : Nat) : Prop := aH a u o = some v ∨ (∃ m, m ∈ (aMb a).1 ∧ m % 128 < 18 ∧ tRp t (m % 128) = u ∧ tcc t (m % 128 / 2) = true ∧ m / 128 = v) ∨ (u = o ∧ v = nwv (n + 1) o)
/-- what a tick does, from state a at clock n to state b -/
def TF (t : TP) (N : Nat) (Rel : Nat → Nat → Prop) (n : Nat) (wu : Nat → Bool) (a b : AS) : Prop :=
  (∀ u o, u < N → o < N → Rel u o → aC n a u o ≤ aC (n + 1) b u o) ∧
  (∀ q o, q < 18 → wu (q / 2) = true → o < N → Rel (tRp t q) o → aC n a (tRp t (ot q)) o ≤ aC (n + 1) b (tRp t q) o) ∧
  (∀ u o v, u < N → o < N → aH b u o = some v → org9 t n a u o v ∧ (u = o → aH a u o = some v ∨ v = nwv (n + 1) o)) ∧
  (∀ m o, m ∈ (aMb b).1 → o < N → m / 128 / 64 = 272 + o → tcc t (m % 128 / 2) = true ∧ cod (n + 1) (aSq b) (m / 128) ≤ aC (n + 1) b (tRp t (ot (m % 128))) o ∧ (Rel (tRp t (ot (m % 128))) o → aC n a (tRp t (ot (m % 128))) o ≤ cod (n + 1) (aSq b) (m / 128)) ∧ org9 t n a (tRp t (ot (m % 128))) o (m / 128) ∧ (m / 128 = nwv (n + 1) o → aH b o o = some (nwv (n + 1) o))) ∧
  ((∀ w, (∀ r, r < N → w ≠ nwv (n + 1) r) → aSq b w = aSq a w) ∧ (∀ r, r < N → aH b r r = some (nwv (n + 1) r) → aKs a (272 + r) + 1 ≤ aSq b (nwv (n + 1) r)) ∧ ∀ j, aKs a j ≤ aKs b j) ∧
  (∀ r, r < N → tRu t r = true → QR t N (n + 1) b r) ∧
  ((∀ j, j % 64 ≠ (n + 1) % 64 → aLm b j = aLm a j) ∧ ∀ j, j % 64 ≠ (n + 1) % 64 → aLo b j = aLo a j) ∧
  (∀ q o, q < 18 → tcc t (q / 2) = true → o < N → Rel (tRp t q) o → aC (n + 1) b (tRp t (ot q)) o ≤ aC (n + 1) b (tRp t q) o ∨ snt (n + 1) (aSq b) (aMb b).1 q o (aC (n + 1) b (tRp t (ot q)) o))
theorem src_org {t : TP} {N n ka : Nat} {a : AS} {u o v : Nat} (hG : TG t N) (h1 : ∀ j v, aHd a j = some v → ∃ u o, u < N ∧ o < N ∧ j = u * 1088 + (272 + o) ∧ lvv n (aSq a) o v ∧ ag n v < 60) (h : src t (tkR t (n + 1) ka a) (aMb a).1 (aMb a).1.length u o v) : org9 t n a u o v := by
  rcases h with h | ⟨j, j1, j2, j3, j4, j5, j6, j7⟩
  · exact Or.inl (((ex_r (ka := ka) hG h1).1 u o v).mp h).1
  · exact Or.inr (Or.inl ⟨_, get_mem j2, j3, j4, j5, j6⟩)
theorem TICK {t : TP} {N n ka : Nat} {Rel : Nat → Nat → Prop} {wu : Nat → Bool} {a : AS} (hG : TG t N) (hT : TOK t) (hmp : ∀ j, tMp t j ≤ 1000) (hn : n ≤ 80) (hR : CLO t N Rel) (h : REST t N Rel n wu ka a) (hf : FRSH t N Rel n wu a) :
    REST t N Rel (n + 1) (itr (rmB (tRu t) (tLu t) (tRp t)) 9 wu) (aMb a).2 (tkA t wu (n + 1) ka a) ∧ tkOK t (n, wu, ka, a) ∧ TF t N Rel n wu a (tkA t wu (n + 1) ka a) := by
  have hN := hG.2.1
  have hmL := h.1.2.2
  obtain ⟨m1, m2, m3, m4, m5, m6, m7⟩ := MID hG hT hn hR h hf
  have hall := TURNS (n := n + 1) hG hT hmp (by omega) (by omega) m1 m2 m3 m4 m5
  have hcap := fun i hi => act_cap (n := n + 1) (wu := wu) hG hT m6 (show mL (aMb (tkB t (n + 1) ka a)) + 18000 ≤ 2 ^ 20 by omega) i hi
  have htA : tkA t wu (n + 1) ka a = itr (act1 t wu (n + 1)) N (tkB t (n + 1) ka a) := by unfold tkA; rw [hG.1]
  have hDL := DL_r hG hT hn hR h hf
  have hsum : ∀ i, i ≤ N → ssm (tPc t) i ≤ 18 := fun i hi => by
    have h9 : ∀ k, i + k ≤ N → ssm (tPc t) i ≤ ssm (tPc t) (i + k) := fun k => by
      induction k with
      | zero => intro _; exact Nat.le_refl _
      | succ k ih => intro hk; rw [← Nat.add_assoc, ssm_s]; have := ih (by omega); omega
    have := h9 (N - i) (by omega)
    rw [show i + (N - i) = N by omega] at this
    exact Nat.le_trans this hG.2.2.2.2.2
  have hOK : tkOK t (n, wu, ka, a) := by
    refine ⟨show n + 1 < 2 ^ 20 by omega, fun j => Nat.lt_of_le_of_lt (h.2.2.2.2.2.2.2.2.2.2.1 j) (by omega), fun j w e => ?_, h.1.1, show mL (aMb a) < 2 ^ 20 by omega, fun i hi => ?_, fun i hi => ?_, fun i hi => ?_⟩
    · obtain ⟨u, o, c1, c2, c3, c4, c5⟩ := h.2.1 j w e
      have := c4.1; omega
    · obtain ⟨k1, o, k2, k3, k4⟩ := h.2.2.1 _ (get_mem hi)
      have := k3.1
      show (aMb a).1.getD i 0 < 2 ^ 24 ∧ (aMb a).1.getD i 0 / 128 < 69632 ∧ (aMb a).1.getD i 0 % 128 < 80 ∧ 272 ≤ (aMb a).1.getD i 0 / 128 / 64 ∧ (aMb a).1.getD i 0 / 128 / 64 < 288 ∧ tAl t ((aMb a).1.getD i 0 % 128 / 2) = 1
      exact ⟨by omega, by omega, by omega, by omega, by omega, (hG.2.2.1 _ k1).2.2⟩
    · obtain ⟨k1, _, k3, k4⟩ := hDL i hi
      refine ⟨fun j w e => ?_, fun j => ?_, k3, ?_⟩
      · obtain ⟨u, o, c1, c2, c3, c4, c5⟩ := k1.1 j w e
        have := c4.1; omega
      · have := k1.2.2.1 j
        show (itr (dl1 t (n + 1) (aSq a) (aMb a).1) i (tkR t (n + 1) ka a)).1 j < 2 ^ 20
        omega
      · show mL (rmb (itr (dl1 t (n + 1) (aSq a) (aMb a).1) i (tkR t (n + 1) ka a))) + 41 ≤ 2 ^ 20
        omega
    · have hi : i ≤ N := by rw [← hG.1]; exact hi
      obtain ⟨k1, _, _, k4, _⟩ := hall i hi
      obtain ⟨c1, c2⟩ := hcap i hi
      show aOK (n + 1) (itr (act1 t wu (n + 1)) i (tkB t (n + 1) ka a))
      have := hsum i hi
      generalize itr (act1 t wu (n + 1)) i (tkB t (n + 1) ka a) = z at k1 k4 c1 c2 ⊢
      obtain ⟨n1, n2, n3, n4, n5, n6, n7⟩ := k4
      refine ⟨fun j => Nat.lt_of_le_of_lt (k1.2.2.1.1 j) (by omega), fun j w e => ?_, n2, n3, fun j => Nat.lt_of_le_of_lt (n4 j) (by omega), c1, by omega, fun r v hr e => ?_, n5, fun r i2 n2 hr hi2 hn2 => ?_⟩
      · obtain ⟨u, o, c1, c2, c3, c4, c5⟩ := k1.1 j w e
        have := c4.1; omega
      · obtain ⟨u, o, c1, c2, c3, c4, c5⟩ := k1.1 _ v e
        have := c4.2.1; omega
      · cases e : aHd z (r * 1088 + (1 * 272 + 16 + i2 * 16 + n2)) with
        | none => rfl
        | some v =>
          obtain ⟨u, o, c1, c2, c3, c4, c5⟩ := k1.1 _ v e
          have := (ix_inj (by omega) (by omega) c3).2
          omega
  obtain ⟨b1, b2, b3, b4, b5, b6, b7⟩ := hall N (Nat.le_refl _)
  obtain ⟨c1, c2⟩ := hcap N (Nat.le_refl _)
  have hs18 := hsum N (Nat.le_refl _)
  rw [← htA] at b1 b2 b3 b4 b5 b6 b7 c1 c2
  have hrestLm : aLm (tkB t (n + 1) ka a) = aLm a ∧ aLo (tkB t (n + 1) ka a) = aLo a := ⟨rfl, rfl⟩
  rw [hrestLm.1] at b6
  rw [hrestLm.2] at b7
  generalize tkA t wu (n + 1) ka a = b at b1 b2 b3 b4 b5 b6 b7 c1 c2 ⊢
  have hQR : ∀ r, r < N → tRu t r = true → QR t N (n + 1) b r := fun r hr hup => (b2 r hr hup).1 hr
  have hE : ∀ w o, w < N → o < N → aE (n + 1) b w o = aC (n + 1) b w o := fun w o hw ho => by
    unfold aE
    have : ¬ (w = o ∧ aMr b (272 + o) = true) := fun ⟨_, z2⟩ => by
      cases e : tRu t o with
      | true =>
        obtain ⟨⟨v, _, _, _, q, _⟩, _⟩ := hQR o ho e
        rw [q] at z2; cases z2
      | false => rw [(b1.2.2.2.2 o ho e).2] at z2; cases z2
    rw [if_neg this]; omega
  have hwu : ∀ k, k < 9 → itr (rmB (tRu t) (tLu t) (tRp t)) 9 wu k = tcc t k := fun k hk => by rw [rm_all, if_pos hk]; rfl
  obtain ⟨l1, l2, l3, l4, l5, l6, l7, l8⟩ := b3
  have hLI : ∀ q o, q < 18 → tcc t (q / 2) = true → o < N → Rel (tRp t q) o → aC (n + 1) b (tRp t (ot q)) o ≤ aC (n + 1) b (tRp t q) o ∨ snt (n + 1) (aSq b) (aMb b).1 q o (aC (n + 1) b (tRp t (ot q)) o) := fun q o hq hc ho hRq => by
    have := l2 q o hq hc ho hRq (Or.inr (hG.2.2.1 _ (ot18 hq)).1)
    rw [hE _ _ (hG.2.2.1 q hq).1 ho] at this
    exact this
  refine ⟨⟨⟨c1, ⟨Nat.zero_le _, h.1.1.2⟩, by omega⟩, fun j v e => ?_, fun m hm => ?_, b1.2.2.1.1, b1.2.2.2.1, fun r hr hd => ⟨(b1.2.2.2.2 r hr hd).1, (b1.2.2.2.2 r hr hd).2, b5 r hr hd⟩, fun k hk hw => by rw [← hwu k hk]; exact hw, fun q o hq hw ho hRq => ?_, fun m o hm hw ho hk hRq => (l4 m o hm ho hk).1, fun r hr hup => ?_, b4⟩, hOK, ⟨fun u o hu ho hRu => ?_, fun q o hq hw ho hRq => ?_, fun u o v hu ho e => ?_, fun m o hm ho hk => ?_, ⟨fun w hw => l6 w hw, l7, l8⟩, hQR, ⟨b6, b7⟩, hLI⟩⟩
  · obtain ⟨u, o, k1, k2, k3, k4, k5, _⟩ := b1.1 j v e
    exact ⟨u, o, k1, k2, k3, k4, k5⟩
  · obtain ⟨k1, _, o, k2, k3, k4, _⟩ := b1.2.1 m hm
    exact ⟨k1, o, k2, k3, k4⟩
  · rw [hwu _ (by omega)] at hw
    rw [hE _ _ (hG.2.2.1 q hq).1 ho]
    exact hLI q o hq hw ho hRq
  · obtain ⟨k1, _⟩ := hQR r hr hup
    refine ⟨Or.inr ⟨k1, fun q hq _ hc => by rw [hwu _ (by omega)]; exact hc⟩, Or.inr (Or.inr ?_)⟩
    obtain ⟨_, _, _, _, _, _, k, _⟩ := k1
    exact k
  · rw [← (rC_0 (ka := ka) hG h hf hu ho hRu).1]; exact l1 u o hu ho
  · have hc := h.2.2.2.2.2.2.1 _ (show q / 2 < 9 by omega) hw
    rw [← (rC_0 (ka := ka) hG h hf (hG.2.2.1 _ (ot18 hq)).1 ho (hR q o hq hc ho hRq)).1, ← hE _ _ (hG.2.2.1 q hq).1 ho]
    exact l3 q o hq hw ho hRq
  · obtain ⟨k1, k2⟩ := l5 u o v hu ho e
    refine ⟨?_, fun z => ?_⟩
    · rcases k1 with k | k
      · exact src_org hG h.2.1 k
      · exact Or.inr (Or.inr k)
    · rcases k2 z with k | k
      · exact Or.inl (((ex_r (ka := ka) hG h.2.1).1 u o v).mp k).1
      · exact Or.inr k
  · obtain ⟨k1, k2, k3⟩ := l4 m o hm ho hk
    refine ⟨(b1.2.1 m hm).2.1, k1, fun hRu => ?_, ?_, fun e => ?_⟩
    · rw [← (rC_0 (ka := ka) hG h hf (hG.2.2.1 _ (ot18 (b1.2.1 m hm).1)).1 ho hRu).1]; exact k2
    · rcases k3 with k | ⟨k, k4, _⟩
      · exact src_org hG h.2.1 k
      · exact Or.inr (Or.inr ⟨k4, k⟩)
    · rcases k3 with k | ⟨k, k4, k5⟩
      · exfalso
        rcases k with k | ⟨j, j1, j2, j3, j4, j5, j6, j7⟩
        · have k6 := ((ex_r (ka := ka) hG h.2.1).1 _ _ _).mp k
          obtain ⟨_, _, _, _, _, _, c5⟩ := h.2.1 _ _ k6.1
          have := ag_s (n := n) (v := m / 128) (by omega)
          rw [e, ag_nwv] at this
          omega
        · obtain ⟨_, o2, _, _, c5⟩ := h.2.2.1 _ (get_mem j2)
          rw [j6] at c5
          have := ag_s (n := n) (v := m / 128) (by omega)
          rw [e, ag_nwv] at this
          omega
      · exact k5
