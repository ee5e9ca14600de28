/-! twenty-five quiet ticks -/
theorem FRSH_60 {t : TP} {N n ka : Nat} {Rel R2 : Nat → Nat → Prop} {wu : Nat → Bool} {a : AS} (hn : n ≤ 59) (h : REST t N Rel n wu ka a) : FRSH t N R2 n wu a := by
  refine ⟨fun u o v _ _ _ hv => ?_, fun m o hm _ _ _ _ => ?_⟩
  · obtain ⟨_, _, _, _, _, c4, _⟩ := h.2.1 _ _ hv
    have := c4.2.1; omega
  · obtain ⟨_, o2, _, c4, _⟩ := h.2.2.1 m hm
    have := c4.2.1; omega
theorem CLO_T {t : TP} {N : Nat} : CLO t N TT9 := fun _ _ _ _ _ _ => trivial
/-- a tick before clock 60 -/
theorem TICK60 {t : TP} {N n ka : Nat} {wu : Nat → Bool} {a : AS} (hG : TG t N) (hT : TOK t) (hmp : ∀ j, tMp t j ≤ 1000) (hn : n ≤ 59) (h : REST t N TT9 n wu ka a) :
    REST t N TT9 (n + 1) (itr (rmB (tRu t) (tLu t) (tRp t)) 9 wu) (aMb a).2 (tkA t wu (n + 1) ka a) ∧ tkOK t (n, wu, ka, a) ∧ TF t N TT9 n wu a (tkA t wu (n + 1) ka a) :=
  TICK hG hT hmp (by omega) CLO_T h (FRSH_60 hn h)
/-- ticks before clock 60 -/
theorem TICKS60 {t : TP} {N n ka : Nat} {wu : Nat → Bool} {a : AS} (hG : TG t N) (hT : TOK t) (hmp : ∀ j, tMp t j ≤ 1000) (h : REST t N TT9 n wu ka a) : ∀ j, n + j ≤ 60 →
    ∃ wu2 ka2 a2, itr (tk1 t 9) j (n, wu, ka, a) = (n + j, wu2, ka2, a2) ∧ REST t N TT9 (n + j) wu2 ka2 a2 ∧ (1 ≤ j → RTT t N (n + j) a2 ∧ (∀ k, k < 9 → wu2 k = tcc t k)) ∧ (∀ i, i < j → tkOK t (itr (tk1 t 9) i (n, wu, ka, a)))
  | 0, _ => ⟨wu, ka, a, rfl, h, fun h => absurd h (by omega), fun i hi => absurd hi (Nat.not_lt_zero i)⟩
  | j + 1, hj => by
    obtain ⟨wu2, ka2, a2, e, h1, _, h3⟩ := TICKS60 hG hT hmp h j (by omega)
    obtain ⟨t1, t2, t3⟩ := TICK60 hG hT hmp (by omega) h1
    have hw : ∀ k, k < 9 → itr (rmB (tRu t) (tLu t) (tRp t)) 9 wu2 k = tcc t k := fun k hk => by rw [rm_all, if_pos hk]; rfl
    refine ⟨_, _, _, by rw [itr_s, e]; rfl, t1, fun _ => ⟨⟨⟨_, REST_wu hw t1⟩, fun m hm => ?_⟩, hw⟩, fun i hi => ?_⟩
    · obtain ⟨_, o, k2, k3, _⟩ := t1.2.2.1 m hm
      exact (t3.2.2.2.1 m o hm k2 k3.1).1
    · by_cases z : i = j
      · subst z; rw [e]; exact t2
      · exact h3 i (by omega)
/-- the state after the last ticks -/
def FIN (t : TP) (N n : Nat) (a : AS) : Prop := PCI t N n a ∧ (∀ r, r < N → tRu t r = true → QR t N n a r) ∧ ∃ wu ka, REST t N TT9 n wu ka a ∧ ∀ k, k < 9 → wu k = tcc t k
theorem T25 {t : TP} {N n ka : Nat} {wu : Nat → Bool} {a : AS} (hG : TG t N) (hT : TOK t) (hmp : ∀ j, tMp t j ≤ 1000) (hn : n ≤ 48) (h : REST t N TT9 n wu ka a) :
    (∀ i, i < 25 → tkOK t (itr (tk1 t 9) i (n, wu, ka, a))) ∧ FIN t N (n + 25) (itr (tk1 t 9) 25 (n, wu, ka, a)).2.2.2 ∧ (itr (tk1 t 9) 25 (n, wu, ka, a)).1 = n + 25 := by
  -- the first twelve
  have hrun : RUN t N n (fun j => (itr (tk1 t 9) j (n, wu, ka, a)).2.2.2) 12 := by
    refine ⟨fun j h1 h2 => ?_, fun j h1 h2 => ?_⟩
    · obtain ⟨wu2, ka2, a2, e, _, k, _⟩ := TICKS60 hG hT hmp h j (by omega)
      show RTT t N (n + j) (itr (tk1 t 9) j (n, wu, ka, a)).2.2.2
      rw [e]; exact (k h1).1
    · obtain ⟨wu2, ka2, a2, e, hr, k, _⟩ := TICKS60 hG hT hmp h j (by omega)
      have t3 := (TICK60 hG hT hmp (by omega) hr).2.2
      show TF t N TT9 (n + j) (tcc t) (itr (tk1 t 9) j (n, wu, ka, a)).2.2.2 (itr (tk1 t 9) (j + 1) (n, wu, ka, a)).2.2.2
      rw [itr_s, e]
      exact TF_wu (k h1).2 t3
  have hP := PCI_0 hG (by omega) hrun
  have key : ∀ j, j ≤ 13 → ∃ wu2 ka2 a2, itr (tk1 t 9) (12 + j) (n, wu, ka, a) = (n + (12 + j), wu2, ka2, a2) ∧ REST t N TT9 (n + (12 + j)) wu2 ka2 a2 ∧ (∀ k, k < 9 → wu2 k = tcc t k) ∧ PCI t N (n + (12 + j)) a2 ∧ (∀ i, i < 12 + j → tkOK t (itr (tk1 t 9) i (n, wu, ka, a))) ∧ (1 ≤ j → ∀ r, r < N → tRu t r = true → QR t N (n + (12 + j)) a2 r) := by
    intro j
    induction j with
    | zero =>
      intro _
      obtain ⟨wu2, ka2, a2, e, hr, k, h3⟩ := TICKS60 hG hT hmp h 12 (by omega)
      refine ⟨wu2, ka2, a2, e, hr, (k (by omega)).2, ?_, h3, fun h => absurd h (by omega)⟩
      have hP : PCI t N (n + 12) (itr (tk1 t 9) 12 (n, wu, ka, a)).2.2.2 := hP
      rw [e] at hP; exact hP
    | succ j ih =>
      intro hj
      obtain ⟨wu2, ka2, a2, e, hr, k, hp, h3, _⟩ := ih (by omega)
      obtain ⟨p1, p2, p3, p4⟩ := PCI_step hG hT hmp (by omega) k hr hp
      refine ⟨_, _, _, by rw [show 12 + (j + 1) = (12 + j) + 1 from rfl, itr_s, e]; rfl, p2, fun k hk => by rw [rm_all, if_pos hk]; rfl, p1, fun i hi => ?_, fun _ => p4⟩
      by_cases z : i = 12 + j
      · subst z; rw [e]; exact p3
      · exact h3 i (by omega)
  obtain ⟨wu2, ka2, a2, e, hr, k, hp, h3, h4⟩ := key 13 (Nat.le_refl _)
  refine ⟨h3, ?_, ?_⟩
  · rw [show (25 : Nat) = 12 + 13 from rfl, e]
    exact ⟨hp, h4 (by omega), wu2, ka2, hr, k⟩
  · rw [show (25 : Nat) = 12 + 13 from rfl, e]
