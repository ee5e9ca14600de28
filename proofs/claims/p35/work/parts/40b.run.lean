/-! ticks while nothing is changed from outside -/
abbrev TT9 : Nat → Nat → Prop := fun _ _ => True
/-- between two quiet ticks -/
def RTR (t : TP) (N : Nat) (Rel : Nat → Nat → Prop) (n : Nat) (a : AS) : Prop := (∃ ka, REST t N Rel n (tcc t) ka a) ∧ ∀ m, m ∈ (aMb a).1 → tcc t (m % 128 / 2) = true
abbrev RTT (t : TP) (N n : Nat) (a : AS) : Prop := RTR t N TT9 n a
theorem REST_wu {t : TP} {N n ka : Nat} {Rel : Nat → Nat → Prop} {wu : Nat → Bool} {a : AS} (hw : ∀ k, k < 9 → wu k = tcc t k) (h : REST t N Rel n wu ka a) : REST t N Rel n (tcc t) ka a := by
  obtain ⟨r0, r1, r2, r3, r4, r5, r6, r7, r8, r9, r10⟩ := h
  refine ⟨r0, r1, r2, r3, r4, r5, fun k _ h => h, fun q o hq hc ho hR => r7 q o hq (by rw [hw _ (by omega)]; exact hc) ho hR, fun m o hm hc ho hk hR => r8 m o hm (by rw [hw _ (by have := (r2 m hm).1; omega)]; exact hc) ho hk hR, fun r hr hup => ⟨(r9 r hr hup).1.imp id (fun h => ⟨h.1, fun q hq hr2 hc => hc⟩), ?_⟩, r10⟩
  exact (r9 r hr hup).2
theorem TF_wu {t : TP} {N n : Nat} {Rel : Nat → Nat → Prop} {wu : Nat → Bool} {a b : AS} (hw : ∀ k, k < 9 → wu k = tcc t k) (h : TF t N Rel n wu a b) : TF t N Rel n (tcc t) a b := by
  obtain ⟨f1, f2, f⟩ := h
  exact ⟨f1, fun q o hq hc ho hR => f2 q o hq (by rw [hw _ (by omega)]; exact hc) ho hR, f⟩
/-- a quiet tick -/
def nxt (t : TP) (n : Nat) (a b : AS) : Prop := ∃ wu ka, (∀ k, k < 9 → wu k = tcc t k) ∧ b = tkA t wu (n + 1) ka a
/-- what a router with own version, or one of its messages, tells in the part of the net of u0 -/
def inV (t : TP) (N : Nat) (a : AS) (o u0 X : Nat) : Prop := (∃ u, u < N ∧ conn t u0 u ∧ aH a u o = some X) ∨ ∃ m, m ∈ (aMb a).1 ∧ m / 128 = X ∧ m / 128 / 64 = 272 + o ∧ conn t u0 (tRp t (ot (m % 128)))
theorem inV_l {t : TP} {N n o u0 X : Nat} {R9 : Nat → Nat → Prop} {a : AS} (hG : TG t N) (h : RTR t N R9 n a) (ho : o < N) (hX : inV t N a o u0 X) : lvv n (aSq a) o X ∧ ag n X < 60 := by
  have hN := hG.2.1
  obtain ⟨⟨ka, hr⟩, _⟩ := h
  rcases hX with ⟨u, h1, h2, h3⟩ | ⟨m, h1, h2, h3, h4⟩
  · obtain ⟨u2, o2, c1, c2, c3, c4, c5⟩ := hr.2.1 _ _ h3
    have := (ix_inj (by omega) (by omega) c3).2
    obtain rfl : o = o2 := by omega
    exact ⟨c4, c5⟩
  · obtain ⟨_, o2, c2, c4, c5⟩ := hr.2.2.1 m h1
    rw [h2] at c4 c5 h3
    have := c4.1
    obtain rfl : o = o2 := by omega
    exact ⟨c4, c5⟩
/-- an old version keeps its number -/
theorem old_sq {t : TP} {N n o u0 X : Nat} {Rel : Nat → Nat → Prop} {a b : AS} (hG : TG t N) (h : RTT t N n a) (hF : TF t N Rel n (tcc t) a b) (ho : o < N) (hX : inV t N a o u0 X) : cod (n + 1) (aSq b) X = cod n (aSq a) X ∧ ag (n + 1) X = ag n X + 1 := by
  obtain ⟨k1, k2⟩ := inV_l hG h ho hX
  have k3 := ag_s (n := n) (v := X) (by omega)
  refine ⟨?_, k3⟩
  rw [cod_c (hF.2.2.2.2.1.1 X (fun r _ => ne_nwv (Or.inl (by omega))))]
  exact cod_s (by omega)
/-- where versions come from -/
theorem inV_s {t : TP} {N n o u0 X : Nat} {Rel R9 : Nat → Nat → Prop} {a b : AS} (hG : TG t N) (hb : RTR t N R9 (n + 1) b) (hF : TF t N Rel n (tcc t) a b) (ho : o < N) (hu0 : u0 < N) (hX : inV t N b o u0 X) : inV t N a o u0 X ∨ (X = nwv (n + 1) o ∧ conn t u0 o ∧ aH b o o = some X) := by
  have hk := (inV_l hG hb ho hX).1.1
  have key : ∀ u, u < N → conn t u0 u → org9 t n a u o X → inV t N a o u0 X ∨ (u = o ∧ X = nwv (n + 1) o) := fun u hu hc ho9 => by
    rcases ho9 with k | ⟨m, m1, m2, m3, m4, m5⟩ | k
    · exact Or.inl (Or.inl ⟨u, hu, hc, k⟩)
    · exact Or.inl (Or.inr ⟨m, m1, m5, by rw [m5]; exact hk, conn_s2 hG hu0 m2 m4 (by rw [m3]; exact hc)⟩)
    · exact Or.inr k
  rcases hX with ⟨u, h1, h2, h3⟩ | ⟨m, h1, h2, h3, h4⟩
  · rcases key u h1 h2 (hF.2.2.1 u o X h1 ho h3).1 with k | ⟨k1, k2⟩
    · exact Or.inl k
    · exact Or.inr ⟨k2, by rw [← k1]; exact h2, by rw [k1] at h3; exact h3⟩
  · have hm18 := (hb.1.choose_spec.2.2.1 m h1).1
    obtain ⟨g1, g2, g3, g4, g5⟩ := hF.2.2.2.1 m o h1 ho h3
    rw [h2] at g4 g5
    rcases key _ (hG.2.2.1 _ (ot18 hm18)).1 h4 g4 with k | ⟨k1, k2⟩
    · exact Or.inl k
    · exact Or.inr ⟨k2, by rw [← k1]; exact h4, by rw [k2]; exact g5 k2⟩
/-- a message's version is no newer than what its sender has -/
theorem inV_c {t : TP} {N n o u0 X : Nat} {a : AS} (hG : TG t N) (h : RTT t N n a) (ho : o < N) (hX : inV t N a o u0 X) : ∃ u, u < N ∧ conn t u0 u ∧ cod n (aSq a) X ≤ aC n a u o := by
  rcases hX with ⟨u, h1, h2, h3⟩ | ⟨m, h1, h2, h3, h4⟩
  · exact ⟨u, h1, h2, by unfold aC; rw [h3]; exact Nat.le_refl _⟩
  · obtain ⟨⟨ka, hr⟩, hc⟩ := h
    have hm18 := (hr.2.2.1 m h1).1
    refine ⟨_, (hG.2.2.1 _ (ot18 hm18)).1, h4, ?_⟩
    rw [← h2]
    exact hr.2.2.2.2.2.2.2.2.1 m o h1 (hc m h1) ho h3 trivial
/-- the ticks up to clock 60 -/
def RUN (t : TP) (N T : Nat) (A : Nat → AS) (k : Nat) : Prop := (∀ j, 1 ≤ j → j ≤ k → RTT t N (T + j) (A j)) ∧ ∀ j, 1 ≤ j → j < k → TF t N TT9 (T + j) (tcc t) (A j) (A (j + 1))
theorem run_m {t : TP} {N T k : Nat} {A : Nat → AS} (h : RUN t N T A k) {u o i : Nat} (hu : u < N) (ho : o < N) (hi : 1 ≤ i) : ∀ j, i ≤ j → j ≤ k → aC (T + i) (A i) u o ≤ aC (T + j) (A j) u o := by
  intro j hij hjk
  induction j with
  | zero => omega
  | succ j ih =>
    by_cases z : i = j + 1
    · subst z; exact Nat.le_refl _
    · exact Nat.le_trans (ih (by omega) (by omega)) ((h.2 j (by omega) (by omega)).1 u o hu ho trivial)
theorem run_p {t : TP} {N T k : Nat} {A : Nat → AS} (hG : TG t N) (h : RUN t N T A k) {u o i : Nat} (hu : u < N) (ho : o < N) (hi : 1 ≤ i) : ∀ d v, i + d ≤ k → rch t u d v → aC (T + i) (A i) u o ≤ aC (T + (i + d)) (A (i + d)) v o
  | 0, v, _, hr => by have hr : u = v := hr; subst hr; exact Nat.le_refl _
  | d + 1, v, hk, hr => by
    rcases hr with hr | ⟨q, h1, h2, h3, h4⟩
    · exact Nat.le_trans (run_p hG h hu ho hi d v (by omega) hr) ((h.2 (i + d) (by omega) (by omega)).1 v o (rch_lt hG hu hr) ho trivial)
    · have := (h.2 (i + d) (by omega) (by omega)).2.1 q o h1 h2 ho trivial
      rw [h3] at this
      exact Nat.le_trans (run_p hG h hu ho hi d _ (by omega) h4) this
/-- no newer than what some router had at first, or than what the originator has -/
theorem run_u {t : TP} {N T k : Nat} {A : Nat → AS} (hG : TG t N) (h : RUN t N T A k) {o u0 : Nat} (ho : o < N) (hu0 : u0 < N) : ∀ j X, 1 ≤ j → j ≤ k → inV t N (A j) o u0 X → (∃ u, u < N ∧ conn t u0 u ∧ cod (T + j) (aSq (A j)) X ≤ aC (T + 1) (A 1) u o) ∨ (conn t u0 o ∧ cod (T + j) (aSq (A j)) X ≤ aC (T + j) (A j) o o)
  | 0, X, h1, _, _ => by omega
  | j + 1, X, _, hjk, hX => by
    by_cases hj : j = 0
    · subst hj
      exact Or.inl (inV_c hG (h.1 1 (by omega) hjk) ho hX)
    · have hF := h.2 j (by omega) (by omega)
      rcases inV_s hG (h.1 (j + 1) (by omega) hjk) hF ho hu0 hX with k1 | ⟨k1, k2, k3⟩
      · obtain ⟨e1, _⟩ := old_sq hG (h.1 j (by omega) (by omega)) hF ho k1
        have e1 : cod (T + (j + 1)) (aSq (A (j + 1))) X = cod (T + j) (aSq (A j)) X := e1
        rw [e1]
        rcases run_u hG h ho hu0 j X (by omega) (by omega) k1 with z | ⟨z1, z2⟩
        · exact Or.inl z
        · exact Or.inr ⟨z1, Nat.le_trans z2 (hF.1 o o ho ho trivial)⟩
      · refine Or.inr ⟨k2, ?_⟩
        unfold aC; rw [k3]; exact Nat.le_refl _
