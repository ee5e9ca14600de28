/-! the versions of a router that is up, in its part of the net -/
def QI (t : TP) (N n : Nat) (a : AS) (o K e : Nat) : Prop :=
  K ≤ aC n a o o ∧
  (∀ X, inV t N a o o X → K ≤ cod n (aSq a) X → utb t (aLm a) (aLo a) X o 1 = true) ∧
  (∀ X Y, inV t N a o o X → inV t N a o o Y → K ≤ cod n (aSq a) X → cod n (aSq a) X ≤ cod n (aSq a) Y → ag n Y ≤ ag n X) ∧
  (∀ d u, d ≤ e → d ≤ 5 → u < N → rch t o d u → ∃ X, aH a u o = some X ∧ K ≤ cod n (aSq a) X ∧ ag n X ≤ 29 + d) ∧
  (∀ X, inV t N a o o X → cod n (aSq a) X ≤ aC n a o o)
theorem QI_step {t : TP} {N n o K e : Nat} {Rel R9 : Nat → Nat → Prop} {a b : AS} (hG : TG t N) (hn : n < 100) (ho : o < N) (hup : tRu t o = true) (ha : RTT t N n a) (hb : RTR t N R9 (n + 1) b) (hF : TF t N Rel n (tcc t) a b) (hRel : ∀ u, u < N → conn t o u → Rel u o) (h : QI t N n a o K e) :
    QI t N (n + 1) b o K (e + 1) ∧ (5 ≤ e → ∀ m, m ∈ (aMb b).1 → m / 128 / 64 = 272 + o → conn t o (tRp t (ot (m % 128))) → ag (n + 1) (m / 128) ≤ 40) := by
  have hN := hG.2.1
  obtain ⟨q0, q1, q2, q3, q5⟩ := h
  obtain ⟨⟨v, hv1, _, hv3, _⟩, v2, hv2, hv4⟩ := hF.2.2.2.2.2.1 o ho hup
  obtain rfl : v = v2 := Option.some.inj (hv1.symm.trans hv2)
  have hown : aC (n + 1) b o o = cod (n + 1) (aSq b) v := by unfold aC; rw [hv1]; rfl
  have hmono := hF.1 o o ho ho (hRel o ho (conn_rfl o))
  have hs : ∀ X, inV t N b o o X → (inV t N a o o X ∧ cod (n + 1) (aSq b) X = cod n (aSq a) X ∧ ag (n + 1) X = ag n X + 1) ∨ (X = nwv (n + 1) o ∧ X = v) := fun X hX => by
    rcases inV_s hG hb hF ho ho hX with k | ⟨k1, _, k3⟩
    · exact Or.inl ⟨k, old_sq hG ha hF ho k⟩
    · exact Or.inr ⟨k1, Option.some.inj (k3.symm.trans hv1)⟩
  -- a new version is newer than all
  have hnew : ∀ Y, inV t N a o o Y → v = nwv (n + 1) o → cod n (aSq a) Y < cod (n + 1) (aSq b) v := fun Y hY hv => by
    have h1 := q5 Y hY
    obtain ⟨X0, x1, _, _⟩ := q3 0 o (Nat.zero_le _) (by omega) ho rfl
    obtain ⟨ka, hr⟩ := ha.1
    have h2 := hr.2.2.2.2.1 o ho hup X0 x1
    have h3 := hF.2.2.2.2.1.2.1 o ho (by rw [← hv]; exact hv1)
    rw [← hv] at h3
    have h4 : aC n a o o ≤ aKs a (272 + o) * 128 + 127 := by
      unfold aC; rw [x1]
      show cod n (aSq a) X0 ≤ _
      unfold cod; omega
    have h5 : aSq b v * 128 ≤ cod (n + 1) (aSq b) v := by unfold cod; omega
    omega
  have hQ0 : K ≤ aC (n + 1) b o o := Nat.le_trans q0 hmono
  refine ⟨⟨hQ0, fun X hX hK => ?_, fun X Y hX hY hK hXY => ?_, ?_, fun X hX => ?_⟩, fun he m hm hk hc => ?_⟩
  · rcases hs X hX with ⟨k1, k2, k3⟩ | ⟨k1, k2⟩
    · rw [k2] at hK
      have hslot : X % 64 ≠ (n + 1) % 64 := fun e => by have := ag_slot e; omega
      exact utb_congr hG ho (fun q _ _ => hF.2.2.2.2.2.2.1.1 _ (by omega)) (fun j _ => hF.2.2.2.2.2.2.1.2 _ (by omega)) (q1 X k1 hK)
    · rw [k2]; exact hv3
  · rcases hs X hX with ⟨k1, k2, k3⟩ | ⟨k1, k2⟩
    · rcases hs Y hY with ⟨g1, g2, g3⟩ | ⟨g1, g2⟩
      · rw [k2] at hK hXY; rw [g2] at hXY
        have := q2 X Y k1 g1 hK hXY
        omega
      · rw [g1, ag_nwv]; omega
    · rcases hs Y hY with ⟨g1, g2, g3⟩ | ⟨g1, g2⟩
      · have := hnew Y g1 (by rw [← k2]; exact k1)
        rw [g2, k2] at hXY; omega
      · rw [g1, ag_nwv]; omega
  · intro d
    induction d with
    | zero =>
      intro u _ _ hu hr
      have hr : o = u := hr
      subst hr
      exact ⟨v, hv1, by rw [← hown]; exact hQ0, by omega⟩
    | succ d ih =>
      intro u hd hd5 hu hr
      rcases hr with hr | ⟨q, h1, h2, h3, h4⟩
      · obtain ⟨X, x1, x2, x3⟩ := ih u (by omega) (by omega) hu hr
        exact ⟨X, x1, x2, by omega⟩
      · have hw := (hG.2.2.1 _ (ot18 h1)).1
        obtain ⟨Y, y1, y2, y3⟩ := q3 d _ (by omega) (by omega) hw h4
        have hYin : inV t N a o o Y := Or.inl ⟨_, hw, rch_up (by omega) h4, y1⟩
        have hcu : conn t o u := by rw [← h3]; exact conn_s hG ho h1 h2 (rch_up (by omega) h4)
        have hP := hF.2.1 q o h1 h2 ho (by rw [h3]; exact hRel u hu hcu)
        rw [h3] at hP
        have hcY : aC n a (tRp t (ot q)) o = cod n (aSq a) Y := by unfold aC; rw [y1]; rfl
        rw [hcY] at hP
        have hpos := cod_pos (inV_l hG ha ho hYin).1
        cases hX : aH b u o with
        | none =>
          have : aC (n + 1) b u o = 0 := by unfold aC; rw [hX]; rfl
          omega
        | some X =>
          have hcX : aC (n + 1) b u o = cod (n + 1) (aSq b) X := by unfold aC; rw [hX]; rfl
          rw [hcX] at hP
          refine ⟨X, rfl, by omega, ?_⟩
          rcases hs X (Or.inl ⟨u, hu, hcu, hX⟩) with ⟨k1, k2, k3⟩ | ⟨k1, k2⟩
          · rw [k2] at hP
            have := q2 Y X hYin k1 y2 hP
            omega
          · rw [k1, ag_nwv]; omega
  · rcases hs X hX with ⟨k1, k2, k3⟩ | ⟨k1, k2⟩
    · rw [k2]; exact Nat.le_trans (q5 X k1) hmono
    · rw [hown, k2]; exact Nat.le_refl _
  · have hm18 := (hb.1.choose_spec.2.2.1 m hm).1
    have hsu := (hG.2.2.1 _ (ot18 hm18)).1
    obtain ⟨g1, g2, g3, g4, g5⟩ := hF.2.2.2.1 m o hm ho hk
    have g3 := g3 (hRel _ hsu hc)
    obtain ⟨Y, y1, y2, y3⟩ := q3 5 _ he (Nat.le_refl _) hsu hc
    have hcY : aC n a (tRp t (ot (m % 128))) o = cod n (aSq a) Y := by unfold aC; rw [y1]; rfl
    rw [hcY] at g3
    rcases hs (m / 128) (Or.inr ⟨m, hm, rfl, hk, hc⟩) with ⟨k1, k2, k3⟩ | ⟨k1, k2⟩
    · rw [k2] at g3
      have := q2 Y _ (Or.inl ⟨_, hsu, hc, y1⟩) k1 y2 g3
      omega
    · rw [k1, ag_nwv]; omega
/-- six ticks after the last change -/
theorem QI_0 {t : TP} {N T k o : Nat} {A : Nat → AS} (hG : TG t N) (hT : T + k < 100) (hk : 6 ≤ k) (ho : o < N) (hup : tRu t o = true) (h : RUN t N T A k) : QI t N (T + 6) (A 6) o (aC (T + 6) (A 6) o o) 0 := by
  have hF := h.2 5 (by omega) (by omega)
  have ha := h.1 6 (by omega) hk
  obtain ⟨⟨v, hv1, _, hv3, _⟩, v2, hv2, hv4⟩ := hF.2.2.2.2.2.1 o ho hup
  obtain rfl : v = v2 := Option.some.inj (hv1.symm.trans hv2)
  have hv4 : ag (T + 6) v < 30 := hv4
  have hown : aC (T + 6) (A 6) o o = cod (T + 6) (aSq (A 6)) v := by unfold aC; rw [show aH (A 6) o o = some v from hv1]; rfl
  have hle : ∀ X, inV t N (A 6) o o X → cod (T + 6) (aSq (A 6)) X ≤ aC (T + 6) (A 6) o o := fun X hX => by
    rcases run_u hG h ho ho 6 X (by omega) hk hX with ⟨u, u1, u2, u3⟩ | ⟨_, u3⟩
    · exact Nat.le_trans u3 (run_p hG h u1 ho (by omega) 5 o (by omega) (conn_sym u2))
    · exact u3
  have hvin : inV t N (A 6) o o v := Or.inl ⟨o, ho, conn_rfl o, hv1⟩
  have heq : ∀ X, inV t N (A 6) o o X → aC (T + 6) (A 6) o o ≤ cod (T + 6) (aSq (A 6)) X → X = v := fun X hX hc => by
    have k1 := (inV_l hG ha ho hX).1
    have k2 := (inV_l hG ha ho hvin).1
    have := hle X hX
    exact cod_inj (sq := aSq (A 6)) (n := T + 6) (by omega) (k1.1.trans k2.1.symm) (by have := k1.2.1; omega) (by have := k2.2.1; omega) (by omega)
  refine ⟨Nat.le_refl _, fun X hX hc => ?_, fun X Y hX hY hc hXY => ?_, fun d u hd _ hu hr => ?_, hle⟩
  · rw [heq X hX hc]; exact hv3
  · rw [heq X hX hc, heq Y hY (Nat.le_trans hc hXY)]; exact Nat.le_refl _
  · obtain rfl : d = 0 := by omega
    have hr : o = u := hr
    subst hr
    exact ⟨v, hv1, by rw [hown]; exact Nat.le_refl _, by omega⟩
