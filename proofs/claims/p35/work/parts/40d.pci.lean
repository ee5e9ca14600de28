/-! from the twelfth quiet tick on
-/
def KI (t : TP) (N : Nat) (a : AS) (u0 o : Nat) : Prop := ∃ h : Option Nat, (∀ u, u < N → conn t u0 u → aH a u o = h) ∧ ∀ m, m ∈ (aMb a).1 → m / 128 / 64 = 272 + o → conn t u0 (tRp t (ot (m % 128))) → h = some (m / 128)
def PCI (t : TP) (N n : Nat) (a : AS) : Prop := RTT t N n a ∧ (∀ o, o < N → tRu t o = true → ∃ K, QI t N n a o K 5) ∧
  (∀ o m, o < N → tRu t o = true → m ∈ (aMb a).1 → m / 128 / 64 = 272 + o → conn t o (tRp t (ot (m % 128))) → ag n (m / 128) ≤ 40) ∧
  (∀ u0 o, u0 < N → o < N → ¬ conn t u0 o → KI t N a u0 o)
theorem rch_down {t : TP} {o : Nat} (hd : tRu t o = false) : ∀ {d u : Nat}, rch t o d u → u = o
  | 0, u, h => Eq.symm h
  | d + 1, u, h => by
    rcases h with h | ⟨q, h1, h2, h3, h4⟩
    · exact rch_down hd h
    · have e := rch_down hd h4
      have := (tcc_up h2).2
      rw [e, hd] at this; cases this
theorem REST_mono {t : TP} {N n ka : Nat} {R1 R2 : Nat → Nat → Prop} {wu : Nat → Bool} {a : AS} (hR : ∀ u o, R2 u o → R1 u o) (h : REST t N R1 n wu ka a) : REST t N R2 n wu ka a := by
  obtain ⟨r0, r1, r2, r3, r4, r5, r6, r7, r8, r9, r10⟩ := h
  exact ⟨r0, r1, r2, r3, r4, r5, r6, fun q o hq hw ho hr => r7 q o hq hw ho (hR _ _ hr), fun m o hm hw ho hk hr => r8 m o hm hw ho hk (hR _ _ hr), r9, r10⟩
theorem PCI_step {t : TP} {N n ka : Nat} {wu : Nat → Bool} {a : AS} (hG : TG t N) (hT : TOK t) (hmp : ∀ j, tMp t j ≤ 1000) (hn : n ≤ 80) (hw : ∀ k, k < 9 → wu k = tcc t k) (hr : REST t N TT9 n wu ka a) (h : PCI t N n a) :
    PCI t N (n + 1) (tkA t wu (n + 1) ka a) ∧ REST t N TT9 (n + 1) (itr (rmB (tRu t) (tLu t) (tRp t)) 9 wu) (aMb a).2 (tkA t wu (n + 1) ka a) ∧ tkOK t (n, wu, ka, a) ∧ ∀ r, r < N → tRu t r = true → QR t N (n + 1) (tkA t wu (n + 1) ka a) r := by
  have hN := hG.2.1
  obtain ⟨ha, hQ, hM, hK⟩ := h
  have hnc : ∀ {u w o : Nat}, u < N → w < N → conn t u w → ¬ conn t u o → ¬ conn t w o := fun {u w o} hu hw2 h1 h2 h3 => h2 (conn_trans hG hu h1 h3)
  have hCLO : CLO t N (fun u o => conn t u o ∨ ∀ v, aH a u o = some v → ag n v + 1 < 60) := fun q o hq hc ho hR => by
    have h1 := (hG.2.2.1 q hq).1
    have h2 := (hG.2.2.1 _ (ot18 hq)).1
    have h3 : conn t (tRp t q) (tRp t (ot q)) := conn_s2 hG h1 hq hc (conn_rfl _)
    by_cases z : conn t (tRp t (ot q)) o
    · exact Or.inl z
    · refine Or.inr (fun v hv => ?_)
      have z2 : ¬ conn t (tRp t q) o := fun k => z (conn_trans hG h2 (conn_sym h3) k)
      rcases hR with k | k
      · exact absurd k z2
      · obtain ⟨x, x1, _⟩ := hK _ o h1 ho z2
        exact k v (by rw [x1 _ h1 (conn_rfl _), ← x1 _ h2 h3]; exact hv)
  have hup : ∀ {u o : Nat}, conn t u o → u ≠ o → tRu t o = true := fun {u o} hc hne => by
    cases e : tRu t o with
    | true => rfl
    | false => exact absurd (rch_down e (conn_sym hc)) hne
  have hFR : FRSH t N (fun u o => conn t u o ∨ ∀ v, aH a u o = some v → ag n v + 1 < 60) n wu a := by
    refine ⟨fun u o v hu ho hR hv => ?_, fun m o hm hwm ho hk hR => ?_⟩
    · rcases hR with k | k
      · cases e : tRu t o with
        | true =>
          obtain ⟨K, _, _, _, q3, _⟩ := hQ o ho e
          obtain ⟨X, x1, _, x3⟩ := q3 5 u (Nat.le_refl _) (Nat.le_refl _) hu (conn_sym k)
          obtain rfl := Option.some.inj (x1.symm.trans hv)
          omega
        | false =>
          have e2 := rch_down e (conn_sym k)
          rw [e2, (hr.2.2.2.2.2.1 o ho e).1 o ho] at hv; cases hv
      · exact k v hv
    · have hm18 := (hr.2.2.1 m hm).1
      have hc := ha.2 m hm
      have h1 := (hG.2.2.1 _ hm18).1
      have h2 := (hG.2.2.1 _ (ot18 hm18)).1
      have h3 : conn t (tRp t (m % 128)) (tRp t (ot (m % 128))) := conn_s2 hG h1 hm18 hc (conn_rfl _)
      by_cases z : conn t (tRp t (ot (m % 128))) o
      · have hu : tRu t o = true := by
          by_cases z2 : tRp t (ot (m % 128)) = o
          · rw [← z2]; exact (tcc_up hc).2
          · exact hup z z2
        have := hM o m ho hu hm hk (conn_sym z)
        omega
      · obtain ⟨x, x1, x2⟩ := hK _ o h2 ho z
        have e := x2 m hm hk (conn_rfl _)
        rcases hR with k | k
        · exact absurd (conn_trans hG h2 (conn_sym h3) k) z
        · exact k _ (by rw [x1 _ h1 (conn_sym h3)]; exact e)
  obtain ⟨t1, t2, t3⟩ := TICK hG hT hmp hn hCLO (REST_mono (fun _ _ _ => trivial) hr) hFR
  have hF := TF_wu hw t3
  have hwu2 : ∀ k, k < 9 → itr (rmB (tRu t) (tLu t) (tRp t)) 9 wu k = tcc t k := fun k hk => by rw [rm_all, if_pos hk]; rfl
  generalize tkA t wu (n + 1) ka a = b at t1 t3 hF ⊢
  have hcb : ∀ m, m ∈ (aMb b).1 → tcc t (m % 128 / 2) = true := fun m hm => by
    obtain ⟨_, o, k2, k3, _⟩ := t1.2.2.1 m hm
    exact (hF.2.2.2.1 m o hm k2 k3.1).1
  have hb : RTR t N (fun u o => conn t u o ∨ ∀ v, aH a u o = some v → ag n v + 1 < 60) (n + 1) b := ⟨⟨_, REST_wu hwu2 t1⟩, hcb⟩
  -- the other parts of the net
  have hKb : ∀ u0 o, u0 < N → o < N → ¬ conn t u0 o → KI t N b u0 o := fun u0 o hu0 ho hno => by
    obtain ⟨x, x1, x2⟩ := hK u0 o hu0 ho hno
    have hold : ∀ X, inV t N b o u0 X → inV t N a o u0 X ∧ x = some X := fun X hX => by
      rcases inV_s hG hb hF ho hu0 hX with k | ⟨_, k, _⟩
      · refine ⟨k, ?_⟩
        rcases k with ⟨u, k1, k2, k3⟩ | ⟨m, k1, k2, k3, k4⟩
        · rw [← x1 u k1 k2]; exact k3
        · rw [← k2]; exact x2 m k1 k3 k4
      · exact absurd k hno
    by_cases hex : ∃ X, inV t N b o u0 X
    · obtain ⟨X, hX⟩ := hex
      obtain ⟨k1, k2⟩ := hold X hX
      have hage : ag n X + 1 < 60 := by
        have h1 := (inV_l hG hb ho hX).2
        have h2 := (old_sq hG ha hF ho k1).2
        omega
      refine ⟨some X, fun u hu hc => ?_, fun m hm hk hc => ?_⟩
      · have hR : conn t u o ∨ ∀ v, aH a u o = some v → ag n v + 1 < 60 := Or.inr (fun v hv => by
          rw [x1 u hu hc, k2] at hv
          obtain rfl := Option.some.inj hv
          exact hage)
        have hm := hF.1 u o hu ho hR
        have hca : aC n a u o = cod n (aSq a) X := by unfold aC; rw [x1 u hu hc, k2]; rfl
        have hpos := cod_pos (inV_l hG ha ho k1).1
        cases e : aH b u o with
        | none => have : aC (n + 1) b u o = 0 := by unfold aC; rw [e]; rfl
                  omega
        | some Y =>
          have := (hold Y (Or.inl ⟨u, hu, hc, e⟩)).2
          rw [k2] at this
          exact this.symm
      · have := (hold (m / 128) (Or.inr ⟨m, hm, rfl, hk, hc⟩)).2
        rw [k2] at this
        exact this
    · refine ⟨none, fun u hu hc => ?_, fun m hm hk hc => absurd ⟨_, Or.inr ⟨m, hm, rfl, hk, hc⟩⟩ hex⟩
      cases e : aH b u o with
      | none => rfl
      | some Y => exact absurd ⟨Y, Or.inl ⟨u, hu, hc, e⟩⟩ hex
  have hrT : REST t N TT9 (n + 1) (itr (rmB (tRu t) (tLu t) (tRp t)) 9 wu) (aMb a).2 b := by
    obtain ⟨r0, r1, r2, r3, r4, r5, r6, r7, r8, r9, r10⟩ := t1
    refine ⟨r0, r1, r2, r3, r4, r5, r6, fun q o hq hwq ho _ => ?_, fun m o hm hwm ho hk _ => ?_, r9, r10⟩
    · have hc : tcc t (q / 2) = true := r6 _ (by omega) hwq
      have h1 := (hG.2.2.1 q hq).1
      have h2 := (hG.2.2.1 _ (ot18 hq)).1
      by_cases z : conn t (tRp t q) o
      · exact r7 q o hq hwq ho (Or.inl z)
      · obtain ⟨x, x1, _⟩ := hKb _ o h1 ho z
        refine Or.inl ?_
        have e : aC (n + 1) b (tRp t (ot q)) o = aC (n + 1) b (tRp t q) o := by
          unfold aC
          rw [x1 _ h1 (conn_rfl _), x1 _ h2 (conn_s2 hG h1 hq hc (conn_rfl _))]
        rw [e]
        exact Nat.le_max_left _ _
    · have hm18 := (r2 m hm).1
      have h1 := (hG.2.2.1 _ hm18).1
      have h2 := (hG.2.2.1 _ (ot18 hm18)).1
      by_cases z : conn t (tRp t (m % 128)) o
      · exact r8 m o hm hwm ho hk (Or.inl z)
      · have hc := hcb m hm
        obtain ⟨x, x1, x2⟩ := hKb _ o h1 ho z
        have hcc := conn_s2 hG h1 hm18 hc (conn_rfl _)
        have e := x2 m hm hk hcc
        unfold aC
        rw [x1 _ h2 hcc, e]
        exact Nat.le_refl _
  have hQb : ∀ o, o < N → tRu t o = true → ∃ K, QI t N (n + 1) b o K 6 ∧ ∀ m, m ∈ (aMb b).1 → m / 128 / 64 = 272 + o → conn t o (tRp t (ot (m % 128))) → ag (n + 1) (m / 128) ≤ 40 := fun o ho hu => by
    obtain ⟨K, q⟩ := hQ o ho hu
    obtain ⟨k1, k2⟩ := QI_step hG (by omega) ho hu ha hb hF (fun u _ hc => Or.inl (conn_sym hc)) q
    exact ⟨K, k1, k2 (Nat.le_refl _)⟩
  refine ⟨⟨⟨⟨_, REST_wu hwu2 hrT⟩, hcb⟩, fun o ho hu => ?_, fun o m ho hu hm hk hc => ?_, hKb⟩, hrT, t2, hF.2.2.2.2.2.1⟩
  · obtain ⟨K, ⟨q0, q1, q2, q3, q5⟩, _⟩ := hQb o ho hu
    exact ⟨K, q0, q1, q2, fun d u hd => q3 d u (by omega), q5⟩
  · obtain ⟨K, _, q⟩ := hQb o ho hu
    exact q m hm hk hc
theorem PCI_0 {t : TP} {N T : Nat} {A : Nat → AS} (hG : TG t N) (hT : T + 12 < 100) (h : RUN t N T A 12) : PCI t N (T + 12) (A 12) := by
  have hN := hG.2.1
  have hq : ∀ o, o < N → tRu t o = true → ∀ i, i ≤ 6 → QI t N (T + (6 + i)) (A (6 + i)) o (aC (T + 6) (A 6) o o) i := fun o ho hu i => by
    induction i with
    | zero => intro _; exact QI_0 hG (k := 12) hT (by omega) ho hu h
    | succ i ih =>
      intro hi
      have := (QI_step hG (show T + (6 + i) < 100 by omega) ho hu (h.1 (6 + i) (by omega) (by omega)) (h.1 (6 + i + 1) (by omega) (by omega)) (h.2 (6 + i) (by omega) (by omega)) (fun _ _ _ => trivial) (ih (by omega))).1
      exact this
  have hge : ∀ u0 o, u0 < N → o < N → ¬ conn t u0 o → ∀ j, 6 ≤ j → j ≤ 12 → ∀ X w, w < N → conn t u0 w → inV t N (A j) o u0 X → ∀ i, 6 ≤ i → i ≤ 12 → cod (T + j) (aSq (A j)) X ≤ aC (T + i) (A i) w o := fun u0 o hu0 ho hno j hj hj2 X w hw hc hX i hi hi2 => by
    rcases run_u hG h ho hu0 j X (by omega) hj2 hX with ⟨u, u1, u2, u3⟩ | ⟨k, _⟩
    · have h1 := run_p hG h (i := 1) u1 ho (by omega) 5 w (by omega) (conn_trans hG u1 (conn_sym u2) hc)
      exact Nat.le_trans u3 (Nat.le_trans h1 (run_m h hw ho (by omega) i hi hi2))
    · exact absurd k hno
  refine ⟨h.1 12 (by omega) (by omega), fun o ho hu => ?_, fun o m ho hu hm hk hc => ?_, fun u0 o hu0 ho hno => ?_⟩
  · obtain ⟨q0, q1, q2, q3, q5⟩ := hq o ho hu 6 (by omega)
    exact ⟨_, q0, q1, q2, fun d u hd => q3 d u (by omega), q5⟩
  · exact (QI_step hG (show T + 11 < 100 by omega) ho hu (h.1 11 (by omega) (by omega)) (h.1 12 (by omega) (by omega)) (h.2 11 (by omega) (by omega)) (fun _ _ _ => trivial) (hq o ho hu 5 (by omega))).2 (by omega) m hm hk hc
  · have h12 := h.1 12 (by omega) (by omega)
    have hcode : ∀ u, u < N → conn t u0 u → ∀ X, inV t N (A 12) o u0 X → cod (T + 12) (aSq (A 12)) X ≤ aC (T + 12) (A 12) u o := fun u hu hc X hX => hge u0 o hu0 ho hno 12 (by omega) (by omega) X u hu hc hX 12 (by omega) (by omega)
    -- two that are held are one
    have hone : ∀ u X Y, u < N → conn t u0 u → aH (A 12) u o = some Y → inV t N (A 12) o u0 X → cod (T + 12) (aSq (A 12)) Y ≤ cod (T + 12) (aSq (A 12)) X → X = Y := fun u X Y hu hc hY hX hle => by
      have hYi : inV t N (A 12) o u0 Y := Or.inl ⟨u, hu, hc, hY⟩
      have k1 := (inV_l hG h12 ho hX).1
      have k2 := (inV_l hG h12 ho hYi).1
      have h1 := hcode u hu hc X hX
      have h2 : aC (T + 12) (A 12) u o = cod (T + 12) (aSq (A 12)) Y := by unfold aC; rw [hY]; rfl
      exact cod_inj (sq := aSq (A 12)) (n := T + 12) (by omega) (k1.1.trans k2.1.symm) (by have := k1.2.1; omega) (by have := k2.2.1; omega) (by omega)
    refine ⟨aH (A 12) u0 o, fun u hu hc => ?_, fun m hm hk hc => ?_⟩
    · cases e1 : aH (A 12) u o with
      | none =>
        cases e2 : aH (A 12) u0 o with
        | none => rfl
        | some Y =>
          have h1 := hcode u hu hc Y (Or.inl ⟨u0, hu0, conn_rfl _, e2⟩)
          have h2 : aC (T + 12) (A 12) u o = 0 := by unfold aC; rw [e1]; rfl
          have h3 := cod_pos (inV_l hG h12 ho (Or.inl ⟨u0, hu0, conn_rfl _, e2⟩)).1
          omega
      | some X =>
        have hX : inV t N (A 12) o u0 X := Or.inl ⟨u, hu, hc, e1⟩
        have h1 := hcode u0 hu0 (conn_rfl _) X hX
        have h3 := cod_pos (inV_l hG h12 ho hX).1
        cases e2 : aH (A 12) u0 o with
        | none => have h2 : aC (T + 12) (A 12) u0 o = 0 := by unfold aC; rw [e2]; rfl
                  omega
        | some Y =>
          have hY : inV t N (A 12) o u0 Y := Or.inl ⟨u0, hu0, conn_rfl _, e2⟩
          have h4 := hcode u hu hc Y hY
          have h5 : aC (T + 12) (A 12) u o = cod (T + 12) (aSq (A 12)) X := by unfold aC; rw [e1]; rfl
          rw [hone u0 X Y hu0 (conn_rfl _) e2 hX (by omega)]
    · have hF := h.2 11 (by omega) (by omega)
      have hm18 := (h12.1.choose_spec.2.2.1 m hm).1
      have hsu := (hG.2.2.1 _ (ot18 hm18)).1
      obtain ⟨g1, g2, g3, g4, g5⟩ := hF.2.2.2.1 m o hm ho hk
      have g3 : aC (T + 11) (A 11) (tRp t (ot (m % 128))) o ≤ cod (T + 12) (aSq (A 12)) (m / 128) := g3 trivial
      have hX : inV t N (A 12) o u0 (m / 128) := Or.inr ⟨m, hm, rfl, hk, hc⟩
      have h3 := cod_pos (inV_l hG h12 ho hX).1
      have h4 := hcode u0 hu0 (conn_rfl _) _ hX
      cases e2 : aH (A 12) u0 o with
      | none => have h2 : aC (T + 12) (A 12) u0 o = 0 := by unfold aC; rw [e2]; rfl
                omega
      | some Y =>
        have hY : inV t N (A 12) o u0 Y := Or.inl ⟨u0, hu0, conn_rfl _, e2⟩
        have h5 := hge u0 o hu0 ho hno 12 (by omega) (by omega) Y _ hsu hc hY 11 (by omega) (by omega)
        rw [hone u0 (m / 128) Y hu0 (conn_rfl _) e2 hX (Nat.le_trans h5 g3)]
