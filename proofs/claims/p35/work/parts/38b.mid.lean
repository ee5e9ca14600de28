/-! between delivery and turns -/
theorem nw_rcv {t : TP} {n B : Nat} {sq : Nat → Nat} {v q : Nat} {x : RS} (h : ∀ j, x.2.2.2.2.1 j ≤ B) : ∀ j, (rcv t n sq v q x).2.2.2.2.1 j ≤ B := by
  have hac : ∀ j, (rac t sq v q x).2.2.2.2.1 j ≤ B := by
    unfold rac
    split
    · exact fs_le h (Nat.zero_le _)
    · exact fs_le h (Nat.zero_le _)
  unfold rcv
  split
  · exact hac
  · split
    · exact h
    · split
      · exact h
      · exact hac
theorem nw_dl {t : TP} {n B : Nat} {sq : Nat → Nat} {L : List Nat} {x : RS} (h : ∀ j, x.2.2.2.2.1 j ≤ B) (i : Nat) : ∀ j, (itr (dl1 t n sq L) i x).2.2.2.2.1 j ≤ B := by
  refine itr_ind (P := fun (x : RS) => ∀ j, x.2.2.2.2.1 j ≤ B) h (fun i x hx => ?_) i
  unfold dl1
  split
  · exact nw_rcv hx
  · exact hx
theorem nw_ex {N n B : Nat} {x : ES} (h : ∀ j, x.2.2 j ≤ B) : ∀ j, (exA N n x).2.2 j ≤ B := by
  unfold exA
  split
  · refine itr_ind (P := fun (x : ES) => ∀ j, x.2.2 j ≤ B) h (fun i x hx => ?_) N
    unfold ex2
    refine itr_ind (P := fun (x : ES) => ∀ j, x.2.2 j ≤ B) hx (fun k x hx => ?_) 1088
    unfold ex1
    split
    · exact hx
    · split
      · exact fs_le hx (Nat.zero_le _)
      · exact hx
  · exact h
/-- a router of which nothing has changed has what it had -/
theorem QW_keep {t : TP} {N n r : Nat} {a b : AS} (hG : TG t N) (hr : r < N) (hag : ∀ v, aH a r r = some v → ag (n + 1) v = ag n v + 1) (hH : ∀ o, o < N → aH b r o = aH a r o) (hnw : aNw b r = aNw a r) (hmr : aMr b (272 + r) = aMr a (272 + r)) (hold : aOld b (r * 4 + 1) = aOld a (r * 4 + 1))
    (hs : aLm b = aLm a ∧ aLo b = aLo a ∧ aDs b = aDs a ∧ aFk b = aFk a ∧ aKd b = aKd a ∧ aCo b = aCo a ∧ aLi b = aLi a ∧ aLc b = aLc a) : (QW t N n a r → QW t N (n + 1) b r) ∧ (FPR t N a r → FPR t N b r) := by
  obtain ⟨s1, s2, s3, s4, s5, s6, s7, s8⟩ := hs
  have hP : FPR t N a r → FPR t N b r := fun h => by
    unfold FPR at h ⊢
    rw [s1, s3, s4]
    exact SP_congr hG hr (fun q hq => (km_congr hG hH (fun _ _ _ _ => rfl) q hq).symm) (fun _ _ => rfl) (fun _ _ => rfl) h
  refine ⟨fun ⟨v, a1, a2, a3, a4, a5, a6, a7⟩ => ⟨v, (hH r hr).trans a1, ?_, by rw [s1, s2]; exact a3, hmr.trans a4, hold.trans a5, hP a6, ?_⟩, hP⟩
  · rw [hnw, hag v a1]; omega
  · unfold FRR at a7 ⊢
    rw [s2, s3, s4, s5, s6, s7, s8, fbs_congr (lo2 := aLo a) (ds2 := aDs a) (fk2 := aFk a) hG hH (fun _ _ _ _ => rfl) (fun _ _ => rfl) (fun _ _ => rfl)]
    exact a7
theorem MID {t : TP} {N n ka : Nat} {Rel : Nat → Nat → Prop} {wu : Nat → Bool} {a : AS} (hG : TG t N) (hT : TOK t) (hn : n ≤ 80) (hR : CLO t N Rel) (h : REST t N Rel n wu ka a) (hf : FRSH t N Rel n wu a) :
    AB t N (n + 1) 0 (tkB t (n + 1) ka a) ∧ AQ t N (n + 1) wu 0 (tkB t (n + 1) ka a) ∧ AL t N (n + 1) (aSq a) wu Rel (aMb a).1 (tkR t (n + 1) ka a) 0 (tkB t (n + 1) ka a) ∧ NU (n + 1) (tkB t (n + 1) ka a) ∧ (∀ r, r < N → tRu t r = false → DR (tkB t (n + 1) ka a) r) ∧
    (mOK (aMb (tkB t (n + 1) ka a)) ∧ mL (aMb (tkB t (n + 1) ka a)) ≤ mL (aMb a) + 6912) := by
  have hN := hG.2.1
  obtain ⟨hDB, hDI, hm1, hm2⟩ := DL_r hG hT hn hR h hf (mL (aMb a)) (Nat.le_refl _)
  obtain ⟨s1, s2, s3, s4⟩ := ex_r (ka := ka) hG h.2.1
  have hx : itr (dl1 t (n + 1) (aSq a) (aMb a).1) (mL (aMb a)) (tkR t (n + 1) ka a) = tkD t (n + 1) ka a := rfl
  have hnw := nw_dl (t := t) (n := n + 1) (sq := aSq a) (L := (aMb a).1) (B := n + 30) (x := tkR t (n + 1) ka a) (by
    have hq : ∀ j, aNw a j ≤ n + 30 := h.2.2.2.2.2.2.2.2.2.2.2.2.2.1
    exact nw_ex (x := (aOld a, aHd a, aNw a)) hq) (mL (aMb a))
  rw [hx] at hDB hDI hm1 hm2 hnw
  have hlen : (aMb a).1.length = mL (aMb a) := rfl
  unfold tkB
  generalize tkD t (n + 1) ka a = x at hDB hDI hm1 hm2 hnw ⊢
  obtain ⟨d1, d2, d3, d4, d5, d6, d7, d8, d9⟩ := hDI
  have hpn : ∀ q o c, ¬ pnd (n + 1) (aSq a) (aMb a).1 (mL (aMb a)) q o c := fun q o c ⟨j, j1, j2, _⟩ => absurd (Nat.lt_of_lt_of_le j2 j1) (Nat.lt_irrefl _)
  have hrest : aLm (rToA x a) = aLm a ∧ aLo (rToA x a) = aLo a ∧ aDs (rToA x a) = aDs a ∧ aFk (rToA x a) = aFk a ∧ aKd (rToA x a) = aKd a ∧ aCo (rToA x a) = aCo a ∧ aLi (rToA x a) = aLi a ∧ aLc (rToA x a) = aLc a := ⟨rfl, rfl, rfl, rfl, rfl, rfl, rfl, rfl⟩
  have hagk : ∀ {u o v : Nat}, aH a u o = some v → ag (n + 1) v = ag n v + 1 := fun {u o v} e => by
    obtain ⟨_, _, _, _, _, _, c5⟩ := h.2.1 _ _ e
    exact ag_s (by omega)
  refine ⟨⟨fun j v hj => ?_, fun m hm => ?_, ⟨fun j => ?_, fun r _ => hDB.2.2.1 _⟩, hDB.2.2.2.1, hDB.2.2.2.2⟩, fun r hr hup => ⟨fun hlt => absurd hlt (Nat.not_lt_zero _), fun _ => ?_⟩, ⟨d1, fun q o hq hc ho hRq hor => ?_, fun q o hq hw ho hRq => ?_, fun m o hm ho hk => ?_, fun u o v hu ho hv => ?_, fun w _ => rfl, fun r hr hv => ?_, d9⟩, ?_, fun r hr hd => (h.2.2.2.2.2.1 r hr hd).2.2, hm1, hm2⟩
  · obtain ⟨u, o, c1, c2, c3, c4, c5, c6⟩ := hDB.1 j v hj
    exact ⟨u, o, c1, c2, c3, c4, c6, fun z => absurd z (by omega)⟩
  · obtain ⟨k1, k2, o, k3, k4, k5, k6⟩ := hDB.2.1 m hm
    exact ⟨k1, k2, o, k3, k4, k6, fun z => absurd z (by omega)⟩
  · have := hDB.2.2.1 j
    show x.1 j ≤ n + 1
    omega
  · -- routers before their turn
    obtain ⟨w1, w2⟩ := h.2.2.2.2.2.2.2.2.2.1 r hr hup
    constructor
    · rcases d7 r hr with k | ⟨k1, k2, k3, k4, k5⟩
      · exact Or.inl k
      · rcases s4 r (by omega) with e | ⟨e1, e2, e3⟩
        · exact Or.inl (k1.trans e)
        · rcases w1 with w | ⟨w, w3⟩
          · exact Or.inl (k1.trans (e1.trans w))
          · exact Or.inr ⟨(QW_keep (b := rToA x a) hG hr (fun v e => hagk e) (fun o ho => (k2 o ho).trans (e3 o (by omega))) (k1.trans e1) k3 (k5.trans e2) hrest).1 w, w3⟩
    · rcases d8 r hr with k | ⟨k1, k2⟩
      · exact Or.inl k
      · rcases s3 r (by omega) with e | ⟨e1, e2⟩
        · exact Or.inl (k1.trans e)
        · rcases w2 with w | w | w
          · exact Or.inl (k1.trans (e1.trans w))
          · exact Or.inr (Or.inl ((k2 r hr).trans ((e2 r (by omega)).trans w)))
          · refine Or.inr (Or.inr ?_)
            unfold FPR at w ⊢
            exact SP_congr hG hr (fun q hq => (km_congr hG (fun o ho => (k2 o ho).trans (e2 o (by omega))) (fun _ _ _ _ => rfl) q hq).symm) (fun _ _ => rfl) (fun _ _ => rfl) w
  · rcases hor with hw | hw
    · rcases d2 q o hq hw ho hRq with k | k | k
      · exact Or.inl k
      · exact absurd k (hpn _ _ _)
      · exact Or.inr k
    · exact absurd hw (Nat.not_lt_zero _)
  · rcases d3 q o hq hw ho hRq with k | k
    · exact k
    · exact absurd k (hpn _ _ _)
  · obtain ⟨k1, k2, k3⟩ := d5 m o hm ho hk
    exact ⟨k1, k2, Or.inl k3⟩
  · obtain ⟨k1, k2⟩ := d6 u o v hu ho hv
    exact ⟨Or.inl k1, fun z => Or.inl (k2 z)⟩
  · have k := (DB_h hN hDB hr hr hv).2.1
    rw [ag_nwv] at k; omega
  · obtain ⟨n1, n2, n3, n4, n5, n6, n7⟩ := h.2.2.2.2.2.2.2.2.2.2
    exact ⟨fun j => Nat.le_succ_of_le (n1 j), n2, n3, fun j => by have := hnw j; show x.2.2.2.2.1 j ≤ n + 1 + 30; omega, n5, n6, n7⟩
/-- the turns, all -/
theorem TURNS {t : TP} {N n : Nat} {sq : Nat → Nat} {wu : Nat → Bool} {Rel : Nat → Nat → Prop} {L : List Nat} {x0 : RS} {a : AS} (hG : TG t N) (hT : TOK t) (hmp : ∀ j, tMp t j ≤ 1000) (hn : n < 128) (hn1 : 1 ≤ n)
    (h1 : AB t N n 0 a) (h2 : AQ t N n wu 0 a) (h3 : AL t N n sq wu Rel L x0 0 a) (h4 : NU n a) (h5 : ∀ r, r < N → tRu t r = false → DR a r) : ∀ i, i ≤ N →
    AB t N n i (itr (act1 t wu n) i a) ∧ AQ t N n wu i (itr (act1 t wu n) i a) ∧ AL t N n sq wu Rel L x0 i (itr (act1 t wu n) i a) ∧ NU n (itr (act1 t wu n) i a) ∧ (∀ r, r < N → tRu t r = false → DR (itr (act1 t wu n) i a) r) ∧
    ((∀ j, j % 64 ≠ n % 64 → aLm (itr (act1 t wu n) i a) j = aLm a j) ∧ ∀ j, j % 64 ≠ n % 64 → aLo (itr (act1 t wu n) i a) j = aLo a j)
  | 0, _ => ⟨h1, h2, h3, h4, h5, fun _ _ => rfl, fun _ _ => rfl⟩
  | i + 1, hi => by
    obtain ⟨k1, k2, k3, k4, k5, k6, k7⟩ := TURNS hG hT hmp hn hn1 h1 h2 h3 h4 h5 i (by omega)
    rw [itr_s]
    generalize itr (act1 t wu n) i a = x at k1 k2 k3 k4 k5 k6 k7 ⊢
    have hi2 : i < N := by omega
    refine ⟨AB_act hG hT hi2 hn1 k1, AQ_act hG hT hi2 k1 k2, AL_act hG hT hi2 hn k1 k2 k3, NU_act hG hT hmp hi2 k1 k4, fun r hr hd => DR_act hG hT hi2 hd (k5 r hr hd), ?_⟩
    rcases act_cases (n := n) (wu := wu) hG hT hi2 x with ⟨e, _⟩ | ⟨_, _, hF⟩
    · rw [e]; exact ⟨k6, k7⟩
    · obtain ⟨_, _, _, _, _, ⟨f6, f6b⟩, _⟩ := hF
      exact ⟨fun j hj => (f6 j (Or.inl hj)).trans (k6 j hj), fun j hj => (f6b j (Or.inl hj)).trans (k7 j hj)⟩
