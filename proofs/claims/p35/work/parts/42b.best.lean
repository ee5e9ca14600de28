/-! the cheapest route, the packet's way -/
theorem SP_wk {t : TP} {N r : Nat} {f : Nat → Nat} {D : Nat → Option Nat} {K : Nat → Nat} (h : SP t N f r D K) : ∀ {n v c}, wk t f r n v c → ∃ e, D v = some e ∧ e ≤ c
  | 0, v, c, hw => by
    obtain ⟨h1, h2⟩ := hw
    subst h1
    exact ⟨0, h.1, Nat.zero_le _⟩
  | n + 1, v, c, hw => by
    obtain ⟨q, d, a1, a2, a3, a4, a5⟩ := hw
    obtain ⟨e, e1, e2⟩ := SP_wk h a4
    obtain ⟨e3, e4, e5⟩ := h.2.1 q e a1 a2 e1
    rw [a3] at e4
    exact ⟨e3, e4, by omega⟩
theorem wk_rch {t : TP} {u : Nat} (hmp : ∀ q, q < 18 → 1 ≤ tMp t q ∧ tMp t q ≤ 5) : ∀ {d v : Nat}, rch t u d v → ∃ n c, wk t (gw9 t) u n v c ∧ c ≤ 5 * d
  | 0, v, h => ⟨0, 0, ⟨h, rfl⟩, Nat.zero_le _⟩
  | d + 1, v, h => by
    rcases h with h | ⟨q, h1, h2, h3, h4⟩
    · obtain ⟨n, c, k1, k2⟩ := wk_rch hmp h
      exact ⟨n, c, k1, by omega⟩
    · obtain ⟨n, c, k1, k2⟩ := wk_rch hmp h4
      have hm := hmp (ot q) (ot18 h1)
      have hg : gw9 t (ot q) = tMp t (ot q) := by unfold gw9; rw [ot_div, if_pos h2]
      exact ⟨n + 1, c + gw9 t (ot q), ⟨ot q, c, ot18 h1, by rw [hg]; omega, by rw [ot_ot]; exact h3, k1, rfl⟩, by rw [hg]; omega⟩
/-- what every router's tables hold in the end, as distances and announced costs -/
def BST (t : TP) (N : Nat) (D : Nat → Option Nat) (K : Nat → Nat) (r : Nat) (B : BS) : Prop :=
  (B.1 = none → (∀ v d c, v < N → D v = some d → tAn t ((v * 4 + 1) * 16 + 7) = some c → False) ∧ B.2.1 = 0 ∧ B.2.2 = false) ∧
  (∀ b, B.1 = some b → (∃ v d c, v < N ∧ D v = some d ∧ tAn t ((v * 4 + 1) * 16 + 7) = some c ∧ d + c = b) ∧ (∀ v d c, v < N → D v = some d → tAn t ((v * 4 + 1) * 16 + 7) = some c → b ≤ d + c) ∧
    (∀ k, ¬ B.2.1 / 2 ^ k % 2 = 0 → ∃ v d c, v < N ∧ D v = some d ∧ tAn t ((v * 4 + 1) * 16 + 7) = some c ∧ d + c = b ∧ ¬ K v / 2 ^ k % 2 = 0) ∧
    (∀ v d c, v < N → D v = some d → tAn t ((v * 4 + 1) * 16 + 7) = some c → d + c = b → K v ≠ 0 → B.2.1 ≠ 0) ∧
    (B.2.2 = true ↔ ∃ v d c, v < N ∧ D v = some d ∧ tAn t ((v * 4 + 1) * 16 + 7) = some c ∧ d + c = b ∧ v = r))
theorem cnd_iff {t : TP} {N n : Nat} {a : AS} (hG : TG t N) (hmp : ∀ q, q < 18 → 1 ≤ tMp t q) (h : FIN t N n a) {r i : Nat} (hr : r < N) (hup : tRu t r = true) (hi : i < N) (d c : Nat) :
    cnd (aHd a) (aLo a) (aDs a) r 7 i d c ↔ row ((r * 4 + 1) * 16) (aDs a) i = some d ∧ tAn t ((i * 4 + 1) * 16 + 7) = some c := by
  have key : ∀ d, row ((r * 4 + 1) * 16) (aDs a) i = some d → ∃ X, aHd a (r * 1088 + (1 * 272 + i)) = some X ∧ aLo a (((i * 4 + 1) * 16 + 7) * 64 + X % 64) = tAn t ((i * 4 + 1) * 16 + 7) := fun d hd => by
    obtain ⟨k1, k2⟩ := (FIN_D hG hmp h hr hup).2 i d hi hd
    obtain ⟨X, x1, x2⟩ := own_says hG h hr hi k2 (conn_sym k1)
    rw [utb_true] at x2
    exact ⟨X, by rw [ix_1]; exact x1, x2.2 7 (by omega)⟩
  refine ⟨fun ⟨c1, X, c2, c3⟩ => ⟨c1, ?_⟩, fun ⟨c1, c2⟩ => ?_⟩
  · obtain ⟨Y, y1, y2⟩ := key d c1
    rw [c2] at y1
    obtain rfl := Option.some.inj y1
    rw [← y2]; exact c3
  · obtain ⟨Y, y1, y2⟩ := key d c1
    exact ⟨c1, Y, y1, by rw [y2]; exact c2⟩
theorem FIN_R {t : TP} {N n : Nat} {a : AS} (hG : TG t N) (hmp : ∀ q, q < 18 → 1 ≤ tMp t q) (h : FIN t N n a) {r : Nat} (hr : r < N) (hup : tRu t r = true) :
    BST t N (row ((r * 4 + 1) * 16) (aDs a)) (row ((r * 4 + 1) * 16) (aFk a)) r (aCo a (r * 16 + 7), aLi a (r * 16 + 7), aLc a (r * 16 + 7)) ∧ aKd a (r * 16 + 7) = kdo (aCo a (r * 16 + 7)) := by
  obtain ⟨⟨_, _, _, _, _, _, _, hF⟩, _⟩ := h.2.1 r hr hup
  obtain ⟨f1, f2, f3, f4⟩ := hF
  refine ⟨?_, by rw [f1, f2]⟩
  have hB := BI_all (t := t) (hd := aHd a) (lo := aLo a) (ds := aDs a) (fk := aFk a) (r := r) (n := 7) (tRc t)
  rw [f2, f3, f4]
  unfold fbs
  generalize itr (oa1 t (aHd a) (aLo a) (aDs a) (aFk a) r 7) (tRc t) (none, 0, false) = B at hB ⊢
  obtain ⟨B1, B2, B3⟩ := B
  rw [hG.1] at hB
  obtain ⟨b1, b2⟩ := hB
  have I : ∀ i d c, i < N → (cnd (aHd a) (aLo a) (aDs a) r 7 i d c ↔ row ((r * 4 + 1) * 16) (aDs a) i = some d ∧ tAn t ((i * 4 + 1) * 16 + 7) = some c) := fun i d c hi => cnd_iff hG hmp h hr hup hi d c
  refine ⟨fun e => ⟨fun v d c hv h1 h2 => (b1 e).1 v d c hv ((I v d c hv).mpr ⟨h1, h2⟩), (b1 e).2⟩, fun b e => ?_⟩
  obtain ⟨⟨i, d, c, c1, c2, c3⟩, d2, d3, d4, d5⟩ := b2 b e
  refine ⟨⟨i, d, c, c1, ((I i d c c1).mp c2).1, ((I i d c c1).mp c2).2, c3⟩, fun v d c hv h1 h2 => d2 v d c hv ((I v d c hv).mpr ⟨h1, h2⟩), fun k hk => ?_, fun v d c hv h1 h2 h3 h4 => d4 v d c hv ((I v d c hv).mpr ⟨h1, h2⟩) h3 h4, ?_⟩
  · obtain ⟨i, d, c, k1, k2, k3, k4⟩ := d3 k hk
    exact ⟨i, d, c, k1, ((I i d c k1).mp k2).1, ((I i d c k1).mp k2).2, k3, k4⟩
  · refine Iff.trans d5 ⟨fun ⟨i, d, c, k1, k2, k3, k4⟩ => ⟨i, d, c, k1, ((I i d c k1).mp k2).1, ((I i d c k1).mp k2).2, k3, k4⟩, fun ⟨i, d, c, k1, k2, k2b, k3, k4⟩ => ⟨i, d, c, k1, (I i d c k1).mpr ⟨k2, k2b⟩, k3, k4⟩⟩
theorem lbf_some {g : Nat} : ∀ n k j, k ≤ j → j < k + n → ¬ g / 2 ^ j % 2 = 0 → ∃ e, lbf g n k = some e
  | 0, k, j, h1, h2, _ => by omega
  | n + 1, k, j, h1, h2, h3 => by
    rw [lbf]
    by_cases z : g / 2 ^ k % 2 = 0
    · rw [if_pos z]
      exact lbf_some n (k + 1) j (by
        rcases Nat.lt_or_ge k j with q | q
        · exact q
        · exfalso; apply h3; rw [show j = k by omega]; exact z) (by omega) h3
    · rw [if_neg z]; exact ⟨k, rfl⟩
theorem bit_ex {x : Nat} (h : x ≠ 0) : ∃ k, ¬ x / 2 ^ k % 2 = 0 := by
  refine Classical.byContradiction (fun hno => h ?_)
  have hall : ∀ k, x / 2 ^ k % 2 = 0 := fun k => Classical.byContradiction (fun z => hno ⟨k, z⟩)
  apply Nat.eq_of_testBit_eq
  intro i
  rw [Nat.testBit_eq_decide_div_mod_eq, Nat.zero_testBit, hall i]
  rfl
theorem lbf_0 : ∀ n k, lbf 0 n k = none
  | 0, _ => rfl
  | n + 1, k => by
    rw [lbf, Nat.zero_div, Nat.zero_mod, if_pos rfl]
    exact lbf_0 n (k + 1)
/-- the other end, as follow() takes it -/
theorem nxt_ot {t : TP} {N q x : Nat} (hG : TG t N) (hq : q < 18) (h : tRp t q = x) : (if tRp t (q / 2 * 2) = x then tRp t (q / 2 * 2 + 1) else tRp t (q / 2 * 2)) = tRp t (ot q) := by
  have hne := (hG.2.2.1 q hq).2.1
  rw [h] at hne
  by_cases z : q % 2 = 0
  · have e1 : q / 2 * 2 = q := by omega
    have e2 : ot q = q + 1 := by unfold ot; rw [if_pos z]
    rw [e1, if_pos h, e2]
  · have e1 : q / 2 * 2 + 1 = q := by omega
    have e2 : ot q = q / 2 * 2 := by unfold ot; rw [if_neg z]; omega
    rw [e2] at hne ⊢
    rw [if_neg hne]
/-- where a best is known, the packet arrives -/
theorem FIN_T {t : TP} {N n : Nat} {a : AS} (hG : TG t N) (hmp : ∀ q, q < 18 → 1 ≤ tMp t q) (h : FIN t N n a) : ∀ k r b, r < N → tRu t r = true → aCo a (r * 16 + 7) = some b → b < k → fwd t (aLc a) (aLi a) 7 k r = 0
  | 0, _, _, _, _, _, hk => by omega
  | k + 1, r, b, hr, hup, hb, hk => by
    rw [fwd]
    have hB := (FIN_R hG hmp h hr hup).1.2 b hb
    obtain ⟨hS, hS2⟩ := FIN_D hG hmp h hr hup
    obtain ⟨⟨v, d, c, v1, v2, v3, v4⟩, b2, b3, b4, b5⟩ := hB
    cases hl : aLc a (r * 16 + 7) with
    | true => rw [if_pos rfl]
    | false =>
      rw [if_neg (by decide)]
      have hloc : ∀ v d c, v < N → row ((r * 4 + 1) * 16) (aDs a) v = some d → tAn t ((v * 4 + 1) * 16 + 7) = some c → d + c = b → v ≠ r := fun v d c w1 w2 w3 w4 w5 => by
        have : aLc a (r * 16 + 7) = true := b5.mpr ⟨v, d, c, w1, w2, w3, w4, w5⟩
        rw [hl] at this; cases this
      obtain ⟨hKv, hfst⟩ := hS.2.2.2 v d v1 (hloc v d c v1 v2 v3 v4) v2
      have hli : aLi a (r * 16 + 7) ≠ 0 := b4 v d c v1 v2 v3 v4 hKv
      have hbit : ∀ j, ¬ aLi a (r * 16 + 7) / 2 ^ j % 2 = 0 → ∃ q v d c m cc, q < 18 ∧ q / 2 = j ∧ tRp t q = r ∧ gw9 t q ≠ 0 ∧ v < N ∧ tAn t ((v * 4 + 1) * 16 + 7) = some c ∧ d + c = b ∧ wk t (gw9 t) (tRp t (ot q)) m v cc ∧ d = gw9 t q + cc := fun j hj => by
        obtain ⟨v, d, c, w1, w2, w3, w4, w5⟩ := b3 j hj
        obtain ⟨_, hf⟩ := hS.2.2.2 v d w1 (hloc v d c w1 w2 w3 w4) w2
        obtain ⟨q, m, cc, q1, q2, q3, q4, q5, q6⟩ := hf j w5
        exact ⟨q, v, d, c, m, cc, q1, q2, q3, q4, w1, w3, w4, q5, q6⟩
      obtain ⟨j, hj⟩ := bit_ex hli
      obtain ⟨q0, _, _, _, _, _, k1, k2, _⟩ := hbit j hj
      obtain ⟨e, he⟩ := lbf_some (g := aLi a (r * 16 + 7)) 40 0 j (Nat.zero_le _) (by omega) hj
      rw [he]
      dsimp only
      obtain ⟨_, _, he3⟩ := lbf_lt he
      obtain ⟨q, v, d, c, m, cc, q1, q2, q3, q4, q5, q6, q7, q8, q9⟩ := hbit e he3
      have hc : tcc t (q / 2) = true := by
        cases z : tcc t (q / 2) with
        | true => rfl
        | false => exfalso; apply q4; unfold gw9; rw [if_neg (by rw [z]; decide)]
      subst q2
      rw [if_pos hc, nxt_ot hG q1 q3]
      have hy := (hG.2.2.1 _ (ot18 q1)).1
      have huy := (tcc_up hc).2
      have hBy := (FIN_R hG hmp h hy huy).1
      obtain ⟨e2, g1, g2⟩ := SP_wk (FIN_D hG hmp h hy huy).1 q8
      cases hco : aCo a (tRp t (ot q) * 16 + 7) with
      | none => exact absurd q6 (fun z => (hBy.1 hco).1 v e2 c q5 g1 z)
      | some b2 =>
        have := (hBy.2 b2 hco).2.1 v e2 c q5 g1 q6
        exact FIN_T hG hmp h k _ b2 hy huy hco (by omega)
/-- where none is known, it does not leave -/
theorem fwd_1 {t : TP} {lcl : Nat → Bool} {li : Nat → Nat} {r k : Nat} (h1 : lcl (r * 16 + 7) = false) (h2 : li (r * 16 + 7) = 0) : fwd t lcl li 7 (k + 1) r = 1 := by
  rw [fwd, if_neg (by rw [h1]; decide), h2, lbf_0]
