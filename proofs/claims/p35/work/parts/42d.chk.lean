/-! what the caller checks -/
/-- the costs that routers announce network 7 at -/
def CSTS (t : TP) (N : Nat) (cs : Nat → Nat) : Prop := ∀ v, v < N → cs v ≤ 3 ∧ tAn t ((v * 4 + 1) * 16 + 7) = if cs v = 0 then none else some (cs v)
def MTS (t : TP) : Prop := ∀ q, q < 18 → 1 ≤ tMp t q ∧ tMp t q ≤ 5
theorem sz_ex {hd : Nat → Option Nat} {r b : Nat} : ∀ n, 0 < itr (szB hd r b) n 0 ↔ ∃ i v, i < n ∧ hd (r * 1088 + (b + i)) = some v
  | 0 => ⟨fun h => absurd h (Nat.lt_irrefl 0), fun ⟨i, v, h, _⟩ => absurd h (Nat.not_lt_zero i)⟩
  | n + 1 => by
    rw [itr_s]
    have ih := sz_ex (hd := hd) (r := r) (b := b) n
    generalize itr (szB hd r b) n 0 = z at ih ⊢
    unfold szB
    cases e : hd (r * 1088 + (b + n)) with
    | none =>
      refine ih.trans ⟨fun ⟨i, v, h1, h2⟩ => ⟨i, v, by omega, h2⟩, fun ⟨i, v, h1, h2⟩ => ⟨i, v, ?_, h2⟩⟩
      by_cases q : i = n
      · subst q; rw [e] at h2; cases h2
      · omega
    | some v => exact ⟨fun _ => ⟨n, v, Nat.lt_succ_self n, e⟩, fun _ => Nat.succ_pos z⟩
theorem CHK_up {t : TP} {N n : Nat} {a : AS} (hG : TG t N) (h : FIN t N n a) {r : Nat} (hr : r < N) : 0 < itr (szB (aHd a) r (1 * 272)) 272 0 ↔ tRu t r = true := by
  rw [sz_ex]
  have hN := hG.2.1
  obtain ⟨_, _, wu, ka, hR, _⟩ := id h
  refine ⟨fun ⟨i, v, h1, h2⟩ => ?_, fun hup => ?_⟩
  · obtain ⟨u, o, c1, c2, c3, _⟩ := hR.2.1 _ _ h2
    obtain ⟨e1, e2⟩ := ix_inj (by omega) (by omega) c3
    obtain rfl : i = o := by omega
    cases z : tRu t r with
    | true => rfl
    | false =>
      have k := (hR.2.2.2.2.2.1 r hr z).1 i c2
      unfold aH at k
      rw [← ix_1, h2] at k
      cases k
  · obtain ⟨X, x1, _⟩ := own_says hG h hr hr hup (conn_rfl r)
    exact ⟨r, X, by omega, by rw [ix_1]; exact x1⟩
theorem FIN_25 {t : TP} {N n : Nat} {a : AS} (hG : TG t N) (hM : MTS t) (h : FIN t N n a) {r v d : Nat} (hr : r < N) (hup : tRu t r = true) (hv : v < N) (hd : row ((r * 4 + 1) * 16) (aDs a) v = some d) : d ≤ 25 := by
  obtain ⟨hS, hS2⟩ := FIN_D hG (fun q hq => (hM q hq).1) h hr hup
  obtain ⟨m, c, k1, k2⟩ := wk_rch hM (hS2 v d hv hd).1
  obtain ⟨e, e1, e2⟩ := SP_wk hS k1
  rw [hd] at e1
  obtain rfl := Option.some.inj e1
  omega
/-- the distances -/
theorem CHK_D {t : TP} {N n : Nat} {a : AS} (hG : TG t N) (hM : MTS t) (h : FIN t N n a) {r v : Nat} (hr : r < N) (hv : v < N) :
    aDs a ((r * 4 + 1) * 16 + v) = (if tRu t r = true ∧ itr (bfR t) N (bf0 r) v < far9 then some (itr (bfR t) N (bf0 r) v) else none) ∧ itr (bfR t) N (bf0 r) v ≤ far9 := by
  have hN := hG.2.1
  by_cases hup : tRu t r = true
  · obtain ⟨hS, _⟩ := FIN_D hG (fun q hq => (hM q hq).1) h hr hup
    have h25 : ∀ v d, v < N → row ((r * 4 + 1) * 16) (aDs a) v = some d → d ≤ 25 := fun v d hv hd => FIN_25 hG hM h hr hup hv hd
    have e := BF hG hS (fun q hq => (hM q hq).1) hr (fun v d hv hd => by have := h25 v d hv hd; unfold far9; omega) v hv
    rw [e]
    show row ((r * 4 + 1) * 16) (aDs a) v = _ ∧ _
    cases z : row ((r * 4 + 1) * 16) (aDs a) v with
    | none =>
      rw [gD_n z]
      exact ⟨by rw [if_neg (fun k => absurd k.2 (Nat.lt_irrefl _))], Nat.le_refl _⟩
    | some d =>
      have := h25 v d hv z
      rw [gD_s z]
      have k : d < far9 := by unfold far9; omega
      exact ⟨by rw [if_pos ⟨hup, k⟩], Nat.le_of_lt k⟩
  · have hdn : tRu t r = false := by cases z : tRu t r with
      | true => exact absurd z hup
      | false => rfl
    obtain ⟨_, _, wu, ka, hR, _⟩ := id h
    refine ⟨?_, ?_⟩
    · rw [if_neg (fun k => hup k.1)]
      exact (hR.2.2.2.2.2.1 r hr hdn).2.2.1 v (by omega)
    · have hb0 : ∀ w, bf0 r w ≤ far9 := fun w => by unfold bf0; split; exact Nat.zero_le _; exact Nat.le_refl _
      have hrx : ∀ q A, (∀ w, A w ≤ far9) → ∀ w, rx t q A w ≤ far9 := fun q A hA w => by
        unfold rx
        by_cases z : w = tRp t (ot q)
        · rw [z, fs_s]; exact Nat.le_trans (Nat.min_le_left _ _) (hA _)
        · rw [fs_n z]; exact hA w
      have h1 : ∀ k A, (∀ w, A w ≤ far9) → ∀ w, bf1 t k A w ≤ far9 := fun k A hA => by
        unfold bf1
        split
        · exact hrx _ _ (hrx _ _ hA)
        · exact hA
      exact itr_ind (P := fun (A : Nat → Nat) => ∀ w, A w ≤ far9) hb0 (fun i A hA => itr_ind (P := fun (A : Nat → Nat) => ∀ w, A w ≤ far9) hA (fun k A hA => h1 k A hA) 9) N v
theorem CHK_A {t : TP} {N n : Nat} {a : AS} (hG : TG t N) (hM : MTS t) (hn : n < 100) (h : FIN t N n a) {r v d : Nat} (hr : r < N) (hv : v < N) (hq : mL (aMb a) = 0) (hd : aDs a ((r * 4 + 1) * 16 + v) = some d) :
    tRu t r = true ∧ tRu t v = true ∧ ∀ i, i < 272 → aHd a (r * 1088 + (1 * 272 + i)) = aHd a (v * 1088 + (1 * 272 + i)) := by
  have hup : tRu t r = true := by
    cases z : tRu t r with
    | true => rfl
    | false =>
      obtain ⟨_, _, wu, ka, hR, _⟩ := id h
      have := (hR.2.2.2.2.2.1 r hr z).2.2.1 v (by have := hG.2.1; omega)
      rw [this] at hd; cases hd
  obtain ⟨k1, k2⟩ := (FIN_D hG (fun q hq => (hM q hq).1) h hr hup).2 v d hv hd
  exact ⟨hup, k2, FIN_A hG hn h (List.eq_nil_of_length_eq_zero hq) hr hv k1⟩
/-- the best of what the caller has seen -/
def bsv (ds : Nat → Option Nat) (cs : Nat → Nat) (r v best : Nat) : Nat := match ds ((r * 4 + 1) * 16 + v) with
  | none => best
  | some d => if cs v = 0 then best else min best (d + cs v)
theorem bsv_all {ds : Nat → Option Nat} {cs : Nat → Nat} {r : Nat} : ∀ n, (∀ v d, v < n → ds ((r * 4 + 1) * 16 + v) = some d → cs v ≠ 0 → itr (bsv ds cs r) n far9 ≤ d + cs v) ∧ (itr (bsv ds cs r) n far9 = far9 ∨ ∃ v d, v < n ∧ ds ((r * 4 + 1) * 16 + v) = some d ∧ cs v ≠ 0 ∧ itr (bsv ds cs r) n far9 = d + cs v)
  | 0 => ⟨fun v d h => absurd h (Nat.not_lt_zero v), Or.inl rfl⟩
  | n + 1 => by
    rw [itr_s]
    obtain ⟨a1, a2⟩ := bsv_all (ds := ds) (cs := cs) (r := r) n
    generalize itr (bsv ds cs r) n far9 = B at a1 a2 ⊢
    have lt_or : ∀ v, v < n + 1 → v < n ∨ v = n := fun v h => by omega
    have same : (∀ d, ds ((r * 4 + 1) * 16 + n) = some d → cs n = 0) → (∀ v d, v < n + 1 → ds ((r * 4 + 1) * 16 + v) = some d → cs v ≠ 0 → B ≤ d + cs v) ∧ (B = far9 ∨ ∃ v d, v < n + 1 ∧ ds ((r * 4 + 1) * 16 + v) = some d ∧ cs v ≠ 0 ∧ B = d + cs v) := fun hno => by
      refine ⟨fun v d hv h1 h2 => ?_, a2.elim Or.inl (fun ⟨v, d, k1, k2⟩ => Or.inr ⟨v, d, by omega, k2⟩)⟩
      rcases lt_or v hv with q | q
      · exact a1 v d q h1 h2
      · subst q; exact absurd (hno d h1) h2
    unfold bsv
    cases e : ds ((r * 4 + 1) * 16 + n) with
    | none => exact same (fun d hd => by rw [e] at hd; cases hd)
    | some d =>
      dsimp only
      by_cases z : cs n = 0
      · rw [if_pos z]; exact same (fun _ _ => z)
      · rw [if_neg z]
        refine ⟨fun v d2 hv h1 h2 => ?_, ?_⟩
        · rcases lt_or v hv with q | q
          · exact Nat.le_trans (Nat.min_le_left _ _) (a1 v d2 q h1 h2)
          · subst q
            rw [e] at h1
            obtain rfl := Option.some.inj h1
            exact Nat.min_le_right _ _
        · rcases Nat.le_total B (d + cs n) with q | q
          · rw [Nat.min_eq_left q]
            exact a2.elim Or.inl (fun ⟨v, d, k1, k2⟩ => Or.inr ⟨v, d, by omega, k2⟩)
          · rw [Nat.min_eq_right q]
            exact Or.inr ⟨n, d, Nat.lt_succ_self n, e, z, rfl⟩
/-- kind, cost and packet -/
theorem CHK_R {t : TP} {N n : Nat} {a : AS} {cs : Nat → Nat} (hG : TG t N) (hM : MTS t) (hC : CSTS t N cs) (h : FIN t N n a) {r : Nat} (hr : r < N) :
    (itr (bsv (aDs a) cs r) N far9 < far9 ∧ aKd a (r * 16 + 7) = 1 ∧ aCo a (r * 16 + 7) = some (itr (bsv (aDs a) cs r) N far9) ∧ fwd t (aLc a) (aLi a) 7 33 r = 0) ∨
    (itr (bsv (aDs a) cs r) N far9 = far9 ∧ aKd a (r * 16 + 7) = 0 ∧ fwd t (aLc a) (aLi a) 7 33 r = 1) := by
  have hN := hG.2.1
  have hmp := fun q hq => (hM q hq).1
  obtain ⟨b1, b2⟩ := bsv_all (ds := aDs a) (cs := cs) (r := r) N
  generalize itr (bsv (aDs a) cs r) N far9 = B at b1 b2 ⊢
  have hco : ∀ v, v < N → cs v ≠ 0 → tAn t ((v * 4 + 1) * 16 + 7) = some (cs v) := fun v hv z => by rw [(hC v hv).2, if_neg z]
  have hco2 : ∀ v c, v < N → tAn t ((v * 4 + 1) * 16 + 7) = some c → cs v ≠ 0 ∧ c = cs v := fun v c hv e => by
    rw [(hC v hv).2] at e
    by_cases z : cs v = 0
    · rw [if_pos z] at e; cases e
    · rw [if_neg z] at e; exact ⟨z, (Option.some.inj e).symm⟩
  by_cases hup : tRu t r = true
  · obtain ⟨⟨hb1, hb2⟩, hk⟩ := FIN_R hG hmp h hr hup
    have h25 : ∀ v d, v < N → aDs a ((r * 4 + 1) * 16 + v) = some d → d ≤ 25 := fun v d hv hd => FIN_25 hG hM h hr hup hv hd
    cases e : aCo a (r * 16 + 7) with
    | none =>
      obtain ⟨c1, c2, c3⟩ := hb1 e
      refine Or.inr ⟨?_, by rw [hk, e]; rfl, fwd_1 c3 c2⟩
      rcases b2 with z | ⟨v, d, k1, k2, k3, k4⟩
      · exact z
      · exact absurd (hco v k1 k3) (fun z => c1 v d (cs v) k1 k2 z)
    | some b =>
      obtain ⟨⟨v, d, c, v1, v2, v3, v4⟩, d2, _⟩ := hb2 b e
      obtain ⟨w1, w2⟩ := hco2 v c v1 v3
      have u1 := b1 v d v1 v2 w1
      have u2 := h25 v d v1 v2
      have u3 := (hC v v1).1
      have hlt : b < 33 := by omega
      have hBb : B = b := by
        rcases b2 with z | ⟨v', d', k1, k2, k3, k4⟩
        · unfold far9 at z; omega
        · have := d2 v' d' (cs v') k1 k2 (hco v' k1 k3)
          omega
      exact Or.inl ⟨by unfold far9; omega, by rw [hk, e]; rfl, by rw [hBb], FIN_T hG hmp h 33 r b hr hup e hlt⟩
  · have hdn : tRu t r = false := by cases z : tRu t r with
      | true => exact absurd z hup
      | false => rfl
    obtain ⟨_, _, wu, ka, hR, _⟩ := id h
    obtain ⟨_, _, q1, q2, q3, q4⟩ := hR.2.2.2.2.2.1 r hr hdn
    refine Or.inr ⟨?_, q2, fwd_1 q4 q3⟩
    rcases b2 with z | ⟨v, d, k1, k2, k3, k4⟩
    · exact z
    · have := q1 v (by omega)
      rw [this] at k2; cases k2
