/-! one message delivered -/
def rH (x : RS) (u o : Nat) : Option Nat := x.2.2.2.1 (u * 1088 + (272 + o))
def rC (n : Nat) (sq : Nat → Nat) (x : RS) (u o : Nat) : Nat := cdo n sq (rH x u o)
/-- what a router has of a key, or will have of its own when it has acted -/
def rE (n : Nat) (sq : Nat → Nat) (x : RS) (u o : Nat) : Nat := max (rC n sq x u o) (if u = o ∧ x.2.1 (272 + o) = true then x.1 (272 + o) * 128 + 127 else 0)
theorem tcc_up {t : TP} {q : Nat} (h : tcc t (q / 2) = true) : tRu t (tRp t q) = true ∧ tRu t (tRp t (ot q)) = true := by
  unfold tcc cc at h
  rw [Bool.and_eq_true, Bool.and_eq_true] at h
  obtain ⟨h1, h2, h3⟩ := h
  unfold ot
  split
  · rw [show q / 2 * 2 = q from by omega] at h2 h3; exact ⟨h2, h3⟩
  · rw [show q / 2 * 2 = q - 1 from by omega] at h2 h3; rw [show q - 1 + 1 = q from by omega] at h3; exact ⟨h3, h2⟩
theorem rcv_cases (t : TP) (n : Nat) (sq : Nat → Nat) {v q o : Nat} (x : RS) (hk : v / 64 = 272 + o) :
    (rH x (tRp t q) o = some v ∧ rcv t n sq v q x = x) ∨
    (∃ w, rH x (tRp t q) o = some w ∧ w ≠ v ∧ nwr sq n w v = true ∧ rcv t n sq v q x = (x.1, x.2.1, x.2.2.1, x.2.2.2.1, x.2.2.2.2.1, put x.2.2.2.2.2 (w * 128 + ot q))) ∨
    ((∀ w, rH x (tRp t q) o = some w → w ≠ v ∧ nwr sq n w v = false) ∧ o = tRp t q ∧ rcv t n sq v q x = (fs x.1 (272 + o) (max (x.1 (272 + o)) (sq v)), fs x.2.1 (272 + o) true, x.2.2.1, x.2.2.2.1, fs x.2.2.2.2.1 (tRp t q) 0, x.2.2.2.2.2)) ∨
    ((∀ w, rH x (tRp t q) o = some w → w ≠ v ∧ nwr sq n w v = false) ∧ o ≠ tRp t q ∧ rcv t n sq v q x = (x.1, x.2.1, rol x.2.2.1 (tRp t q) (272 + o), fs x.2.2.2.1 (tRp t q * 1088 + (272 + o)) (some v), fs x.2.2.2.2.1 (tRp t q) 0, flo t v (tRp t q) 1 (some q) x.2.2.2.2.2)) := by
  have key : rac t sq v q x = (fs x.1 (272 + o) (max (x.1 (272 + o)) (sq v)), fs x.2.1 (272 + o) true, x.2.2.1, x.2.2.2.1, fs x.2.2.2.2.1 (tRp t q) 0, x.2.2.2.2.2) ∧ o = tRp t q ∨ rac t sq v q x = (x.1, x.2.1, rol x.2.2.1 (tRp t q) (272 + o), fs x.2.2.2.1 (tRp t q * 1088 + (272 + o)) (some v), fs x.2.2.2.2.1 (tRp t q) 0, flo t v (tRp t q) 1 (some q) x.2.2.2.2.2) ∧ o ≠ tRp t q := by
    unfold rac
    rw [hk]
    by_cases h : 272 + o - 272 = tRp t q
    · exact Or.inl ⟨if_pos h, by omega⟩
    · exact Or.inr ⟨if_neg h, by omega⟩
  have e : rcv t n sq v q x = (match rH x (tRp t q) o with
    | none => rac t sq v q x
    | some w => if w = v then x else if nwr sq n w v = true then (x.1, x.2.1, x.2.2.1, x.2.2.2.1, x.2.2.2.2.1, put x.2.2.2.2.2 (w * 128 + ot q)) else rac t sq v q x) := by
    unfold rcv rH
    rw [hk]
    rfl
  rw [e]
  cases hw : rH x (tRp t q) o with
  | none =>
    refine Or.inr (Or.inr ?_)
    rcases key with ⟨k1, k2⟩ | ⟨k1, k2⟩
    · exact Or.inl ⟨(fun w h => by cases h), k2, k1⟩
    · exact Or.inr ⟨(fun w h => by cases h), k2, k1⟩
  | some w =>
    by_cases h1 : w = v
    · exact Or.inl ⟨by rw [h1], if_pos h1⟩
    · cases h2 : nwr sq n w v with
      | true =>
        refine Or.inr (Or.inl ⟨w, rfl, h1, h2, ?_⟩)
        show (if w = v then _ else if nwr sq n w v = true then _ else _) = _
        rw [if_neg h1, if_pos h2]
      | false =>
        refine Or.inr (Or.inr ?_)
        have e2 : (match some w with
          | none => rac t sq v q x
          | some w => if w = v then x else if nwr sq n w v = true then (x.1, x.2.1, x.2.2.1, x.2.2.2.1, x.2.2.2.2.1, put x.2.2.2.2.2 (w * 128 + ot q)) else rac t sq v q x) = rac t sq v q x := by
          show (if w = v then _ else if nwr sq n w v = true then _ else _) = _
          rw [if_neg h1, if_neg (by rw [h2]; decide)]
        rw [e2]
        rcases key with ⟨k1, k2⟩ | ⟨k1, k2⟩
        · exact Or.inl ⟨fun w' h => by obtain rfl := Option.some.inj h; exact ⟨h1, h2⟩, k2, k1⟩
        · exact Or.inr ⟨fun w' h => by obtain rfl := Option.some.inj h; exact ⟨h1, h2⟩, k2, k1⟩
/-- the state of the delivery: databases and messages hold living versions; the clock is n -/
def DB (t : TP) (N n : Nat) (sq : Nat → Nat) (x : RS) : Prop :=
  (∀ j v, x.2.2.2.1 j = some v → ∃ u o, u < N ∧ o < N ∧ j = u * 1088 + (272 + o) ∧ lvv n sq o v ∧ 1 ≤ ag n v ∧ ag n v < 60) ∧
  (∀ m, m ∈ (rmb x).1 → m % 128 < 18 ∧ tcc t (m % 128 / 2) = true ∧ ∃ o, o < N ∧ lvv n sq o (m / 128) ∧ 1 ≤ ag n (m / 128) ∧ ag n (m / 128) < 60) ∧
  (∀ j, x.1 j + 1 ≤ n) ∧
  (∀ r, r < N → tRu t r = true → ∀ v, rH x r r = some v → sq v ≤ x.1 (272 + r)) ∧
  (∀ r, r < N → tRu t r = false → (∀ o, o < N → rH x r o = none) ∧ x.2.1 (272 + r) = false)
theorem DB_h {t : TP} {N n : Nat} {sq : Nat → Nat} {x : RS} (hN : N ≤ 6) (h : DB t N n sq x) {u o v : Nat} (ho : o < N) (hu : u < N) (e : rH x u o = some v) : lvv n sq o v ∧ 1 ≤ ag n v ∧ ag n v < 60 := by
  obtain ⟨u2, o2, h1, h2, h3, h4⟩ := h.1 _ _ e
  obtain ⟨_, h6⟩ := ix_inj (by omega) (by omega) h3
  obtain rfl : o = o2 := by omega
  exact h4
/-- a message that may be delivered -/
def msgOK (t : TP) (N n : Nat) (sq : Nat → Nat) (v q o : Nat) : Prop := q < 18 ∧ tcc t (q / 2) = true ∧ o < N ∧ lvv n sq o v ∧ 1 ≤ ag n v ∧ ag n v < 60
theorem rH_fs {x : RS} {r u o o2 : Nat} {w : Option Nat} (ho : o < 800) (ho2 : o2 < 800) : fs x.2.2.2.1 (r * 1088 + (272 + o)) w (u * 1088 + (272 + o2)) = if u = r ∧ o2 = o then w else rH x u o2 := by
  split
  · next h => obtain ⟨rfl, rfl⟩ := h; exact fs_s
  · next h => exact fs_n (fun e => h (by obtain ⟨a, b⟩ := ix_inj (by omega) (by omega) e; exact ⟨a, by omega⟩))
theorem DB_rcv {t : TP} {N n : Nat} {sq : Nat → Nat} (hG : TG t N) {v q o : Nat} {x : RS} (h : DB t N n sq x) (hm : msgOK t N n sq v q o) : DB t N n sq (rcv t n sq v q x) := by
  obtain ⟨m1, m2, m3, m4, m5, m6⟩ := hm
  have hN : N ≤ 6 := hG.2.1
  have hr : tRp t q < N := (hG.2.2.1 q m1).1
  have hup := (tcc_up m2).1
  have hv : v / 64 = 272 + o := m4.1
  rcases rcv_cases t n sq (q := q) x hv with ⟨_, e⟩ | ⟨w, hw, hwv, hnw, e⟩ | ⟨hw, hor, e⟩ | ⟨hw, hor, e⟩
  · rw [e]; exact h
  · rw [e]
    refine ⟨h.1, fun m hm => ?_, h.2.2.1, h.2.2.2.1, h.2.2.2.2⟩
    rcases mem_put.mp hm with hm | rfl
    · exact h.2.1 m hm
    · have hq := ot18 m1
      obtain ⟨k1, k2, k3⟩ := DB_h hN h m3 hr hw
      rw [m_div _ _ (by omega), m_mod _ _ (by omega)]
      exact ⟨hq, by rw [ot_div]; exact m2, o, m3, k1, k2, k3⟩
  · rw [e]
    refine ⟨h.1, h.2.1, fun j => ?_, fun r hr2 hup2 w hw2 => ?_, fun r hr2 hd => ?_⟩
    · show fs x.1 (272 + o) _ j + 1 ≤ n
      by_cases z : j = 272 + o
      · subst z; rw [fs_s]; have := h.2.2.1 (272 + o); have := m4.2.2.2.2; omega
      · rw [fs_n z]; exact h.2.2.1 j
    · show sq w ≤ fs x.1 (272 + o) _ (272 + r)
      have h9 := h.2.2.2.1 r hr2 hup2 w hw2
      by_cases z : r = o
      · subst z; rw [fs_s]; omega
      · rw [fs_n (by omega)]; exact h9
    · refine ⟨(h.2.2.2.2 r hr2 hd).1, ?_⟩
      show fs x.2.1 (272 + o) true (272 + r) = false
      have : r ≠ o := fun z => by subst z; rw [hor, hup] at hd; cases hd
      rw [fs_n (by omega)]; exact (h.2.2.2.2 r hr2 hd).2
  · rw [e]
    refine ⟨fun j w hj => ?_, fun m hm => ?_, h.2.2.1, fun r hr2 hup2 w hw2 => ?_, fun r hr2 hd => ?_⟩
    · by_cases z : j = tRp t q * 1088 + (272 + o)
      · subst z
        have hj : fs x.2.2.2.1 (tRp t q * 1088 + (272 + o)) (some v) (tRp t q * 1088 + (272 + o)) = some w := hj
        rw [fs_s] at hj; obtain rfl := Option.some.inj hj
        exact ⟨_, o, hr, m3, rfl, m4, m5, m6⟩
      · exact h.1 j w ((fs_n z).symm.trans hj)
    · rcases (mem_flo hG hr).mp hm with hm | ⟨q2, a1, a2, a3, a4, rfl⟩
      · exact h.2.1 m hm
      · rw [m_div _ _ (by omega), m_mod _ _ (by omega)]
        exact ⟨a1, a4, o, m3, m4, m5, m6⟩
    · have hw2 : fs x.2.2.2.1 (tRp t q * 1088 + (272 + o)) (some v) (r * 1088 + (272 + r)) = some w := hw2
      rw [rH_fs (by omega) (by omega), if_neg (fun z => hor (by omega))] at hw2
      exact h.2.2.2.1 r hr2 hup2 w hw2
    · refine ⟨fun o2 ho2 => ?_, (h.2.2.2.2 r hr2 hd).2⟩
      show fs x.2.2.2.1 (tRp t q * 1088 + (272 + o)) (some v) (r * 1088 + (272 + o2)) = none
      rw [rH_fs (by omega) (by omega), if_neg (fun z => by rw [z.1, hup] at hd; cases hd)]
      exact (h.2.2.2.2 r hr2 hd).1 o2 ho2
