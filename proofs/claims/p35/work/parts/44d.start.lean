/-! what the caller builds first -/
/-- one more link, from f to g, in area 1, at 1 and 1 -/
def lkS (t : TP) (k f g : Nat) : TP :=
  (tRc t, tRu t, fs (tLu t) k true, fs (tAl t) k 1, fs (fs (tRp t) (k * 2) f) (k * 2 + 1) g, fs (fs (tMp t) (k * 2) 1) (k * 2 + 1) 1,
    fs (fs (tPc t) f (tPc t f + 1)) g ((fs (tPc t) f (tPc t f + 1)) g + 1),
    fs (fs (tPo t) (f * 40 + tPc t f) (k * 2)) (g * 40 + (fs (tPc t) f (tPc t f + 1)) g) (k * 2 + 1), tAn t)
def lkA (at_ : Nat → Bool) (f g : Nat) : Nat → Bool := fs (fs at_ (f * 4 + 1) true) (g * 4 + 1) true
/-- k links stand -/
def LKI (N k : Nat) (fa ta : Nat → Nat) (t : TP) (at_ : Nat → Bool) : Prop :=
  tRc t = N ∧
  (∀ j, j < k → fa j < N ∧ ta j < N ∧ ¬ ta j = fa j ∧ tRp t (j * 2) = fa j ∧ tRp t (j * 2 + 1) = ta j ∧ tAl t j = 1 ∧ at_ (fa j * 4 + 1) = true ∧ at_ (ta j * 4 + 1) = true) ∧
  (∀ j, j < k → j < N - 1 → fa j = j ∧ ta j = j + 1) ∧
  (∀ r i, i < tPc t r → tPo t (r * 40 + i) < 2 * k ∧ tRp t (tPo t (r * 40 + i)) = r) ∧
  (∀ q, q < 2 * k → ∃ i, i < tPc t (tRp t q) ∧ tPo t (tRp t q * 40 + i) = q) ∧
  itr (fun i s => s + tPc t i) N 0 = 2 * k ∧
  (∀ r, tPc t r ≤ k) ∧
  ((∀ j, tRp t j < 16) ∧ (∀ j, tPo t j < 80) ∧ (∀ j, tAl t j < 4) ∧ (∀ j, tMp t j ≤ 1000) ∧ (∀ q, q < 2 * k → tMp t q = 1) ∧ ∀ j, tAn t j = none) ∧
  ∀ r, at_ (r * 4) = false ∧ at_ (r * 4 + 2) = false ∧ at_ (r * 4 + 3) = false
theorem sm_fs {P : Nat → Nat} {a : Nat} : ∀ n, itr (fun i s => s + fs P a (P a + 1) i) n 0 = itr (fun i s => s + P i) n 0 + (if a < n then 1 else 0)
  | 0 => by rw [if_neg (Nat.not_lt_zero a)]; rfl
  | n + 1 => by
    rw [itr_s, itr_s, sm_fs n]
    show itr (fun i s => s + P i) n 0 + (if a < n then 1 else 0) + fs P a (P a + 1) n = itr (fun i s => s + P i) n 0 + P n + (if a < n + 1 then 1 else 0)
    generalize itr (fun i s => s + P i) n 0 = z
    by_cases q : n = a
    · rw [q, fs_s, if_neg (Nat.lt_irrefl a), if_pos (Nat.lt_succ_self a)]; omega
    · rw [fs_n q]
      by_cases w : a < n
      · rw [if_pos w, if_pos (show a < n + 1 by omega)]; omega
      · rw [if_neg w, if_neg (show ¬ a < n + 1 by omega)]; omega
theorem sm_0 : ∀ n, itr (fun (_ : Nat) (s : Nat) => s + 0) n 0 = 0
  | 0 => rfl
  | n + 1 => by rw [itr_s, sm_0 n]
theorem ix40 {r i g p : Nat} (hi : i < 40) (hp : p < 40) (h : r * 40 + i = g * 40 + p) : r = g ∧ i = p := ⟨by omega, by omega⟩
theorem LKI_s {N k f g : Nat} {fa ta : Nat → Nat} {t : TP} {at_ : Nat → Bool} (h : LKI N k fa ta t at_) (hN : N ≤ 6) (hk : k < 9) (hf : f < N) (hg : g < N) (hfg : ¬ g = f) (hch : k < N - 1 → f = k ∧ g = k + 1) :
    LKI N (k + 1) (fs fa k f) (fs ta k g) (lkS t k f g) (lkA at_ f g) := by
  obtain ⟨h1, h2, h3, h4, h5, h6, h7, ⟨k1, k2, k3, k4, k5, k6⟩, h9⟩ := h
  have pf := h7 f
  have pg := h7 g
  have e0 : (fs (tPc t) f (tPc t f + 1)) g = tPc t g := fs_n hfg
  have hRp : ∀ q, tRp (lkS t k f g) q = if q = k * 2 + 1 then g else if q = k * 2 then f else tRp t q := fun q => rfl
  have hPc : ∀ r, tPc (lkS t k f g) r = if r = g then (fs (tPc t) f (tPc t f + 1)) g + 1 else if r = f then tPc t f + 1 else tPc t r := fun r => rfl
  have hPo : ∀ j, tPo (lkS t k f g) j = if j = g * 40 + (fs (tPc t) f (tPc t f + 1)) g then k * 2 + 1 else if j = f * 40 + tPc t f then k * 2 else tPo t j := fun j => rfl
  have hat : ∀ j, lkA at_ f g j = if j = g * 4 + 1 then true else if j = f * 4 + 1 then true else at_ j := fun j => rfl
  rw [e0] at hPc hPo
  have e2 := sm_fs (P := tPc t) (a := f) N
  have e1 := sm_fs (P := fs (tPc t) f (tPc t f + 1)) (a := g) N
  rw [if_pos hf, h6] at e2
  rw [if_pos hg, e2] at e1
  refine ⟨h1, fun j hj => ?_, fun j hj hjN => ?_, fun r i hi => ?_, fun q hq => ?_, e1.trans (by omega), fun r => ?_, ⟨fun j => ?_, fun j => ?_, fun j => ?_, fun j => ?_, fun q hq => ?_, k6⟩, fun r => ?_⟩
  · rw [hRp, hRp, hat, hat]
    by_cases z : j = k
    · rw [z, fs_s, fs_s]
      refine ⟨hf, hg, hfg, ?_, ?_, ?_, ?_, ?_⟩
      · rw [if_neg (show ¬ k * 2 = k * 2 + 1 by omega), if_pos (rfl : k * 2 = k * 2)]
      · rw [if_pos (rfl : k * 2 + 1 = k * 2 + 1)]
      · exact fs_s
      · rw [if_neg (show ¬ f * 4 + 1 = g * 4 + 1 by omega), if_pos (rfl : f * 4 + 1 = f * 4 + 1)]
      · rw [if_pos (rfl : g * 4 + 1 = g * 4 + 1)]
    · rw [fs_n z, fs_n z]
      obtain ⟨a1, a2, a3, a4, a5, a6, a7, a8⟩ := h2 j (by omega)
      refine ⟨a1, a2, a3, ?_, ?_, ?_, ?_, ?_⟩
      · rw [if_neg (show ¬ j * 2 = k * 2 + 1 by omega), if_neg (show ¬ j * 2 = k * 2 by omega)]; exact a4
      · rw [if_neg (show ¬ j * 2 + 1 = k * 2 + 1 by omega), if_neg (show ¬ j * 2 + 1 = k * 2 by omega)]; exact a5
      · exact (fs_n z).trans a6
      · split
        · rfl
        · split
          · rfl
          · exact a7
      · split
        · rfl
        · split
          · rfl
          · exact a8
  · by_cases z : j = k
    · rw [z, fs_s, fs_s]; exact hch (by omega)
    · rw [fs_n z, fs_n z]; exact h3 j (by omega) hjN
  · rw [hPc] at hi
    have pr := h7 r
    have hi40 : i < 40 := by
      revert hi
      split
      · intro hi; omega
      · split
        · intro hi; omega
        · intro hi; omega
    rw [hPo]
    by_cases z1 : r * 40 + i = g * 40 + tPc t g
    · obtain ⟨y1, y2⟩ := ix40 hi40 (show tPc t g < 40 by omega) z1
      rw [if_pos z1, hRp, if_pos (rfl : k * 2 + 1 = k * 2 + 1)]
      exact ⟨by omega, y1.symm⟩
    · rw [if_neg z1]
      by_cases z2 : r * 40 + i = f * 40 + tPc t f
      · obtain ⟨y1, y2⟩ := ix40 hi40 (show tPc t f < 40 by omega) z2
        rw [if_pos z2, hRp, if_neg (show ¬ k * 2 = k * 2 + 1 by omega), if_pos (rfl : k * 2 = k * 2)]
        exact ⟨by omega, y1.symm⟩
      · rw [if_neg z2]
        have hi2 : i < tPc t r := by
          by_cases y1 : r = g
          · rw [if_pos y1] at hi; rw [y1] at z1 ⊢; omega
          · rw [if_neg y1] at hi
            by_cases y2 : r = f
            · rw [if_pos y2] at hi; rw [y2] at z2 ⊢; omega
            · rw [if_neg y2] at hi; exact hi
        obtain ⟨b1, b2⟩ := h4 r i hi2
        rw [hRp, if_neg (show ¬ tPo t (r * 40 + i) = k * 2 + 1 by omega), if_neg (show ¬ tPo t (r * 40 + i) = k * 2 by omega)]
        exact ⟨by omega, b2⟩
  · rw [hRp]
    by_cases z1 : q = k * 2 + 1
    · rw [if_pos z1]
      refine ⟨tPc t g, ?_, ?_⟩
      · rw [hPc, if_pos (rfl : g = g)]; exact Nat.lt_succ_self _
      · rw [hPo, if_pos (rfl : g * 40 + tPc t g = g * 40 + tPc t g)]; exact z1.symm
    · rw [if_neg z1]
      by_cases z2 : q = k * 2
      · rw [if_pos z2]
        refine ⟨tPc t f, ?_, ?_⟩
        · rw [hPc, if_neg (fun e => hfg e.symm), if_pos (rfl : f = f)]; exact Nat.lt_succ_self _
        · rw [hPo, if_neg (fun e => hfg (ix40 (show tPc t f < 40 by omega) (show tPc t g < 40 by omega) e).1.symm), if_pos (rfl : f * 40 + tPc t f = f * 40 + tPc t f)]; exact z2.symm
      · rw [if_neg z2]
        obtain ⟨i, b1, b2⟩ := h5 q (by omega)
        have pr := h7 (tRp t q)
        refine ⟨i, ?_, ?_⟩
        · rw [hPc]
          by_cases y1 : tRp t q = g
          · rw [if_pos y1]; rw [y1] at b1; omega
          · rw [if_neg y1]
            by_cases y2 : tRp t q = f
            · rw [if_pos y2]; rw [y2] at b1; omega
            · rw [if_neg y2]; exact b1
        · rw [hPo, if_neg (fun e => ?_), if_neg (fun e => ?_)]
          · exact b2
          · obtain ⟨y1, y2⟩ := ix40 (show i < 40 by omega) (show tPc t f < 40 by omega) e
            rw [y1] at b1; omega
          · obtain ⟨y1, y2⟩ := ix40 (show i < 40 by omega) (show tPc t g < 40 by omega) e
            rw [y1] at b1; omega
  · have pr := h7 r
    rw [hPc]
    split
    · omega
    · split
      · omega
      · omega
  · rw [hRp]
    split
    · omega
    · split
      · omega
      · exact k1 j
  · rw [hPo]
    split
    · omega
    · split
      · omega
      · exact k2 j
  · show fs (tAl t) k 1 j < 4
    by_cases z : j = k
    · rw [z, fs_s]; decide
    · rw [fs_n z]; exact k3 j
  · show (if j = k * 2 + 1 then 1 else if j = k * 2 then 1 else tMp t j) ≤ 1000
    split
    · decide
    · split
      · decide
      · exact k4 j
  · show (if q = k * 2 + 1 then 1 else if q = k * 2 then 1 else tMp t q) = 1
    split
    · rfl
    · split
      · rfl
      · exact k5 q (by omega)
  · obtain ⟨b1, b2, b3⟩ := h9 r
    refine ⟨?_, ?_, ?_⟩
    · rw [hat, if_neg (show ¬ r * 4 = g * 4 + 1 by omega), if_neg (show ¬ r * 4 = f * 4 + 1 by omega)]; exact b1
    · rw [hat, if_neg (show ¬ r * 4 + 2 = g * 4 + 1 by omega), if_neg (show ¬ r * 4 + 2 = f * 4 + 1 by omega)]; exact b2
    · rw [hat, if_neg (show ¬ r * 4 + 3 = g * 4 + 1 by omega), if_neg (show ¬ r * 4 + 3 = f * 4 + 1 by omega)]; exact b3
/-- before the first link -/
def t00 (N : Nat) (ru : Nat → Bool) : TP := (N, ru, (fun _ => false), (fun _ => 0), (fun _ => 0), (fun _ => 0), (fun _ => 0), (fun _ => 0), (fun _ => none))
theorem LKI_0 {N : Nat} {ru : Nat → Bool} {fa ta : Nat → Nat} : LKI N 0 fa ta (t00 N ru) (fun _ => false) := by
  refine ⟨rfl, fun j hj => absurd hj (Nat.not_lt_zero j), fun j hj => absurd hj (Nat.not_lt_zero j), fun r i hi => absurd hi (Nat.not_lt_zero i), fun q hq => absurd hq (by omega), sm_0 N, fun r => Nat.le_refl 0, ⟨fun j => (by decide : 0 < 16), fun j => (by decide : 0 < 80), fun j => (by decide : 0 < 4), fun j => (by decide : 0 ≤ 1000), fun q hq => absurd hq (by omega), fun j => rfl⟩, fun r => ⟨rfl, rfl, rfl⟩⟩
/-- with its announcements -/
def tsA (t : TP) (an : Nat → Option Nat) : TP := (tRc t, tRu t, tLu t, tAl t, tRp t, tMp t, tPc t, tPo t, an)
/-- what nine links are -/
def NINE (N : Nat) (fa ta : Nat → Nat) (t : TP) : Prop := ∀ j, j < 9 → fa j < N ∧ ta j < N ∧ tRp t (j * 2) = fa j ∧ tRp t (j * 2 + 1) = ta j
def ATT (N : Nat) (at_ : Nat → Bool) : Prop := ∀ r, r < N → at_ (r * 4) = false ∧ at_ (r * 4 + 1) = true ∧ at_ (r * 4 + 2) = false ∧ at_ (r * 4 + 3) = false
theorem LKI_9 {N : Nat} {fa ta : Nat → Nat} {t : TP} {at_ : Nat → Bool} (h : LKI N 9 fa ta t at_) (hN : N ≤ 6) (hN4 : 4 ≤ N) : NINE N fa ta t ∧ ATT N at_ ∧ TG t N ∧ (∀ j, tMp t j ≤ 1000) ∧ (∀ q, q < 18 → 1 ≤ tMp t q) ∧ tRc t ≤ 16 ∧ (∀ j, tRp t j < 16) ∧ (∀ j, tPo t j < 80) ∧ (∀ r, tPc t r ≤ 40) ∧ (∀ j, tAl t j < 4) ∧ (∀ j, tMp t j < 2 ^ 20) := by
  obtain ⟨h1, h2, h3, h4, h5, h6, h7, ⟨k1, k2, k3, k4, k5, k6⟩, h9⟩ := h
  refine ⟨fun j hj => ?_, fun r hr => ?_, ⟨h1, hN, fun q hq => ?_, fun r i _ hi => h4 r i hi, fun q hq => h5 q hq, by rw [h6]; decide⟩, k4, fun q hq => by rw [k5 q hq]; decide, by omega, k1, k2, fun r => Nat.le_trans (h7 r) (by decide), k3, fun j => Nat.lt_of_le_of_lt (k4 j) (by decide)⟩
  · obtain ⟨a1, a2, a3, a4, a5, _⟩ := h2 j hj
    exact ⟨a1, a2, a4, a5⟩
  · obtain ⟨b1, b2, b3⟩ := h9 r
    refine ⟨b1, ?_, b2, b3⟩
    by_cases z : r = 0
    · obtain ⟨_, _, _, _, _, _, a7, _⟩ := h2 0 (by decide)
      rw [(h3 0 (by decide) (by omega)).1] at a7
      rw [z]; exact a7
    · obtain ⟨_, _, _, _, _, _, _, a8⟩ := h2 (r - 1) (by omega)
      rw [(h3 (r - 1) (by omega) (by omega)).2, show r - 1 + 1 = r by omega] at a8
      exact a8
  · obtain ⟨a1, a2, a3, a4, a5, a6, _⟩ := h2 (q / 2) (by omega)
    rcases (show q = q / 2 * 2 ∨ q = q / 2 * 2 + 1 by omega) with z | z
    · have e : ot q = q / 2 * 2 + 1 := by unfold ot; rw [if_pos (by omega)]; omega
      rw [e, a5, show tRp t q = tRp t (q / 2 * 2) from congrArg _ z, a4]
      exact ⟨a1, a3, a6⟩
    · have e : ot q = q / 2 * 2 := by unfold ot; rw [if_neg (by omega)]; omega
      rw [e, a4, show tRp t q = tRp t (q / 2 * 2 + 1) from congrArg _ z, a5]
      exact ⟨a2, fun k => a3 k.symm, a6⟩
/-- r routers have announced what they announce -/
def ANI (r : Nat) (ca : Nat → Nat) (an : Nat → Option Nat) : Prop :=
  (∀ v, v < r → ca v ≤ 3 ∧ an ((v * 4 + 1) * 16 + 7) = if ca v = 0 then none else some (ca v)) ∧ (∀ v, r ≤ v → an ((v * 4 + 1) * 16 + 7) = none) ∧ ∀ j w, an j = some w → w ≤ 3
theorem ANI_0 {ca : Nat → Nat} : ANI 0 ca (fun _ => none) := ⟨fun v hv => absurd hv (Nat.not_lt_zero v), fun v _ => rfl, fun j w e => by cases e⟩
theorem ANI_n {r : Nat} {ca : Nat → Nat} {an : Nat → Option Nat} (h : ANI r ca an) : ANI (r + 1) (fs ca r 0) an := by
  obtain ⟨h1, h2, h3⟩ := h
  refine ⟨fun v hv => ?_, fun v hv => h2 v (by omega), h3⟩
  by_cases z : v = r
  · rw [z, fs_s]; exact ⟨by decide, h2 r (Nat.le_refl r)⟩
  · rw [fs_n z]; exact h1 v (by omega)
theorem ANI_s {r x : Nat} {ca : Nat → Nat} {an : Nat → Option Nat} (h : ANI r ca an) (hx0 : 0 < x) (hx : x ≤ 3) : ANI (r + 1) (fs ca r x) (fs an ((r * 4 + 1) * 16 + 7) (some x)) := by
  obtain ⟨h1, h2, h3⟩ := h
  refine ⟨fun v hv => ?_, fun v hv => ?_, fun j w e => ?_⟩
  · by_cases z : v = r
    · rw [z, fs_s, fs_s, if_neg (by omega)]; exact ⟨hx, rfl⟩
    · rw [fs_n z, fs_n (show (v * 4 + 1) * 16 + 7 ≠ (r * 4 + 1) * 16 + 7 by omega)]; exact h1 v (by omega)
  · rw [fs_n (show (v * 4 + 1) * 16 + 7 ≠ (r * 4 + 1) * 16 + 7 by omega)]; exact h2 v (by omega)
  · by_cases z : j = (r * 4 + 1) * 16 + 7
    · rw [z, fs_s] at e
      obtain rfl := Option.some.inj e
      exact hx
    · rw [fs_n z] at e; exact h3 j w e
/-- the state of a new domain -/
def a00 : AS := ((fun _ => 0), (fun _ => false), (fun _ => false), (fun _ => none), (fun _ => 0), (fun _ => 0), (fun _ => some 0), (fun _ => 0), ([], 1), (fun _ => none), (fun _ => 0), (fun _ => 0), (fun _ => none), (fun _ => 0), (fun _ => false))
theorem REST_00 {t : TP} {N : Nat} : REST t N TT9 0 (fun _ => false) 1 a00 := by
  refine ⟨⟨⟨by decide, by decide⟩, ⟨by decide, by decide⟩, by decide⟩, fun j v e => ?_, fun m hm => ?_, fun j => Nat.le_refl 0, fun r hr hu v e => ?_, fun r hr hu => ⟨fun o ho => rfl, rfl, fun v hv => rfl, rfl, rfl, rfl⟩, fun k hk e => ?_, fun q o hq e => ?_, fun m o hm => ?_, fun r hr hu => ⟨Or.inl rfl, Or.inr (Or.inl rfl)⟩, ?_⟩
  · have e : (none : Option Nat) = some v := e
    cases e
  · have hm : m ∈ ([] : List Nat) := hm
    cases hm
  · have e : (none : Option Nat) = some v := e
    cases e
  · have e : false = true := e
    cases e
  · have e : false = true := e
    cases e
  · have hm : m ∈ ([] : List Nat) := hm
    cases hm
  · refine ⟨fun j => Nat.le_refl 0, fun j => Nat.zero_le _, fun j w e => ?_, fun j => Nat.zero_le _, fun j d e => ?_, fun j => (by decide : 0 < 2 ^ 40), fun j => (by decide : 0 < 2 ^ 40)⟩
    · have e : some 0 = some w := e
      obtain rfl := Option.some.inj e
      decide
    · have e : (none : Option Nat) = some d := e
      cases e
/-- where the caller's actions begin -/
theorem LI_00 {N : Nat} {fa ta ca : Nat → Nat} {t : TP} {at_ : Nat → Bool} {an : Nat → Option Nat} (h : LKI N 9 fa ta t at_) (hN : N ≤ 6) (hN4 : 4 ≤ N) (hA : ANI N ca an) : LI N 0 (tsA t an, 0, (fun _ => false), 1, a00) ∧ NINE N fa ta (tsA t an) ∧ ATT N at_ ∧ CSTS (tsA t an) N ca := by
  obtain ⟨g1, g2, ⟨g3, g4, g5, g6, g7, g8⟩, k1, k2, k3, k4, k5, k6, k7, k8⟩ := LKI_9 h hN hN4
  exact ⟨⟨⟨g3, g4, g5, g6, g7, g8⟩, ⟨k3, k4, k5, k6, k7, k8, fun j w e => Nat.lt_of_le_of_lt (hA.2.2 j w e) (by decide)⟩, k1, k2, REST_00, Nat.le_refl 0⟩, g1, g2, fun v hv => hA.1 v hv⟩
/-- the caller's distances where the row matters -/
def BFQ (N : Nat) (A : Nat → Nat) (X : Nat → Nat) : Prop := (∀ v, v < N → A v = X v) ∧ ∀ v, X v ≤ far9
theorem BFQ_0 {N r : Nat} {A : Nat → Nat} (h : ∀ v, v < N → A v = if v = r then 0 else far9) : BFQ N A (bf0 r) := ⟨h, fun v => by
  unfold bf0
  split
  · exact Nat.zero_le _
  · exact Nat.le_refl _⟩
theorem BFQ_rx {N q : Nat} {t : TP} {A X : Nat → Nat} {x y w : Nat} (hx : tRp t (ot q) = x) (hy : tRp t q = y) (hw : tMp t q = w) (hxN : x < N) (hyN : y < N) (h : BFQ N A X) : BFQ N (fs A x (min (A x) (A y + w))) (rx t q X) := by
  obtain ⟨h1, h2⟩ := h
  unfold rx
  rw [hx, hy, hw, h1 x hxN, h1 y hyN]
  refine ⟨fun v hv => ?_, fun v => ?_⟩
  · by_cases z : v = x
    · rw [z, fs_s, fs_s]
    · rw [fs_n z, fs_n z]; exact h1 v hv
  · by_cases z : v = x
    · rw [z, fs_s]; exact Nat.le_trans (Nat.min_le_left _ _) (h2 x)
    · rw [fs_n z]; exact h2 v
theorem ot_2 (k : Nat) : ot (2 * k) = 2 * k + 1 := by unfold ot; rw [if_pos (by omega)]
theorem ot_21 (k : Nat) : ot (2 * k + 1) = 2 * k := by unfold ot; rw [if_neg (by omega)]; rfl
theorem BFQ_on {N k f g m0 m1 : Nat} {t : TP} {A X : Nat → Nat} (hf : tRp t (k * 2) = f) (hg : tRp t (k * 2 + 1) = g) (h0 : tMp t (k * 2) = m0) (h1 : tMp t (k * 2 + 1) = m1) (hfN : f < N) (hgN : g < N) (hc : tcc t k = true) (h : BFQ N A X) :
    BFQ N (fs (fs A g (min (A g) (A f + m0))) f (min ((fs A g (min (A g) (A f + m0))) f) ((fs A g (min (A g) (A f + m0))) g + m1))) (bf1 t k X) := by
  rw [Nat.mul_comm k 2] at hf hg h0 h1
  unfold bf1
  rw [if_pos hc]
  exact BFQ_rx (by rw [ot_21]; exact hf) hg h1 hfN hgN (BFQ_rx (by rw [ot_2]; exact hg) hf h0 hgN hfN h)
theorem BFQ_off {N k : Nat} {t : TP} {A X : Nat → Nat} (hc : tcc t k = false) (h : BFQ N A X) : BFQ N A (bf1 t k X) := by
  unfold bf1
  rw [if_neg (by rw [hc]; decide)]
  exact h
/-- the metrics that the caller sets at last -/
def MTI (k : Nat) (th bk : Nat → Nat) (t : TP) : Prop := ∀ j, j < k → (1 ≤ th j ∧ th j ≤ 5 ∧ tMp t (j * 2) = th j) ∧ 1 ≤ bk j ∧ bk j ≤ 5 ∧ tMp t (j * 2 + 1) = bk j
theorem MTI_s {k x y : Nat} {th bk : Nat → Nat} {t : TP} (h : MTI k th bk t) (hx1 : 1 ≤ x) (hx : x ≤ 5) (hy1 : 1 ≤ y) (hy : y ≤ 5) : MTI (k + 1) (fs th k x) (fs bk k y) (tsM (tsM t (k * 2 + 0) x) (k * 2 + 1) y) := by
  intro j hj
  show (1 ≤ fs th k x j ∧ fs th k x j ≤ 5 ∧ fs (fs (tMp t) (k * 2 + 0) x) (k * 2 + 1) y (j * 2) = fs th k x j) ∧ 1 ≤ fs bk k y j ∧ fs bk k y j ≤ 5 ∧ fs (fs (tMp t) (k * 2 + 0) x) (k * 2 + 1) y (j * 2 + 1) = fs bk k y j
  by_cases z : j = k
  · rw [z, fs_s, fs_s, fs_s, fs_n (show k * 2 ≠ k * 2 + 1 by omega)]
    exact ⟨⟨hx1, hx, (fs_s : fs (tMp t) (k * 2) x (k * 2) = x)⟩, hy1, hy, rfl⟩
  · rw [fs_n z, fs_n z, fs_n (show j * 2 ≠ k * 2 + 1 by omega), fs_n (show j * 2 ≠ k * 2 + 0 by omega), fs_n (show j * 2 + 1 ≠ k * 2 + 1 by omega), fs_n (show j * 2 + 1 ≠ k * 2 + 0 by omega)]
    exact h j (by omega)
theorem MTI_9 {th bk : Nat → Nat} {t : TP} (h : MTI 9 th bk t) : MTS t := fun q hq => by
  obtain ⟨⟨a1, a2, a3⟩, b1, b2, b3⟩ := h (q / 2) (by omega)
  rcases (show q = q / 2 * 2 ∨ q = q / 2 * 2 + 1 by omega) with z | z
  · rw [show tMp t q = tMp t (q / 2 * 2) from congrArg _ z, a3]; exact ⟨a1, a2⟩
  · rw [show tMp t q = tMp t (q / 2 * 2 + 1) from congrArg _ z, b3]; exact ⟨b1, b2⟩
theorem SAME_t {t t2 t3 : TP} (h : SAME t t2) (h2 : SAME t2 t3) : SAME t t3 := ⟨h2.1.trans h.1, h2.2.1.trans h.2.1, h2.2.2.1.trans h.2.2.1, h2.2.2.2.1.trans h.2.2.2.1, h2.2.2.2.2.1.trans h.2.2.2.2.1, h2.2.2.2.2.2.trans h.2.2.2.2.2⟩
theorem NINE_t {N : Nat} {fa ta : Nat → Nat} {t t2 : TP} (h : SAME t t2) (k : NINE N fa ta t) : NINE N fa ta t2 := fun j hj => by rw [h.2.2.1]; exact k j hj
theorem CSTS_t {N : Nat} {ca : Nat → Nat} {t t2 : TP} (h : SAME t t2) (k : CSTS t N ca) : CSTS t2 N ca := fun v hv => by rw [h.2.2.2.2.2]; exact k v hv
