/-! shortest paths, as a router computes them -/
/-- a walk of n links from a to b, at cost c -/
def wk (t : TP) (f : Nat → Nat) (a : Nat) : Nat → Nat → Nat → Prop
  | 0, b, c => a = b ∧ c = 0
  | n + 1, b, c => ∃ q d, q < 18 ∧ f q ≠ 0 ∧ tRp t (ot q) = b ∧ wk t f a n (tRp t q) d ∧ c = d + f q
/-- the first links of shortest walks to v, at cost e -/
def fst9 (t : TP) (f : Nat → Nat) (r v e K : Nat) : Prop := ∀ k, ¬ K / 2 ^ k % 2 = 0 → ∃ q n c, q < 18 ∧ q / 2 = k ∧ tRp t q = r ∧ f q ≠ 0 ∧ wk t f (tRp t (ot q)) n v c ∧ e = f q + c
/-- distances D and first links K of router r over the connections f -/
def SP (t : TP) (N : Nat) (f : Nat → Nat) (r : Nat) (D : Nat → Option Nat) (K : Nat → Nat) : Prop :=
  D r = some 0 ∧
  (∀ q d, q < 18 → f q ≠ 0 → D (tRp t q) = some d → ∃ e, D (tRp t (ot q)) = some e ∧ e ≤ d + f q) ∧
  (∀ v e, v < N → v ≠ r → D v = some e → ∃ q d, q < 18 ∧ f q ≠ 0 ∧ tRp t (ot q) = v ∧ D (tRp t q) = some d ∧ e = d + f q) ∧
  (∀ v e, v < N → v ≠ r → D v = some e → K v ≠ 0 ∧ fst9 t f r v e (K v))
/-- what holds from round to round: s is the set of the settled -/
def DJ (t : TP) (N : Nat) (f : Nat → Nat) (r s : Nat) (D : Nat → Option Nat) (K : Nat → Nat) : Prop :=
  D r = some 0 ∧
  (∀ x, x < N → ¬ s / 2 ^ x % 2 = 0 → ∃ d, D x = some d ∧ ∀ y e, y < N → s / 2 ^ y % 2 = 0 → D y = some e → d ≤ e) ∧
  (∀ q d, q < 18 → f q ≠ 0 → ¬ s / 2 ^ (tRp t q) % 2 = 0 → D (tRp t q) = some d → ∃ e, D (tRp t (ot q)) = some e ∧ e ≤ d + f q) ∧
  (∀ v e, v < N → v ≠ r → D v = some e → ∃ q d, q < 18 ∧ f q ≠ 0 ∧ tRp t (ot q) = v ∧ D (tRp t q) = some d ∧ e = d + f q ∧ ¬ s / 2 ^ (tRp t q) % 2 = 0) ∧
  (∀ v e, v < N → v ≠ r → D v = some e → K v ≠ 0 ∧ fst9 t f r v e (K v))
theorem DJ_SP {t : TP} {N : Nat} {f : Nat → Nat} {r s : Nat} {D : Nat → Option Nat} {K : Nat → Nat} (hG : TG t N) (h : DJ t N f r s D K) (hs : ∀ v d, v < N → D v = some d → ¬ s / 2 ^ v % 2 = 0) : SP t N f r D K := by
  obtain ⟨h1, h2, h3, h4, h5⟩ := h
  refine ⟨h1, fun q d hq hf hd => h3 q d hq hf (hs _ d (hG.2.2.1 q hq).1 hd) hd, fun v e hv hr he => ?_, h5⟩
  obtain ⟨q, d, a1, a2, a3, a4, a5, _⟩ := h4 v e hv hr he
  exact ⟨q, d, a1, a2, a3, a4, a5⟩
theorem bit_or (s x y : Nat) : (¬ (s ||| 2 ^ x) / 2 ^ y % 2 = 0) ↔ (¬ s / 2 ^ y % 2 = 0) ∨ x = y := by
  have key : ∀ a : Nat, (¬ a / 2 ^ y % 2 = 0) ↔ a.testBit y = true := fun a => by
    rw [Nat.testBit_eq_decide_div_mod_eq, decide_eq_true_iff]
    omega
  rw [key, key, Nat.testBit_or, Bool.or_eq_true, Nat.testBit_two_pow, decide_eq_true_iff]
theorem bit_or2 (a b y : Nat) : (¬ (a ||| b) / 2 ^ y % 2 = 0) ↔ (¬ a / 2 ^ y % 2 = 0) ∨ ¬ b / 2 ^ y % 2 = 0 := by
  have key : ∀ a : Nat, (¬ a / 2 ^ y % 2 = 0) ↔ a.testBit y = true := fun a => by
    rw [Nat.testBit_eq_decide_div_mod_eq, decide_eq_true_iff]
    omega
  rw [key, key, key, Nat.testBit_or, Bool.or_eq_true]
theorem bit_pow (x y : Nat) : (¬ 2 ^ x / 2 ^ y % 2 = 0) ↔ x = y := by
  have := bit_or 0 x y
  rw [Nat.zero_or] at this
  rw [this]
  constructor
  · rintro (h | h)
    · exact absurd (by rw [Nat.zero_div]) h
    · exact h
  · exact Or.inr
theorem or_ne {a b : Nat} (h : a ≠ 0) : a ||| b ≠ 0 := fun e => h (by
  apply Nat.eq_of_testBit_eq
  intro i
  have h2 : (a ||| b).testBit i = false := by rw [e]; exact Nat.zero_testBit i
  rw [Nat.testBit_or, Bool.or_eq_false_iff] at h2
  rw [h2.1, Nat.zero_testBit])
/-- one offer -/
theorem of_cases (ds : Nat → Option Nat) (fk : Nat → Nat) (q d g : Nat) :
    ((ds q = none ∨ ∃ x, ds q = some x ∧ d < x) ∧ ofD ds q d = fs ds q (some d) ∧ ofF ds fk q d g = fs fk q g) ∨
    (ds q = some d ∧ ofD ds q d = ds ∧ ofF ds fk q d g = fs fk q (fk q ||| g)) ∨
    (∃ x, ds q = some x ∧ x < d ∧ ofD ds q d = ds ∧ ofF ds fk q d g = fk) := by
  unfold ofD ofF
  cases h : ds q with
  | none => exact Or.inl ⟨Or.inl rfl, rfl, rfl⟩
  | some x =>
    by_cases h1 : d < x
    · exact Or.inl ⟨Or.inr ⟨x, rfl, h1⟩, if_pos h1, if_pos h1⟩
    · by_cases h2 : d = x
      · subst h2
        exact Or.inr (Or.inl ⟨rfl, if_neg h1, (if_neg h1).trans (if_pos rfl)⟩)
      · exact Or.inr (Or.inr ⟨x, rfl, by omega, if_neg h1, (if_neg h1).trans (if_neg h2)⟩)
/-- in the middle of a round: x, just settled at distance dx with links g, has told its first i ports -/
def DG (t : TP) (N : Nat) (f : Nat → Nat) (r s x dx g i : Nat) (D : Nat → Option Nat) (K : Nat → Nat) : Prop :=
  D r = some 0 ∧ D x = some dx ∧ K x = g ∧
  (∀ u, u < N → ¬ s / 2 ^ u % 2 = 0 → ∃ d, D u = some d ∧ d ≤ dx) ∧
  (∀ y e, y < N → s / 2 ^ y % 2 = 0 → D y = some e → dx ≤ e) ∧
  (∀ q d, q < 18 → f q ≠ 0 → ¬ s / 2 ^ (tRp t q) % 2 = 0 → tRp t q ≠ x → D (tRp t q) = some d → ∃ e, D (tRp t (ot q)) = some e ∧ e ≤ d + f q) ∧
  (∀ j, j < i → f (tPo t (x * 40 + j)) ≠ 0 → ∃ e, D (tRp t (ot (tPo t (x * 40 + j)))) = some e ∧ e ≤ dx + f (tPo t (x * 40 + j))) ∧
  (∀ v e, v < N → v ≠ r → D v = some e → ∃ q d, q < 18 ∧ f q ≠ 0 ∧ tRp t (ot q) = v ∧ D (tRp t q) = some d ∧ e = d + f q ∧ ¬ s / 2 ^ (tRp t q) % 2 = 0) ∧
  (∀ v e, v < N → v ≠ r → D v = some e → K v ≠ 0 ∧ fst9 t f r v e (K v))
/-- a row of a table -/
def row {α : Type} (w : Nat) (f : Nat → α) : Nat → α := fun v => f (w + v)
theorem row_fs {α : Type} {w k v : Nat} {f : Nat → α} {x : α} : row w (fs f (w + k) x) v = fs (row w f) k x v := by
  unfold row fs
  by_cases h : v = k
  · rw [if_pos h, if_pos (by omega)]
  · rw [if_neg h, if_neg (by omega)]
theorem DG_step {t : TP} {N : Nat} {f : Nat → Nat} {r s x dx g i w : Nat} {ds : Nat → Option Nat} {fk : Nat → Nat} (hG : TG t N) (hr : r < N) (hx : x < N) (hsx : ¬ s / 2 ^ x % 2 = 0) (hi : i < tPc t x)
    (hg : x ≠ r → g ≠ 0 ∧ fst9 t f r x dx g) (hxr : x = r → dx = 0) (h : DG t N f r s x dx g i (row w ds) (row w fk)) (hf : f (tPo t (x * 40 + i)) ≠ 0) :
    DG t N f r s x dx g (i + 1) (row w (ofD ds (w + tRp t (ot (tPo t (x * 40 + i)))) (dx + f (tPo t (x * 40 + i))))) (row w (ofF ds fk (w + tRp t (ot (tPo t (x * 40 + i)))) (dx + f (tPo t (x * 40 + i))) (if x = r then 2 ^ (tPo t (x * 40 + i) / 2) else g))) := by
  obtain ⟨k1, k2⟩ := hG.2.2.2.1 x i hx hi
  have hne := (hG.2.2.1 _ k1).2.1
  have hot := (hG.2.2.1 _ (ot18 k1)).1
  rw [k2] at hne
  generalize hp : tPo t (x * 40 + i) = p at hf k1 k2 hne hot ⊢
  generalize hv0 : tRp t (ot p) = v0 at hne hot ⊢
  obtain ⟨h1, h2, h3, h4, h5, h6, h7, h8, h9⟩ := h
  have hfp : 1 ≤ f p := by omega
  -- the offered links are first links of walks to v0
  have hnew : (if x = r then 2 ^ (p / 2) else g) ≠ 0 ∧ fst9 t f r v0 (dx + f p) (if x = r then 2 ^ (p / 2) else g) := by
    by_cases z : x = r
    · rw [if_pos z]
      refine ⟨by have := Nat.two_pow_pos (p / 2); omega, fun k hk => ?_⟩
      have := (bit_pow _ _).mp hk
      exact ⟨p, 0, 0, k1, this, by rw [k2, z], hf, ⟨hv0, rfl⟩, by have := hxr z; omega⟩
    · rw [if_neg z]
      obtain ⟨g1, g2⟩ := hg z
      refine ⟨g1, fun k hk => ?_⟩
      obtain ⟨q, n, c, a1, a2, a3, a4, a5, a6⟩ := g2 k hk
      exact ⟨q, n + 1, c + f p, a1, a2, a3, a4, ⟨p, c, k1, hf, hv0, by rw [k2]; exact a5, rfl⟩, by omega⟩
  rcases of_cases ds fk (w + v0) (dx + f p) (if x = r then 2 ^ (p / 2) else g) with ⟨c1, e1, e2⟩ | ⟨c1, e1, e2⟩ | ⟨y, c1, c2, e1, e2⟩
  · -- a better way
    rw [e1, e2]
    have hD : ∀ v, row w (fs ds (w + v0) (some (dx + f p))) v = if v = v0 then some (dx + f p) else row w ds v := fun v => by rw [row_fs]; rfl
    have hK : ∀ v, row w (fs fk (w + v0) (if x = r then 2 ^ (p / 2) else g)) v = if v = v0 then (if x = r then 2 ^ (p / 2) else g) else row w fk v := fun v => by rw [row_fs]; rfl
    -- v0 isn't settled, nor r
    have hns : s / 2 ^ v0 % 2 = 0 := by
      rcases Nat.eq_zero_or_pos (s / 2 ^ v0 % 2) with z | z
      · exact z
      · obtain ⟨d, z1, z2⟩ := h4 v0 hot (by omega)
        have z1 : ds (w + v0) = some d := z1
        rcases c1 with c | ⟨y, c, c2⟩
        · rw [c] at z1; cases z1
        · rw [c] at z1; obtain rfl := Option.some.inj z1; omega
    have hv0r : v0 ≠ r := fun z => by
      subst z
      have h1 : ds (w + v0) = some 0 := h1
      rcases c1 with c | ⟨y, c, c2⟩
      · rw [c] at h1; cases h1
      · rw [c] at h1; obtain rfl := Option.some.inj h1; omega
    have hkeep : ∀ q, ¬ s / 2 ^ (tRp t q) % 2 = 0 → tRp t q ≠ v0 := fun q hq z => hq (by rw [z]; exact hns)
    refine ⟨by rw [hD, if_neg (Ne.symm hv0r)]; exact h1, by rw [hD, if_neg (Ne.symm hne)]; exact h2, by rw [hK, if_neg (Ne.symm hne)]; exact h3, fun u hu hs => ?_, fun y e hy hs he => ?_, fun q d hq hf2 hs hqx hd => ?_, fun j hj hf2 => ?_, fun v e hv hvr he => ?_, fun v e hv hvr he => ?_⟩
    · rw [hD, if_neg (fun z => hs (by rw [z]; exact hns))]; exact h4 u hu hs
    · rw [hD] at he
      by_cases z : y = v0
      · rw [if_pos z] at he; have := Option.some.inj he; omega
      · rw [if_neg z] at he; exact h5 y e hy hs he
    · rw [hD, if_neg (hkeep q hs)] at hd
      obtain ⟨e, a1, a2⟩ := h6 q d hq hf2 hs hqx hd
      rw [hD]
      by_cases z : tRp t (ot q) = v0
      · rw [if_pos z]
        refine ⟨_, rfl, ?_⟩
        rw [z] at a1
        have a1 : ds (w + v0) = some e := a1
        rcases c1 with c | ⟨y, c, c2⟩
        · rw [c] at a1; cases a1
        · rw [c] at a1; obtain rfl := Option.some.inj a1; omega
      · rw [if_neg z]; exact ⟨e, a1, a2⟩
    · rw [hD]
      by_cases z : tRp t (ot (tPo t (x * 40 + j))) = v0
      · rw [if_pos z]
        refine ⟨_, rfl, ?_⟩
        rcases Nat.lt_or_ge j i with q | q
        · obtain ⟨e, a1, a2⟩ := h7 j q hf2
          rw [z] at a1
          have a1 : ds (w + v0) = some e := a1
          rcases c1 with c | ⟨y, c, c2⟩
          · rw [c] at a1; cases a1
          · rw [c] at a1; obtain rfl := Option.some.inj a1; omega
        · obtain rfl : j = i := by omega
          rw [hp]; exact Nat.le_refl _
      · rw [if_neg z]
        rcases Nat.lt_or_ge j i with q | q
        · exact h7 j q hf2
        · obtain rfl : j = i := by omega
          exact absurd (by rw [hp]; exact hv0) z
    · rw [hD] at he
      by_cases z : v = v0
      · rw [if_pos z] at he
        have := Option.some.inj he
        refine ⟨p, dx, k1, hf, by rw [z]; exact hv0, ?_, this.symm, by rw [k2]; exact hsx⟩
        rw [k2, hD, if_neg (Ne.symm hne)]; exact h2
      · rw [if_neg z] at he
        obtain ⟨q, d, a1, a2, a3, a4, a5, a6⟩ := h8 v e hv hvr he
        exact ⟨q, d, a1, a2, a3, by rw [hD, if_neg (hkeep q a6)]; exact a4, a5, a6⟩
    · rw [hD] at he
      rw [hK]
      by_cases z : v = v0
      · rw [if_pos z] at he ⊢
        obtain rfl := Option.some.inj he
        rw [z]; exact hnew
      · rw [if_neg z] at he ⊢
        exact h9 v e hv hvr he
  · -- as good a way
    rw [e1, e2]
    have hK : ∀ v, row w (fs fk (w + v0) (fk (w + v0) ||| (if x = r then 2 ^ (p / 2) else g))) v = if v = v0 then (fk (w + v0) ||| (if x = r then 2 ^ (p / 2) else g)) else row w fk v := fun v => by rw [row_fs]; rfl
    have hdv : row w ds v0 = some (dx + f p) := c1
    refine ⟨h1, h2, by rw [hK, if_neg (Ne.symm hne)]; exact h3, h4, h5, h6, fun j hj hf2 => ?_, h8, fun v e hv hvr he => ?_⟩
    · rcases Nat.lt_or_ge j i with q | q
      · exact h7 j q hf2
      · obtain rfl : j = i := by omega
        rw [hp, hv0]; exact ⟨_, hdv, Nat.le_refl _⟩
    · rw [hK]
      by_cases z : v = v0
      · rw [if_pos z]
        rw [z] at he
        obtain ⟨a1, a2⟩ := h9 v0 e hot (by rw [← z]; exact hvr) he
        have e9 : e = dx + f p := Option.some.inj (he.symm.trans hdv)
        refine ⟨or_ne a1, fun k hk => ?_⟩
        rw [z]
        rcases (bit_or2 _ _ _).mp hk with b | b
        · exact a2 k b
        · rw [e9]; exact hnew.2 k b
      · rw [if_neg z]; exact h9 v e hv hvr he
  · -- a worse way
    rw [e1, e2]
    refine ⟨h1, h2, h3, h4, h5, h6, fun j hj hf2 => ?_, h8, h9⟩
    rcases Nat.lt_or_ge j i with q | q
    · exact h7 j q hf2
    · obtain rfl : j = i := by omega
      rw [hp, hv0]; exact ⟨y, c1, by omega⟩
