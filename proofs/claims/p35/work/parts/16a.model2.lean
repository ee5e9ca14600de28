/-! paths and routes as functions -/
/-- the metric of the connection that begins at port q, as router r knows it; 0 if it knows none -/
def km (t : TP) (hd : Nat → Option Nat) (lm : Nat → Nat) (r q : Nat) : Nat :=
  match hd (r * 1088 + (1 * 272 + tRp t q)), hd (r * 1088 + (1 * 272 + tRp t (ot q))) with
  | some h, some g => if lm (ot q * 64 + g % 64) = 0 then 0 else lm (q * 64 + h % 64)
  | _, _ => 0
/-- distances and first links -/
abbrev PS : Type := (Nat → Option Nat) × (Nat → Nat)
/-- goOnFrom: what router r learns at router x, at distance d with first links g, port by port; w is r's row -/
def go1 (t : TP) (hd : Nat → Option Nat) (lm : Nat → Nat) (r w x d g : Nat) (i : Nat) (y : PS) : PS :=
  if km t hd lm r (tPo t (x * 40 + i)) = 0 then y else
    (ofD y.1 (w + tRp t (ot (tPo t (x * 40 + i)))) (d + km t hd lm r (tPo t (x * 40 + i))),
     ofF y.1 y.2 (w + tRp t (ot (tPo t (x * 40 + i)))) (d + km t hd lm r (tPo t (x * 40 + i))) (if x = r then 2 ^ (tPo t (x * 40 + i) / 2) else g))
/-- nearestOpen -/
def nr1 (ds : Nat → Option Nat) (w s : Nat) (i : Nat) (x : Option Nat) : Option Nat :=
  match ds (w + i) with
  | none => x
  | some d => if s / 2 ^ i % 2 = 0 then (match x with
      | none => some i
      | some y => (match ds (w + y) with
        | none => x
        | some e => if d < e then some i else x)) else x
theorem nr_spec {ds : Nat → Option Nat} {w s : Nat} : ∀ {n x : Nat}, itr (nr1 ds w s) n none = some x → x < n ∧ (∃ e, ds (w + x) = some e) ∧ s / 2 ^ x % 2 = 0
  | 0, _, h => by cases h
  | n + 1, x, h => by
    rw [itr_s] at h
    have ih := @nr_spec ds w s n
    generalize itr (nr1 ds w s) n none = z at h ih
    unfold nr1 at h
    split at h
    · obtain ⟨h1, h2⟩ := ih h
      exact ⟨by omega, h2⟩
    · next d hd =>
      split at h
      · next hs =>
        split at h
        · obtain rfl := Option.some.inj h
          exact ⟨by omega, ⟨d, hd⟩, hs⟩
        · next y =>
          split at h
          · obtain ⟨h1, h2⟩ := ih h
            exact ⟨by omega, h2⟩
          · split at h
            · obtain rfl := Option.some.inj h
              exact ⟨by omega, ⟨d, hd⟩, hs⟩
            · obtain ⟨h1, h2⟩ := ih h
              exact ⟨by omega, h2⟩
      · obtain ⟨h1, h2⟩ := ih h
        exact ⟨by omega, h2⟩
/-- compute, from some round on -/
def dj (t : TP) (hd : Nat → Option Nat) (lm : Nat → Nat) (r w : Nat) : Nat → Nat → PS → PS
  | 0, _, y => y
  | n + 1, s, y => match itr (nr1 y.1 w s) (tRc t) none with
    | none => y
    | some x => dj t hd lm r w n (s ||| 2 ^ x) (itr (go1 t hd lm r w x ((y.1 (w + x)).getD 0) (y.2 (w + x))) (tPc t x) y)
def djs (r w : Nat) (y : PS) : PS := (fs (itr (clD w) 16 y.1) (w + r) (some 0), itr (clF w) 16 y.2)
def cpt (t : TP) (hd : Nat → Option Nat) (lm : Nat → Nat) (r : Nat) (y : PS) : PS := dj t hd lm r ((r * 4 + 1) * 16) (tRc t) 0 (djs r ((r * 4 + 1) * 16) y)
/-- what distances may be after k rounds of row w -/
def bnd (w k : Nat) (ds : Nat → Option Nat) : Prop := ∀ j d, ds j = some d → d ≤ 16000 ∧ (w ≤ j → j < w + 16 → d ≤ 1000 * k)
theorem ofD_c (ds : Nat → Option Nat) (q d : Nat) : ofD ds q d = fs ds q (some d) ∨ ofD ds q d = ds := by
  unfold ofD
  cases ds q with
  | none => exact Or.inl rfl
  | some x =>
    by_cases h : d < x
    · exact Or.inl (if_pos h)
    · exact Or.inr (if_neg h)
theorem ofF_c (ds : Nat → Option Nat) (fk : Nat → Nat) (q d g : Nat) : (∃ x, ofF ds fk q d g = fs fk q x) ∨ ofF ds fk q d g = fk := by
  unfold ofF
  cases ds q with
  | none => exact Or.inl ⟨_, rfl⟩
  | some x =>
    by_cases h : d < x
    · exact Or.inl ⟨_, if_pos h⟩
    · by_cases h2 : d = x
      · exact Or.inl ⟨_, (if_neg h).trans (if_pos h2)⟩
      · exact Or.inr ((if_neg h).trans (if_neg h2))
theorem bnd_of {w k q d : Nat} {ds : Nat → Option Nat} (h : bnd w k ds) (hd : d ≤ 1000 * k) (hk : k ≤ 16) : bnd w k (ofD ds q d) := by
  intro j e he
  have key : fs ds q (some d) j = some e → e ≤ 16000 ∧ (w ≤ j → j < w + 16 → e ≤ 1000 * k) := by
    intro he
    by_cases hj : j = q
    · subst hj; rw [fs_s] at he; obtain rfl := Option.some.inj he; exact ⟨by omega, fun _ _ => hd⟩
    · rw [fs_n hj] at he; exact h j e he
  rcases ofD_c ds q d with e1 | e1
  · rw [e1] at he; exact key he
  · rw [e1] at he; exact h j e he
theorem bnd_s {w k : Nat} {ds : Nat → Option Nat} (h : bnd w k ds) : bnd w (k + 1) ds := fun j d e => ⟨(h j d e).1, fun a b => by have := (h j d e).2 a b; omega⟩
theorem km_le {t : TP} {hd : Nat → Option Nat} {lm : Nat → Nat} (hlm : ∀ j, lm j ≤ 1000) (r q : Nat) : km t hd lm r q ≤ 1000 := by
  unfold km
  split
  · split
    · omega
    · exact hlm _
  · omega
theorem ofD_ne {ds : Nat → Option Nat} {q d j : Nat} (h : j ≠ q) : ofD ds q d j = ds j := by
  rcases ofD_c ds q d with e1 | e1
  · rw [e1]; exact fs_n h
  · rw [e1]
theorem ofF_ne {ds : Nat → Option Nat} {fk : Nat → Nat} {q d g j : Nat} (h : j ≠ q) : ofF ds fk q d g j = fk j := by
  rcases ofF_c ds fk q d g with ⟨x, e1⟩ | e1
  · rw [e1]; exact fs_n h
  · rw [e1]
theorem go1_i {t : TP} {hd : Nat → Option Nat} {lm : Nat → Nat} {r w x d g k : Nat} (hlm : ∀ j, lm j ≤ 1000) (hd_ : d ≤ 1000 * k) (hk : k < 16) (hne : ∀ i, i < tPc t x → tRp t (ot (tPo t (x * 40 + i))) ≠ x) {y : PS} (hy : bnd w k y.1) (h1 : y.1 (w + x) = some d) (h2 : y.2 (w + x) = g) :
    ∀ i, i ≤ tPc t x → bnd w (k + 1) (itr (go1 t hd lm r w x d g) i y).1 ∧ (itr (go1 t hd lm r w x d g) i y).1 (w + x) = some d ∧ (itr (go1 t hd lm r w x d g) i y).2 (w + x) = g
  | 0, _ => ⟨bnd_s hy, h1, h2⟩
  | i + 1, hi => by
    obtain ⟨k1, k2, k3⟩ := go1_i hlm hd_ hk hne hy h1 h2 i (by omega)
    rw [itr_s]
    generalize itr (go1 t hd lm r w x d g) i y = z at k1 k2 k3 ⊢
    have hn := hne i (by omega)
    unfold go1
    split
    · exact ⟨k1, k2, k3⟩
    · have hkm := km_le (t := t) (hd := hd) hlm r (tPo t (x * 40 + i))
      exact ⟨bnd_of k1 (by omega) (by omega), (ofD_ne (by omega)).trans k2, (ofF_ne (by omega)).trans k3⟩
/-- computeIfOld -/
def cif (t : TP) (hd : Nat → Option Nat) (lm : Nat → Nat) (r : Nat) (x : (Nat → Bool) × PS) : (Nat → Bool) × PS :=
  if x.1 (r * 4 + 1) = true then (fs x.1 (r * 4 + 1) false, cpt t hd lm r x.2) else x
/-- the best candidate: cost, links, whether it is the router's own -/
abbrev BS : Type := Option Nat × Nat × Bool
def bof (c g : Nat) (o : Bool) (x : BS) : BS := match x.1 with
  | none => (some c, g, o)
  | some b => if b < c then x else if c = b then (some b, x.2.1 ||| g, x.2.2 || o) else (some c, g, o)
def oa1 (t : TP) (hd lo ds : Nat → Option Nat) (fk : Nat → Nat) (r n : Nat) (i : Nat) (x : BS) : BS :=
  match ds ((r * 4 + 1) * 16 + i), hd (r * 1088 + (1 * 272 + i)) with
  | some d, some v => (match lo (((i * 4 + 1) * 16 + n) * 64 + v % 64) with
    | none => x
    | some c => bof (d + c) (fk ((r * 4 + 1) * 16 + i)) (decide (i = r)) x)
  | _, _ => x
def fbs (t : TP) (hd lo ds : Nat → Option Nat) (fk : Nat → Nat) (r n : Nat) : BS := itr (oa1 t hd lo ds fk r n) (tRc t) (none, 0, false)
def kdo (b : Option Nat) : Nat := match b with
  | none => 0
  | some _ => 1
/-- routes: kinds, costs, links, locals -/
abbrev RT : Type := (Nat → Nat) × (Nat → Option Nat) × (Nat → Nat) × (Nat → Bool)
def rst (q : Nat) (b : BS) (x : RT) : RT := (fs x.1 q (kdo b.1), fs x.2.1 q b.1, fs x.2.2.1 q b.2.1, fs x.2.2.2 q b.2.2)
def rc1 (t : TP) (hd lo ds : Nat → Option Nat) (fk : Nat → Nat) (r : Nat) (n : Nat) (x : RT) : RT := rst (r * 16 + n) (fbs t hd lo ds fk r n) x
def rcp (t : TP) (hd lo ds : Nat → Option Nat) (fk : Nat → Nat) (r : Nat) (x : RT) : RT := itr (rc1 t hd lo ds fk r) 16 x
def rf1 (r : Nat) (n : Nat) (x : RT) : RT := rst (r * 16 + n) (none, 0, false) x
def rfg (r : Nat) (x : RT) : RT := itr (rf1 r) 16 x
theorem m1_le {v : Nat} (h : v < 2 ^ 31) : (-1 : Int32) ≤ nI v := by
  apply Int32.le_iff_toInt_le.mpr
  rw [nI_toInt h]
  have h2 : (-1 : Int32).toInt = -1 := by decide
  omega
theorem oI_bd {x : Option Nat} {B : Nat} (h : ∀ w, x = some w → w < B) : x = none ∨ ∃ w, x = some w ∧ w < B := by
  cases x with
  | none => exact Or.inl rfl
  | some w => exact Or.inr ⟨w, rfl, h w rfl⟩
theorem fits_bI (b : Bool) : fits .boolean (.int (bI b)) = true := by cases b <;> rfl
theorem nar_bI (b : Bool) : narrow .boolean (.int (bI b)) = .int (bI b) := by cases b <;> rfl
