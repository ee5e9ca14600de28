/-! a tick -/
/-- clock, what was usable, room of the arriving messages, state -/
abbrev TS : Type := Nat × (Nat → Bool) × Nat × AS
def tkE (t : TP) (n : Nat) (a : AS) : ES := exA (tRc t) n (aOld a, aHd a, aNw a)
def tkR (t : TP) (n k : Nat) (a : AS) : RS := (aKs a, aMr a, (tkE t n a).1, (tkE t n a).2.1, (tkE t n a).2.2, e0 k)
def tkD (t : TP) (n k : Nat) (a : AS) : RS := itr (dl1 t n (aSq a) (aMb a).1) (mL (aMb a)) (tkR t n k a)
def rToA (d : RS) (a : AS) : AS := (d.1, d.2.1, d.2.2.1, d.2.2.2.1, aSq a, aLm a, aLo a, d.2.2.2.2.1, d.2.2.2.2.2, aDs a, aFk a, aKd a, aCo a, aLi a, aLc a)
def tkB (t : TP) (n k : Nat) (a : AS) : AS := rToA (tkD t n k a) a
noncomputable def tkA (t : TP) (wu : Nat → Bool) (n k : Nat) (a : AS) : AS := itr (act1 t wu n) (tRc t) (tkB t n k a)
noncomputable def tk1 (t : TP) (lc : Nat) (_ : Nat) (x : TS) : TS := (x.1 + 1, itr (rmB (tRu t) (tLu t) (tRp t)) lc x.2.1, (aMb x.2.2.2).2, tkA t x.2.1 (x.1 + 1) x.2.2.1 x.2.2.2)
def tkOK (t : TP) (x : TS) : Prop := x.1 + 1 < 2 ^ 20 ∧ (∀ j, aSq x.2.2.2 j < 2 ^ 20) ∧ (∀ j w, aHd x.2.2.2 j = some w → w < 69632) ∧ mOK (aMb x.2.2.2) ∧ mL (aMb x.2.2.2) < 2 ^ 20 ∧ meOK t (aMb x.2.2.2).1 ∧
  (∀ i, i ≤ mL (aMb x.2.2.2) → stOK (itr (dl1 t (x.1 + 1) (aSq x.2.2.2) (aMb x.2.2.2).1) i (tkR t (x.1 + 1) x.2.2.1 x.2.2.2))) ∧
  (∀ i, i ≤ tRc t → aOK (x.1 + 1) (itr (act1 t x.2.1 (x.1 + 1)) i (tkB t (x.1 + 1) x.2.2.1 x.2.2.2)))
def kp (m : MB) (k : Nat) : MB := ([], m.2 + k)
def tKp (x : TS) : MB := kp (aMb x.2.2.2) x.2.2.1
theorem tkD_ge (t : TP) (n k : Nat) (a : AS) : k ≤ (rmb (tkD t n k a)).2 := dl1_m t n (aSq a) (aMb a).1 (tkR t n k a) (Nat.zero_le _)
theorem tkA_ge (t : TP) (wu : Nat → Bool) (n k : Nat) (a : AS) : (rmb (tkD t n k a)).2 ≤ (aMb (tkA t wu n k a)).2 := act1_m t wu n (tkB t n k a) (Nat.zero_le _)
theorem tk1_ge (t : TP) (lc i : Nat) (x : TS) : (tKp x).2 ≤ (tKp (tk1 t lc i x)).2 := by
  have h1 := tkD_ge t (x.1 + 1) x.2.2.1 x.2.2.2
  have h2 := tkA_ge t x.2.1 (x.1 + 1) x.2.2.1 x.2.2.2
  show (aMb x.2.2.2).2 + x.2.2.1 ≤ (aMb (tkA t x.2.1 (x.1 + 1) x.2.2.1 x.2.2.2)).2 + (aMb x.2.2.2).2
  omega
theorem tk1_m (t : TP) (lc : Nat) (x : TS) {i j : Nat} (h : i ≤ j) : (tKp (itr (tk1 t lc) i x)).2 ≤ (tKp (itr (tk1 t lc) j x)).2 := itr_mono (g := fun z => (tKp z).2) (fun i s => tk1_ge t lc i s) x h
