/-! whole numbers as cells hold them: Nat, Bool, Option Nat under int and long -/
section NUM
def bI (b : Bool) : Int32 := if b then 1 else 0
def oI (o : Option Nat) : Int32 := match o with
  | none => -1
  | some v => nI v
def eN (f : Nat → Nat) : Nat → Int32 := fun j => nI (f j)
def eB (f : Nat → Bool) : Nat → Int32 := fun j => bI (f j)
def eO (f : Nat → Option Nat) : Nat → Int32 := fun j => oI (f j)
def eL (f : Nat → Nat) : Nat → Int64 := fun j => lN (f j)
/-- a row with one place changed -/
def fs {α : Type} (f : Nat → α) (k : Nat) (v : α) : Nat → α := fun j => if j = k then v else f j
theorem fs_s {α : Type} {f : Nat → α} {k : Nat} {v : α} : fs f k v k = v := by unfold fs; rw [if_pos rfl]
theorem fs_n {α : Type} {f : Nat → α} {k j : Nat} {v : α} (h : j ≠ k) : fs f k v j = f j := by unfold fs; rw [if_neg h]
theorem ldN {f : Nat → Nat} {j : Nat} (h : j < 2 ^ 31) : eN f (nI j).toNatClampNeg = nI (f j) := by show nI (f (nI j).toNatClampNeg) = _; rw [nI_clamp h]
theorem ldB {f : Nat → Bool} {j : Nat} (h : j < 2 ^ 31) : eB f (nI j).toNatClampNeg = bI (f j) := by show bI (f (nI j).toNatClampNeg) = _; rw [nI_clamp h]
theorem ldO {f : Nat → Option Nat} {j : Nat} (h : j < 2 ^ 31) : eO f (nI j).toNatClampNeg = oI (f j) := by show oI (f (nI j).toNatClampNeg) = _; rw [nI_clamp h]
theorem ldL {f : Nat → Nat} {j : Nat} (h : j < 2 ^ 31) : eL f (nI j).toNatClampNeg = lN (f j) := by show lN (f (nI j).toNatClampNeg) = _; rw [nI_clamp h]
theorem stN {f : Nat → Nat} {j v : Nat} (h : j < 2 ^ 31) : upd (eN f) (nI j).toNatClampNeg (nI v) = eN (fs f j v) := by
  funext i
  rw [nI_clamp h]
  by_cases e : i = j
  · subst e; rw [pk_us]; show _ = nI (fs f i v i); rw [fs_s]
  · rw [pk_un e]; show nI (f i) = nI (fs f j v i); rw [fs_n e]
theorem stO {f : Nat → Option Nat} {j : Nat} {v : Option Nat} (h : j < 2 ^ 31) : upd (eO f) (nI j).toNatClampNeg (oI v) = eO (fs f j v) := by
  funext i
  rw [nI_clamp h]
  by_cases e : i = j
  · subst e; rw [pk_us]; show _ = oI (fs f i v i); rw [fs_s]
  · rw [pk_un e]; show oI (f i) = oI (fs f j v i); rw [fs_n e]
theorem bI_nar (b : Bool) : vp_nar .boolean (bI b) = bI b := by cases b <;> rfl
theorem stB {f : Nat → Bool} {j : Nat} {b : Bool} (h : j < 2 ^ 31) : upd (eB f) (nI j).toNatClampNeg (vp_nar .boolean (bI b)) = eB (fs f j b) := by
  funext i
  rw [nI_clamp h, bI_nar]
  by_cases e : i = j
  · subst e; rw [pk_us]; show _ = bI (fs f i b i); rw [fs_s]
  · rw [pk_un e]; show bI (f i) = bI (fs f j b i); rw [fs_n e]
theorem stL {f : Nat → Nat} {j v : Nat} (h : j < 2 ^ 31) : vp_updL (eL f) (nI j).toNatClampNeg (lN v) = eL (fs f j v) := by
  funext i
  rw [nI_clamp h]
  by_cases e : i = j
  · subst e; rw [pk_uLs]; show _ = lN (fs f i v i); rw [fs_s]
  · rw [pk_uLn e]; show lN (f i) = lN (fs f j v i); rw [fs_n e]
theorem bI_0 {b : Bool} (h : bI b = 0) : b = false := by
  cases b
  · rfl
  · exact absurd h (by decide)
theorem bI_1 {b : Bool} (h : ¬ bI b = 0) : b = true := by
  cases b
  · exact absurd rfl h
  · rfl
theorem bI_01 (b : Bool) : bI b = 0 ∨ bI b = 1 := by
  cases b
  · exact Or.inl rfl
  · exact Or.inr rfl
theorem nI_m1 {v : Nat} (h : v < 2 ^ 31) : ¬ nI v = -1 := by
  intro e
  have h1 := congrArg Int32.toInt e
  rw [nI_toInt h] at h1
  have h2 : (-1 : Int32).toInt = -1 := by decide
  omega
theorem nI_gem1 {v : Nat} (h : v < 2 ^ 31) : ¬ nI v < 0 := nI_pos h
theorem k_sm : ∀ j, j < 32 → ((nI j &&& 31).toBitVec.smod 32).toNat = j := by decide +kernel
theorem k_shl (a j : Nat) (hj : j < 32) : nI a <<< (nI j &&& 31) = nI (a * 2 ^ j) := by
  apply Int32.toBitVec_inj.1
  rw [Int32.toBitVec_shiftLeft]
  show BitVec.ofNat 32 a <<< ((nI j &&& 31).toBitVec.smod 32).toNat = BitVec.ofNat 32 (a * 2 ^ j)
  rw [k_sm j hj]
  apply BitVec.eq_of_toNat_eq
  rw [BitVec.toNat_shiftLeft, BitVec.toNat_ofNat, BitVec.toNat_ofNat, Nat.shiftLeft_eq, Nat.mod_mul_mod]
theorem k_shr {a : Nat} (h : a < 2 ^ 31) (j : Nat) (hj : j < 32) : nI a >>> (nI j &&& 31) = nI (a / 2 ^ j) := by
  apply Int32.toBitVec_inj.1
  rw [Int32.toBitVec_shiftRight]
  show (BitVec.ofNat 32 a).sshiftRight ((nI j &&& 31).toBitVec.smod 32).toNat = BitVec.ofNat 32 (a / 2 ^ j)
  rw [k_sm j hj]
  have ha : (BitVec.ofNat 32 a).toNat = a := by rw [BitVec.toNat_ofNat]; exact Nat.mod_eq_of_lt (by omega)
  have hm : (BitVec.ofNat 32 a).msb = false := by rw [BitVec.msb_eq_false_iff_two_mul_lt, ha]; omega
  rw [BitVec.sshiftRight_eq_of_msb_false hm]
  apply BitVec.eq_of_toNat_eq
  have hd : a / 2 ^ j ≤ a := Nat.div_le_self _ _
  rw [BitVec.toNat_ushiftRight, ha, BitVec.toNat_ofNat, Nat.shiftRight_eq_div_pow, Nat.mod_eq_of_lt (by omega)]
theorem k_andN (a j : Nat) : nI a &&& nI (2 ^ j - 1) = nI (a % 2 ^ j) := by rw [k_and, Nat.and_two_pow_sub_one_eq_mod]
theorem k_smL : ∀ j, j < 64 → (((nI j).toInt64 &&& 63).toBitVec.smod 64).toNat = j := by decide +kernel
theorem k_shlL (a j : Nat) (hj : j < 64) : lN a <<< ((nI j).toInt64 &&& 63) = lN (a * 2 ^ j) := by
  apply Int64.toBitVec_inj.1
  rw [Int64.toBitVec_shiftLeft]
  show BitVec.ofNat 64 a <<< (((nI j).toInt64 &&& 63).toBitVec.smod 64).toNat = BitVec.ofNat 64 (a * 2 ^ j)
  rw [k_smL j hj]
  apply BitVec.eq_of_toNat_eq
  rw [BitVec.toNat_shiftLeft, BitVec.toNat_ofNat, BitVec.toNat_ofNat, Nat.shiftLeft_eq, Nat.mod_mul_mod]
theorem k_shrL {a : Nat} (h : a < 2 ^ 63) (j : Nat) (hj : j < 64) : lN a >>> ((nI j).toInt64 &&& 63) = lN (a / 2 ^ j) := by
  apply Int64.toBitVec_inj.1
  rw [Int64.toBitVec_shiftRight]
  show (BitVec.ofNat 64 a).sshiftRight (((nI j).toInt64 &&& 63).toBitVec.smod 64).toNat = BitVec.ofNat 64 (a / 2 ^ j)
  rw [k_smL j hj]
  have ha : (BitVec.ofNat 64 a).toNat = a := by rw [BitVec.toNat_ofNat]; exact Nat.mod_eq_of_lt (by omega)
  have hm : (BitVec.ofNat 64 a).msb = false := by rw [BitVec.msb_eq_false_iff_two_mul_lt, ha]; omega
  rw [BitVec.sshiftRight_eq_of_msb_false hm]
  apply BitVec.eq_of_toNat_eq
  have hd : a / 2 ^ j ≤ a := Nat.div_le_self _ _
  rw [BitVec.toNat_ushiftRight, ha, BitVec.toNat_ofNat, Nat.shiftRight_eq_div_pow, Nat.mod_eq_of_lt (by omega)]
theorem k_andL (a b : Nat) : lN a &&& lN b = lN (a &&& b) := by
  apply Int64.toBitVec_inj.1
  show BitVec.ofNat 64 a &&& BitVec.ofNat 64 b = BitVec.ofNat 64 (a &&& b)
  apply BitVec.eq_of_getLsbD_eq
  intro i hi
  simp [hi]
theorem k_orL (a b : Nat) : lN a ||| lN b = lN (a ||| b) := by
  apply Int64.toBitVec_inj.1
  show BitVec.ofNat 64 a ||| BitVec.ofNat 64 b = BitVec.ofNat 64 (a ||| b)
  apply BitVec.eq_of_getLsbD_eq
  intro i hi
  simp [hi]
theorem k_or (a b : Nat) : nI a ||| nI b = nI (a ||| b) := by
  apply Int32.toBitVec_inj.1
  show BitVec.ofNat 32 a ||| BitVec.ofNat 32 b = BitVec.ofNat 32 (a ||| b)
  apply BitVec.eq_of_getLsbD_eq
  intro i hi
  simp [hi]
/-- what a loop makes of a state, its first k rounds -/
def itr {σ : Type} (f : Nat → σ → σ) : Nat → σ → σ
  | 0, s => s
  | k + 1, s => f k (itr f k s)
theorem itr_0 {σ : Type} {f : Nat → σ → σ} {s : σ} : itr f 0 s = s := rfl
theorem itr_s {σ : Type} {f : Nat → σ → σ} {k : Nat} {s : σ} : itr f (k + 1) s = f k (itr f k s) := rfl
end NUM
