/-! one action of the caller -/
def blw (v : Int32) (n : Nat) : Nat := v.toBitVec.toNat % 2 ^ 31 % n
def bt (v : Int32) (j : Nat) : Nat := v.toBitVec.toNat % 2 ^ j
theorem blw_lt {v : Int32} {n : Nat} (h : 0 < n) : blw v n < n := Nat.mod_lt _ h
theorem bt_lt {v : Int32} {j : Nat} : bt v j < 2 ^ j := Nat.mod_lt _ (Nat.two_pow_pos j)
theorem bt_1 (v : Int32) : v &&& 1 = nI (bt v 1) := k_mask v 1
theorem bt_3 (v : Int32) : v &&& 3 = nI (bt v 2) := k_mask v 2
theorem blw_m (v : Int32) : v &&& 2147483647 = nI (v.toBitVec.toNat % 2 ^ 31) := k_mask v 31
/-- what the caller has built, and the simulator's state -/
abbrev LW : Type := TP × TS
def acR (y : LW) (r : Nat) (b : Bool) : LW := (tsR y.1 r b, y.2.1, (if b = true then y.2.2.1 else itr (swB (tPo y.1) r) (tPc y.1 r) y.2.2.1), y.2.2.2.1, (if tRu y.1 r = true ∧ b = false then aFg r y.2.2.2.2 else aWk y.2.2.2.2))
def acL (y : LW) (l : Nat) (b : Bool) : LW := (tsL y.1 l b, y.2.1, (if b = true then y.2.2.1 else fs y.2.2.1 l false), y.2.2.2.1, aWk y.2.2.2.2)
def acM (y : LW) (p m : Nat) : LW := (tsM y.1 p m, y.2.1, y.2.2.1, y.2.2.2.1, aWk y.2.2.2.2)
noncomputable def acT (y : LW) (n : Nat) : LW := (y.1, itr (tk1 y.1 9) n y.2)
noncomputable def acF (c : Int32) (y : LW) : LW :=
  if blw c 8 ≤ 1 then acL y (blw (c >>> (8 &&& 31)) 9) (decide (bt (c >>> (24 &&& 31)) 1 = 1))
  else if blw c 8 = 2 then acR y (blw (c >>> (16 &&& 31)) (tRc y.1)) (decide (0 < bt (c >>> (24 &&& 31)) 2))
  else if blw c 8 = 3 then acM y (blw (c >>> (8 &&& 31)) 9 * 2 + bt (c >>> (25 &&& 31)) 1) (1 + blw (c >>> (12 &&& 31)) 9)
  else acT y (1 + blw (c >>> (20 &&& 31)) 4)
def lsK (y : LW) : MB := tKp y.2
/-- what holds from action to action -/
def LI (N M : Nat) (y : LW) : Prop := TG y.1 N ∧ TOK y.1 ∧ (∀ j, tMp y.1 j ≤ 1000) ∧ (∀ q, q < 18 → 1 ≤ tMp y.1 q) ∧ REST y.1 N TT9 y.2.1 y.2.2.1 y.2.2.2.1 y.2.2.2.2 ∧ y.2.1 ≤ M
theorem LI_mono {N M M2 : Nat} {y : LW} (h : LI N M y) (hM : M ≤ M2) : LI N M2 y := ⟨h.1, h.2.1, h.2.2.1, h.2.2.2.1, h.2.2.2.2.1, Nat.le_trans h.2.2.2.2.2 hM⟩
theorem LI_room {N M : Nat} {y : LW} (h : LI N M y) : 2 ≤ (lsK y).2 ∧ (lsK y).2 ≤ 2048 := by
  obtain ⟨⟨h1, h2, _⟩, _⟩ := h.2.2.2.2.1
  have a1 := mOK_le h1
  have a2 := mOK_le h2
  have a3 := mOK_pos h1
  have a4 := mOK_pos h2
  have a4 : 1 ≤ y.2.2.2.1 := a4
  have a2 : y.2.2.2.1 ≤ 1024 := a2
  show 2 ≤ (aMb y.2.2.2.2).2 + y.2.2.2.1 ∧ (aMb y.2.2.2.2).2 + y.2.2.2.1 ≤ 2048
  omega
theorem LI_acL {N M l : Nat} {b : Bool} {y : LW} (h : LI N M y) : LI N M (acL y l b) := by
  obtain ⟨h1, h2, h3, h4, h5, h6⟩ := h
  exact ⟨h1, h2, h3, h4, REST_L h5, h6⟩
theorem LI_acM {N M p m : Nat} {y : LW} (h : LI N M y) (hm1 : 1 ≤ m) (hm2 : m ≤ 1000) : LI N M (acM y p m) := by
  obtain ⟨h1, ⟨k1, k2, k3, k4, k5, k6, k7⟩, h3, h4, h5, h6⟩ := h
  refine ⟨h1, ⟨k1, k2, k3, k4, k5, fun j => ?_, k7⟩, fun j => ?_, fun q hq => ?_, REST_M h5, h6⟩
  · show fs (tMp y.1) p m j < 2 ^ 20
    by_cases z : j = p
    · rw [z, fs_s]; omega
    · rw [fs_n z]; exact k6 j
  · show fs (tMp y.1) p m j ≤ 1000
    by_cases z : j = p
    · rw [z, fs_s]; exact hm2
    · rw [fs_n z]; exact h3 j
  · show 1 ≤ fs (tMp y.1) p m q
    by_cases z : q = p
    · rw [z, fs_s]; exact hm1
    · rw [fs_n z]; exact h4 q hq
theorem LI_acR {N M r : Nat} {b : Bool} {y : LW} (hr : r < N) (h : LI N M y) : LI N M (acR y r b) := by
  obtain ⟨h1, h2, h3, h4, h5, h6⟩ := h
  refine ⟨h1, h2, h3, h4, ?_, h6⟩
  show REST (tsR y.1 r b) N TT9 y.2.1 (if b = true then y.2.2.1 else itr (swB (tPo y.1) r) (tPc y.1 r) y.2.2.1) y.2.2.2.1 (if tRu y.1 r = true ∧ b = false then aFg r y.2.2.2.2 else aWk y.2.2.2.2)
  cases b with
  | true =>
    rw [if_pos (rfl : true = true), if_neg (fun k : tRu y.1 r = true ∧ true = false => absurd k.2 (by decide))]
    exact REST_R (Or.inl rfl) (fun k e => e) h5
  | false =>
    rw [if_neg (fun k : false = true => absurd k (by decide))]
    by_cases z : tRu y.1 r = true
    · rw [if_pos ⟨z, rfl⟩]
      exact REST_D h1 hr h5
    · rw [if_neg (fun k => z k.1)]
      exact REST_R (Or.inr (by cases z2 : tRu y.1 r with
        | true => exact absurd z2 z
        | false => rfl)) (fun k e => (swB_out _ e).1) h5
theorem LI_tk {N M n : Nat} {y : LW} (h : LI N M y) (hn : M + n ≤ 60) : ∀ i, i < n → tkOK y.1 (itr (tk1 y.1 9) i y.2) := by
  obtain ⟨h1, h2, h3, h4, h5, h6⟩ := h
  obtain ⟨t, now, wu, ka, a⟩ := y
  have h6 : now ≤ M := h6
  obtain ⟨wu2, ka2, a2, e, _, _, k⟩ := TICKS60 h1 h2 h3 h5 n (show now + n ≤ 60 by omega)
  exact k
theorem LI_acT {N M n : Nat} {y : LW} (h : LI N M y) (hn : M + n ≤ 60) : LI N (M + n) (acT y n) := by
  obtain ⟨h1, h2, h3, h4, h5, h6⟩ := h
  obtain ⟨t, now, wu, ka, a⟩ := y
  have h6 : now ≤ M := h6
  obtain ⟨wu2, ka2, a2, e, k1, _, _⟩ := TICKS60 h1 h2 h3 h5 n (show now + n ≤ 60 by omega)
  have e : itr (tk1 t 9) n (now, wu, ka, a) = (now + n, wu2, ka2, a2) := e
  unfold acT
  rw [e]
  exact ⟨h1, h2, h3, h4, k1, show now + n ≤ M + n by omega⟩
theorem LI_acF {N M : Nat} {c : Int32} {y : LW} (hN : 0 < N) (h : LI N M y) (hM : M + 4 ≤ 60) : LI N (M + 4) (acF c y) := by
  have hrc : tRc y.1 = N := h.1.1
  unfold acF
  split
  · exact LI_mono (LI_acL h) (by omega)
  · split
    · exact LI_mono (LI_acR (by rw [hrc]; exact blw_lt hN) h) (by omega)
    · split
      · have := blw_lt (v := c >>> (12 &&& 31)) (n := 9) (by omega)
        exact LI_mono (LI_acM h (by omega) (by omega)) (by omega)
      · have := blw_lt (v := c >>> (20 &&& 31)) (n := 4) (by omega)
        exact LI_mono (LI_acT h (by omega)) (by omega)
/-- what stays -/
def SAME (t t2 : TP) : Prop := tRc t2 = tRc t ∧ tAl t2 = tAl t ∧ tRp t2 = tRp t ∧ tPc t2 = tPc t ∧ tPo t2 = tPo t ∧ tAn t2 = tAn t
theorem acF_same (c : Int32) (y : LW) : SAME y.1 (acF c y).1 := by
  unfold acF
  split
  · exact ⟨rfl, rfl, rfl, rfl, rfl, rfl⟩
  · split
    · exact ⟨rfl, rfl, rfl, rfl, rfl, rfl⟩
    · split
      · exact ⟨rfl, rfl, rfl, rfl, rfl, rfl⟩
      · exact ⟨rfl, rfl, rfl, rfl, rfl, rfl⟩
theorem acF_ge (c : Int32) (y : LW) : (lsK y).2 ≤ (lsK (acF c y)).2 := by
  unfold acF
  split
  · exact Nat.le_refl _
  · split
    · unfold acR
      by_cases z : tRu y.1 (blw (c >>> (16 &&& 31)) (tRc y.1)) = true ∧ decide (0 < bt (c >>> (24 &&& 31)) 2) = false
      · rw [if_pos z]; exact Nat.le_refl _
      · rw [if_neg z]; exact Nat.le_refl _
    · split
      · exact Nat.le_refl _
      · exact tk1_m y.1 9 y.2 (Nat.zero_le _)
theorem acR_eq {a : AS} {r : Nat} {b1 b : Bool} {x : FS} (h : x = if b1 = true ∧ b = false then frg r (aFS a) else aFS a) :
    ((x.1, x.2.1, x.2.2.1, x.2.2.2.1, aSq a, aLm a, aLo a, (fun _ => 0), aMb a, x.2.2.2.2.1, x.2.2.2.2.2.1, x.2.2.2.2.2.2.1, x.2.2.2.2.2.2.2.1, x.2.2.2.2.2.2.2.2.1, x.2.2.2.2.2.2.2.2.2) : AS) = if b1 = true ∧ b = false then aFg r a else aWk a := by
  subst h
  by_cases z : b1 = true ∧ b = false
  · rw [if_pos z, if_pos z]; rfl
  · rw [if_neg z, if_neg z]; rfl
theorem REST_hd {t : TP} {N n ka : Nat} {wu : Nat → Bool} {a : AS} (hG : TG t N) (h : REST t N TT9 n wu ka a) : ∀ j w, aHd a j = some w → w < 69632 := fun j w e => by
  obtain ⟨u, o, _, c2, _, c4, _⟩ := h.2.1 j w e
  have := hG.2.1
  have := c4.1
  omega
theorem TG_ne {t : TP} {N : Nat} (hG : TG t N) : ∀ x i, x < tRc t → i < tPc t x → tRp t (ot (tPo t (x * 40 + i))) ≠ x := fun x i hx hi => by
  rw [hG.1] at hx
  obtain ⟨h1, h2⟩ := hG.2.2.2.1 x i hx hi
  have := (hG.2.2.1 _ h1).2.1
  rw [h2] at this
  exact this
theorem TG_al {t : TP} {N : Nat} (hG : TG t N) : ∀ x i, x < tRc t → i < tPc t x → tAl t (tPo t (x * 40 + i) / 2) = 1 := fun x i hx hi => by
  rw [hG.1] at hx
  obtain ⟨h1, h2⟩ := hG.2.2.2.1 x i hx hi
  exact (hG.2.2.1 _ h1).2.2
theorem nI_nez {n : Nat} (h0 : 0 < n) (h : n < 2 ^ 31) : ¬ nI n = 0 := fun e => by
  have := (nI_eq (a := n) (b := 0) h (by decide)).mp e
  omega
