
theorem CHK_u1 {t : TP} {N n : Nat} {a : AS} (hG : TG t N) (h : FIN t N n a) {r : Nat} (hr : r < N) (k : ¬ itr (szB (aHd a) r (1 * 272)) 272 0 ≤ 0) : true = tRu t r := ((CHK_up hG h hr).mp (by omega)).symm
theorem CHK_u0 {t : TP} {N n : Nat} {a : AS} (hG : TG t N) (h : FIN t N n a) {r : Nat} (hr : r < N) (k : itr (szB (aHd a) r (1 * 272)) 272 0 ≤ 0) : false = tRu t r := by
  cases z : tRu t r with
  | true => have := (CHK_up hG h hr).mpr z; omega
  | false => rfl
theorem FIN_mL {t : TP} {N n : Nat} {a : AS} (h : FIN t N n a) (hn : n < 100) : mL (aMb a) < 2 ^ 31 := by
  obtain ⟨_, _, wu, ka, hR, _⟩ := h
  have := hR.1.2.2
  omega
theorem T25K {t : TP} {N n ka : Nat} {wu : Nat → Bool} {a : AS} (hG : TG t N) (hT : TOK t) (hmp : ∀ j, tMp t j ≤ 1000) (hn : n ≤ 48) (h : REST t N TT9 n wu ka a) : (tKp (itr (tk1 t 9) 25 (n, wu, ka, a))).2 ≤ 2048 := by
  obtain ⟨h1, h2, h3⟩ := T25 hG hT hmp hn h
  have h4 := h1 24 (by decide)
  obtain ⟨_, _, w2, k2, hR, _⟩ := h2
  have a1 := mOK_le hR.1.1
  have a2 := mOK_le h4.2.2.2.1
  have e : itr (tk1 t 9) 25 (n, wu, ka, a) = tk1 t 9 24 (itr (tk1 t 9) 24 (n, wu, ka, a)) := itr_s
  rw [e] at a1 ⊢
  generalize itr (tk1 t 9) 24 (n, wu, ka, a) = z at a1 a2 ⊢
  show (aMb (tk1 t 9 24 z).2.2.2).2 + (aMb z.2.2.2).2 ≤ 2048
  omega
theorem ANI_00 {ca : Nat → Nat} {an : Nat → Option Nat} (h : ∀ j, an j = none) : ANI 0 ca an := ⟨fun v hv => absurd hv (Nat.not_lt_zero v), fun v _ => h _, fun j w e => by rw [h] at e; cases e⟩
theorem ANI_z {r x : Nat} {ca : Nat → Nat} {an : Nat → Option Nat} (h : ANI r ca an) (hx : x ≤ 0) : ANI (r + 1) (fs ca r x) an := by
  obtain rfl : x = 0 := by omega
  exact ANI_n h
