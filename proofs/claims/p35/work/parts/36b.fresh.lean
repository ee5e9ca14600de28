/-! tables that are fresh stay so while others act -/
def FPR (t : TP) (N : Nat) (a : AS) (r : Nat) : Prop := SP t N (km t (aHd a) (aLm a) r) r (row ((r * 4 + 1) * 16) (aDs a)) (row ((r * 4 + 1) * 16) (aFk a))
def FRR (t : TP) (a : AS) (r : Nat) : Prop := aKd a (r * 16 + 7) = kdo (fbs t (aHd a) (aLo a) (aDs a) (aFk a) r 7).1 ∧ aCo a (r * 16 + 7) = (fbs t (aHd a) (aLo a) (aDs a) (aFk a) r 7).1 ∧ aLi a (r * 16 + 7) = (fbs t (aHd a) (aLo a) (aDs a) (aFk a) r 7).2.1 ∧ aLc a (r * 16 + 7) = (fbs t (aHd a) (aLo a) (aDs a) (aFk a) r 7).2.2
theorem wk_congr {t : TP} {f g : Nat → Nat} (h : ∀ q, q < 18 → f q = g q) {a : Nat} : ∀ {n b c}, wk t f a n b c → wk t g a n b c
  | 0, _, _, h1 => h1
  | n + 1, b, c, h1 => by
    obtain ⟨q, d, a1, a2, a3, a4, a5⟩ := h1
    exact ⟨q, d, a1, by rw [← h q a1]; exact a2, a3, wk_congr h a4, by rw [← h q a1]; exact a5⟩
theorem SP_congr {t : TP} {N r : Nat} {f g : Nat → Nat} {D E : Nat → Option Nat} {K L : Nat → Nat} (hG : TG t N) (hr : r < N) (h : ∀ q, q < 18 → f q = g q) (hD : ∀ v, v < N → D v = E v) (hK : ∀ v, v < N → K v = L v) (hS : SP t N f r D K) : SP t N g r E L := by
  obtain ⟨h1, h2, h3, h4⟩ := hS
  refine ⟨by rw [← hD r hr]; exact h1, fun q d hq hg hd => ?_, fun v e hv hvr he => ?_, fun v e hv hvr he => ?_⟩
  · rw [← hD _ (hG.2.2.1 q hq).1] at hd
    rw [← h q hq] at hg
    obtain ⟨e, a1, a2⟩ := h2 q d hq hg hd
    exact ⟨e, by rw [← hD _ (hG.2.2.1 _ (ot18 hq)).1]; exact a1, by rw [← h q hq]; exact a2⟩
  · rw [← hD v hv] at he
    obtain ⟨q, d, a1, a2, a3, a4, a5⟩ := h3 v e hv hvr he
    exact ⟨q, d, a1, by rw [← h q a1]; exact a2, a3, by rw [← hD _ (hG.2.2.1 q a1).1]; exact a4, by rw [← h q a1]; exact a5⟩
  · rw [← hD v hv] at he
    rw [← hK v hv]
    obtain ⟨a1, a2⟩ := h4 v e hv hvr he
    refine ⟨a1, fun k hk => ?_⟩
    obtain ⟨q, n, c, b1, b2, b3, b4, b5, b6⟩ := a2 k hk
    exact ⟨q, n, c, b1, b2, b3, by rw [← h q b1]; exact b4, wk_congr h b5, by rw [← h q b1]; exact b6⟩
theorem km_congr {t : TP} {N r : Nat} {hd hd2 : Nat → Option Nat} {lm lm2 : Nat → Nat} (hG : TG t N) (hh : ∀ o, o < N → hd2 (r * 1088 + (272 + o)) = hd (r * 1088 + (272 + o))) (hl : ∀ q h, q < 18 → hd (r * 1088 + (272 + tRp t q)) = some h → lm2 (q * 64 + h % 64) = lm (q * 64 + h % 64)) : ∀ q, q < 18 → km t hd2 lm2 r q = km t hd lm r q := by
  intro q hq
  unfold km
  rw [show r * 1088 + (1 * 272 + tRp t q) = r * 1088 + (272 + tRp t q) by omega, show r * 1088 + (1 * 272 + tRp t (ot q)) = r * 1088 + (272 + tRp t (ot q)) by omega]
  rw [hh _ (hG.2.2.1 q hq).1, hh _ (hG.2.2.1 _ (ot18 hq)).1]
  cases h1 : hd (r * 1088 + (272 + tRp t q)) with
  | none => rfl
  | some h =>
    cases h2 : hd (r * 1088 + (272 + tRp t (ot q))) with
    | none => rfl
    | some g =>
      dsimp only
      rw [hl q h hq h1, hl (ot q) g (ot18 hq) h2]
theorem fbs_congr {t : TP} {N r : Nat} {hd hd2 lo lo2 ds ds2 : Nat → Option Nat} {fk fk2 : Nat → Nat} (hG : TG t N) (hh : ∀ o, o < N → hd2 (r * 1088 + (272 + o)) = hd (r * 1088 + (272 + o))) (hl : ∀ o v, o < N → hd (r * 1088 + (272 + o)) = some v → lo2 (((o * 4 + 1) * 16 + 7) * 64 + v % 64) = lo (((o * 4 + 1) * 16 + 7) * 64 + v % 64))
    (hd_ : ∀ v, v < N → ds2 ((r * 4 + 1) * 16 + v) = ds ((r * 4 + 1) * 16 + v)) (hk : ∀ v, v < N → fk2 ((r * 4 + 1) * 16 + v) = fk ((r * 4 + 1) * 16 + v)) : fbs t hd2 lo2 ds2 fk2 r 7 = fbs t hd lo ds fk r 7 := by
  have key : ∀ n, n ≤ N → itr (oa1 t hd2 lo2 ds2 fk2 r 7) n (none, 0, false) = itr (oa1 t hd lo ds fk r 7) n (none, 0, false) := by
    intro n
    induction n with
    | zero => intro _; rfl
    | succ n ih =>
      intro hn
      rw [itr_s, itr_s, ih (by omega)]
      unfold oa1
      rw [show r * 1088 + (1 * 272 + n) = r * 1088 + (272 + n) by omega, hh n (by omega), hd_ n (by omega), hk n (by omega)]
      cases h1 : ds ((r * 4 + 1) * 16 + n) with
      | none => rfl
      | some d =>
        cases h2 : hd (r * 1088 + (272 + n)) with
        | none => rfl
        | some v =>
          dsimp only
          rw [hl n v (by omega) h2]
  unfold fbs
  rw [hG.1]
  exact key N (Nat.le_refl _)
theorem utb_congr {t : TP} {N v u : Nat} {lm lm2 : Nat → Nat} {lo lo2 : Nat → Option Nat} (hG : TG t N) (hu : u < N) (hl : ∀ q, q < 18 → tRp t q = u → lm2 (q * 64 + v % 64) = lm (q * 64 + v % 64)) (ho : ∀ j, j < 16 → lo2 (((u * 4 + 1) * 16 + j) * 64 + v % 64) = lo (((u * 4 + 1) * 16 + j) * 64 + v % 64)) (h : utb t lm lo v u 1 = true) : utb t lm2 lo2 v u 1 = true := by
  rw [utb_true] at h ⊢
  obtain ⟨h1, h2⟩ := h
  refine ⟨fun i hi ha => ?_, fun j hj => ?_⟩
  · obtain ⟨k1, k2⟩ := hG.2.2.2.1 u i hu hi
    rw [hl _ k1 k2]; exact h1 i hi ha
  · rw [ho j hj]; exact h2 j hj
/-- what a router's own turn makes of its tables -/
theorem act_fresh {t : TP} {N n r : Nat} {wu : Nat → Bool} {x y : AS} (hG : TG t N) (hr : r < N) (h : AF t N wu n r x y) (hx : aOld x (r * 4 + 1) = true ∨ aH x r r = none ∨ FPR t N x r) : FPR t N y r ∧ FRR t y r := by
  obtain ⟨⟨v, f1, f1b, f1c, f1d⟩, f2, f3, f4, f5, f6, f7, f8, f9, f10, f11, f12, f13⟩ := h
  constructor
  · rcases f12 with e | ⟨e1, e2, e3, e4⟩
    · unfold FPR
      have e1 : aDs y = (cpt t (aHd y) (aLm y) r (aDs x, aFk x)).1 := congrArg Prod.fst e
      have e2 : aFk y = (cpt t (aHd y) (aLm y) r (aDs x, aFk x)).2 := congrArg Prod.snd e
      rw [e1, e2]
      exact cpt_SP hG hr _
    · rcases hx with z | z | z
      · rw [z] at e1; cases e1
      · unfold aH at z f1
        rw [e3, z] at f1; cases f1
      · unfold FPR at z ⊢
        have e5 : aDs y = aDs x := (Prod.mk.inj e2).1
        have e6 : aFk y = aFk x := (Prod.mk.inj e2).2
        rw [e3, e4, e5, e6]; exact z
  · obtain ⟨a1, a2, a3, a4⟩ := (rcp_i (t := t) (hd := aHd y) (lo := aLo y) (ds := aDs y) (fk := aFk y) (r := r) (aKd x, aCo x, aLi x, aLc x) 16 (Nat.le_refl _) (r * 16 + 7)).1 7 (by omega) rfl
    unfold rcp at f13
    rw [← f13] at a1 a2 a3 a4
    exact ⟨a1, a2, a3, a4⟩
/-- another router's turn leaves what a router has -/
theorem act_keep {t : TP} {N n r u : Nat} {wu : Nat → Bool} {x y : AS} (hG : TG t N) (hT : TOK t) (hr : r < N) (hu : u < N) (hne : u ≠ r) (hB : AB t N n r x) (h : AF t N wu n r x y) :
    (FPR t N x u → FPR t N y u) ∧ (FRR t x u → FRR t y u) ∧ (∀ v, utb t (aLm x) (aLo x) v u 1 = true → utb t (aLm y) (aLo y) v u 1 = true) := by
  have hN := hG.2.1
  obtain ⟨⟨v, f1, f1b, f1c, f1d⟩, f2, f3, f4, f5, ⟨f6, f6b⟩, f7, f8, f9, f10, f11, f12, f13⟩ := h
  have hrow : ∀ o, o < N → aHd y (u * 1088 + (272 + o)) = aHd x (u * 1088 + (272 + o)) := fun o ho => aH_upd f4 (by omega) (by omega) (fun q => hne q.1)
  have hslot : ∀ o w, o < N → aHd x (u * 1088 + (272 + o)) = some w → w % 64 ≠ n % 64 ∨ o ≠ r := fun o w ho hw => by
    by_cases z : o = r
    · refine Or.inl (fun e => ?_)
      have := (AB_h hN hB (u := u) (o := o) (by omega) hw).2.2.2.2 (ag_slot e)
      omega
    · exact Or.inr z
  have hrp : ∀ q, tRp t q < 16 := hT.2.1
  have hds : ∀ w, w < N → aDs y ((u * 4 + 1) * 16 + w) = aDs x ((u * 4 + 1) * 16 + w) ∧ aFk y ((u * 4 + 1) * 16 + w) = aFk x ((u * 4 + 1) * 16 + w) := fun w hw => by
    rcases f12 with e | ⟨e1, e2, e3, e4⟩
    · have e1 : aDs y = (cpt t (aHd y) (aLm y) r (aDs x, aFk x)).1 := congrArg Prod.fst e
      have e2 : aFk y = (cpt t (aHd y) (aLm y) r (aDs x, aFk x)).2 := congrArg Prod.snd e
      obtain ⟨c1, c2⟩ := cpt_out (t := t) (hd := aHd y) (lm := aLm y) (r := r) (j := (u * 4 + 1) * 16 + w) hrp (by omega) (by omega) (aDs x, aFk x)
      rw [e1, e2]
      exact ⟨c1, c2⟩
    · have e5 : aDs y = aDs x := (Prod.mk.inj e2).1
      have e6 : aFk y = aFk x := (Prod.mk.inj e2).2
      rw [e5, e6]; exact ⟨rfl, rfl⟩
  refine ⟨fun z => ?_, fun z => ?_, fun w hw => ?_⟩
  · refine SP_congr hG hu (fun q hq => (km_congr hG hrow (fun q h hq hh => f6 _ ?_) q hq).symm) (fun w hw => (hds w hw).1.symm) (fun w hw => (hds w hw).2.symm) z
    rcases hslot _ h (hG.2.2.1 q hq).1 hh with k | k
    · exact Or.inl (by omega)
    · exact Or.inr (by rw [show (q * 64 + h % 64) / 64 = q by omega]; exact k)
  · have e := fbs_congr (t := t) (r := u) (hd := aHd x) (hd2 := aHd y) (lo := aLo x) (lo2 := aLo y) (ds := aDs x) (ds2 := aDs y) (fk := aFk x) (fk2 := aFk y) hG hrow (fun o w ho hw => f6b _ (by
      rcases hslot o w ho hw with k | k
      · exact Or.inl (by omega)
      · exact Or.inr (by omega))) (fun w hw => (hds w hw).1) (fun w hw => (hds w hw).2)
    unfold FRR at z ⊢
    rw [e]
    obtain ⟨a1, a2, a3, a4⟩ := (rcp_i (t := t) (hd := aHd y) (lo := aLo y) (ds := aDs y) (fk := aFk y) (r := r) (aKd x, aCo x, aLi x, aLc x) 16 (Nat.le_refl _) (u * 16 + 7)).2 (fun m hm => by omega)
    unfold rcp at f13
    rw [← f13] at a1 a2 a3 a4
    exact ⟨a1.trans z.1, a2.trans z.2.1, a3.trans z.2.2.1, a4.trans z.2.2.2⟩
  · refine utb_congr hG hu (fun q hq hqu => f6 _ (Or.inr ?_)) (fun j hj => f6b _ (Or.inr ?_)) hw
    · rw [show (q * 64 + w % 64) / 64 = q by omega, hqu]; exact hne
    · omega
