/-! a router goes down -/
def aFS (a : AS) : FS := (aKs a, aMr a, aOld a, aHd a, aDs a, aFk a, (aKd a, aCo a, aLi a, aLc a))
def aFg (r : Nat) (a : AS) : AS := ((frg r (aFS a)).1, (frg r (aFS a)).2.1, (frg r (aFS a)).2.2.1, (frg r (aFS a)).2.2.2.1, aSq a, aLm a, aLo a, fun _ => 0, aMb a, (frg r (aFS a)).2.2.2.2.1, (frg r (aFS a)).2.2.2.2.2.1, (frg r (aFS a)).2.2.2.2.2.2.1, (frg r (aFS a)).2.2.2.2.2.2.2.1, (frg r (aFS a)).2.2.2.2.2.2.2.2.1, (frg r (aFS a)).2.2.2.2.2.2.2.2.2)
theorem fgH_in {r i : Nat} {h : Nat → Option Nat} (hi : i < 1088) : itr (fgH r) 1088 h (r * 1088 + i) = none := (itr_fs (g := fun i => r * 1088 + i) (x := none) (f := h) 1088).1 ⟨i, hi, rfl⟩
theorem fgH_out {r j : Nat} {h : Nat → Option Nat} (hj : ∀ i, i < 1088 → j ≠ r * 1088 + i) : itr (fgH r) 1088 h j = h j := (itr_fs (g := fun i => r * 1088 + i) (x := none) (f := h) 1088).2 hj
theorem itr4 {σ : Type} (f : Nat → σ → σ) (s : σ) : itr f 4 s = f 3 (f 2 (f 1 (f 0 s))) := rfl
theorem fgM_in {r : Nat} {m : Nat → Bool} (hr : r < 16) : itr (fgM r) 4 m (272 + r) = false := by
  have hk : ∀ a m, a ≠ 1 → fgM r a m (272 + r) = m (272 + r) := fun a m ha => by
    unfold fgM
    refine ((itr_fs (g := fun n => a * 272 + 16 + r * 16 + n) (x := false) 16).2 (fun i hi => by omega)).trans (fs_n (by omega))
  have h1 : ∀ m, fgM r 1 m (272 + r) = false := fun m => by
    unfold fgM
    refine ((itr_fs (g := fun n => 1 * 272 + 16 + r * 16 + n) (x := false) 16).2 (fun i hi => by omega)).trans ?_
    rw [show 272 + r = 1 * 272 + r by omega, fs_s]
  rw [itr4, hk 3 _ (by decide), hk 2 _ (by decide), h1]
theorem fgM_out {r u : Nat} {m : Nat → Bool} (hr : r < 16) (hu : u < 16) (h : u ≠ r) : itr (fgM r) 4 m (272 + u) = m (272 + u) := by
  have hk : ∀ a m, fgM r a m (272 + u) = m (272 + u) := fun a m => by
    unfold fgM
    refine ((itr_fs (g := fun n => a * 272 + 16 + r * 16 + n) (x := false) 16).2 (fun i hi => by omega)).trans (fs_n (by omega))
  rw [itr4, hk, hk, hk, hk]
theorem fgK_out {r u : Nat} {m : Nat → Nat} (hr : r < 16) (hu : u < 16) (h : u ≠ r) : itr (fgK r) 4 m (272 + u) = m (272 + u) := by
  have hk : ∀ a m, fgK r a m (272 + u) = m (272 + u) := fun a m => by
    unfold fgK
    refine ((itr_fs (g := fun n => a * 272 + 16 + r * 16 + n) (x := 0) 16).2 (fun i hi => by omega)).trans (fs_n (by omega))
  rw [itr4, hk, hk, hk, hk]
theorem fgK_le {r B : Nat} {m : Nat → Nat} (h : ∀ j, m j ≤ B) : ∀ j, itr (fgK r) 4 m j ≤ B :=
  itr_ind (P := fun (f : Nat → Nat) => ∀ j, f j ≤ B) h (fun a f hf => by
    unfold fgK
    exact itr_ind (P := fun (f : Nat → Nat) => ∀ j, f j ≤ B) (fs_le hf (Nat.zero_le _)) (fun n f hf => fs_le hf (Nat.zero_le _)) 16) 4
theorem fgO_ge {r j : Nat} {m : Nat → Bool} (h : m j = true) : itr (fgO r) 1088 m j = true :=
  itr_ind (P := fun (f : Nat → Bool) => f j = true) h (fun i f hf => by
    unfold fgO rol
    split
    · exact fs_t hf
    · exact hf) 1088
theorem fgD_in {r v : Nat} {f : Nat → Option Nat} (hv : v < 16) : itr (fgD r) 4 f ((r * 4 + 1) * 16 + v) = none := by
  show fgD r 3 (fgD r 2 (fgD r 1 (fgD r 0 f))) _ = none
  unfold fgD
  rw [clD_out (by omega), clD_out (by omega), clD_in (by omega) (by omega)]
theorem fgD_out {r u v : Nat} {f : Nat → Option Nat} (hv : v < 16) (h : u ≠ r) : itr (fgD r) 4 f ((u * 4 + 1) * 16 + v) = f ((u * 4 + 1) * 16 + v) := by
  show fgD r 3 (fgD r 2 (fgD r 1 (fgD r 0 f))) _ = _
  unfold fgD
  rw [clD_out (by omega), clD_out (by omega), clD_out (by omega), clD_out (by omega)]
theorem fgD_le {r B : Nat} {f : Nat → Option Nat} (h : ∀ j d, f j = some d → d ≤ B) : ∀ j d, itr (fgD r) 4 f j = some d → d ≤ B :=
  itr_ind (P := fun (f : Nat → Option Nat) => ∀ j d, f j = some d → d ≤ B) h (fun a f hf => by
    unfold fgD
    exact itr_ind (P := fun (f : Nat → Option Nat) => ∀ j d, f j = some d → d ≤ B) hf (fun n f hf j d e => by
      unfold clD at e
      by_cases q : j = (r * 4 + a) * 16 + n
      · rw [q, fs_s] at e; cases e
      · rw [fs_n q] at e; exact hf j d e) 16) 4
theorem fgF_out {r u v : Nat} {f : Nat → Nat} (hv : v < 16) (h : u ≠ r) : itr (fgF r) 4 f ((u * 4 + 1) * 16 + v) = f ((u * 4 + 1) * 16 + v) := by
  have hk : ∀ a f, a < 4 → fgF r a f ((u * 4 + 1) * 16 + v) = f ((u * 4 + 1) * 16 + v) := fun a f ha => by
    unfold fgF
    exact (itr_fs (g := fun n => (r * 4 + a) * 16 + n) (x := 0) (f := f) 16).2 (fun i hi => by omega)
  show fgF r 3 (fgF r 2 (fgF r 1 (fgF r 0 f))) _ = _
  rw [hk 3 _ (by omega), hk 2 _ (by omega), hk 1 _ (by omega), hk 0 _ (by omega)]
theorem fgF_lt {r B : Nat} {f : Nat → Nat} (hB : 0 < B) (h : ∀ j, f j < B) : ∀ j, itr (fgF r) 4 f j < B :=
  itr_ind (P := fun (f : Nat → Nat) => ∀ j, f j < B) h (fun a f hf => by
    unfold fgF
    exact itr_ind (P := fun (f : Nat → Nat) => ∀ j, f j < B) hf (fun n f hf j => by
      unfold clF
      by_cases q : j = (r * 4 + a) * 16 + n
      · rw [q, fs_s]; exact hB
      · rw [fs_n q]; exact hf j) 16) 4
theorem rfg_eq (r : Nat) (x : RT) : rfg r x = (itr (fun n f => fs f (r * 16 + n) 0) 16 x.1, itr (fun n f => fs f (r * 16 + n) none) 16 x.2.1, itr (fun n f => fs f (r * 16 + n) 0) 16 x.2.2.1, itr (fun n f => fs f (r * 16 + n) false) 16 x.2.2.2) := by
  unfold rfg
  have key : ∀ n, itr (rf1 r) n x = (itr (fun n f => fs f (r * 16 + n) 0) n x.1, itr (fun n f => fs f (r * 16 + n) none) n x.2.1, itr (fun n f => fs f (r * 16 + n) 0) n x.2.2.1, itr (fun n f => fs f (r * 16 + n) false) n x.2.2.2) := by
    intro n
    induction n with
    | zero => rfl
    | succ n ih => rw [itr_s, ih]; rfl
  exact key 16
theorem swB_out {po : Nat → Nat} {r j : Nat} {wu : Nat → Bool} : ∀ n, itr (swB po r) n wu j = true → wu j = true ∧ ∀ i, i < n → po (r * 40 + i) / 2 ≠ j
  | 0, h => ⟨h, fun i hi => absurd hi (Nat.not_lt_zero i)⟩
  | n + 1, h => by
    rw [itr_s] at h
    unfold swB at h
    by_cases q : j = po (r * 40 + n) / 2
    · rw [q, fs_s] at h; cases h
    · rw [fs_n q] at h
      obtain ⟨a1, a2⟩ := swB_out n h
      refine ⟨a1, fun i hi => ?_⟩
      rcases Nat.lt_or_ge i n with k | k
      · exact a2 i k
      · rw [show i = n by omega]; exact fun e => q e.symm
theorem REST_D {t : TP} {N n ka r : Nat} {wu : Nat → Bool} {a : AS} (hG : TG t N) (hr : r < N) (h : REST t N TT9 n wu ka a) : REST (tsR t r false) N TT9 n (itr (swB (tPo t) r) (tPc t r) wu) ka (aFg r a) := by
  have hN := hG.2.1
  obtain ⟨r0, r1, r2, r3, r4, r5, r6, r7, r8, r9, r10⟩ := h
  have hhd : ∀ j, aHd (aFg r a) j = itr (fgH r) 1088 (aHd a) j := fun j => rfl
  have hO : aOld (aFg r a) = itr (fgO r) 1088 (aOld a) := by simp only [aFg, aOld, frg, aFS]
  have hH1 : ∀ u o, o < N → u ≠ r → aH (aFg r a) u o = aH a u o := fun u o ho hu => by
    unfold aH
    rw [hhd, fgH_out (fun i hi e => hu (ix_inj (by omega) hi e).1)]
  have hH0 : ∀ o, o < N → aH (aFg r a) r o = none := fun o ho => by
    unfold aH
    rw [hhd, fgH_in (by omega)]
  have hM1 : ∀ u, u < N → u ≠ r → aMr (aFg r a) (272 + u) = aMr a (272 + u) := fun u hu h => fgM_out (by omega) (by omega) h
  have hK1 : ∀ u, u < N → u ≠ r → aKs (aFg r a) (272 + u) = aKs a (272 + u) := fun u hu h => fgK_out (by omega) (by omega) h
  have hC1 : ∀ u o, o < N → u ≠ r → aC n (aFg r a) u o = aC n a u o := fun u o ho hu => by
    unfold aC
    rw [hH1 u o ho hu]
    rfl
  have hE1 : ∀ u o, o < N → u ≠ r → aE n (aFg r a) u o = aE n a u o := fun u o ho hu => by
    unfold aE
    rw [hC1 u o ho hu]
    by_cases z : u = o
    · subst z; rw [hM1 u ho hu, hK1 u ho hu]
    · rw [if_neg (fun k => z k.1), if_neg (fun k => z k.1)]
  have hru : ∀ u, u ≠ r → tRu (tsR t r false) u = tRu t u := fun u hu => fs_n hu
  have hrr : tRu (tsR t r false) r = false := fs_s
  have hne : ∀ u, tRu (tsR t r false) u = true → u ≠ r := fun u hu e => by rw [e, hrr] at hu; cases hu
  -- a link that was usable and still is has no end at r
  have hw : ∀ q, q < 18 → itr (swB (tPo t) r) (tPc t r) wu (q / 2) = true → wu (q / 2) = true ∧ tRp t q ≠ r ∧ tRp t (ot q) ≠ r := fun q hq e => by
    obtain ⟨a1, a2⟩ := swB_out _ e
    refine ⟨a1, fun z => ?_, fun z => ?_⟩
    · obtain ⟨i, i1, i2⟩ := hG.2.2.2.2.1 q hq
      rw [z] at i1 i2
      exact a2 i i1 (by rw [i2])
    · obtain ⟨i, i1, i2⟩ := hG.2.2.2.2.1 (ot q) (ot18 hq)
      rw [z] at i1 i2
      exact a2 i i1 (by rw [i2, ot_div])
  have hRT := rfg_eq r (aKd a, aCo a, aLi a, aLc a)
  have e1 : aKd (aFg r a) = itr (fun n f => fs f (r * 16 + n) 0) 16 (aKd a) := by show (rfg r (aKd a, aCo a, aLi a, aLc a)).1 = _; rw [hRT]
  have e3 : aLi (aFg r a) = itr (fun n f => fs f (r * 16 + n) 0) 16 (aLi a) := by show (rfg r (aKd a, aCo a, aLi a, aLc a)).2.2.1 = _; rw [hRT]
  have e4 : aLc (aFg r a) = itr (fun n f => fs f (r * 16 + n) false) 16 (aLc a) := by show (rfg r (aKd a, aCo a, aLi a, aLc a)).2.2.2 = _; rw [hRT]
  refine ⟨r0, fun j v e => r1 j v (fgH_sub 1088 e), r2, fgK_le r3, fun u hu hup v hv => ?_, fun u hu hdn => ?_, fun k hk e => ?_, fun q o hq hc ho hR => ?_, fun m o hm hc ho hk hR => ?_, fun u hu hup => ⟨Or.inl rfl, ?_⟩, ?_⟩
  · have hur := hne u hup
    rw [hru u hur] at hup
    rw [hH1 u u hu hur] at hv
    rw [hK1 u hu hur]
    exact r4 u hu hup v hv
  · by_cases z : u = r
    · subst z
      refine ⟨hH0, fgM_in (by omega), fun v hv => fgD_in hv, ?_, ?_, ?_⟩
      · rw [e1]; exact (itr_fs (g := fun n => u * 16 + n) (x := 0) 16).1 ⟨7, by omega, rfl⟩
      · rw [e3]; exact (itr_fs (g := fun n => u * 16 + n) (x := 0) 16).1 ⟨7, by omega, rfl⟩
      · rw [e4]; exact (itr_fs (g := fun n => u * 16 + n) (x := false) 16).1 ⟨7, by omega, rfl⟩
    · rw [hru u z] at hdn
      obtain ⟨d1, d2, d3, d4, d5, d6⟩ := r5 u hu hdn
      refine ⟨fun o ho => (hH1 u o ho z).trans (d1 o ho), (hM1 u hu z).trans d2, fun v hv => (fgD_out hv z).trans (d3 v hv), ?_, ?_, ?_⟩
      · rw [e1, (itr_fs (g := fun n => r * 16 + n) (x := 0) (f := aKd a) (j := u * 16 + 7) 16).2 (fun i hi => by omega)]; exact d4
      · rw [e3, (itr_fs (g := fun n => r * 16 + n) (x := 0) (f := aLi a) (j := u * 16 + 7) 16).2 (fun i hi => by omega)]; exact d5
      · rw [e4, (itr_fs (g := fun n => r * 16 + n) (x := false) (f := aLc a) (j := u * 16 + 7) 16).2 (fun i hi => by omega)]; exact d6
  · obtain ⟨h1, h2, h3⟩ := hw (k * 2) (by omega) (by rw [show k * 2 / 2 = k by omega]; exact e)
    have h4 : ot (k * 2) = k * 2 + 1 := by unfold ot; rw [if_pos (by omega)]
    rw [h4] at h3
    rw [show k * 2 / 2 = k by omega] at h1
    obtain ⟨c1, c2, c3⟩ := tcc_iff.mp (r6 k hk h1)
    exact tcc_iff.mpr ⟨c1, (hru _ h2).trans c2, (hru _ h3).trans c3⟩
  · obtain ⟨h1, h2, h3⟩ := hw q hq hc
    show aC n (aFg r a) (tRp t (ot q)) o ≤ aE n (aFg r a) (tRp t q) o ∨ snt n (aSq a) (aMb a).1 q o (aC n (aFg r a) (tRp t (ot q)) o)
    rw [hC1 _ o ho h3, hE1 _ o ho h2]
    exact r7 q o hq h1 ho trivial
  · obtain ⟨h1, h2, h3⟩ := hw (m % 128) (r2 m hm).1 hc
    show cod n (aSq a) (m / 128) ≤ aC n (aFg r a) (tRp t (ot (m % 128))) o
    rw [hC1 _ o ho h3]
    exact r8 m o hm h1 ho hk trivial
  · have hur := hne u hup
    rw [hru u hur] at hup
    rcases (r9 u hu hup).2 with z | z | z
    · exact Or.inl ((congrFun hO _).trans (fgO_ge z))
    · exact Or.inr (Or.inl ((hH1 u u hu hur).trans z))
    · refine Or.inr (Or.inr ?_)
      unfold FPR at z ⊢
      refine SP_congr (t := tsR t r false) (N := N) ?_ hu ?_ ?_ ?_ (SP_t (t := t) (t2 := tsR t r false) rfl z)
      · exact ⟨hG.1, hG.2⟩
      · intro q hq
        unfold km
        have g1 := (hG.2.2.1 q hq).1
        have g2 := (hG.2.2.1 _ (ot18 hq)).1
        have k1 := hH1 u _ g1 hur
        have k2 := hH1 u _ g2 hur
        unfold aH at k1 k2
        show (match aHd a (u * 1088 + (1 * 272 + tRp t q)), aHd a (u * 1088 + (1 * 272 + tRp t (ot q))) with | some h, some g => if aLm a (ot q * 64 + g % 64) = 0 then 0 else aLm a (q * 64 + h % 64) | _, _ => 0) = (match aHd (aFg r a) (u * 1088 + (1 * 272 + tRp t q)), aHd (aFg r a) (u * 1088 + (1 * 272 + tRp t (ot q))) with | some h, some g => if aLm a (ot q * 64 + g % 64) = 0 then 0 else aLm a (q * 64 + h % 64) | _, _ => 0)
        rw [show u * 1088 + (1 * 272 + tRp t q) = u * 1088 + (272 + tRp t q) by omega, show u * 1088 + (1 * 272 + tRp t (ot q)) = u * 1088 + (272 + tRp t (ot q)) by omega, k1, k2]
      · intro v hv; exact (fgD_out (show v < 16 by omega) hur).symm
      · intro v hv; exact (fgF_out (show v < 16 by omega) hur).symm
  · obtain ⟨n1, n2, n3, n4, n5, n6, n7⟩ := r10
    refine ⟨n1, n2, n3, fun _ => Nat.zero_le _, fgD_le n5, fgF_lt (by decide) n6, fun j => ?_⟩
    rw [e3]
    exact itr_ind (P := fun (f : Nat → Nat) => ∀ j, f j < 2 ^ 40) n7 (fun n f hf j => by
      by_cases q : j = r * 16 + n
      · rw [q, fs_s]; decide
      · rw [fs_n q]; exact hf j) 16 j
