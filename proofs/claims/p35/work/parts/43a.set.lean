/-! what the caller does between ticks -/
theorem itr_fs {α : Type} {g : Nat → Nat} {x : α} {f : Nat → α} {j : Nat} : ∀ n, ((∃ i, i < n ∧ j = g i) → itr (fun i f => fs f (g i) x) n f j = x) ∧ ((∀ i, i < n → j ≠ g i) → itr (fun i f => fs f (g i) x) n f j = f j)
  | 0 => ⟨fun ⟨i, h, _⟩ => absurd h (Nat.not_lt_zero i), fun _ => rfl⟩
  | n + 1 => by
    rw [itr_s]
    obtain ⟨a1, a2⟩ := itr_fs (g := g) (x := x) (f := f) (j := j) n
    generalize itr (fun i f => fs f (g i) x) n f = z at a1 a2 ⊢
    refine ⟨fun ⟨i, h, e⟩ => ?_, fun h => ?_⟩
    · by_cases q : j = g n
      · rw [q, fs_s]
      · rw [fs_n q]
        refine a1 ⟨i, ?_, e⟩
        rcases Nat.lt_or_ge i n with k | k
        · exact k
        · exact absurd (by rw [e, show i = n by omega]) q
    · rw [fs_n (h n (Nat.lt_succ_self n))]
      exact a2 (fun i hi => h i (by omega))
theorem wk_t {t t2 : TP} (h : tRp t2 = tRp t) {f : Nat → Nat} {a : Nat} : ∀ {n b c}, wk t f a n b c → wk t2 f a n b c
  | 0, _, _, h1 => h1
  | n + 1, b, c, h1 => by
    obtain ⟨q, d, a1, a2, a3, a4, a5⟩ := h1
    exact ⟨q, d, a1, a2, by rw [h]; exact a3, by rw [h]; exact wk_t h a4, a5⟩
theorem SP_t {t t2 : TP} (h : tRp t2 = tRp t) {N r : Nat} {f : Nat → Nat} {D : Nat → Option Nat} {K : Nat → Nat} (hS : SP t N f r D K) : SP t2 N f r D K := by
  obtain ⟨h1, h2, h3, h4⟩ := hS
  refine ⟨h1, fun q d hq hf hd => by rw [h] at hd ⊢; exact h2 q d hq hf hd, fun v e hv hvr he => ?_, fun v e hv hvr he => ?_⟩
  · obtain ⟨q, d, a1, a2, a3, a4, a5⟩ := h3 v e hv hvr he
    exact ⟨q, d, a1, a2, by rw [h]; exact a3, by rw [h]; exact a4, a5⟩
  · obtain ⟨b1, b2⟩ := h4 v e hv hvr he
    refine ⟨b1, fun k hk => ?_⟩
    obtain ⟨q, n, c, a1, a2, a3, a4, a5, a6⟩ := b2 k hk
    exact ⟨q, n, c, a1, a2, by rw [h]; exact a3, a4, by rw [h]; exact wk_t h a5, a6⟩
theorem km_t {t t2 : TP} (h : tRp t2 = tRp t) (hd : Nat → Option Nat) (lm : Nat → Nat) (r : Nat) : km t2 hd lm r = km t hd lm r := by
  funext q
  unfold km
  rw [h]
theorem FPR_t {t t2 : TP} (h : tRp t2 = tRp t) {N r : Nat} {a : AS} (hP : FPR t N a r) : FPR t2 N a r := by
  unfold FPR at hP ⊢
  rw [km_t h]
  exact SP_t h hP
/-- all are woken -/
def aWk (a : AS) : AS := (aKs a, aMr a, aOld a, aHd a, aSq a, aLm a, aLo a, fun _ => 0, aMb a, aDs a, aFk a, aKd a, aCo a, aLi a, aLc a)
theorem REST_w {t t2 : TP} {N n ka : Nat} {wu w2 : Nat → Bool} {a : AS} (hrp : tRp t2 = tRp t) (hru : ∀ r, r < N → tRu t2 r = tRu t r ∨ (tRu t r = false ∧ tRu t2 r = true))
    (hwu : ∀ k, k < 9 → w2 k = true → wu k = true ∧ tcc t2 k = true) (h : REST t N TT9 n wu ka a) : REST t2 N TT9 n w2 ka (aWk a) := by
  obtain ⟨r0, r1, r2, r3, r4, r5, r6, r7, r8, r9, r10⟩ := h
  have hup : ∀ r, r < N → tRu t2 r = true → tRu t r = true ∨ tRu t r = false := fun r _ _ => by cases tRu t r <;> simp
  refine ⟨r0, r1, r2, r3, fun r hr hu v hv => ?_, fun r hr hu => ?_, fun k hk e => (hwu k hk e).2, fun q o hq hc ho hR => ?_, fun m o hm hc ho hk hR => ?_, fun r hr hu => ?_, ?_⟩
  · rcases hup r hr hu with z | z
    · exact r4 r hr z v hv
    · have := (r5 r hr z).1 r hr
      have hv : aH a r r = some v := hv
      rw [this] at hv; cases hv
  · rcases hru r hr with z | z
    · exact r5 r hr (by rw [← z]; exact hu)
    · rw [z.2] at hu; cases hu
  · rw [hrp]
    exact r7 q o hq (hwu _ (by omega) hc).1 ho trivial
  · rw [hrp]
    exact r8 m o hm (hwu _ (by have := (r2 m hm).1; omega) hc).1 ho hk trivial
  · refine ⟨Or.inl rfl, ?_⟩
    rcases hup r hr hu with z | z
    · exact (r9 r hr z).2.imp id (fun k => k.imp id (fun k => FPR_t hrp k))
    · exact Or.inr (Or.inl ((r5 r hr z).1 r hr))
  · obtain ⟨n1, n2, n3, n4, n5⟩ := r10
    exact ⟨n1, n2, n3, fun _ => Nat.zero_le _, n5⟩
def tsL (t : TP) (k : Nat) (b : Bool) : TP := (tRc t, tRu t, fs (tLu t) k b, tAl t, tRp t, tMp t, tPc t, tPo t, tAn t)
def tsM (t : TP) (p m : Nat) : TP := (tRc t, tRu t, tLu t, tAl t, tRp t, fs (tMp t) p m, tPc t, tPo t, tAn t)
def tsR (t : TP) (r : Nat) (b : Bool) : TP := (tRc t, fs (tRu t) r b, tLu t, tAl t, tRp t, tMp t, tPc t, tPo t, tAn t)
theorem tcc_iff {t : TP} {k : Nat} : tcc t k = true ↔ tLu t k = true ∧ tRu t (tRp t (k * 2)) = true ∧ tRu t (tRp t (k * 2 + 1)) = true := by
  unfold tcc cc
  rw [Bool.and_eq_true, Bool.and_eq_true]
theorem fs_t {f : Nat → Bool} {k j : Nat} (h : f j = true) : fs f k true j = true := by
  by_cases q : j = k
  · rw [q, fs_s]
  · rw [fs_n q]; exact h
theorem REST_L {t : TP} {N n ka k : Nat} {wu : Nat → Bool} {a : AS} {b : Bool} (h : REST t N TT9 n wu ka a) : REST (tsL t k b) N TT9 n (if b = true then wu else fs wu k false) ka (aWk a) := by
  refine REST_w (t := t) rfl (fun r _ => Or.inl rfl) (fun j hj e => ?_) h
  have hc := h.2.2.2.2.2.2.1
  cases b with
  | true =>
    have e : wu j = true := e
    obtain ⟨h1, h2⟩ := tcc_iff.mp (hc j hj e)
    exact ⟨e, tcc_iff.mpr ⟨fs_t h1, h2⟩⟩
  | false =>
    have e : fs wu k false j = true := e
    by_cases q : j = k
    · rw [q, fs_s] at e; cases e
    · rw [fs_n q] at e
      obtain ⟨h1, h2⟩ := tcc_iff.mp (hc j hj e)
      exact ⟨e, tcc_iff.mpr ⟨(fs_n q).trans h1, h2⟩⟩
theorem REST_M {t : TP} {N n ka p m : Nat} {wu : Nat → Bool} {a : AS} (h : REST t N TT9 n wu ka a) : REST (tsM t p m) N TT9 n wu ka (aWk a) :=
  REST_w (t := t) rfl (fun r _ => Or.inl rfl) (fun j hj e => ⟨e, h.2.2.2.2.2.2.1 j hj e⟩) h
/-- a router comes up, or stays as it is -/
theorem REST_R {t : TP} {N n ka r : Nat} {wu w2 : Nat → Bool} {a : AS} {b : Bool} (hb : b = true ∨ tRu t r = false) (hw : ∀ k, w2 k = true → wu k = true) (h : REST t N TT9 n wu ka a) : REST (tsR t r b) N TT9 n w2 ka (aWk a) := by
  have hup : ∀ u, tRu t u = true → fs (tRu t) r b u = true := fun u hu => by
    rcases hb with z | z
    · rw [z]; exact fs_t hu
    · by_cases q : u = r
      · rw [q, z] at hu; cases hu
      · rw [fs_n q]; exact hu
  refine REST_w (t := t) rfl (fun u _ => ?_) (fun j hj e => ?_) h
  · show fs (tRu t) r b u = _ ∨ _ ∧ fs (tRu t) r b u = _
    cases z : tRu t u with
    | true => exact Or.inl (hup u z)
    | false =>
      cases z2 : fs (tRu t) r b u with
      | true => exact Or.inr ⟨rfl, rfl⟩
      | false => exact Or.inl rfl
  · have e := hw j e
    obtain ⟨h1, h2, h3⟩ := tcc_iff.mp (h.2.2.2.2.2.2.1 j hj e)
    exact ⟨e, tcc_iff.mpr ⟨h1, hup _ h2, hup _ h3⟩⟩
