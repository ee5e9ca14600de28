/-! contracts that return a new row; loops whose room depends on their state; ports and messages -/
section KK2
def kMr (l : Launch) (y : MethodName) (ws : List Cond) (rm : Room) (mc ms : Nat) (D : va_G) (tys : List (ClassId × FieldType)) (av : List Value) (wc : va_W) {S : Type} (post : S → Prop) (w1 : S → Nat → va_W) : Prop :=
  ∀ sz : Nat, Met l y ws rm (va_Pc av (kB D tys wc sz)) (va_Qr post (fun u a t => kE D tys (va_A wc sz) (w1 u a) t) (va_A wc sz)) mc ms (va_A wc sz)
theorem kMr_of {l : Launch} {y : MethodName} {ws ws' : List Cond} {rm : Room} {mc ms : Nat} {D : va_G} {tys : List (ClassId × FieldType)} {av : List Value} {wc : va_W} {S : Type} {w1 : S → Nat → va_W} {cc : ByteArray} {maxL : Nat} {lv : List (Nat × Value)} {ret : Option FieldType}
    {post : S → Prop} (own nm : String) (hy : plainName y.cls = true) (hc : y.cls = own) (hnm : y.name = nm) (hw : ws = Cond.code y cc maxL ret :: ws') (hn : (lg_sl av).length ≤ maxL) (hlv : lv_args 0 av = lv)
    (body : ∀ (p : Program) (e : Env) (s : State) (m : MethodId) (below : List Frame) (meth : Method) (c : Code) (A : Nat → Prop) (H : Heap) (locs : List Loc) (ls : Array Slot), kEnv p s m av.toArray meth c own nm cc maxL ret ws → (∀ q, s.heap.size ≤ q → A q) → va_K D vwCl tys s → va_P D vwCl wc H → va_D A wc → va_S A s.heap H locs → lv_has ls maxL lv →
      W p l e rm s m av.toArray below meth c H locs 0 0 (MQ below (va_Qr post (fun u a t => kE D tys A (w1 u a) t) A) av.toArray s mc ms A) (F0 m 0 ls [])) : kMr l y ws rm mc ms D tys av wc post w1 := by
  intro sz
  refine Met.ofW (cc := cc) (maxL := maxL) (ret := ret) hy hw ?_
  intro p e s m args below meth c s₁ B hml hv
  obtain ⟨rfl, hsz, hP, hK, hD0, hN⟩ := hv
  subst hsz
  have hts := atoms_spec (ws := ws) B.pre
  rw [lg_entry_eq]
  exact body p e s m below meth c _ _ _ _ ⟨B.exec, B.bytes, B.returns, hts, by rw [← hc]; exact findClass_of_methodNamed B.named, B.notSynchronized, hml, (name_of_methodNamed B.named B.method).1.trans hnm, hN⟩ (fun q h => Or.inr h) hK hP hD0.self va_S.rf (hlv ▸ lv_entry av hn)
theorem k_aret {p : Program} {l : Launch} {e : Env} {R : Room} {s : State} {m : MethodId} {args : Array Value} {below : List Frame} {meth : Method} {c : Code} {own nm : String} {cc : ByteArray} {maxL : Nat} {ws : List Cond}
    {D : va_G} {tys : List (ClassId × FieldType)} {ww : va_W} {H : Heap} {A : Nat → Prop} {locs : List Loc} {cells slots mc ms pc : Nat} {ls : Array Slot} {S : Type} {w1 : S → Nat → va_W} {tr : FieldType}
    {post : S → Prop} {v : Nat} (E : kEnv p s m args meth c own nm cc maxL (some (.array tr)) ws) (hK : va_K D vwCl tys s) (hP : va_P D vwCl ww H) (hD : va_D A ww) (hS : va_S A s.heap H locs) (u : S) (is : List Nat) (hn : va_nd is = true) (hs : is.map (fun i => ww[i]?) = (w1 u v).map some) (hp : post u) (h1 : cells ≤ mc) (h2 : slots ≤ ms) (hdg : decode cc pc = .ok (.areturn, 1)) :
    W p l e R s m args below meth c H locs cells slots (MQ below (va_Qr post (fun u a t => kE D tys A (w1 u a) t) A) args s mc ms A) (F0 m pc ls [.ref v]) := by
  refine W.widen h1 h2 ?_
  have hP9 := hP.sub is (k_fm hs)
  have hD9 := hD.sub is hn hs
  have hlocks := E.2.2.2.2.2.1
  exact W.aret E.1 E.2.1 E.2.2.1 (Or.inr ⟨_, rfl⟩) (Or.inr ⟨_, rfl⟩) (fun t ht hW => ⟨⟨u, v, rfl, hp, by rw [ht]; exact hP9, va_K.moved hW.alike hK, hD9⟩, hS.F ht⟩) hS.2.2 hdg
theorem kSr {p : Program} {l : Launch} {e : Env} {R : Room} {s : State} {m : MethodId} {args : Array Value} {below : List Frame} {meth : Method} {c : Code}
    {D : va_G} {tys : List (ClassId × FieldType)} {ww wc wr : va_W} {H0 H : Heap} {A0 : Nat → Prop} {locs : List Loc} {cells slots mc ms pc : Nat} {Q : State → Prop} {ls : Array Slot} {st0 rest As : List Value}
    {y : MethodName} {bytes cc : ByteArray} {maxL nL n index : Nat} {ret : Option FieldType} {ws : List Cond} {rm : Room} {Ts : List Cond} {own : String} {S : Type} {w1 w2 : S → Nat → va_W}
    {post : S → Prop} (hF : CallFix p m c cc nL s args Ts own) (hN : kN s) (hM : kMr l y ws rm mc ms D tys As wc post w1) (cw : CallB R s args own index y bytes maxL ret ws rm mc ms n ∧ (Cond.static y).before args s = true)
    (hK : va_K D vwCl tys s) (hP : va_P D vwCl ww H) (hD : va_D A0 ww) (hS : va_S A0 H0 H locs) (hA : ∀ q, H0.size ≤ q → A0 q)
    (isC isR isP : List Nat) (hC : isC.map (fun i => ww[i]?) = wc.map some) (hR : isR.map (fun i => ww[i]?) = wr.map some) (hn : va_nd isC = true ∧ va_nd isR = true ∧ va_nd isP = true) (hdis : ∀ i ∈ isR, i ∉ isC) (hp2 : ∀ u a, isP.map (fun i => (wr ++ w1 u a)[i]?) = (w2 u a).map some)
    (hlen : As.length = n) (hl : ls.size = nL) (hst : st0 = As.reverse ++ rest) (hW : (rest.map fun v => v.category).sum ≤ 8) (hdg : decode cc pc = .ok (.invokestatic index, 3)) (hf : cells + mc ≤ R.cells ∧ slots + ms ≤ R.slots)
    (kk : ∀ (u : S) (ra : Nat) (H1 : Heap) (locs1 : List Loc), post u → va_P D vwCl (w2 u ra) H1 → va_D A0 (w2 u ra) → va_S A0 H0 H1 locs1 → W p l e R s m args below meth c H1 locs1 (cells + mc) (slots + ms) Q (F0 m (pc + 3) ls (.ref ra :: rest))) : W p l e R s m args below meth c H locs cells slots Q (F0 m pc ls st0) := by
  have hPc := hP.sub isC (k_fm hC)
  have hDc := hD.sub isC hn.1 hC
  have hFc := va_free hD hS hA isC hC
  refine va_callr (va_runS (As := As) (rest := rest) hF (hM H.size) cw ⟨kB_blind _ _ _ _ _, fun U hU hW => ⟨rfl, by rw [hU], by rw [hU]; exact hPc, va_K.moved hW.alike hK, hDc.weaken (fun _ _ _ _ => trivial), hN.warm hW⟩⟩ rfl hlen hl hst (lv_room hW) hdg hf) hS (fun q _ h => hFc q h) hFc (fun u ra t H1 locs1 ht hvm hw hB hz1 hk1 hS1 => ?_)
  obtain ⟨hP1, hK1, hD1⟩ := hB
  rw [ht] at hP1
  obtain ⟨hP2, hD2⟩ := va_join (wr := wr) (w1 := w1 u ra) hP hD isC isR hC hR hn.2.1 hdis hk1 hFc hP1 hD1
  exact kk u ra H1 locs1 hw (hP2.sub isP (k_fm (hp2 u ra))) (hD2.sub isP hn.2.2 (hp2 u ra)) hS1
/-- a loop, by a measure that falls; what it has made so far is a function of its state -/
theorem k_loopC {p : Program} {l : Launch} {e : Env} {R : Room} {s : State} {m : MethodId} {args : Array Value} {below : List Frame} {meth : Method} {c : Code}
    {D : va_G} {H0 H : Heap} {A0 : Nat → Prop} {locs : List Loc} {Q : State → Prop} {ls : Array Slot} (σ : Type) (pc nL : Nat) (Inv : σ → Prop) (μ : σ → Nat) (w : σ → va_W) (lv : σ → List (Nat × Value)) (cells slots : σ → Nat)
    (body : ∀ (x : σ) (H : Heap) (locs : List Loc) (ls : Array Slot), Inv x → va_P D vwCl (w x) H → va_D A0 (w x) → va_S A0 H0 H locs → lv_has ls nL (lv x) →
      (∀ (x' : σ) (H' : Heap) (locs' : List Loc) (ls' : Array Slot) (k n : Nat), Inv x' → μ x' < μ x → k ≤ cells x' → n ≤ slots x' → va_P D vwCl (w x') H' → va_D A0 (w x') → va_S A0 H0 H' locs' → lv_has ls' nL (lv x') → W p l e R s m args below meth c H' locs' k n Q (F0 m pc ls' [])) →
      W p l e R s m args below meth c H locs (cells x) (slots x) Q (F0 m pc ls []))
    (x : σ) {k0 n0 : Nat} (hi : Inv x) (hc : k0 ≤ cells x) (hs : n0 ≤ slots x) (hP : va_P D vwCl (w x) H) (hD : va_D A0 (w x)) (hS : va_S A0 H0 H locs) (hl : lv_has ls nL (lv x)) : W p l e R s m args below meth c H locs k0 n0 Q (F0 m pc ls []) := by
  have key : ∀ (n : Nat) (x : σ), μ x < n → ∀ (H : Heap) (locs : List Loc) (ls : Array Slot) (k1 n1 : Nat), Inv x → k1 ≤ cells x → n1 ≤ slots x → va_P D vwCl (w x) H → va_D A0 (w x) → va_S A0 H0 H locs → lv_has ls nL (lv x) → W p l e R s m args below meth c H locs k1 n1 Q (F0 m pc ls []) := by
    intro n
    induction n with
    | zero => intro x hx; exact absurd hx (Nat.not_lt_zero _)
    | succ n ih =>
      intro x hx H locs ls k1 n1 hi hc hs hP hD hS hl
      exact W.widen hc hs (body x H locs ls hi hP hD hS hl (fun x' H' locs' ls' k n hi' hm hc' hs' hP' hD' hS' hl' => ih x' (by omega) H' locs' ls' k n hi' hc' hs' hP' hD' hS' hl'))
  exact key _ x (Nat.lt_succ_self _) H locs ls k0 n0 hi hc hs hP hD hS hl
end KK2
/-- the other end of a link -/
def ot (q : Nat) : Nat := if q % 2 = 0 then q + 1 else q - 1
theorem ot_xor (q : Nat) : q ^^^ 1 = ot q := by
  unfold ot
  apply Nat.eq_of_testBit_eq
  intro i
  rw [Nat.testBit_xor]
  cases i with
  | zero =>
    rw [Nat.testBit_zero, Nat.testBit_zero, Nat.testBit_zero]
    rcases Nat.mod_two_eq_zero_or_one q with h | h
    · rw [if_pos h, h]
      have : (q + 1) % 2 = 1 := by omega
      rw [this]; decide
    · rw [if_neg (by omega), h]
      have : (q - 1) % 2 = 0 := by omega
      rw [this]; decide
  | succ i =>
    rw [Nat.testBit_succ, Nat.testBit_succ, Nat.testBit_succ]
    have h1 : (1 : Nat) / 2 = 0 := rfl
    rw [h1, Nat.zero_testBit, Bool.xor_false]
    split
    · have : (q + 1) / 2 = q / 2 := by omega
      rw [this]
    · have : (q - 1) / 2 = q / 2 := by omega
      rw [this]
theorem k_xor (a b : Nat) : nI a ^^^ nI b = nI (a ^^^ b) := by
  apply Int32.toBitVec_inj.1
  show BitVec.ofNat 32 a ^^^ BitVec.ofNat 32 b = BitVec.ofNat 32 (a ^^^ b)
  apply BitVec.eq_of_getLsbD_eq
  intro i hi
  simp [hi]
theorem k_xor1 (a : Nat) : nI a ^^^ nI 1 = nI (ot a) := by rw [k_xor, ot_xor]
theorem ot_lt {q n : Nat} (h : q < n * 2) : ot q < n * 2 := by unfold ot; split <;> omega
theorem ot_lt80 {q : Nat} (h : q < 80) : ot q < 80 := ot_lt (n := 40) h
theorem ot_ot (q : Nat) : ot (ot q) = q := by
  unfold ot
  split <;> split <;> omega
theorem ot_div (q : Nat) : ot q / 2 = q / 2 := by
  unfold ot
  split <;> omega
theorem ot_ne (q : Nat) : ot q ≠ q := by
  unfold ot
  split <;> omega
theorem k_orB (a b : Bool) : bI a ||| bI b = bI (a || b) := by cases a <;> cases b <;> rfl
theorem itr_mono {σ : Type} {f : Nat → σ → σ} {g : σ → Nat} (h : ∀ i s, g s ≤ g (f i s)) (s : σ) {i : Nat} : ∀ {j : Nat}, i ≤ j → g (itr f i s) ≤ g (itr f j s) := by
  intro j hij
  induction j with
  | zero => obtain rfl : i = 0 := by omega
            exact Nat.le_refl _
  | succ j ih =>
    rcases Nat.lt_or_ge i (j + 1) with q | q
    · rw [itr_s]; exact Nat.le_trans (ih (by omega)) (h j _)
    · obtain rfl : i = j + 1 := by omega
      exact Nat.le_refl _
/-- a set of messages: the messages, and the room of the row that holds them, in units of 1024 -/
abbrev MB : Type := List Nat × Nat
def gw (m : MB) : Nat := if m.1.length = 1024 * m.2 then 2 * m.2 else m.2
def put (m : MB) (x : Nat) : MB := (m.1 ++ [x], gw m)
def mrep (L : List Nat) (ms : Nat → Nat) : Prop := ∀ j, j < L.length → ms j = L.getD j 0
def mOK (m : MB) : Prop := m.1.length ≤ 1024 * m.2 ∧ m.2 ∣ 1024
theorem gw_ge (m : MB) : m.2 ≤ gw m := by unfold gw; split <;> omega
theorem put_ge (m : MB) (x : Nat) : m.2 ≤ (put m x).2 := gw_ge m
theorem put_len (m : MB) (x : Nat) : (put m x).1.length = m.1.length + 1 := by simp [put]
theorem dvd1024 : ∀ k, k < 1024 → k ∣ 1024 → 2 * k ∣ 1024 := by decide +kernel
theorem mOK_le {m : MB} (h : mOK m) : m.2 ≤ 1024 := Nat.le_of_dvd (by decide) h.2
theorem mOK_pos {m : MB} (h : mOK m) : 1 ≤ m.2 := by
  rcases Nat.eq_zero_or_pos m.2 with q | q
  · have := h.2; rw [q] at this; exact absurd (Nat.eq_zero_of_zero_dvd this) (by decide)
  · exact q
theorem put_ok {m : MB} (h : mOK m) (hl : m.1.length < 2 ^ 20) (x : Nat) : mOK (put m x) := by
  have h1 := mOK_pos h
  have h2 := mOK_le h
  refine ⟨?_, ?_⟩
  · rw [put_len]
    show m.1.length + 1 ≤ 1024 * gw m
    unfold gw
    have := h.1
    split <;> omega
  · show gw m ∣ 1024
    unfold gw
    split
    · exact dvd1024 _ (by omega) h.2
    · exact h.2
theorem mrep_put {L : List Nat} {ms ms2 : Nat → Nat} {x : Nat} (h : mrep L ms) (h2 : ∀ j, j < L.length → ms2 j = ms j) (h3 : ms2 L.length = x) : mrep (L ++ [x]) ms2 := by
  intro j hj
  rw [List.length_append, List.length_singleton] at hj
  rcases Nat.lt_or_ge j L.length with q | q
  · rw [h2 j q, h j q, List.getD_eq_getElem?_getD, List.getD_eq_getElem?_getD, List.getElem?_append_left q]
  · obtain rfl : j = L.length := by omega
    rw [h3, List.getD_eq_getElem?_getD, List.getElem?_append_right (Nat.le_refl _)]
    simp
