/-! the same for methods that throw, and for callers that catch -/
section KX
def kStrs : List (String × Nat × String) := [(RX9, 297, "there is no such router"), (RX9, 299, "there is no such link"), (RX9, 166, "1 to 60 ticks"), (RX9, 277, "the packet came to no such router")]
def kExs : List String := ["java/lang/IndexOutOfBoundsException", "java/lang/IllegalArgumentException", "java/util/NoSuchElementException"]
def kSup : List String := ["java/lang/RuntimeException", "java/lang/Exception", "java/lang/Throwable"]
def kDec (E : String) : List Cond := .castable E E :: kSup.map (fun n => .declares (Bundle.initS n))
def kX (A : Nat → Prop) (U : State) : Prop := vx_Zq Bundle.tN "UNASSIGNED_STACK" Bundle.steD A U U.heap ∧ vx_Zq Bundle.tN "SUPPRESSED_SENTINEL" Bundle.listD A U U.heap ∧ (∀ q ∈ kStrs, ∃ a : Nat, vk_R q.1 q.2.1 q.2.2 a U) ∧ (∀ n ∈ kExs, va_Nw (.castable n n) U) ∧ ∀ n ∈ kSup, va_Nw (.declares (Bundle.initS n)) U
theorem kX.to {A B : Nat → Prop} {s U : State} (h : kX A s) (hW : s.WarmedH U.vm) (hq : ∀ a : Nat, a < s.heap.size → ¬ A a → U.heap[a]? = s.heap[a]?) (hAB : ∀ q, B q → A q) : kX B U :=
  ⟨((vx_Zq.moved (U := U) hW.alike h.1).kept hq).narrow hAB, ((vx_Zq.moved (U := U) hW.alike h.2.1).kept hq).narrow hAB, fun q hq => by
    obtain ⟨a, ha⟩ := h.2.2.1 q hq
    exact ⟨a, vk_R.warm hW ha⟩, fun n hn => va_Nw.warmC hW (h.2.2.2.1 n hn), fun n hn => va_Nw.warmD hW (h.2.2.2.2 n hn)⟩
theorem kX_calling {A : Nat → Prop} {U : State} {g : JFrame} {mk : MethodId} {a : Array Value} (h : kX A U) : kX A (U.calling g mk a) :=
  ⟨vx_Zq.moved (u := U) (U := U.calling g mk a) (Vm.Alike.refl U.vm) h.1, vx_Zq.moved (u := U) (U := U.calling g mk a) (Vm.Alike.refl U.vm) h.2.1, fun q hq => by
    obtain ⟨b, hb⟩ := h.2.2.1 q hq
    exact ⟨b, vk_R.same (u := U) rfl hb⟩, fun n hn => va_Nw.same (u := U) rfl rfl (h.2.2.2.1 n hn), fun n hn => va_Nw.same (u := U) rfl rfl (h.2.2.2.2 n hn)⟩
theorem kX.dec {A : Nat → Prop} {s : State} {args : Array Value} {E : String} (h : kX A s) (hE : E ∈ kExs) : ∀ w ∈ kDec E, w.before args s = true := by
  intro w hw
  rcases List.mem_cons.mp hw with rfl | hw
  · exact va_Nw.use rfl (h.2.2.2.1 E hE)
  · obtain ⟨n, hn, rfl⟩ := List.mem_map.mp hw
    exact va_Nw.use rfl (h.2.2.2.2 n hn)
def kBX (D : va_G) (tys : List (ClassId × FieldType)) (wc : va_W) (sz : Nat) : State → Prop := fun U => kB D tys wc sz U ∧ kX (va_A wc sz) U
theorem kBX_blind (D : va_G) (tys : List (ClassId × FieldType)) (wc : va_W) (sz : Nat) (av : List Value) : FrameBlind (va_Pc av (kBX D tys wc sz)) := fun a U g mk q => by
  obtain ⟨q0, ⟨q1, qP, qK, qD, qN⟩, qX⟩ := q
  exact ⟨q0, ⟨q1, qP, va_K.moved (u := U) (U := U.calling g mk a) (Vm.Alike.refl U.vm) qK, qD, kN_calling qN⟩, kX_calling qX⟩
def kXC (D : va_G) (tys : List (ClassId × FieldType)) (A : Nat → Prop) (wc : va_W) (E0 : String) : String → State → State → Prop := vx_X (S := Unit) (fun _ => True) (fun E _ t => E = E0 ∧ kE D tys A wc t) A
/-- a method that always throws: an E0, and its world stays -/
def kMx (l : Launch) (y : MethodName) (ws : List Cond) (rm : Room) (mc ms : Nat) (D : va_G) (tys : List (ClassId × FieldType)) (av : List Value) (wc : va_W) (E0 : String) : Prop :=
  ∀ sz : Nat, vx_Met l y ws rm (va_Pc av (kBX D tys wc sz)) (fun _ _ _ _ => False) (kXC D tys (va_A wc sz) wc E0) mc ms (va_A wc sz)
/-- a method that may need what an exception needs, but returns -/
def kMw (l : Launch) (y : MethodName) (ws : List Cond) (rm : Room) (mc ms : Nat) (D : va_G) (tys : List (ClassId × FieldType)) (av : List Value) (wc : va_W) {S : Type} (post : Int32 → S → Prop) (w1 : S → va_W) : Prop :=
  ∀ sz : Nat, vx_Met l y ws rm (va_Pc av (kBX D tys wc sz)) (va_Qi post (fun u t => kE D tys (va_A wc sz) (w1 u) t) (va_A wc sz)) (fun _ _ _ => False) mc ms (va_A wc sz)
section Of
variable {l : Launch} {y : MethodName} {ws ws' : List Cond} {rm : Room} {mc ms : Nat} {D : va_G} {tys : List (ClassId × FieldType)} {av : List Value} {wc : va_W} {S : Type} {w1 : S → va_W} {cc : ByteArray} {maxL : Nat} {lv : List (Nat × Value)}
theorem kMx_of {E0 : String} {ret : Option FieldType} (own nm : String) (hy : plainName y.cls = true) (hc : y.cls = own) (hnm : y.name = nm) (hw : ws = Cond.code y cc maxL ret :: ws') (hn : (lg_sl av).length ≤ maxL) (hlv : lv_args 0 av = lv)
    (body : ∀ (p : Program) (e : Env) (s : State) (m : MethodId) (below : List Frame) (meth : Method) (c : Code) (A : Nat → Prop) (H : Heap) (locs : List Loc) (ls : Array Slot), kEnv p s m av.toArray meth c own nm cc maxL ret ws → (∀ x ∈ c.exceptionTable.toList, False) → kX A s → (∀ q, s.heap.size ≤ q → A q) → va_K D vwCl tys s → va_P D vwCl wc H → va_D A wc → va_S A s.heap H locs → lv_has ls maxL lv →
      W p l e rm s m av.toArray below meth c H locs 0 0 (vx_MQ below (fun _ _ _ _ => False) (kXC D tys A wc E0) av.toArray s mc ms A) (F0 m 0 ls [])) : kMx l y ws rm mc ms D tys av wc E0 := by
  intro sz
  refine vx_ofW (cc := cc) (maxL := maxL) (ret := ret) hy hw ?_
  intro p e s m args below meth c s₁ B hml hT hv
  obtain ⟨rfl, ⟨hsz, hP, hK, hD0, hN⟩, hX⟩ := hv
  subst hsz
  have hts := atoms_spec (ws := ws) B.pre
  rw [lg_entry_eq]
  exact body p e s m below meth c _ _ _ _ ⟨B.exec, B.bytes, B.returns, hts, by rw [← hc]; exact findClass_of_methodNamed B.named, B.notSynchronized, hml, (name_of_methodNamed B.named B.method).1.trans hnm, hN⟩ hT hX (fun q h => Or.inr h) hK hP hD0.self va_S.rf (hlv ▸ lv_entry av hn)
theorem kMw_of {post : Int32 → S → Prop} {ret : Option FieldType} {hh : List (Nat × Nat × Nat × Nat)} (own nm : String) (hy : plainName y.cls = true) (hc : y.cls = own) (hnm : y.name = nm) (hw : ws = Cond.codeWith y cc maxL ret hh :: ws') (hn : (lg_sl av).length ≤ maxL) (hlv : lv_args 0 av = lv)
    (body : ∀ (p : Program) (e : Env) (s : State) (m : MethodId) (below : List Frame) (meth : Method) (c : Code) (A : Nat → Prop) (H : Heap) (locs : List Loc) (ls : Array Slot), kEnv p s m av.toArray meth c own nm cc maxL ret ws → c.exceptionTable.toList = tableOf hh → kX A s → (∀ q, s.heap.size ≤ q → A q) → va_K D vwCl tys s → va_P D vwCl wc H → va_D A wc → va_S A s.heap H locs → lv_has ls maxL lv →
      W p l e rm s m av.toArray below meth c H locs 0 0 (MQ below (va_Qi post (fun u t => kE D tys A (w1 u) t) A) av.toArray s mc ms A) (F0 m 0 ls [])) : kMw l y ws rm mc ms D tys av wc post w1 := by
  intro sz
  refine vx_ofWH (cc := cc) (maxL := maxL) (ret := ret) (hh := hh) hy hw ?_
  intro p e s m args below meth c s₁ B hml hv
  obtain ⟨rfl, ⟨hsz, hP, hK, hD0, hN⟩, hX⟩ := hv
  subst hsz
  have hts := atoms_spec (ws := ws) B.pre
  have htab := vx_table (x := y) B (hts (Cond.codeWith y cc maxL ret hh) (by rw [hw]; exact List.mem_cons_self))
  rw [lg_entry_eq]
  exact vx_ret (body p e s m below meth c _ _ _ _ ⟨B.exec, B.bytes, B.returns, hts, by rw [← hc]; exact findClass_of_methodNamed B.named, B.notSynchronized, hml, (name_of_methodNamed B.named B.method).1.trans hnm, hN⟩ htab hX (fun q h => Or.inr h) hK hP hD0.self va_S.rf (hlv ▸ lv_entry av hn))
end Of
section Out
variable {p : Program} {l : Launch} {e : Env} {R : Room} {s : State} {m : MethodId} {args : Array Value} {below : List Frame} {meth : Method} {c : Code} {own nm : String} {cc : ByteArray} {maxL : Nat} {ret : Option FieldType} {ws : List Cond}
variable {D : va_G} {tys : List (ClassId × FieldType)} {ww wc : va_W} {H : Heap} {A : Nat → Prop} {locs : List Loc} {cells slots mc ms pc : Nat} {ls : Array Slot} {rest : List Value} {E0 : String}
theorem k_xout (E : kEnv p s m args meth c own nm cc maxL ret ws) (hT : ∀ x ∈ c.exceptionTable.toList, False) (hK : va_K D vwCl tys s) (hP : va_P D vwCl ww H) (hD : va_D A ww) (hS : va_S A s.heap H locs) (is : List Nat) (hn : va_nd is = true) (hs : is.map (fun i => ww[i]?) = wc.map some) {ce : Cell} {q : Nat} (hcell : H[q]? = some ce) (hv : ce.vm = .none) (hcl : s.vm.findClass E0 = some ce.cls) (h1 : cells ≤ mc) (h2 : slots ≤ ms) :
    vx_W p l e R s m args below meth c H locs cells slots (vx_MQ below (fun _ _ _ _ => False) (kXC D tys A wc E0) args s mc ms A) (F0 m pc ls rest) q :=
  vx_out (fun x hx => (hT x hx).elim) E.2.2.2.2.2.1 hcell hv hcl (fun t ht hW => ⟨(), trivial, ⟨rfl, by rw [ht]; exact hP.sub is (k_fm hs), va_K.moved hW hK, hD.sub is hn hs⟩, hS.F ht⟩) hS.2.2 h1 h2
/-- 'throw new E0("text")' in a method without a table, its world unchanged -/
theorem k_throwW (hl : l.stackTraces = false) (E : kEnv p s m args meth c own nm cc maxL ret ws) (hT : ∀ x ∈ c.exceptionTable.toList, False) (hX : kX A s) (hK : va_K D vwCl tys s) (hP : va_P D vwCl ww H) (hD : va_D A ww) (hS : va_S A s.heap H locs) (is : List Nat) (hn : va_nd is = true) (hs : is.map (fun i => ww[i]?) = wc.map some)
    {text : String} {names : List String} {ik ix ic : Nat} (hstr : (own, ix, text) ∈ kStrs) (hcls : Bundle.fit E0 = true) (hnames : ∀ n ∈ names, Bundle.fit n = true) (hk : Cond.classLink own ik E0 ∈ ws) (hini : Cond.initialized E0 ∈ ws) (hat1 : ∀ w ∈ (vx_atS own ic E0 names).filter goodWord, w ∈ ws) (hE : E0 ∈ kExs) (hat2 : ∀ w ∈ (vx_atS own ic E0 names).filter (fun w => !goodWord w), w ∈ kDec E0) (hgood : ∀ w ∈ Cond.classLink own ik E0 :: Cond.initialized E0 :: vx_atS own ic E0 names, vx_ot w = true)
    (hsize : ls.size = maxL) (d0 : decode cc pc = .ok (.new ik, 3)) (d3 : decode cc (pc + 3) = .ok (.dup, 1)) (d4 : decode cc (pc + 4) = .ok (.ldc_w ix, 3)) (d7 : decode cc (pc + 7) = .ok (.invokespecial ic, 3)) (d10 : decode cc (pc + 10) = .ok (.athrow, 1))
    (hRf : names.length + 3 < R.frames) (hRl : (rest.map fun v => v.category).sum + (13 * (names.length + 1) + 43) ≤ R.locals) (hRc : cells + 1 ≤ R.cells) (hRs : slots + 6 ≤ R.slots) (h1 : cells + 1 ≤ mc) (h2 : slots + 6 ≤ ms) :
    W p l e R s m args below meth c H locs cells slots (vx_MQ below (fun _ _ _ _ => False) (kXC D tys A wc E0) args s mc ms A) (F0 m pc ls rest) := by
  obtain ⟨sa, hsa⟩ := hX.2.2.1 _ hstr
  refine vx_throwSW E.1 E.2.1 hl E.2.2.2.2.1 hcls hnames (E.2.2.2.1 _ hk) (E.2.2.2.1 _ hini) hsa (vx_hat (B := kDec E0) (fun w h => E.2.2.2.1 w (hat1 w h)) hat2 (hX.dec hE)) hgood hX.1 hX.2.1 hS (hsize.trans E.2.2.2.2.2.2.1.symm) d0 d3 d4 d7 d10 (fun x hx => (hT x hx).elim) hRf hRl hRc hRs E.2.2.2.2.2.1 (fun t hA hz hq => ?_) hS.2.2 h1 h2
  have hP1 := hP.kept (H1 := t.heap) (fun k x hx => hq x.1 ((hP k x hx).lt))
  exact ⟨(), trivial, ⟨rfl, hP1.sub is (k_fm hs), va_K.moved hA hK, hD.sub is hn hs⟩, Nat.le_trans hS.1 hz, fun q h3 h4 => (hq q (Nat.lt_of_lt_of_le h3 hS.1)).trans (hS.2.1 q h3 h4)⟩
theorem k_throw (hl : l.stackTraces = false) (E : kEnv p s m args meth c own nm cc maxL ret ws) (hT : ∀ x ∈ c.exceptionTable.toList, False) (hX : kX A s) (hK : va_K D vwCl tys s) (hP : va_P D vwCl ww H) (hD : va_D A ww) (hS : va_S A s.heap H locs) (is : List Nat) (hn : va_nd is = true) (hs : is.map (fun i => ww[i]?) = wc.map some)
    {text : String} {names : List String} {ik ix ic : Nat} (hstr : (own, ix, text) ∈ kStrs) (hcls : Bundle.fit E0 = true) (hnames : ∀ n ∈ names, Bundle.fit n = true) (hk : Cond.classLink own ik E0 ∈ ws) (hini : Cond.initialized E0 ∈ ws) (hat1 : ∀ w ∈ (vx_atS own ic E0 names).filter goodWord, w ∈ ws) (hE : E0 ∈ kExs) (hat2 : ∀ w ∈ (vx_atS own ic E0 names).filter (fun w => !goodWord w), w ∈ kDec E0) (hgood : ∀ w ∈ Cond.classLink own ik E0 :: Cond.initialized E0 :: vx_atS own ic E0 names, vx_ot w = true)
    (hsize : ls.size = maxL) (d0 : decode cc pc = .ok (.new ik, 3)) (d3 : decode cc (pc + 3) = .ok (.dup, 1)) (d4 : decode cc (pc + 4) = .ok (.ldc ix, 2)) (d6 : decode cc (pc + 6) = .ok (.invokespecial ic, 3)) (d9 : decode cc (pc + 9) = .ok (.athrow, 1))
    (hRf : names.length + 3 < R.frames) (hRl : (rest.map fun v => v.category).sum + (13 * (names.length + 1) + 43) ≤ R.locals) (hRc : cells + 1 ≤ R.cells) (hRs : slots + 6 ≤ R.slots) (h1 : cells + 1 ≤ mc) (h2 : slots + 6 ≤ ms) :
    W p l e R s m args below meth c H locs cells slots (vx_MQ below (fun _ _ _ _ => False) (kXC D tys A wc E0) args s mc ms A) (F0 m pc ls rest) := by
  obtain ⟨sa, hsa⟩ := hX.2.2.1 _ hstr
  refine vx_throwS E.1 E.2.1 hl E.2.2.2.2.1 hcls hnames (E.2.2.2.1 _ hk) (E.2.2.2.1 _ hini) hsa (vx_hat (B := kDec E0) (fun w h => E.2.2.2.1 w (hat1 w h)) hat2 (hX.dec hE)) hgood hX.1 hX.2.1 hS (hsize.trans E.2.2.2.2.2.2.1.symm) d0 d3 d4 d6 d9 (fun x hx => (hT x hx).elim) hRf hRl hRc hRs E.2.2.2.2.2.1 (fun t hA hz hq => ?_) hS.2.2 h1 h2
  have hP1 := hP.kept (H1 := t.heap) (fun k x hx => hq x.1 ((hP k x hx).lt))
  exact ⟨(), trivial, ⟨rfl, hP1.sub is (k_fm hs), va_K.moved hA hK, hD.sub is hn hs⟩, Nat.le_trans hS.1 hz, fun q h3 h4 => (hq q (Nat.lt_of_lt_of_le h3 hS.1)).trans (hS.2.1 q h3 h4)⟩
end Out
section Call
variable {p : Program} {l : Launch} {e : Env} {R : Room} {s : State} {m : MethodId} {args : Array Value} {below : List Frame} {meth : Method} {c : Code}
variable {D : va_G} {tys : List (ClassId × FieldType)} {ww wc wr : va_W} {H : Heap} {A0 : Nat → Prop} {locs : List Loc} {cells slots mc ms pc : Nat} {Q : State → Prop} {ls : Array Slot} {st0 rest As : List Value}
variable {y : MethodName} {bytes cc : ByteArray} {maxL nL n index : Nat} {ret : Option FieldType} {ws : List Cond} {rm : Room} {Ts : List Cond} {own C : String} {b : Addr} {S : Type} {w1 w2 : S → va_W} {w3 : va_W} {E0 : String}
/-- a virtual call that throws -/
theorem kXV (hF : CallFix p m c cc nL s args Ts own) (hN : kN s) (hM : kMx l y ws rm mc ms D tys (Value.ref b :: As) wc E0) (cw : CallW R s args own C index y bytes maxL ret ws rm mc ms n) (hX : kX A0 s)
    (hK : va_K D vwCl tys s) (hP : va_P D vwCl ww H) (hD : va_D A0 ww) (hS : va_S A0 s.heap H locs) (hA : ∀ q, s.heap.size ≤ q → A0 q)
    (isC isR isP : List Nat) (hC : isC.map (fun i => ww[i]?) = wc.map some) (hR : isR.map (fun i => ww[i]?) = wr.map some) (hn : va_nd isC = true ∧ va_nd isR = true ∧ va_nd isP = true) (hdis : ∀ i ∈ isR, i ∉ isC) (hp2 : isP.map (fun i => (wr ++ wc)[i]?) = w3.map some)
    (ci q0 : Nat) {fs : List Value} (hb0 : wc[q0]? = some (b, .inr (ci, fs))) {q : vw_C} (hcl : vwCl[ci]? = some q) (hq : q.1 = C)
    (hlen : As.length = n) (hl : ls.size = nL) (hst : st0 = As.reverse ++ .ref b :: rest) (hW : (rest.map fun v => v.category).sum ≤ 8) (hdg : decode cc pc = .ok (.invokevirtual index, 3)) (hf : cells + mc ≤ R.cells ∧ slots + ms ≤ R.slots)
    (kx : ∀ (ce : Cell) (q9 : Nat) (H1 : Heap) (locs1 : List Loc), va_P D vwCl w3 H1 → va_D A0 w3 → va_S A0 s.heap H1 locs1 → H1[q9]? = some ce → ce.vm = .none → s.vm.findClass E0 = some ce.cls → vx_W p l e R s m args below meth c H1 locs1 (cells + mc) (slots + ms) Q (F0 m pc ls rest) q9) : W p l e R s m args below meth c H locs cells slots Q (F0 m pc ls st0) := by
  have hPc := hP.sub isC (k_fm hC)
  have hDc := hD.sub isC hn.1 hC
  have hFc := va_free hD hS hA isC hC
  subst hq
  intro T hT X
  rcases vx_runV (As := As) (rest := rest) hF (hM H.size) cw ⟨kBX_blind _ _ _ _ _, va_recv hK hPc hcl hb0, fun U hU hW => ⟨rfl, ⟨by rw [hU], by rw [hU]; exact hPc, va_K.moved hW.alike hK, hDc.weaken (fun _ _ _ _ => trivial), hN.warm hW⟩, hX.to hW (by rw [hU]; exact hS.2.1) hFc⟩⟩ rfl hlen hl hst (lv_room hW) hdg hf T hT X with ⟨v, st₀, t, T', L, h0, X', hL, e1, e2, hno, st⟩ | ⟨q, st₀, t, T', L, E, ce, h0, X', hL, e1, e2, ⟨u, hp, ⟨hE, hP1, hK1, hD1⟩, hFF⟩, hce, hcv, hcl2, st⟩
  · exact hno.elim
  · subst hE
    obtain ⟨k1, k2, k3⟩ := vx_keep h0 e1 hS (fun q _ h => hFc q h) hFc hL hFF
    rw [← e1] at hP1
    obtain ⟨hP2, hD2⟩ := va_join (wr := wr) (w1 := wc) hP hD isC isR hC hR hn.2.1 hdis k2 hFc hP1 hD1
    obtain ⟨t2, a1, b1⟩ := kx ce q T'.heap (locs ++ L) (hP2.sub isP (k_fm hp2)) (hD2.sub isP hn.2.2 hp2) k3 (by rw [e1]; exact hce) hcv hcl2 T' rfl X'
    exact ⟨t2, st.trans a1, b1⟩
/-- a static call of a method with a table that returns -/
theorem kSw {post : Int32 → S → Prop} {hh : List (Nat × Nat × Nat × Nat)} (hF : CallFix p m c cc nL s args Ts own) (hN : kN s) (hM : kMw l y ws rm mc ms D tys As wc post w1) (cw : vx_CSW R s args own index y bytes maxL ret hh ws rm mc ms n) (hX : kX A0 s)
    (hK : va_K D vwCl tys s) (hP : va_P D vwCl ww H) (hD : va_D A0 ww) (hS : va_S A0 s.heap H locs) (hA : ∀ q, s.heap.size ≤ q → A0 q)
    (isC isR isP : List Nat) (hC : isC.map (fun i => ww[i]?) = wc.map some) (hR : isR.map (fun i => ww[i]?) = wr.map some) (hn : va_nd isC = true ∧ va_nd isR = true ∧ va_nd isP = true) (hdis : ∀ i ∈ isR, i ∉ isC) (hp2 : ∀ u, isP.map (fun i => (wr ++ w1 u)[i]?) = (w2 u).map some)
    (hlen : As.length = n) (hl : ls.size = nL) (hst : st0 = As.reverse ++ rest) (hW : (rest.map fun v => v.category).sum ≤ 8) (hdg : decode cc pc = .ok (.invokestatic index, 3)) (hf : cells + mc ≤ R.cells ∧ slots + ms ≤ R.slots)
    (kk : ∀ (r : Int32) (u : S) (H1 : Heap) (locs1 : List Loc), post r u → va_P D vwCl (w2 u) H1 → va_D A0 (w2 u) → va_S A0 s.heap H1 locs1 → W p l e R s m args below meth c H1 locs1 (cells + mc) (slots + ms) Q (F0 m (pc + 3) ls (.int r :: rest))) : W p l e R s m args below meth c H locs cells slots Q (F0 m pc ls st0) := by
  have hPc := hP.sub isC (k_fm hC)
  have hDc := hD.sub isC hn.1 hC
  have hFc := va_free hD hS hA isC hC
  intro T hT X
  rcases vx_runSX (As := As) (rest := rest) (hh := hh) hF (hM H.size) cw ⟨kBX_blind _ _ _ _ _, fun U hU hW => ⟨rfl, ⟨by rw [hU], by rw [hU]; exact hPc, va_K.moved hW.alike hK, hDc.weaken (fun _ _ _ _ => trivial), hN.warm hW⟩, hX.to hW (by rw [hU]; exact hS.2.1) hFc⟩⟩ rfl hlen hl hst (lv_room hW) hdg hf T hT X with ⟨v, st₀, t, T', L, h0, X', hL, e1, e2, ⟨⟨r, u, hv, hp, hP1, hK1, hD1⟩, hFF⟩, st⟩ | ⟨q, st₀, t, T', L, E, ce, h0, X', hL, e1, e2, hno, -⟩
  · cases hv
    obtain ⟨k1, k2, k3⟩ := vx_keep h0 e1 hS (fun q _ h => hFc q h) hFc hL hFF
    rw [← e1] at hP1
    obtain ⟨hP2, hD2⟩ := va_join (wr := wr) (w1 := w1 u) hP hD isC isR hC hR hn.2.1 hdis k2 hFc hP1 hD1
    obtain ⟨t2, a1, b1⟩ := kk r u T'.heap (locs ++ L) hp (hP2.sub isP (k_fm (hp2 u))) (hD2.sub isP hn.2.2 (hp2 u)) k3 T' rfl X'
    exact ⟨t2, st t2 a1, b1⟩
  · exact hno.elim
end Call
end KX
