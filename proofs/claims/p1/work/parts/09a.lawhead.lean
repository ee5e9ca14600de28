
/-! THE CLAIM OUT OF ONE WALK OF THE LAW'S BODY. Your part is whole_start (and what it stands on); all else here is the same for every law, but numbers. -/
def R_law : String := "RoutingDomainLaw"
def lw_P (b : Addr) (xs : List Int32) (args : Array Value) (s : State) : Prop := args = #[.ref b] ∧ s.IntsAt b xs ∧ xs.length ≤ 6 ∧ (Jvm.Cond.and given_1 narrow_1).before args s = true
def lw_Q (_ : Array Value) (s : State) (o : Outcome) (t : State) : Prop := o = .returned (some (.int 1)) ∧ Framed s o t [] 600002 7302232
def lw_Z (below : List Frame) (a : Array Value) (s : State) : State → Prop := fun t => ∃ o, t.status = .running ∧ Ended t below o ∧ lw_Q a s o t
/-- the law's own end, with 1 on the stack, nothing written that was there before, its room as the claim has it -/
theorem lw_ret {p : Program} {l : Launch} {e : Env} {s : State} {m : MethodId} {below : List Frame} {meth : Method} {c : Code} {b : Nat} (hx : p.tables.exec = Jvm.exec) (hb : c.code = code) (hr : meth.sig.returnType = ret) (hlocks : meth.locks = false) {pc : Nat} {H : Heap} {ls : Array Slot} (hdg : decode code pc = .ok (.ireturn, 1)) : W p l e room_1 s m #[Value.ref b] below meth c H [] 600002 7302232 (lw_Z below #[Value.ref b] s) (F0 m pc ls [.int 1]) := by
  intro T hT X
  obtain ⟨fs, hret, hrun, hended, hW, hframe⟩ := X.leave (v := some (.int 1)) (hlocks := hlocks) (fun h => by rw [hr] at h; cases h)
  have hmeth' : T.vm.method? m = some meth := X.method'
  refine ⟨T.setFrames fs, ?_, .returned (some (.int 1)), hrun, hended, rfl, ⟨_, rfl⟩, hW, hframe⟩
  jvm_step X.here [X.here.top, hx, hb, hdg, hmeth', hr, ret, narrow_b1]
  (try refine ⟨rfl, ?_⟩); (try refine ⟨rfl, ?_⟩)
  first | (intro acts; rw [hret _ acts rfl rfl rfl]) | rw [hret _ _ rfl rfl rfl]
  exact Steps.refl _
/-- what holds at the law's entry: the machine, the code, the tables' words (any of lw_tbl by 'hts w (by decide +kernel)'), the script of L ints xs at the cell b, what the Statement gives of the start (any of its parts by flat_of_before) -/
def lw_At (p : Program) (s : State) (m : MethodId) (meth : Method) (c : Code) (b L : Nat) (xs : Nat → Int32) : Prop :=
  p.tables.exec = Jvm.exec ∧ c.code = code ∧ meth.sig.returnType = ret ∧ c.maxLocals = 7 ∧ s.vm.findClass R_law = some m.cls ∧ (∀ w ∈ lw_tbl, w.before #[Value.ref b] s = true) ∧ va_X b L xs s s.heap ∧ b < s.heap.size ∧ meth.locks = false ∧ (Jvm.Cond.and given_1 narrow_1).before #[Value.ref b] s = true

theorem k_1_60 {y : Int32} (h : ¬ (y < 1 ∨ 60 < y)) : ∃ n : Nat, 1 ≤ n ∧ n ≤ 60 ∧ y = nI n := by
  have h1 : ¬ y < 1 := fun q => h (Or.inl q)
  have h2 : y ≤ 60 := Int32.not_lt.mp (fun q => h (Or.inr q))
  rw [Int32.lt_iff_toInt_lt] at h1
  rw [Int32.le_iff_toInt_le] at h2
  have e1 : (1 : Int32).toInt = 1 := by decide
  have e2 : (60 : Int32).toInt = 60 := by decide
  refine ⟨y.toInt.toNat, by omega, by omega, Int32.toInt_inj.mp ?_⟩
  rw [nI_toInt (by omega)]
  omega
theorem k_arr {s : State} {args : Array Value} {ty : FieldType} (h3 : ty = .int ∨ ty = .boolean ∨ ty = .long) (h : (Cond.arrayClass ty).before args s = true) : ∃ cA : ClassId, ArrOfT s cA ty ∧ va_RA s cA ty := by
  obtain ⟨cA, kA, comp, hfind, hk, hkind⟩ := Cond.arrayClass_spec h
  exact ⟨cA, fun n z => ⟨fun k h => (by cases h), kA, hk, comp, hkind⟩, by rcases h3 with rfl | rfl | rfl <;> exact hfind⟩
theorem law_kX {s : State} {b : Nat} {A : Nat → Prop} {D : va_G} (hts : ∀ w ∈ lw_tbl, w.before #[Value.ref b] s = true) (hgv : (Jvm.Cond.and given_1 narrow_1).before #[Value.ref b] s = true) (hKc : ∀ (k : Nat) (q : vw_C), vwCl[k]? = some q → u_Kn s q.1 q.2.1 q.2.2 (D.1 k) (D.2 k)) (hA2 : ∀ q, A q → s.heap.size ≤ q) : kX A s := by
  have hgf := flat_of_before _ hgv
  have hnA : ∀ a : Nat, a < s.heap.size → ¬ A a := fun a h1 h2 => absurd (hA2 a h2) (Nat.not_le.mpr h1)
  have hcur : s.vm.findClass "RoutingDomain" = some (D.1 9) := (hKc 9 (RX9, TX9, 7) rfl).2.1
  refine ⟨vx_Zqof (hts _ t_th0) (hts _ t_th2) (hgf _ (by decide +kernel)) hnA, vx_Zqof (hts _ t_th1) (hts _ t_th2) (hgf _ (by decide +kernel)) hnA, ?_, fun n hn => va_Nw.of rfl (hts _ (t_exs _ (List.mem_map.mpr ⟨n, hn, rfl⟩))), fun n hn => va_Nw.of rfl (hts _ (t_sup _ (List.mem_map.mpr ⟨n, hn, rfl⟩)))⟩
  intro q hq
  have h1 := hts _ (t_strs _ (List.mem_map.mpr ⟨q, hq, rfl⟩))
  have hc : q.1 = "RoutingDomain" := (by decide +kernel : ∀ q ∈ kStrs, q.1 = "RoutingDomain") q hq
  obtain ⟨k, cf, i, a, -, -, -, -, -, ha⟩ := Cond.stringRef_spec (by rw [hc]; exact hcur) h1
  exact ⟨a, h1, ha⟩

