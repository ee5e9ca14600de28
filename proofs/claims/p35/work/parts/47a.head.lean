
/-! THE CLAIM OUT OF ONE WALK OF THE LAW'S BODY. Your part is whole_start (and what it stands on); all else here is the same for every law, but numbers. -/
def R_law : String := "RoutingDomainLaw"
def lw_P (b : Addr) (xs : List Int32) (args : Array Value) (s : State) : Prop := args = #[.ref b] ∧ s.IntsAt b xs ∧ xs.length ≤ 260 ∧ (Jvm.Cond.and given_1 narrow_1).before args s = true
def lw_Q (_ : Array Value) (s : State) (o : Outcome) (t : State) : Prop := o = .returned (some (.int 1)) ∧ Framed s o t [] 600086 7301442
def lw_Z (below : List Frame) (a : Array Value) (s : State) : State → Prop := fun t => ∃ o, t.status = .running ∧ Ended t below o ∧ lw_Q a s o t
/-- the law's own end, with 1 on the stack, nothing written that was there before, its room as the claim has it -/
theorem lw_ret {p : Program} {l : Launch} {e : Env} {s : State} {m : MethodId} {below : List Frame} {meth : Method} {c : Code} {b : Nat} (hx : p.tables.exec = Jvm.exec) (hb : c.code = code) (hr : meth.sig.returnType = ret) (hlocks : meth.locks = false) {pc : Nat} {H : Heap} {ls : Array Slot} (hdg : decode code pc = .ok (.ireturn, 1)) : W p l e room_1 s m #[Value.ref b] below meth c H [] 600086 7301442 (lw_Z below #[Value.ref b] s) (F0 m pc ls [.int 1]) := by
  intro T hT X
  obtain ⟨fs, hret, hrun, hended, hW, hframe⟩ := X.leave (v := some (.int 1)) (hlocks := hlocks) (fun h => by rw [hr] at h; cases h)
  have hmeth' : T.vm.method? m = some meth := X.method'
  refine ⟨T.setFrames fs, ?_, .returned (some (.int 1)), hrun, hended, rfl, ⟨_, rfl⟩, hW, hframe⟩
  jvm_step X.here [X.here.top, hx, hb, hdg, hmeth', hr, ret, narrow_b1]
  (try refine ⟨rfl, ?_⟩); (try refine ⟨rfl, ?_⟩)
  first | (intro acts; rw [hret _ acts rfl rfl rfl]) | rw [hret _ _ rfl rfl rfl]
  exact Steps.refl _
/-- what holds at the law's entry: the machine, the code, the tables' words (any of lw_tbl by 'hts w (by decide +kernel)'), the script of L ints xs at the cell b, what the Statement gives of the start (any of its parts by flat_of_before) -/
def lw_At (p : Program) (s : State) (m : MethodId) (meth : Method) (c : Code) (b L : Nat) (xs : Nat → Int32) : Prop :=
  p.tables.exec = Jvm.exec ∧ c.code = code ∧ meth.sig.returnType = ret ∧ c.maxLocals = 16 ∧ s.vm.findClass R_law = some m.cls ∧ (∀ w ∈ lw_tbl, w.before #[Value.ref b] s = true) ∧ va_X b L xs s s.heap ∧ b < s.heap.size ∧ meth.locks = false ∧ (Jvm.Cond.and given_1 narrow_1).before #[Value.ref b] s = true
theorem k_arr {s : State} {args : Array Value} {ty : FieldType} (h3 : ty = .int ∨ ty = .boolean ∨ ty = .long) (h : (Cond.arrayClass ty).before args s = true) : ∃ cA : ClassId, ArrOfT s cA ty ∧ va_RA s cA ty := by
  obtain ⟨cA, kA, comp, hfind, hk, hkind⟩ := Cond.arrayClass_spec h
  exact ⟨cA, fun n z => ⟨fun k h => (by cases h), kA, hk, comp, hkind⟩, by rcases h3 with rfl | rfl | rfl <;> exact hfind⟩
def CKF (N : Nat) (t : TP) (a : AS) (at_ : Nat → Bool) (now : Nat) (fa ta ca th bk : Nat → Nat) (qt : Bool) : Prop := TG t N ∧ TOK t ∧ MTS t ∧ CSTS t N ca ∧ FIN t N now a ∧ (25 ≤ now ∧ now < 100) ∧ NINE N fa ta t ∧ ATT N at_ ∧ 4 ≤ N ∧ N ≤ 6 ∧ MTI 9 th bk t ∧ (qt = true → mL (aMb a) = 0)
theorem ini_s {r k x : Nat} {dd : Nat → Nat} (h : ∀ v, v < k → dd v = if v = r then 0 else 1000000) (hx : x = if k = r then 0 else 1000000) : ∀ v, v < k + 1 → fs dd k x v = if v = r then 0 else 1000000 := fun v hv => by
  by_cases z : v = k
  · rw [z, fs_s]; exact hx
  · rw [fs_n z]; exact h v (by omega)
theorem mn_le {A : Nat → Nat} {x y N : Nat} (h : ∀ v, v < N → A v ≤ 1000000) (hx : x < N) : ∀ v, v < N → fs A x (min (A x) y) v ≤ 1000000 := fun v hv => by
  by_cases z : v = x
  · rw [z, fs_s]; exact Nat.le_trans (Nat.min_le_left _ _) (h x hx)
  · rw [fs_n z]; exact h v hv
theorem bsv_n {ds : Nat → Option Nat} {cs : Nat → Nat} {r v B : Nat} (h : ds ((r * 4 + 1) * 16 + v) = none) : bsv ds cs r v B = B := by unfold bsv; rw [h]
theorem bsv_0 {ds : Nat → Option Nat} {cs : Nat → Nat} {r v B d : Nat} (h : ds ((r * 4 + 1) * 16 + v) = some d) (hc : cs v ≤ 0) : bsv ds cs r v B = B := by unfold bsv; rw [h]; exact if_pos (by omega)
theorem bsv_p {ds : Nat → Option Nat} {cs : Nat → Nat} {r v B d : Nat} (h : ds ((r * 4 + 1) * 16 + v) = some d) (hc : ¬ cs v ≤ 0) : bsv ds cs r v B = min B (d + cs v) := by unfold bsv; rw [h]; exact if_neg (by omega)
theorem bsv_le {ds : Nat → Option Nat} {cs : Nat → Nat} {r : Nat} : ∀ n, itr (bsv ds cs r) n far9 ≤ far9
  | 0 => Nat.le_refl _
  | n + 1 => by
    rw [itr_s]
    have h := bsv_le (ds := ds) (cs := cs) (r := r) n
    generalize itr (bsv ds cs r) n far9 = B at h ⊢
    unfold bsv
    split
    · exact h
    · split
      · exact h
      · exact Nat.le_trans (Nat.min_le_left _ _) h
theorem FIN_hd {t : TP} {N n : Nat} {a : AS} (hG : TG t N) (h : FIN t N n a) : ∀ j w, aHd a j = some w → w < 69632 := by
  obtain ⟨_, _, wu, ka, hR, _⟩ := h
  exact REST_hd hG hR
theorem FIN_li {t : TP} {N n : Nat} {a : AS} (h : FIN t N n a) : ∀ j, aLi a j < 2 ^ 63 := by
  obtain ⟨_, _, wu, ka, hR, _⟩ := h
  obtain ⟨_, _, _, _, _, _, _, _, _, _, _, _, _, _, _, _, h7⟩ := hR
  exact fun j => Nat.lt_trans (h7 j) (by decide)
theorem rng_ne {f x N : Nat} (hf : f < N) (hx : x < N - 1) : ¬ (f + 1 + x) % N = f := by
  intro h
  rcases Nat.lt_or_ge (f + 1 + x) N with q | q
  · rw [Nat.mod_eq_of_lt q] at h; omega
  · rw [Nat.mod_eq_sub_mod q, Nat.mod_eq_of_lt (by omega)] at h; omega
theorem cn_0 : cn (fun _ => none) = fun _ => 0 := by
  have h : ∀ s n, cnt (fun _ => none) s n = 0 := fun s n => by
    induction n with
    | zero => rfl
    | succ n ih => rw [cnt_s, ih]; rfl
  funext s
  exact h s 17408
