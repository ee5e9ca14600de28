/-! the simulator's methods as functions -/
/-- what the caller has built: routers, ends of links, areas, routers of ports, metrics, ports of routers, costs announced -/
abbrev TP : Type := Nat × (Nat → Bool) × (Nat → Bool) × (Nat → Nat) × (Nat → Nat) × (Nat → Nat) × (Nat → Nat) × (Nat → Nat) × (Nat → Option Nat)
def tRc (t : TP) : Nat := t.1
def tRu (t : TP) : Nat → Bool := t.2.1
def tLu (t : TP) : Nat → Bool := t.2.2.1
def tAl (t : TP) : Nat → Nat := t.2.2.2.1
def tRp (t : TP) : Nat → Nat := t.2.2.2.2.1
def tMp (t : TP) : Nat → Nat := t.2.2.2.2.2.1
def tPc (t : TP) : Nat → Nat := t.2.2.2.2.2.2.1
def tPo (t : TP) : Nat → Nat := t.2.2.2.2.2.2.2.1
def tAn (t : TP) : Nat → Option Nat := t.2.2.2.2.2.2.2.2
def tcc (t : TP) (k : Nat) : Bool := cc (tRu t) (tLu t) (tRp t) k
def TOK (t : TP) : Prop := tRc t ≤ 16 ∧ (∀ j, tRp t j < 16) ∧ (∀ j, tPo t j < 80) ∧ (∀ r, tPc t r ≤ 40) ∧ (∀ j, tAl t j < 4) ∧ (∀ j, tMp t j < 2 ^ 20) ∧ (∀ j w, tAn t j = some w → w < 2 ^ 20)
def pt (t : TP) (r i : Nat) : Nat := tPo t (r * 40 + i)
/-- flood: a version of router r over its links of area a, but not over port x -/
def fl1 (t : TP) (v r a : Nat) (x : Option Nat) (i : Nat) (mb : MB) : MB :=
  if some (tPo t (r * 40 + i)) ≠ x ∧ tAl t (tPo t (r * 40 + i) / 2) = a ∧ tcc t (tPo t (r * 40 + i) / 2) = true then put mb (v * 128 + ot (tPo t (r * 40 + i))) else mb
def flo (t : TP) (v r a : Nat) (x : Option Nat) (mb : MB) : MB := itr (fl1 t v r a x) (tPc t r) mb
theorem fl1_ge (t : TP) (v r a : Nat) (x : Option Nat) (i : Nat) (mb : MB) : mb.2 ≤ (fl1 t v r a x i mb).2 := by
  unfold fl1
  split
  · exact put_ge _ _
  · exact Nat.le_refl _
theorem fl1_i (t : TP) (v r a : Nat) (x : Option Nat) {mb : MB} (h : mOK mb) (hl : mL mb + 41 ≤ 2 ^ 20) : ∀ i, i ≤ 40 → mOK (itr (fl1 t v r a x) i mb) ∧ mL (itr (fl1 t v r a x) i mb) ≤ mL mb + i
  | 0, _ => ⟨h, Nat.le_refl _⟩
  | i + 1, hi => by
    obtain ⟨h1, h2⟩ := fl1_i t v r a x h hl i (by omega)
    rw [itr_s]
    generalize itr (fl1 t v r a x) i mb = z at h1 h2 ⊢
    unfold fl1
    split
    · exact ⟨put_ok h1 (show mL _ < 2 ^ 20 from by omega) _, by rw [put_mL]; omega⟩
    · exact ⟨h1, by omega⟩
theorem fl1_m (t : TP) (v r a : Nat) (x : Option Nat) (mb : MB) {i j : Nat} (h : i ≤ j) : (itr (fl1 t v r a x) i mb).2 ≤ (itr (fl1 t v r a x) j mb).2 := itr_mono (g := Prod.snd) (fun i s => fl1_ge t v r a x i s) mb h
theorem flo_ge (t : TP) (v r a : Nat) (x : Option Nat) (mb : MB) : mb.2 ≤ (flo t v r a x mb).2 := fl1_m t v r a x mb (Nat.zero_le _)
theorem flo_ok {t : TP} (hT : TOK t) (v r a : Nat) (x : Option Nat) {mb : MB} (h : mOK mb) (hl : mL mb + 41 ≤ 2 ^ 20) : mOK (flo t v r a x mb) ∧ mL (flo t v r a x mb) ≤ mL mb + tPc t r := fl1_i t v r a x h hl _ (hT.2.2.2.1 r)
/-- sendDatabase: all versions of a router over a port -/
def sd1 (t : TP) (hd : Nat → Option Nat) (r q : Nat) (i : Nat) (mb : MB) : MB := match hd (r * 1088 + (tAl t (q / 2) * 272 + i)) with
  | none => mb
  | some v => put mb (v * 128 + ot q)
def sdb (t : TP) (hd : Nat → Option Nat) (r q : Nat) (mb : MB) : MB := itr (sd1 t hd r q) 272 mb
theorem sd1_ge (t : TP) (hd : Nat → Option Nat) (r q i : Nat) (mb : MB) : mb.2 ≤ (sd1 t hd r q i mb).2 := by
  unfold sd1
  split
  · exact Nat.le_refl _
  · exact put_ge _ _
theorem sd1_i (t : TP) (hd : Nat → Option Nat) (r q : Nat) {mb : MB} (h : mOK mb) (hl : mL mb + 273 ≤ 2 ^ 20) : ∀ i, i ≤ 272 → mOK (itr (sd1 t hd r q) i mb) ∧ mL (itr (sd1 t hd r q) i mb) ≤ mL mb + i
  | 0, _ => ⟨h, Nat.le_refl _⟩
  | i + 1, hi => by
    obtain ⟨h1, h2⟩ := sd1_i t hd r q h hl i (by omega)
    rw [itr_s]
    generalize itr (sd1 t hd r q) i mb = z at h1 h2 ⊢
    unfold sd1
    split
    · exact ⟨h1, by omega⟩
    · exact ⟨put_ok h1 (show mL _ < 2 ^ 20 from by omega) _, by rw [put_mL]; omega⟩
theorem sd1_m (t : TP) (hd : Nat → Option Nat) (r q : Nat) (mb : MB) {i j : Nat} (h : i ≤ j) : (itr (sd1 t hd r q) i mb).2 ≤ (itr (sd1 t hd r q) j mb).2 := itr_mono (g := Prod.snd) (fun i s => sd1_ge t hd r q i s) mb h
theorem sdb_ge (t : TP) (hd : Nat → Option Nat) (r q : Nat) (mb : MB) : mb.2 ≤ (sdb t hd r q mb).2 := sd1_m t hd r q mb (Nat.zero_le _)
theorem sdb_ok {t : TP} (hd : Nat → Option Nat) (r q : Nat) {mb : MB} (h : mOK mb) (hl : mL mb + 273 ≤ 2 ^ 20) : mOK (sdb t hd r q mb) ∧ mL (sdb t hd r q mb) ≤ mL mb + 272 := sd1_i t hd r q h hl 272 (Nat.le_refl _)
/-- fillNewLinks -/
def fn1 (t : TP) (wu : Nat → Bool) (hd : Nat → Option Nat) (r : Nat) (i : Nat) (mb : MB) : MB :=
  if tcc t (tPo t (r * 40 + i) / 2) = true ∧ wu (tPo t (r * 40 + i) / 2) = false then sdb t hd r (tPo t (r * 40 + i)) mb else mb
def fnl (t : TP) (wu : Nat → Bool) (hd : Nat → Option Nat) (r : Nat) (mb : MB) : MB := itr (fn1 t wu hd r) (tPc t r) mb
theorem fn1_ge (t : TP) (wu : Nat → Bool) (hd : Nat → Option Nat) (r i : Nat) (mb : MB) : mb.2 ≤ (fn1 t wu hd r i mb).2 := by
  unfold fn1
  split
  · exact sdb_ge _ _ _ _ _
  · exact Nat.le_refl _
theorem fn1_i (t : TP) (wu : Nat → Bool) (hd : Nat → Option Nat) (r : Nat) {mb : MB} (h : mOK mb) (hl : mL mb + 272 * 41 ≤ 2 ^ 20) : ∀ i, i ≤ 40 → mOK (itr (fn1 t wu hd r) i mb) ∧ mL (itr (fn1 t wu hd r) i mb) ≤ mL mb + 272 * i
  | 0, _ => ⟨h, Nat.le_refl _⟩
  | i + 1, hi => by
    obtain ⟨h1, h2⟩ := fn1_i t wu hd r h hl i (by omega)
    rw [itr_s]
    generalize itr (fn1 t wu hd r) i mb = z at h1 h2 ⊢
    unfold fn1
    split
    · have := sdb_ok (t := t) hd r (tPo t (r * 40 + i)) h1 (by omega)
      exact ⟨this.1, by omega⟩
    · exact ⟨h1, by omega⟩
theorem fn1_m (t : TP) (wu : Nat → Bool) (hd : Nat → Option Nat) (r : Nat) (mb : MB) {i j : Nat} (h : i ≤ j) : (itr (fn1 t wu hd r) i mb).2 ≤ (itr (fn1 t wu hd r) j mb).2 := itr_mono (g := Prod.snd) (fun i s => fn1_ge t wu hd r i s) mb h
theorem fnl_ge (t : TP) (wu : Nat → Bool) (hd : Nat → Option Nat) (r : Nat) (mb : MB) : mb.2 ≤ (fnl t wu hd r mb).2 := fn1_m t wu hd r mb (Nat.zero_le _)
theorem fnl_ok {t : TP} (hT : TOK t) (wu : Nat → Bool) (hd : Nat → Option Nat) (r : Nat) {mb : MB} (h : mOK mb) (hl : mL mb + 272 * 41 ≤ 2 ^ 20) : mOK (fnl t wu hd r mb) ∧ mL (fnl t wu hd r mb) ≤ mL mb + 272 * tPc t r := fn1_i t wu hd r h hl _ (hT.2.2.2.1 r)
/-- originate: known sequences, renewals, old paths, databases, sequences, messages -/
abbrev OS : Type := (Nat → Nat) × (Nat → Bool) × (Nat → Bool) × (Nat → Option Nat) × (Nat → Nat) × MB
def org (t : TP) (v r a : Nat) (x : OS) : OS :=
  (fs x.1 (v / 64) (x.1 (v / 64) + 1), fs x.2.1 (v / 64) false, rol x.2.2.1 r (v / 64), fs x.2.2.2.1 (r * 1088 + v / 64) (some v), fs x.2.2.2.2.1 v (x.1 (v / 64) + 1), flo t v r a none x.2.2.2.2.2)
/-- an advertisement says what the router would say now -/
noncomputable def utb (t : TP) (lm : Nat → Nat) (lo : Nat → Option Nat) (v r a : Nat) : Bool :=
  @decide (utd1 (tRu t) (tLu t) (tAl t) (tRp t) (tMp t) (tPc t) (tPo t) lm v r a (tPc t r) ∧ utd2 (tAn t) lo v r a 16) (Classical.propDecidable _)
theorem utb_true {t : TP} {lm : Nat → Nat} {lo : Nat → Option Nat} {v r a : Nat} : utb t lm lo v r a = true ↔ (utd1 (tRu t) (tLu t) (tAl t) (tRp t) (tMp t) (tPc t) (tPo t) lm v r a (tPc t r) ∧ utd2 (tAn t) lo v r a 16) :=
  @decide_eq_true_iff _ (Classical.propDecidable _)
theorem utb_iff {t : TP} {lm : Nat → Nat} {lo : Nat → Option Nat} {v r a : Nat} {z : Bool} (h : z = true ↔ (utd1 (tRu t) (tLu t) (tAl t) (tRp t) (tMp t) (tPc t) (tPo t) lm v r a (tPc t r) ∧ utd2 (tAn t) lo v r a 16)) : z = utb t lm lo v r a := by
  have h2 := @utb_true t lm lo v r a
  cases z
  · cases e : utb t lm lo v r a
    · rfl
    · exact absurd (h.mpr (h2.mp e)) (by decide)
  · exact (h2.mpr (h.mp rfl)).symm
/-- describeLinks, in area 1: known sequences, renewals, old paths, databases, sequences, metrics, costs, next work, messages -/
abbrev DS : Type := (Nat → Nat) × (Nat → Bool) × (Nat → Bool) × (Nat → Option Nat) × (Nat → Nat) × (Nat → Nat) × (Nat → Option Nat) × (Nat → Nat) × MB
noncomputable def due (t : TP) (now r : Nat) (x : DS) : Bool := match x.2.2.2.1 (r * 1088 + (1 * 272 + r)) with
  | none => true
  | some v => x.2.1 (1 * 272 + r) || decide (30 ≤ ag now v) || !utb t x.2.2.2.2.2.1 x.2.2.2.2.2.2.1 v r 1
def dlm (t : TP) (v r : Nat) (lm : Nat → Nat) : Nat → Nat := itr (dsB (tRu t) (tLu t) (tRp t) (tMp t) (tAl t) (tPo t) r 1 (v % 64)) (tPc t r) lm
def dlo (t : TP) (v r : Nat) (lo : Nat → Option Nat) : Nat → Option Nat := itr (dsC (tAn t) ((r * 4 + 1) * 16) (v % 64)) 16 lo
def nwv (now r : Nat) : Nat := (1 * 272 + r) * 64 + now % 64
def nrf (now v r : Nat) (nw : Nat → Nat) : Nat → Nat := fs nw r (min (nw r) (now - ag now v + 30))
noncomputable def dsc (t : TP) (now r : Nat) (x : DS) : DS :=
  if due t now r x = true then
    let o := org t (nwv now r) r 1 (x.1, x.2.1, x.2.2.1, x.2.2.2.1, x.2.2.2.2.1, x.2.2.2.2.2.2.2.2)
    (o.1, o.2.1, o.2.2.1, o.2.2.2.1, o.2.2.2.2.1, dlm t (nwv now r) r x.2.2.2.2.2.1, dlo t (nwv now r) r x.2.2.2.2.2.2.1, x.2.2.2.2.2.2.2.1, o.2.2.2.2.2)
  else match x.2.2.2.1 (r * 1088 + (1 * 272 + r)) with
    | none => x
    | some v => (x.1, x.2.1, x.2.2.1, x.2.2.2.1, x.2.2.2.2.1, x.2.2.2.2.2.1, x.2.2.2.2.2.2.1, nrf now v r x.2.2.2.2.2.2.2.1, x.2.2.2.2.2.2.2.2)
/-- receive: known sequences, renewals, old paths, databases, next work, messages -/
abbrev RS : Type := (Nat → Nat) × (Nat → Bool) × (Nat → Bool) × (Nat → Option Nat) × (Nat → Nat) × MB
def rac (t : TP) (sq : Nat → Nat) (v q : Nat) (x : RS) : RS :=
  if v / 64 - 272 = tRp t q then
    (fs x.1 (v / 64) (max (x.1 (v / 64)) (sq v)), fs x.2.1 (v / 64) true, x.2.2.1, x.2.2.2.1, fs x.2.2.2.2.1 (tRp t q) 0, x.2.2.2.2.2)
  else
    (x.1, x.2.1, rol x.2.2.1 (tRp t q) (v / 64), fs x.2.2.2.1 (tRp t q * 1088 + v / 64) (some v), fs x.2.2.2.2.1 (tRp t q) 0, flo t v (tRp t q) 1 (some q) x.2.2.2.2.2)
def rcv (t : TP) (now : Nat) (sq : Nat → Nat) (v q : Nat) (x : RS) : RS := match x.2.2.2.1 (tRp t q * 1088 + v / 64) with
  | none => rac t sq v q x
  | some w => if w = v then x else if nwr sq now w v = true then (x.1, x.2.1, x.2.2.1, x.2.2.2.1, x.2.2.2.2.1, put x.2.2.2.2.2 (w * 128 + ot q)) else rac t sq v q x
def rmb (x : RS) : MB := x.2.2.2.2.2
theorem rac_ge (t : TP) (sq : Nat → Nat) (v q : Nat) (x : RS) : (rmb x).2 ≤ (rmb (rac t sq v q x)).2 := by
  unfold rac
  split
  · exact Nat.le_refl _
  · exact flo_ge _ _ _ _ _ _
theorem rcv_ge (t : TP) (now : Nat) (sq : Nat → Nat) (v q : Nat) (x : RS) : (rmb x).2 ≤ (rmb (rcv t now sq v q x)).2 := by
  unfold rcv
  split
  · exact rac_ge _ _ _ _ _
  · split
    · exact Nat.le_refl _
    · split
      · exact put_ge _ _
      · exact rac_ge _ _ _ _ _
/-- one message of deliverMail -/
def dl1 (t : TP) (now : Nat) (sq : Nat → Nat) (L : List Nat) (i : Nat) (x : RS) : RS :=
  if tcc t (L.getD i 0 % 128 / 2) = true ∧ ag now (L.getD i 0 / 128) < 60 then rcv t now sq (L.getD i 0 / 128) (L.getD i 0 % 128) x else x
theorem dl1_ge (t : TP) (now : Nat) (sq : Nat → Nat) (L : List Nat) (i : Nat) (x : RS) : (rmb x).2 ≤ (rmb (dl1 t now sq L i x)).2 := by
  unfold dl1
  split
  · exact rcv_ge _ _ _ _ _ _
  · exact Nat.le_refl _
theorem dl1_m (t : TP) (now : Nat) (sq : Nat → Nat) (L : List Nat) (x : RS) {i j : Nat} (h : i ≤ j) : (rmb (itr (dl1 t now sq L) i x)).2 ≤ (rmb (itr (dl1 t now sq L) j x)).2 := itr_mono (g := fun z => (rmb z).2) (fun i s => dl1_ge t now sq L i s) x h
/-- removeExpired: old paths, databases, next work -/
abbrev ES : Type := (Nat → Bool) × (Nat → Option Nat) × (Nat → Nat)
def ex1 (now r : Nat) (k : Nat) (x : ES) : ES := match x.2.1 (r * 1088 + k) with
  | none => x
  | some v => if 60 ≤ ag now v then (rol x.1 r k, fs x.2.1 (r * 1088 + k) none, fs x.2.2 r 0) else x
def ex2 (now : Nat) (r : Nat) (x : ES) : ES := itr (ex1 now r) 1088 x
def exs (now : Nat) : Nat := ag now 60
def exA (rc now : Nat) (x : ES) : ES := if 0 < cn x.2.1 (exs now) then itr (ex2 now) rc x else x
