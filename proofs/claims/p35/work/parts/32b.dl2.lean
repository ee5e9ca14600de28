/-! the delivery as a whole; how many messages it sends -/
theorem mem_get {L : List Nat} {m : Nat} (h : m ∈ L) : ∃ j, j < L.length ∧ L.getD j 0 = m := by
  obtain ⟨j, hj, e⟩ := List.getElem_of_mem h
  exact ⟨j, hj, by rw [List.getD_eq_getElem?_getD, List.getElem?_eq_getElem hj, e]; rfl⟩
theorem get_mem {L : List Nat} {j : Nat} (h : j < L.length) : L.getD j 0 ∈ L := by
  rw [List.getD_eq_getElem?_getD, List.getElem?_eq_getElem h]
  exact List.getElem_mem h
theorem DI_0 {t : TP} {N n : Nat} {sq : Nat → Nat} {wu : Nat → Bool} {Rel : Nat → Nat → Prop} {L : List Nat} {x0 : RS} (he : (rmb x0).1 = [])
    (hLI : ∀ q o, q < 18 → wu (q / 2) = true → o < N → Rel (tRp t q) o → rC n sq x0 (tRp t (ot q)) o ≤ rE n sq x0 (tRp t q) o ∨ snt n sq L q o (rC n sq x0 (tRp t (ot q)) o))
    (hS : ∀ m o, m ∈ L → wu (m % 128 / 2) = true → o < N → m / 128 / 64 = 272 + o → Rel (tRp t (m % 128)) o → cod n sq (m / 128) ≤ rC n sq x0 (tRp t (ot (m % 128))) o) : DI t N n sq wu Rel L x0 0 x0 := by
  have key : ∀ q o, q < 18 → wu (q / 2) = true → o < N → Rel (tRp t q) o → rC n sq x0 (tRp t (ot q)) o ≤ rE n sq x0 (tRp t q) o ∨ pnd n sq L 0 q o (rC n sq x0 (tRp t (ot q)) o) := by
    intro q o hq hw ho hR
    rcases hLI q o hq hw ho hR with z | ⟨m, z1, z2, z3, z4⟩
    · exact Or.inl z
    · obtain ⟨j, j1, rfl⟩ := mem_get z1
      exact Or.inr ⟨j, Nat.zero_le _, j1, z2, z3, z4⟩
  refine ⟨fun _ _ _ _ => Nat.le_refl _, fun q o hq hw ho hR => ?_, key, fun j o _ j2 hw ho j3 hR => hS _ o (get_mem j2) hw ho j3 hR, fun m o hm => ?_, fun u o v _ _ hH => ⟨Or.inl hH, fun _ => hH⟩, fun u _ => Or.inr ⟨rfl, fun _ _ => rfl, rfl, rfl, rfl⟩, fun u _ => Or.inr ⟨rfl, fun _ _ => rfl⟩, fun _ => Nat.le_refl _⟩
  · rcases key q o hq hw ho hR with z | z
    · exact Or.inl z
    · exact Or.inr (Or.inl z)
  · rw [he] at hm; cases hm
theorem DI_dl {t : TP} {N n : Nat} {sq : Nat → Nat} {wu : Nat → Bool} {Rel : Nat → Nat → Prop} {L : List Nat} {x0 : RS} (hG : TG t N) (hn : n < 128) (hM : ML t N n sq L)
    (hwu : ∀ k, k < 9 → wu k = true → tcc t k = true) (hRel : ∀ q o, q < 18 → tcc t (q / 2) = true → o < N → Rel (tRp t q) o → Rel (tRp t (ot q)) o)
    (hage : ∀ j o, j < L.length → wu (L.getD j 0 % 128 / 2) = true → o < N → L.getD j 0 / 128 / 64 = 272 + o → Rel (tRp t (L.getD j 0 % 128)) o → ag n (L.getD j 0 / 128) < 60)
    (hDB : DB t N n sq x0) (h : DI t N n sq wu Rel L x0 0 x0) : ∀ i, i ≤ L.length → DI t N n sq wu Rel L x0 i (itr (dl1 t n sq L) i x0)
  | 0, _ => h
  | i + 1, hi => by
    rw [itr_s]
    exact DI_step hG hn hM (by omega) hwu hRel hage (DB_dl hG hM hDB i (by omega)) (DI_dl hG hn hM hwu hRel hage hDB h i (by omega))
/-! sums -/
def ssm (f : Nat → Nat) (n : Nat) : Nat := itr (fun i s => s + f i) n 0
theorem ssm_s (f : Nat → Nat) (n : Nat) : ssm f (n + 1) = ssm f n + f n := rfl
theorem ssm_c {f g : Nat → Nat} : ∀ {n : Nat}, (∀ i, i < n → f i = g i) → ssm f n = ssm g n
  | 0, _ => rfl
  | n + 1, h => by rw [ssm_s, ssm_s, ssm_c (fun i hi => h i (by omega)), h n (by omega)]
theorem ssm_up {f g : Nat → Nat} {k d : Nat} (h2 : f k + d ≤ g k) : ∀ {n : Nat}, k < n → (∀ i, i < n → i ≠ k → f i = g i) → ssm f n + d ≤ ssm g n
  | 0, h, _ => absurd h (Nat.not_lt_zero _)
  | n + 1, h, h1 => by
    rw [ssm_s, ssm_s]
    by_cases z : k = n
    · subst z
      rw [ssm_c (fun i hi => h1 i (by omega) (by omega))]
      omega
    · have := ssm_up h2 (n := n) (by omega) (fun i hi => h1 i (by omega))
      have := h1 n (by omega) (Ne.symm z)
      omega
theorem ssm_le {f : Nat → Nat} {B : Nat} : ∀ {n : Nat}, (∀ i, i < n → f i ≤ B) → ssm f n ≤ n * B
  | 0, _ => Nat.zero_le _
  | n + 1, h => by
    rw [ssm_s, Nat.add_mul, Nat.one_mul]
    exact Nat.add_le_add (ssm_le (fun i hi => h i (by omega))) (h n (by omega))
theorem ssm_mul {p f : Nat → Nat} {B : Nat} : ∀ {n : Nat}, (∀ i, i < n → f i ≤ B) → ssm (fun i => p i * f i) n ≤ ssm p n * B
  | 0, _ => Nat.zero_le _
  | n + 1, h => by
    rw [ssm_s, ssm_s, Nat.add_mul]
    exact Nat.add_le_add (ssm_mul (fun i hi => h i (by omega))) (Nat.mul_le_mul_left _ (h n (by omega)))
theorem ssm_mono {f g : Nat → Nat} : ∀ {n : Nat}, (∀ i, i < n → f i ≤ g i) → ssm f n ≤ ssm g n
  | 0, _ => Nat.le_refl _
  | n + 1, h => by rw [ssm_s, ssm_s]; exact Nat.add_le_add (ssm_mono (fun i hi => h i (by omega))) (h n (by omega))
/-- how many of a key's 64 versions are no newer -/
def rk (n : Nat) (sq : Nat → Nat) (v : Nat) : Nat := ssm (fun s => if cod n sq (v / 64 * 64 + s) ≤ cod n sq v then 1 else 0) 64
def rko (n : Nat) (sq : Nat → Nat) (x : Option Nat) : Nat := match x with
  | none => 0
  | some v => rk n sq v
theorem rko_le (n : Nat) (sq : Nat → Nat) (x : Option Nat) : rko n sq x ≤ 64 := by
  unfold rko
  split
  · omega
  · exact Nat.le_trans (ssm_le (B := 1) (fun i _ => by split <;> omega)) (by omega)
theorem rk_lt {n : Nat} {sq : Nat → Nat} {v w : Nat} (hk : v / 64 = w / 64) (h : cod n sq w < cod n sq v) : rk n sq w + 1 ≤ rk n sq v := by
  unfold rk
  rw [hk]
  have hv : w / 64 * 64 + v % 64 = v := by omega
  have h1 : ssm (fun s => if cod n sq (w / 64 * 64 + s) ≤ cod n sq w then 1 else 0) 64 + 1 ≤ ssm (fun s => if s = v % 64 then 1 else if cod n sq (w / 64 * 64 + s) ≤ cod n sq w then 1 else 0) 64 := by
    refine ssm_up (k := v % 64) ?_ (by omega) (fun i _ hi => by (try dsimp only); rw [if_neg hi])
    (try dsimp only)
    rw [if_pos rfl, hv, if_neg (by omega)]
    omega
  refine Nat.le_trans h1 (ssm_mono (fun i _ => ?_))
  (try dsimp only)
  split
  · next z => subst z; rw [hv, if_pos (Nat.le_refl _)]; exact Nat.le_refl _
  · split
    · rw [if_pos (by omega)]; exact Nat.le_refl _
    · exact Nat.zero_le _
theorem rk_pos {n : Nat} {sq : Nat → Nat} {v : Nat} : 1 ≤ rk n sq v := by
  unfold rk
  have h1 : ssm (fun _ => 0) 64 + 1 ≤ ssm (fun s => if s = v % 64 then 1 else 0) 64 := ssm_up (k := v % 64) (by (try dsimp only); rw [if_pos rfl]; omega) (by omega) (fun i _ hi => by (try dsimp only); rw [if_neg hi])
  refine Nat.le_trans (Nat.le_trans (Nat.le_add_left 1 _) h1) (ssm_mono (fun i _ => ?_))
  (try dsimp only)
  split
  · next z => subst z; rw [show v / 64 * 64 + v % 64 = v by omega, if_pos (Nat.le_refl _)]; exact Nat.le_refl _
  · exact Nat.zero_le _
/-- the potential -/
def phi (t : TP) (N n : Nat) (sq : Nat → Nat) (x : RS) : Nat := ssm (fun u => tPc t u * ssm (fun o => rko n sq (rH x u o)) N) N
theorem phi_le {t : TP} {N n : Nat} {sq : Nat → Nat} (hG : TG t N) (x : RS) : phi t N n sq x ≤ 6912 := by
  unfold phi
  have h1 : ∀ i, i < N → ssm (fun o => rko n sq (rH x i o)) N ≤ 384 := fun i _ => Nat.le_trans (ssm_le (B := 64) (fun o _ => rko_le _ _ _)) (by have := hG.2.1; omega)
  refine Nat.le_trans (ssm_mul h1) ?_
  have h2 : ssm (tPc t) N ≤ 18 := hG.2.2.2.2.2
  omega
theorem dl_cap {t : TP} {N n : Nat} {sq : Nat → Nat} (hG : TG t N) (hT : TOK t) (hn : n < 128) {L : List Nat} (hM : ML t N n sq L) {x0 : RS} (h0 : DB t N n sq x0) (he : (rmb x0).1 = []) (hm0 : mOK (rmb x0)) (hL : L.length + 6953 ≤ 2 ^ 20) :
    ∀ i, i ≤ L.length → mOK (rmb (itr (dl1 t n sq L) i x0)) ∧ mL (rmb (itr (dl1 t n sq L) i x0)) + phi t N n sq x0 ≤ i + phi t N n sq (itr (dl1 t n sq L) i x0)
  | 0, _ => ⟨hm0, by show (rmb x0).1.length + _ ≤ 0 + _; rw [he]; exact Nat.le_refl _⟩
  | i + 1, hi => by
    obtain ⟨k1, k2⟩ := dl_cap hG hT hn hM h0 he hm0 hL i (by omega)
    have hDB := DB_dl hG hM h0 i (by omega)
    have hN := hG.2.1
    rw [itr_s]
    generalize itr (dl1 t n sq L) i x0 = x at k1 k2 hDB ⊢
    have hp := phi_le (n := n) (sq := sq) hG x
    rcases dl1_cases hM (show i < L.length by omega) x with ⟨o, hm, e⟩ | ⟨_, e⟩
    · rw [e]
      obtain ⟨m1, m2, m3, m4, m5, m6⟩ := hm
      have hr := (hG.2.2.1 _ m1).1
      rcases rcv_cases t n sq (q := L.getD i 0 % 128) x m4.1 with ⟨hw, e⟩ | ⟨w, hw, hwv, hnw, e⟩ | ⟨hw, hor, e⟩ | ⟨hw, hor, e⟩
      · rw [e]; exact ⟨k1, by omega⟩
      · rw [e]
        refine ⟨put_ok k1 (show mL _ < 2 ^ 20 by omega) _, ?_⟩
        show mL (put (rmb x) _) + _ ≤ i + 1 + phi t N n sq x
        rw [put_mL]; omega
      · rw [e]
        refine ⟨k1, ?_⟩
        show mL (rmb x) + _ ≤ i + 1 + phi t N n sq x
        omega
      · rw [e]
        have k3 := flo_ok hT (L.getD i 0 / 128) (tRp t (L.getD i 0 % 128)) 1 (some (L.getD i 0 % 128)) k1 (show mL (rmb x) + 41 ≤ 2 ^ 20 by omega)
        refine ⟨k3.1, ?_⟩
        generalize hy : ((x.1, x.2.1, rol x.2.2.1 (tRp t (L.getD i 0 % 128)) (272 + o), fs x.2.2.2.1 (tRp t (L.getD i 0 % 128) * 1088 + (272 + o)) (some (L.getD i 0 / 128)), fs x.2.2.2.2.1 (tRp t (L.getD i 0 % 128)) 0, flo t (L.getD i 0 / 128) (tRp t (L.getD i 0 % 128)) 1 (some (L.getD i 0 % 128)) x.2.2.2.2.2) : RS) = y
        have hmb : rmb y = flo t (L.getD i 0 / 128) (tRp t (L.getD i 0 % 128)) 1 (some (L.getD i 0 % 128)) (rmb x) := by rw [← hy]; rfl
        have hH : ∀ u o2, o2 < N → rH y u o2 = if u = tRp t (L.getD i 0 % 128) ∧ o2 = o then some (L.getD i 0 / 128) else rH x u o2 := fun u o2 h2 => by rw [← hy]; exact rH_fs (by omega) (by omega)
        have hphi : phi t N n sq x + tPc t (tRp t (L.getD i 0 % 128)) ≤ phi t N n sq y := by
          unfold phi
          refine ssm_up (k := tRp t (L.getD i 0 % 128)) ?_ hr (fun u hu hne => ?_)
          · (try dsimp only)
            rw [← Nat.mul_succ]
            refine Nat.mul_le_mul_left _ ?_
            rw [Nat.succ_eq_add_one]
            refine ssm_up (d := 1) (k := o) ?_ m3 (fun o2 h2 hne => ?_)
            · (try dsimp only)
              rw [hH _ _ m3, if_pos ⟨rfl, rfl⟩]
              cases hw2 : rH x (tRp t (L.getD i 0 % 128)) o with
              | none => exact rk_pos
              | some w =>
                have k := DB_h hN hDB m3 hr hw2
                refine rk_lt (m4.1.trans k.1.1.symm) ?_
                obtain ⟨h8, h9⟩ := hw w hw2
                rcases Nat.lt_or_ge (cod n sq w) (cod n sq (L.getD i 0 / 128)) with z | z
                · exact z
                · rcases Nat.lt_or_ge (cod n sq (L.getD i 0 / 128)) (cod n sq w) with z2 | z2
                  · rw [(nwr_iff hn (by have := k.1.2.1; omega) (by have := m4.2.1; omega)).mpr z2] at h9; cases h9
                  · exact absurd (cod_inj (sq := sq) hn (k.1.1.trans m4.1.symm) (by have := k.1.2.1; omega) (by have := m4.2.1; omega) (by omega)) h8
            · (try dsimp only)
              rw [hH _ _ h2, if_neg (fun z => hne z.2)]
          · (try dsimp only)
            exact congrArg (tPc t u * ·) (ssm_c (fun o2 h2 => by rw [hH u o2 h2, if_neg (fun z => hne z.1)]))
        rw [hmb]
        omega
    · rw [e]; exact ⟨k1, by omega⟩
