-- ===== PART A: goes FIRST, ahead of the names: the tables' words, and 'selects' of the private methods out of them =====
/-- a private method of a class that the tables say can be made, by its rows of tables_1 -/
def lw_okq (q : MethodName × Nat) : Prop := (q.1.cls ≠ "java/lang/invoke/MethodHandle" ∧ q.1.cls ≠ "java/lang/invoke/VarHandle") ∧ Cond.instantiable q.1.cls q.2 ∈ tables_1 ∧ Cond.privateMethod q.1 ∈ tables_1 ∧ Cond.instanceMethod q.1 ∈ tables_1
theorem lw_p0 : lw_okq (⟨"java/lang/Throwable", "fillInStackTrace", "(I)Ljava/lang/Throwable;"⟩, 6) := ⟨⟨by decide +kernel, by decide +kernel⟩, List.mem_of_getElem? (i := 386) (by decide +kernel), List.mem_of_getElem? (i := 384) (by decide +kernel), List.mem_of_getElem? (i := 385) (by decide +kernel)⟩
theorem lw_p1 : lw_okq (⟨"RoutingDomain", "requireRouter", "(I)V"⟩, 7) := ⟨⟨by decide +kernel, by decide +kernel⟩, List.mem_of_getElem? (i := 22) (by decide +kernel), List.mem_of_getElem? (i := 424) (by decide +kernel), List.mem_of_getElem? (i := 425) (by decide +kernel)⟩
theorem lw_p2 : lw_okq (⟨"RoutingDomain$Topology", "attach", "(IIII)V"⟩, 12) := ⟨⟨by decide +kernel, by decide +kernel⟩, List.mem_of_getElem? (i := 30) (by decide +kernel), List.mem_of_getElem? (i := 478) (by decide +kernel), List.mem_of_getElem? (i := 479) (by decide +kernel)⟩
theorem lw_p3 : lw_okq (⟨"RoutingDomain", "requireLink", "(I)V"⟩, 7) := ⟨⟨by decide +kernel, by decide +kernel⟩, List.mem_of_getElem? (i := 22) (by decide +kernel), List.mem_of_getElem? (i := 486) (by decide +kernel), List.mem_of_getElem? (i := 487) (by decide +kernel)⟩
theorem lw_p4 : lw_okq (⟨"RoutingDomain$Simulator", "receive", "(II)V"⟩, 9) := ⟨⟨by decide +kernel, by decide +kernel⟩, List.mem_of_getElem? (i := 252) (by decide +kernel), List.mem_of_getElem? (i := 557) (by decide +kernel), List.mem_of_getElem? (i := 558) (by decide +kernel)⟩
theorem lw_p5 : lw_okq (⟨"RoutingDomain$Simulator", "flood", "(IIII)V"⟩, 9) := ⟨⟨by decide +kernel, by decide +kernel⟩, List.mem_of_getElem? (i := 252) (by decide +kernel), List.mem_of_getElem? (i := 593) (by decide +kernel), List.mem_of_getElem? (i := 594) (by decide +kernel)⟩
theorem lw_p6 : lw_okq (⟨"RoutingDomain$Simulator", "fillNewLinks", "(I)V"⟩, 9) := ⟨⟨by decide +kernel, by decide +kernel⟩, List.mem_of_getElem? (i := 252) (by decide +kernel), List.mem_of_getElem? (i := 605) (by decide +kernel), List.mem_of_getElem? (i := 606) (by decide +kernel)⟩
theorem lw_p7 : lw_okq (⟨"RoutingDomain$Simulator", "sendDatabase", "(II)V"⟩, 9) := ⟨⟨by decide +kernel, by decide +kernel⟩, List.mem_of_getElem? (i := 252) (by decide +kernel), List.mem_of_getElem? (i := 609) (by decide +kernel), List.mem_of_getElem? (i := 610) (by decide +kernel)⟩
theorem lw_p8 : lw_okq (⟨"RoutingDomain$Simulator", "describeLinks", "(I)V"⟩, 9) := ⟨⟨by decide +kernel, by decide +kernel⟩, List.mem_of_getElem? (i := 252) (by decide +kernel), List.mem_of_getElem? (i := 613) (by decide +kernel), List.mem_of_getElem? (i := 614) (by decide +kernel)⟩
theorem lw_p9 : lw_okq (⟨"RoutingDomain$Simulator", "originate", "(III)V"⟩, 9) := ⟨⟨by decide +kernel, by decide +kernel⟩, List.mem_of_getElem? (i := 252) (by decide +kernel), List.mem_of_getElem? (i := 648) (by decide +kernel), List.mem_of_getElem? (i := 649) (by decide +kernel)⟩
theorem lw_p10 : lw_okq (⟨"RoutingDomain$Simulator", "noteRefresh", "(II)V"⟩, 9) := ⟨⟨by decide +kernel, by decide +kernel⟩, List.mem_of_getElem? (i := 252) (by decide +kernel), List.mem_of_getElem? (i := 652) (by decide +kernel), List.mem_of_getElem? (i := 653) (by decide +kernel)⟩
theorem lw_p11 : lw_okq (⟨"RoutingDomain$Paths", "compute", "(II)V"⟩, 5) := ⟨⟨by decide +kernel, by decide +kernel⟩, List.mem_of_getElem? (i := 156) (by decide +kernel), List.mem_of_getElem? (i := 662) (by decide +kernel), List.mem_of_getElem? (i := 663) (by decide +kernel)⟩
theorem lw_p12 : lw_okq (⟨"RoutingDomain$Paths", "clearRow", "(I)V"⟩, 5) := ⟨⟨by decide +kernel, by decide +kernel⟩, List.mem_of_getElem? (i := 156) (by decide +kernel), List.mem_of_getElem? (i := 669) (by decide +kernel), List.mem_of_getElem? (i := 670) (by decide +kernel)⟩
theorem lw_p13 : lw_okq (⟨"RoutingDomain$Paths", "nearestOpen", "(II)I"⟩, 5) := ⟨⟨by decide +kernel, by decide +kernel⟩, List.mem_of_getElem? (i := 156) (by decide +kernel), List.mem_of_getElem? (i := 673) (by decide +kernel), List.mem_of_getElem? (i := 674) (by decide +kernel)⟩
theorem lw_p14 : lw_okq (⟨"RoutingDomain$Paths", "goOnFrom", "(III)V"⟩, 5) := ⟨⟨by decide +kernel, by decide +kernel⟩, List.mem_of_getElem? (i := 156) (by decide +kernel), List.mem_of_getElem? (i := 677) (by decide +kernel), List.mem_of_getElem? (i := 678) (by decide +kernel)⟩
theorem lw_p15 : lw_okq (⟨"RoutingDomain$Paths", "knownMetric", "(III)I"⟩, 5) := ⟨⟨by decide +kernel, by decide +kernel⟩, List.mem_of_getElem? (i := 156) (by decide +kernel), List.mem_of_getElem? (i := 682) (by decide +kernel), List.mem_of_getElem? (i := 683) (by decide +kernel)⟩
def lw_privs_1 : List (MethodName × Nat) := [(⟨"java/lang/Throwable", "fillInStackTrace", "(I)Ljava/lang/Throwable;"⟩, 6), (⟨"RoutingDomain", "requireRouter", "(I)V"⟩, 7), (⟨"RoutingDomain$Topology", "attach", "(IIII)V"⟩, 12), (⟨"RoutingDomain", "requireLink", "(I)V"⟩, 7), (⟨"RoutingDomain$Simulator", "receive", "(II)V"⟩, 9), (⟨"RoutingDomain$Simulator", "flood", "(IIII)V"⟩, 9), (⟨"RoutingDomain$Simulator", "fillNewLinks", "(I)V"⟩, 9), (⟨"RoutingDomain$Simulator", "sendDatabase", "(II)V"⟩, 9), (⟨"RoutingDomain$Simulator", "describeLinks", "(I)V"⟩, 9), (⟨"RoutingDomain$Simulator", "originate", "(III)V"⟩, 9), (⟨"RoutingDomain$Simulator", "noteRefresh", "(II)V"⟩, 9), (⟨"RoutingDomain$Paths", "compute", "(II)V"⟩, 5), (⟨"RoutingDomain$Paths", "clearRow", "(I)V"⟩, 5), (⟨"RoutingDomain$Paths", "nearestOpen", "(II)I"⟩, 5), (⟨"RoutingDomain$Paths", "goOnFrom", "(III)V"⟩, 5), (⟨"RoutingDomain$Paths", "knownMetric", "(III)I"⟩, 5)]
theorem lw_r1 : ∀ q ∈ lw_privs_1, lw_okq q := List.forall_mem_cons.mpr ⟨lw_p0, List.forall_mem_cons.mpr ⟨lw_p1, List.forall_mem_cons.mpr ⟨lw_p2, List.forall_mem_cons.mpr ⟨lw_p3, List.forall_mem_cons.mpr ⟨lw_p4, List.forall_mem_cons.mpr ⟨lw_p5, List.forall_mem_cons.mpr ⟨lw_p6, List.forall_mem_cons.mpr ⟨lw_p7, List.forall_mem_cons.mpr ⟨lw_p8, List.forall_mem_cons.mpr ⟨lw_p9, List.forall_mem_cons.mpr ⟨lw_p10, List.forall_mem_cons.mpr ⟨lw_p11, List.forall_mem_cons.mpr ⟨lw_p12, List.forall_mem_cons.mpr ⟨lw_p13, List.forall_mem_cons.mpr ⟨lw_p14, List.forall_mem_cons.mpr ⟨lw_p15, fun _ h => absurd h List.not_mem_nil⟩⟩⟩⟩⟩⟩⟩⟩⟩⟩⟩⟩⟩⟩⟩⟩
theorem lw_p16 : lw_okq (⟨"RoutingDomain$Paths", "offer", "(IIJ)V"⟩, 5) := ⟨⟨by decide +kernel, by decide +kernel⟩, List.mem_of_getElem? (i := 156) (by decide +kernel), List.mem_of_getElem? (i := 689) (by decide +kernel), List.mem_of_getElem? (i := 690) (by decide +kernel)⟩
theorem lw_p17 : lw_okq (⟨"RoutingDomain$Routes", "findBest", "(II)I"⟩, 11) := ⟨⟨by decide +kernel, by decide +kernel⟩, List.mem_of_getElem? (i := 183) (by decide +kernel), List.mem_of_getElem? (i := 697) (by decide +kernel), List.mem_of_getElem? (i := 698) (by decide +kernel)⟩
theorem lw_p18 : lw_okq (⟨"RoutingDomain$Routes", "offerAnnouncements", "(III)V"⟩, 11) := ⟨⟨by decide +kernel, by decide +kernel⟩, List.mem_of_getElem? (i := 183) (by decide +kernel), List.mem_of_getElem? (i := 706) (by decide +kernel), List.mem_of_getElem? (i := 707) (by decide +kernel)⟩
theorem lw_p19 : lw_okq (⟨"RoutingDomain$Routes", "offerSummaries", "(III)V"⟩, 11) := ⟨⟨by decide +kernel, by decide +kernel⟩, List.mem_of_getElem? (i := 183) (by decide +kernel), List.mem_of_getElem? (i := 724) (by decide +kernel), List.mem_of_getElem? (i := 725) (by decide +kernel)⟩
theorem lw_p20 : lw_okq (⟨"RoutingDomain$Routes", "differs", "(II)Z"⟩, 11) := ⟨⟨by decide +kernel, by decide +kernel⟩, List.mem_of_getElem? (i := 183) (by decide +kernel), List.mem_of_getElem? (i := 734) (by decide +kernel), List.mem_of_getElem? (i := 735) (by decide +kernel)⟩
theorem lw_p21 : lw_okq (⟨"RoutingDomain$Routes", "store", "(II)V"⟩, 11) := ⟨⟨by decide +kernel, by decide +kernel⟩, List.mem_of_getElem? (i := 183) (by decide +kernel), List.mem_of_getElem? (i := 738) (by decide +kernel), List.mem_of_getElem? (i := 739) (by decide +kernel)⟩
theorem lw_p22 : lw_okq (⟨"RoutingDomain$Simulator", "summarize", "(I)V"⟩, 9) := ⟨⟨by decide +kernel, by decide +kernel⟩, List.mem_of_getElem? (i := 252) (by decide +kernel), List.mem_of_getElem? (i := 743) (by decide +kernel), List.mem_of_getElem? (i := 744) (by decide +kernel)⟩
theorem lw_p23 : lw_okq (⟨"RoutingDomain$Simulator", "isSummaryDue", "(III)Z"⟩, 9) := ⟨⟨by decide +kernel, by decide +kernel⟩, List.mem_of_getElem? (i := 252) (by decide +kernel), List.mem_of_getElem? (i := 752) (by decide +kernel), List.mem_of_getElem? (i := 753) (by decide +kernel)⟩
theorem lw_p24 : lw_okq (⟨"RoutingDomain", "requireAttached", "(II)V"⟩, 7) := ⟨⟨by decide +kernel, by decide +kernel⟩, List.mem_of_getElem? (i := 22) (by decide +kernel), List.mem_of_getElem? (i := 772) (by decide +kernel), List.mem_of_getElem? (i := 773) (by decide +kernel)⟩
theorem lw_p25 : lw_okq (⟨"RoutingDomain$Databases", "forgetKey", "(I)V"⟩, 5) := ⟨⟨by decide +kernel, by decide +kernel⟩, List.mem_of_getElem? (i := 130) (by decide +kernel), List.mem_of_getElem? (i := 874) (by decide +kernel), List.mem_of_getElem? (i := 875) (by decide +kernel)⟩
def lw_privs_2 : List (MethodName × Nat) := [(⟨"RoutingDomain$Paths", "offer", "(IIJ)V"⟩, 5), (⟨"RoutingDomain$Routes", "findBest", "(II)I"⟩, 11), (⟨"RoutingDomain$Routes", "offerAnnouncements", "(III)V"⟩, 11), (⟨"RoutingDomain$Routes", "offerSummaries", "(III)V"⟩, 11), (⟨"RoutingDomain$Routes", "differs", "(II)Z"⟩, 11), (⟨"RoutingDomain$Routes", "store", "(II)V"⟩, 11), (⟨"RoutingDomain$Simulator", "summarize", "(I)V"⟩, 9), (⟨"RoutingDomain$Simulator", "isSummaryDue", "(III)Z"⟩, 9), (⟨"RoutingDomain", "requireAttached", "(II)V"⟩, 7), (⟨"RoutingDomain$Databases", "forgetKey", "(I)V"⟩, 5)]
theorem lw_r2 : ∀ q ∈ lw_privs_2, lw_okq q := List.forall_mem_cons.mpr ⟨lw_p16, List.forall_mem_cons.mpr ⟨lw_p17, List.forall_mem_cons.mpr ⟨lw_p18, List.forall_mem_cons.mpr ⟨lw_p19, List.forall_mem_cons.mpr ⟨lw_p20, List.forall_mem_cons.mpr ⟨lw_p21, List.forall_mem_cons.mpr ⟨lw_p22, List.forall_mem_cons.mpr ⟨lw_p23, List.forall_mem_cons.mpr ⟨lw_p24, List.forall_mem_cons.mpr ⟨lw_p25, fun _ h => absurd h List.not_mem_nil⟩⟩⟩⟩⟩⟩⟩⟩⟩⟩
def lw_privs : List (MethodName × Nat) := lw_privs_1 ++ (lw_privs_2)
def lw_tbl : List Cond := k2_sels lw_privs ++ tables_1
theorem lw_privs_ok : ∀ q ∈ lw_privs, lw_okq q := by
  show ∀ q ∈ lw_privs_1 ++ (lw_privs_2), lw_okq q
  exact List.forall_mem_append.mpr ⟨lw_r1, lw_r2⟩
/-! ===== BEGIN words of one list among another's, by their places ===== -/
theorem goodIn_r {big : List Cond} (ws : List Cond) (ps : List Nat) (hp : ws = ps.filterMap (fun i => big[i]?)) (h : ws.all goodWord = true) : GoodIn big ws := by
  intro w hw
  have h1 := List.all_eq_true.mp h w hw
  rw [hp] at hw
  obtain ⟨i, -, hi⟩ := List.mem_filterMap.mp hw
  have hm : w ∈ big := by first | exact List.mem_of_getElem? hi | exact List.getElem?_mem hi
  exact ⟨hm, good_of_word h1⟩
theorem goodIn_app {big a b : List Cond} (ha : GoodIn big a) (hb : GoodIn big b) : GoodIn big (a ++ b) := fun w h => (List.mem_append.mp h).elim (ha w) (hb w)
theorem goodIn_ca {big a b : List Cond} {c : Cond} (ha : GoodIn big (c :: a)) (hb : GoodIn big b) : GoodIn big (c :: (a ++ b)) := fun w h => (List.mem_cons.mp h).elim (fun e => ha w (List.mem_cons.mpr (Or.inl e))) (fun h => (List.mem_append.mp h).elim (fun h => ha w (List.mem_cons.mpr (Or.inr h))) (hb w))
theorem goodIn_sub {big ws : List Cond} (hm : ∀ w ∈ ws, w ∈ big) (h : ws.all goodWord = true) : GoodIn big ws := fun w hw => ⟨hm w hw, good_of_word (List.all_eq_true.mp h w hw)⟩
/-! ===== END ===== -/
/-! ===== BEGIN printed: names, fields, word lists, decode rows ===== -/
def RX0 : String := "RoutingDomain$Advertisements"
def TX0 : u_T := fun k => match k with
  | 0 => ("RoutingDomain$Advertisements", "now", "I", false)
  | 1 => ("RoutingDomain$Advertisements", "sequences", "[I", true)
  | 2 => ("RoutingDomain$Advertisements", "summaryCosts", "[I", true)
  | 3 => ("RoutingDomain$Advertisements", "listedMetrics", "[I", true)
  | 4 => ("RoutingDomain$Advertisements", "listedCosts", "[I", true)
  | _ => ("RoutingDomain$Advertisements", "topology", "LRoutingDomain$Topology;", true)
def tyX0 : Nat → FieldType := fun k => match k with
  | 0 => .int
  | 1 => .array .int
  | 2 => .array .int
  | 3 => .array .int
  | 4 => .array .int
  | _ => .object "RoutingDomain$Topology"
abbrev wsX00 : List Cond := u_ws RX0 TX0 6
theorem nmX0 : ∀ a, a < 6 → ∀ b, b < 6 → a ≠ b → (TX0 a).2.1 ≠ (TX0 b).2.1 := by decide +kernel
theorem tyX0_ok : ∀ k, k < 6 → parseFieldDescriptor (TX0 k).2.2.1 = some (tyX0 k) := by decide +kernel
abbrev cX0_init : ByteArray := prog_2_method_1_code
def yX0_init : MethodName := ⟨RX0, "<init>", "(LRoutingDomain$Topology;)V"⟩
abbrev cX0_versionMadeNow : ByteArray := prog_2_method_2_code
def yX0_versionMadeNow : MethodName := ⟨RX0, "versionMadeNow", "(I)I"⟩
abbrev cX0_ageOf : ByteArray := prog_2_method_3_code
def yX0_ageOf : MethodName := ⟨RX0, "ageOf", "(I)I"⟩
abbrev cX0_isNewer : ByteArray := prog_2_method_4_code
def yX0_isNewer : MethodName := ⟨RX0, "isNewer", "(II)Z"⟩
abbrev cX0_metricListed : ByteArray := prog_2_method_5_code
def yX0_metricListed : MethodName := ⟨RX0, "metricListed", "(II)I"⟩
abbrev cX0_costListed : ByteArray := prog_2_method_6_code
def yX0_costListed : MethodName := ⟨RX0, "costListed", "(II)I"⟩
abbrev cX0_isUpToDate : ByteArray := prog_2_method_8_code
def yX0_isUpToDate : MethodName := ⟨RX0, "isUpToDate", "(III)Z"⟩
abbrev cX0_describe : ByteArray := prog_2_method_9_code
def yX0_describe : MethodName := ⟨RX0, "describe", "(III)V"⟩
def RX1 : String := "RoutingDomain$Candidates"
def TX1 : u_T := fun k => match k with
  | 0 => ("RoutingDomain$Candidates", "cost", "I", false)
  | 1 => ("RoutingDomain$Candidates", "links", "J", false)
  | 2 => ("RoutingDomain$Candidates", "areas", "I", false)
  | _ => ("RoutingDomain$Candidates", "isLocal", "Z", false)
def tyX1 : Nat → FieldType := fun k => match k with
  | 0 => .int
  | 1 => .long
  | 2 => .int
  | _ => .boolean
abbrev wsX10 : List Cond := u_ws RX1 TX1 4
theorem nmX1 : ∀ a, a < 4 → ∀ b, b < 4 → a ≠ b → (TX1 a).2.1 ≠ (TX1 b).2.1 := by decide +kernel
theorem tyX1_ok : ∀ k, k < 4 → parseFieldDescriptor (TX1 k).2.2.1 = some (tyX1 k) := by decide +kernel
abbrev cX1_init : ByteArray := prog_3_method_1_code
def yX1_init : MethodName := ⟨RX1, "<init>", "()V"⟩
abbrev cX1_clear : ByteArray := prog_3_method_2_code
def yX1_clear : MethodName := ⟨RX1, "clear", "()V"⟩
abbrev cX1_offer : ByteArray := prog_3_method_3_code
def yX1_offer : MethodName := ⟨RX1, "offer", "(IJIZ)V"⟩
def RX2 : String := "RoutingDomain$Databases"
def TX2 : u_T := fun k => match k with
  | 0 => ("RoutingDomain$Databases", "knownSequences", "[I", true)
  | 1 => ("RoutingDomain$Databases", "mustRenew", "[Z", true)
  | 2 => ("RoutingDomain$Databases", "pathsAreOld", "[Z", true)
  | 3 => ("RoutingDomain$Databases", "held", "[I", true)
  | _ => ("RoutingDomain$Databases", "holdersOfSlot", "[I", true)
def tyX2 : Nat → FieldType := fun k => match k with
  | 0 => .array .int
  | 1 => .array .boolean
  | 2 => .array .boolean
  | 3 => .array .int
  | _ => .array .int
abbrev wsX20 : List Cond := u_ws RX2 TX2 5
theorem nmX2 : ∀ a, a < 5 → ∀ b, b < 5 → a ≠ b → (TX2 a).2.1 ≠ (TX2 b).2.1 := by decide +kernel
theorem tyX2_ok : ∀ k, k < 5 → parseFieldDescriptor (TX2 k).2.2.1 = some (tyX2 k) := by decide +kernel
abbrev cX2_init : ByteArray := prog_4_method_1_code
def yX2_init : MethodName := ⟨RX2, "<init>", "()V"⟩
abbrev cX2_versionHeld : ByteArray := prog_4_method_2_code
def yX2_versionHeld : MethodName := ⟨RX2, "versionHeld", "(II)I"⟩
abbrev cX2_holdsSlot : ByteArray := prog_4_method_3_code
def yX2_holdsSlot : MethodName := ⟨RX2, "holdsSlot", "(I)Z"⟩
abbrev cX2_replace : ByteArray := prog_4_method_4_code
def yX2_replace : MethodName := ⟨RX2, "replace", "(III)V"⟩
abbrev cX2_sizeOf : ByteArray := prog_4_method_5_code
def yX2_sizeOf : MethodName := ⟨RX2, "sizeOf", "(II)I"⟩
abbrev cX2_areEqual : ByteArray := prog_4_method_6_code
def yX2_areEqual : MethodName := ⟨RX2, "areEqual", "(III)Z"⟩
abbrev cX2_forget : ByteArray := prog_4_method_7_code
def yX2_forget : MethodName := ⟨RX2, "forget", "(I)V"⟩
abbrev cX2_forgetKey : ByteArray := prog_4_method_8_code
def yX2_forgetKey : MethodName := ⟨RX2, "forgetKey", "(I)V"⟩
def RX3 : String := "RoutingDomain$Mail"
def TX3 : u_T := fun k => match k with
  | 0 => ("RoutingDomain$Mail", "count", "I", false)
  | _ => ("RoutingDomain$Mail", "messages", "[I", false)
def tyX3 : Nat → FieldType := fun k => match k with
  | 0 => .int
  | _ => .array .int
abbrev wsX30 : List Cond := u_ws RX3 TX3 2
theorem nmX3 : ∀ a, a < 2 → ∀ b, b < 2 → a ≠ b → (TX3 a).2.1 ≠ (TX3 b).2.1 := by decide +kernel
theorem tyX3_ok : ∀ k, k < 2 → parseFieldDescriptor (TX3 k).2.2.1 = some (tyX3 k) := by decide +kernel
abbrev cX3_init : ByteArray := prog_5_method_1_code
def yX3_init : MethodName := ⟨RX3, "<init>", "()V"⟩
abbrev cX3_add : ByteArray := prog_5_method_2_code
def yX3_add : MethodName := ⟨RX3, "add", "(II)V"⟩
abbrev cX3_versionAt : ByteArray := prog_5_method_3_code
def yX3_versionAt : MethodName := ⟨RX3, "versionAt", "(I)I"⟩
abbrev cX3_portAt : ByteArray := prog_5_method_4_code
def yX3_portAt : MethodName := ⟨RX3, "portAt", "(I)I"⟩
def RX4 : String := "RoutingDomain$Packet"
def TX4 : u_T := fun k => match k with
  | 0 => ("RoutingDomain$Packet", "count", "I", false)
  | 1 => ("RoutingDomain$Packet", "visited", "[I", true)
  | 2 => ("RoutingDomain$Packet", "topology", "LRoutingDomain$Topology;", true)
  | _ => ("RoutingDomain$Packet", "routes", "LRoutingDomain$Routes;", true)
def tyX4 : Nat → FieldType := fun k => match k with
  | 0 => .int
  | 1 => .array .int
  | 2 => .object "RoutingDomain$Topology"
  | _ => .object "RoutingDomain$Routes"
abbrev wsX40 : List Cond := u_ws RX4 TX4 4
theorem nmX4 : ∀ a, a < 4 → ∀ b, b < 4 → a ≠ b → (TX4 a).2.1 ≠ (TX4 b).2.1 := by decide +kernel
theorem tyX4_ok : ∀ k, k < 4 → parseFieldDescriptor (TX4 k).2.2.1 = some (tyX4 k) := by decide +kernel
abbrev cX4_init : ByteArray := prog_6_method_1_code
def yX4_init : MethodName := ⟨RX4, "<init>", "(LRoutingDomain$Topology;LRoutingDomain$Routes;)V"⟩
abbrev cX4_follow : ByteArray := prog_6_method_2_code
def yX4_follow : MethodName := ⟨RX4, "follow", "(II)I"⟩
def RX5 : String := "RoutingDomain$Paths"
def TX5 : u_T := fun k => match k with
  | 0 => ("RoutingDomain$Paths", "distances", "[I", true)
  | 1 => ("RoutingDomain$Paths", "firstLinks", "[J", true)
  | 2 => ("RoutingDomain$Paths", "topology", "LRoutingDomain$Topology;", true)
  | 3 => ("RoutingDomain$Paths", "advertisements", "LRoutingDomain$Advertisements;", true)
  | _ => ("RoutingDomain$Paths", "databases", "LRoutingDomain$Databases;", true)
def tyX5 : Nat → FieldType := fun k => match k with
  | 0 => .array .int
  | 1 => .array .long
  | 2 => .object "RoutingDomain$Topology"
  | 3 => .object "RoutingDomain$Advertisements"
  | _ => .object "RoutingDomain$Databases"
abbrev wsX50 : List Cond := u_ws RX5 TX5 5
theorem nmX5 : ∀ a, a < 5 → ∀ b, b < 5 → a ≠ b → (TX5 a).2.1 ≠ (TX5 b).2.1 := by decide +kernel
theorem tyX5_ok : ∀ k, k < 5 → parseFieldDescriptor (TX5 k).2.2.1 = some (tyX5 k) := by decide +kernel
abbrev cX5_init : ByteArray := prog_7_method_1_code
def yX5_init : MethodName := ⟨RX5, "<init>", "(LRoutingDomain$Topology;LRoutingDomain$Advertisements;LRoutingDomain$Databases;)V"⟩
abbrev cX5_forget : ByteArray := prog_7_method_2_code
def yX5_forget : MethodName := ⟨RX5, "forget", "(I)V"⟩
abbrev cX5_clearRow : ByteArray := prog_7_method_3_code
def yX5_clearRow : MethodName := ⟨RX5, "clearRow", "(I)V"⟩
abbrev cX5_computeIfOld : ByteArray := prog_7_method_4_code
def yX5_computeIfOld : MethodName := ⟨RX5, "computeIfOld", "(I)V"⟩
abbrev cX5_compute : ByteArray := prog_7_method_5_code
def yX5_compute : MethodName := ⟨RX5, "compute", "(II)V"⟩
abbrev cX5_nearestOpen : ByteArray := prog_7_method_6_code
def yX5_nearestOpen : MethodName := ⟨RX5, "nearestOpen", "(II)I"⟩
abbrev cX5_goOnFrom : ByteArray := prog_7_method_7_code
def yX5_goOnFrom : MethodName := ⟨RX5, "goOnFrom", "(III)V"⟩
abbrev cX5_knownMetric : ByteArray := prog_7_method_8_code
def yX5_knownMetric : MethodName := ⟨RX5, "knownMetric", "(III)I"⟩
abbrev cX5_offer : ByteArray := prog_7_method_9_code
def yX5_offer : MethodName := ⟨RX5, "offer", "(IIJ)V"⟩
def RX6 : String := "RoutingDomain$Routes"
def TX6 : u_T := fun k => match k with
  | 0 => ("RoutingDomain$Routes", "kinds", "[I", true)
  | 1 => ("RoutingDomain$Routes", "costs", "[I", true)
  | 2 => ("RoutingDomain$Routes", "links", "[J", true)
  | 3 => ("RoutingDomain$Routes", "locals", "[Z", true)
  | 4 => ("RoutingDomain$Routes", "changes", "[I", true)
  | 5 => ("RoutingDomain$Routes", "areas", "[I", true)
  | 6 => ("RoutingDomain$Routes", "best", "LRoutingDomain$Candidates;", true)
  | 7 => ("RoutingDomain$Routes", "topology", "LRoutingDomain$Topology;", true)
  | 8 => ("RoutingDomain$Routes", "advertisements", "LRoutingDomain$Advertisements;", true)
  | 9 => ("RoutingDomain$Routes", "databases", "LRoutingDomain$Databases;", true)
  | _ => ("RoutingDomain$Routes", "paths", "LRoutingDomain$Paths;", true)
def tyX6 : Nat → FieldType := fun k => match k with
  | 0 => .array .int
  | 1 => .array .int
  | 2 => .array .long
  | 3 => .array .boolean
  | 4 => .array .int
  | 5 => .array .int
  | 6 => .object "RoutingDomain$Candidates"
  | 7 => .object "RoutingDomain$Topology"
  | 8 => .object "RoutingDomain$Advertisements"
  | 9 => .object "RoutingDomain$Databases"
  | _ => .object "RoutingDomain$Paths"
abbrev wsX60 : List Cond := u_ws RX6 TX6 11
theorem nmX6 : ∀ a, a < 11 → ∀ b, b < 11 → a ≠ b → (TX6 a).2.1 ≠ (TX6 b).2.1 := by decide +kernel
theorem tyX6_ok : ∀ k, k < 11 → parseFieldDescriptor (TX6 k).2.2.1 = some (tyX6 k) := by decide +kernel
abbrev cX6_init : ByteArray := prog_8_method_1_code
def yX6_init : MethodName := ⟨RX6, "<init>", "(LRoutingDomain$Topology;LRoutingDomain$Advertisements;LRoutingDomain$Databases;LRoutingDomain$Paths;)V"⟩
abbrev cX6_forget : ByteArray := prog_8_method_2_code
def yX6_forget : MethodName := ⟨RX6, "forget", "(I)V"⟩
abbrev cX6_compute : ByteArray := prog_8_method_3_code
def yX6_compute : MethodName := ⟨RX6, "compute", "(I)V"⟩
abbrev cX6_findBest : ByteArray := prog_8_method_4_code
def yX6_findBest : MethodName := ⟨RX6, "findBest", "(II)I"⟩
abbrev cX6_offerAnnouncements : ByteArray := prog_8_method_5_code
def yX6_offerAnnouncements : MethodName := ⟨RX6, "offerAnnouncements", "(III)V"⟩
abbrev cX6_offerSummaries : ByteArray := prog_8_method_6_code
def yX6_offerSummaries : MethodName := ⟨RX6, "offerSummaries", "(III)V"⟩
abbrev cX6_differs : ByteArray := prog_8_method_7_code
def yX6_differs : MethodName := ⟨RX6, "differs", "(II)Z"⟩
abbrev cX6_store : ByteArray := prog_8_method_8_code
def yX6_store : MethodName := ⟨RX6, "store", "(II)V"⟩
abbrev cX6_costToTell : ByteArray := prog_8_method_9_code
def yX6_costToTell : MethodName := ⟨RX6, "costToTell", "(III)I"⟩
def RX7 : String := "RoutingDomain$Simulator"
def TX7 : u_T := fun k => match k with
  | 0 => ("RoutingDomain$Simulator", "lostCount", "I", false)
  | 1 => ("RoutingDomain$Simulator", "sent", "LRoutingDomain$Mail;", false)
  | 2 => ("RoutingDomain$Simulator", "arriving", "LRoutingDomain$Mail;", false)
  | 3 => ("RoutingDomain$Simulator", "nextWork", "[I", true)
  | 4 => ("RoutingDomain$Simulator", "topology", "LRoutingDomain$Topology;", true)
  | 5 => ("RoutingDomain$Simulator", "advertisements", "LRoutingDomain$Advertisements;", true)
  | 6 => ("RoutingDomain$Simulator", "databases", "LRoutingDomain$Databases;", true)
  | 7 => ("RoutingDomain$Simulator", "paths", "LRoutingDomain$Paths;", true)
  | _ => ("RoutingDomain$Simulator", "routes", "LRoutingDomain$Routes;", true)
def tyX7 : Nat → FieldType := fun k => match k with
  | 0 => .int
  | 1 => .object "RoutingDomain$Mail"
  | 2 => .object "RoutingDomain$Mail"
  | 3 => .array .int
  | 4 => .object "RoutingDomain$Topology"
  | 5 => .object "RoutingDomain$Advertisements"
  | 6 => .object "RoutingDomain$Databases"
  | 7 => .object "RoutingDomain$Paths"
  | _ => .object "RoutingDomain$Routes"
abbrev wsX70 : List Cond := u_ws RX7 TX7 9
theorem nmX7 : ∀ a, a < 9 → ∀ b, b < 9 → a ≠ b → (TX7 a).2.1 ≠ (TX7 b).2.1 := by decide +kernel
theorem tyX7_ok : ∀ k, k < 9 → parseFieldDescriptor (TX7 k).2.2.1 = some (tyX7 k) := by decide +kernel
abbrev cX7_init : ByteArray := prog_9_method_1_code
def yX7_init : MethodName := ⟨RX7, "<init>", "(LRoutingDomain$Topology;LRoutingDomain$Advertisements;LRoutingDomain$Databases;LRoutingDomain$Paths;LRoutingDomain$Routes;)V"⟩
abbrev cX7_wakeAll : ByteArray := prog_9_method_2_code
def yX7_wakeAll : MethodName := ⟨RX7, "wakeAll", "()V"⟩
abbrev cX7_removeExpired : ByteArray := prog_9_method_3_code
def yX7_removeExpired : MethodName := ⟨RX7, "removeExpired", "()V"⟩
abbrev cX7_deliverMail : ByteArray := prog_9_method_4_code
def yX7_deliverMail : MethodName := ⟨RX7, "deliverMail", "()I"⟩
abbrev cX7_receive : ByteArray := prog_9_method_5_code
def yX7_receive : MethodName := ⟨RX7, "receive", "(II)V"⟩
abbrev cX7_originatorOf : ByteArray := prog_9_method_6_code
def yX7_originatorOf : MethodName := ⟨RX7, "originatorOf", "(II)I"⟩
abbrev cX7_flood : ByteArray := prog_9_method_7_code
def yX7_flood : MethodName := ⟨RX7, "flood", "(IIII)V"⟩
abbrev cX7_letRoutersAct : ByteArray := prog_9_method_8_code
def yX7_letRoutersAct : MethodName := ⟨RX7, "letRoutersAct", "()V"⟩
abbrev cX7_fillNewLinks : ByteArray := prog_9_method_9_code
def yX7_fillNewLinks : MethodName := ⟨RX7, "fillNewLinks", "(I)V"⟩
abbrev cX7_sendDatabase : ByteArray := prog_9_method_10_code
def yX7_sendDatabase : MethodName := ⟨RX7, "sendDatabase", "(II)V"⟩
abbrev cX7_describeLinks : ByteArray := prog_9_method_11_code
def yX7_describeLinks : MethodName := ⟨RX7, "describeLinks", "(I)V"⟩
abbrev cX7_summarize : ByteArray := prog_9_method_12_code
def yX7_summarize : MethodName := ⟨RX7, "summarize", "(I)V"⟩
abbrev cX7_isSummaryDue : ByteArray := prog_9_method_13_code
def yX7_isSummaryDue : MethodName := ⟨RX7, "isSummaryDue", "(III)Z"⟩
abbrev cX7_noteRefresh : ByteArray := prog_9_method_14_code
def yX7_noteRefresh : MethodName := ⟨RX7, "noteRefresh", "(II)V"⟩
abbrev cX7_originate : ByteArray := prog_9_method_15_code
def yX7_originate : MethodName := ⟨RX7, "originate", "(III)V"⟩
def RX8 : String := "RoutingDomain$Topology"
def TX8 : u_T := fun k => match k with
  | 0 => ("RoutingDomain$Topology", "routerCount", "I", false)
  | 1 => ("RoutingDomain$Topology", "linkCount", "I", false)
  | 2 => ("RoutingDomain$Topology", "isRouterUp", "[Z", true)
  | 3 => ("RoutingDomain$Topology", "isLinkUp", "[Z", true)
  | 4 => ("RoutingDomain$Topology", "wasUsable", "[Z", true)
  | 5 => ("RoutingDomain$Topology", "areaOfLink", "[I", true)
  | 6 => ("RoutingDomain$Topology", "routerOfPort", "[I", true)
  | 7 => ("RoutingDomain$Topology", "metricOfPort", "[I", true)
  | 8 => ("RoutingDomain$Topology", "portCount", "[I", true)
  | 9 => ("RoutingDomain$Topology", "announced", "[I", true)
  | 10 => ("RoutingDomain$Topology", "ports", "[I", true)
  | _ => ("RoutingDomain$Topology", "attached", "[Z", true)
def tyX8 : Nat → FieldType := fun k => match k with
  | 0 => .int
  | 1 => .int
  | 2 => .array .boolean
  | 3 => .array .boolean
  | 4 => .array .boolean
  | 5 => .array .int
  | 6 => .array .int
  | 7 => .array .int
  | 8 => .array .int
  | 9 => .array .int
  | 10 => .array .int
  | _ => .array .boolean
abbrev wsX80 : List Cond := u_ws RX8 TX8 12
theorem nmX8 : ∀ a, a < 12 → ∀ b, b < 12 → a ≠ b → (TX8 a).2.1 ≠ (TX8 b).2.1 := by decide +kernel
theorem tyX8_ok : ∀ k, k < 12 → parseFieldDescriptor (TX8 k).2.2.1 = some (tyX8 k) := by decide +kernel
abbrev cX8_init : ByteArray := prog_10_method_1_code
def yX8_init : MethodName := ⟨RX8, "<init>", "()V"⟩
abbrev cX8_createRouter : ByteArray := prog_10_method_2_code
def yX8_createRouter : MethodName := ⟨RX8, "createRouter", "()I"⟩
abbrev cX8_createLink : ByteArray := prog_10_method_3_code
def yX8_createLink : MethodName := ⟨RX8, "createLink", "(IIIII)I"⟩
abbrev cX8_attach : ByteArray := prog_10_method_4_code
def yX8_attach : MethodName := ⟨RX8, "attach", "(IIII)V"⟩
abbrev cX8_switchLink : ByteArray := prog_10_method_5_code
def yX8_switchLink : MethodName := ⟨RX8, "switchLink", "(IZ)Z"⟩
abbrev cX8_switchRouter : ByteArray := prog_10_method_6_code
def yX8_switchRouter : MethodName := ⟨RX8, "switchRouter", "(IZ)Z"⟩
abbrev cX8_portAt : ByteArray := prog_10_method_7_code
def yX8_portAt : MethodName := ⟨RX8, "portAt", "(II)I"⟩
abbrev cX8_canCarry : ByteArray := prog_10_method_8_code
def yX8_canCarry : MethodName := ⟨RX8, "canCarry", "(I)Z"⟩
abbrev cX8_touches : ByteArray := prog_10_method_9_code
def yX8_touches : MethodName := ⟨RX8, "touches", "(II)Z"⟩
abbrev cX8_joinsAreas : ByteArray := prog_10_method_10_code
def yX8_joinsAreas : MethodName := ⟨RX8, "joinsAreas", "(I)Z"⟩
abbrev cX8_announcementAt : ByteArray := prog_10_method_11_code
def yX8_announcementAt : MethodName := ⟨RX8, "announcementAt", "(III)I"⟩
abbrev cX8_metricToList : ByteArray := prog_10_method_12_code
def yX8_metricToList : MethodName := ⟨RX8, "metricToList", "(I)I"⟩
abbrev cX8_rememberUsableLinks : ByteArray := prog_10_method_13_code
def yX8_rememberUsableLinks : MethodName := ⟨RX8, "rememberUsableLinks", "()V"⟩
def RX9 : String := "RoutingDomain"
def TX9 : u_T := fun k => match k with
  | 0 => ("RoutingDomain", "topology", "LRoutingDomain$Topology;", true)
  | 1 => ("RoutingDomain", "advertisements", "LRoutingDomain$Advertisements;", true)
  | 2 => ("RoutingDomain", "databases", "LRoutingDomain$Databases;", true)
  | 3 => ("RoutingDomain", "paths", "LRoutingDomain$Paths;", true)
  | 4 => ("RoutingDomain", "routes", "LRoutingDomain$Routes;", true)
  | 5 => ("RoutingDomain", "simulator", "LRoutingDomain$Simulator;", true)
  | _ => ("RoutingDomain", "packet", "LRoutingDomain$Packet;", true)
def tyX9 : Nat → FieldType := fun k => match k with
  | 0 => .object "RoutingDomain$Topology"
  | 1 => .object "RoutingDomain$Advertisements"
  | 2 => .object "RoutingDomain$Databases"
  | 3 => .object "RoutingDomain$Paths"
  | 4 => .object "RoutingDomain$Routes"
  | 5 => .object "RoutingDomain$Simulator"
  | _ => .object "RoutingDomain$Packet"
abbrev wsX90 : List Cond := u_ws RX9 TX9 7
theorem nmX9 : ∀ a, a < 7 → ∀ b, b < 7 → a ≠ b → (TX9 a).2.1 ≠ (TX9 b).2.1 := by decide +kernel
theorem tyX9_ok : ∀ k, k < 7 → parseFieldDescriptor (TX9 k).2.2.1 = some (tyX9 k) := by decide +kernel
abbrev cX9_init : ByteArray := prog_1_method_1_code
def yX9_init : MethodName := ⟨RX9, "<init>", "()V"⟩
abbrev cX9_addRouter : ByteArray := prog_1_method_2_code
def yX9_addRouter : MethodName := ⟨RX9, "addRouter", "()I"⟩
abbrev cX9_addLink : ByteArray := prog_1_method_3_code
def yX9_addLink : MethodName := ⟨RX9, "addLink", "(IIIII)I"⟩
abbrev cX9_setLink : ByteArray := prog_1_method_4_code
def yX9_setLink : MethodName := ⟨RX9, "setLink", "(IZ)Z"⟩
abbrev cX9_setMetric : ByteArray := prog_1_method_5_code
def yX9_setMetric : MethodName := ⟨RX9, "setMetric", "(III)I"⟩
abbrev cX9_setRouter : ByteArray := prog_1_method_6_code
def yX9_setRouter : MethodName := ⟨RX9, "setRouter", "(IZ)Z"⟩
abbrev cX9_announce : ByteArray := prog_1_method_7_code
def yX9_announce : MethodName := ⟨RX9, "announce", "(IIII)I"⟩
abbrev cX9_routerCount : ByteArray := prog_1_method_9_code
def yX9_routerCount : MethodName := ⟨RX9, "routerCount", "()I"⟩
abbrev cX9_linkCount : ByteArray := prog_1_method_10_code
def yX9_linkCount : MethodName := ⟨RX9, "linkCount", "()I"⟩
abbrev cX9_isUsable : ByteArray := prog_1_method_11_code
def yX9_isUsable : MethodName := ⟨RX9, "isUsable", "(I)Z"⟩
abbrev cX9_tick : ByteArray := prog_1_method_13_code
def yX9_tick : MethodName := ⟨RX9, "tick", "(I)I"⟩
abbrev cX9_clock : ByteArray := prog_1_method_14_code
def yX9_clock : MethodName := ⟨RX9, "clock", "()I"⟩
abbrev cX9_inFlight : ByteArray := prog_1_method_15_code
def yX9_inFlight : MethodName := ⟨RX9, "inFlight", "()I"⟩
abbrev cX9_databaseSize : ByteArray := prog_1_method_17_code
def yX9_databaseSize : MethodName := ⟨RX9, "databaseSize", "(II)I"⟩
abbrev cX9_agree : ByteArray := prog_1_method_21_code
def yX9_agree : MethodName := ⟨RX9, "agree", "(III)Z"⟩
abbrev cX9_distance : ByteArray := prog_1_method_22_code
def yX9_distance : MethodName := ⟨RX9, "distance", "(III)I"⟩
abbrev cX9_routeKind : ByteArray := prog_1_method_25_code
def yX9_routeKind : MethodName := ⟨RX9, "routeKind", "(II)I"⟩
abbrev cX9_routeCost : ByteArray := prog_1_method_26_code
def yX9_routeCost : MethodName := ⟨RX9, "routeCost", "(II)I"⟩
abbrev cX9_trace : ByteArray := prog_1_method_31_code
def yX9_trace : MethodName := ⟨RX9, "trace", "(II)I"⟩
abbrev cX9_requireRouter : ByteArray := prog_1_method_37_code
def yX9_requireRouter : MethodName := ⟨RX9, "requireRouter", "(I)V"⟩
abbrev cX9_requireLink : ByteArray := prog_1_method_38_code
def yX9_requireLink : MethodName := ⟨RX9, "requireLink", "(I)V"⟩
abbrev cX9_requireAttached : ByteArray := prog_1_method_39_code
def yX9_requireAttached : MethodName := ⟨RX9, "requireAttached", "(II)V"⟩
abbrev cX9_requireNetwork : ByteArray := prog_1_method_40_code
def yX9_requireNetwork : MethodName := ⟨RX9, "requireNetwork", "(I)V"⟩
abbrev cX9_requireMetric : ByteArray := prog_1_method_41_code
def yX9_requireMetric : MethodName := ⟨RX9, "requireMetric", "(I)V"⟩
abbrev cX9_isArea : ByteArray := prog_1_method_42_code
def yX9_isArea : MethodName := ⟨RX9, "isArea", "(I)Z"⟩
abbrev cX9_routerKey : ByteArray := prog_1_method_43_code
def yX9_routerKey : MethodName := ⟨RX9, "routerKey", "(II)I"⟩
abbrev cX9_summaryKey : ByteArray := prog_1_method_44_code
def yX9_summaryKey : MethodName := ⟨RX9, "summaryKey", "(III)I"⟩
abbrev cX9_rowOfPaths : ByteArray := prog_1_method_45_code
def yX9_rowOfPaths : MethodName := ⟨RX9, "rowOfPaths", "(II)I"⟩
abbrev cX9_routeAt : ByteArray := prog_1_method_46_code
def yX9_routeAt : MethodName := ⟨RX9, "routeAt", "(II)I"⟩
abbrev cX9_linkAt : ByteArray := prog_1_method_47_code
def yX9_linkAt : MethodName := ⟨RX9, "linkAt", "(JI)I"⟩
def RX10 : String := "RoutingDomainModel"
def TX10 : u_T := fun k => match k with
  | _ => ("", "", "", false)
def tyX10 : Nat → FieldType := fun k => match k with
  | _ => .int
abbrev wsX100 : List Cond := u_ws RX10 TX10 0
theorem nmX10 : ∀ a, a < 0 → ∀ b, b < 0 → a ≠ b → (TX10 a).2.1 ≠ (TX10 b).2.1 := by decide +kernel
theorem tyX10_ok : ∀ k, k < 0 → parseFieldDescriptor (TX10 k).2.2.1 = some (tyX10 k) := by decide +kernel
def RJx145de : String := "java/io/Serializable"
def TJx145de : u_T := fun k => match k with
  | _ => ("", "", "", false)
def tyJx145de : Nat → FieldType := fun k => match k with
  | _ => .int
abbrev wsJx145de0 : List Cond := u_ws RJx145de TJx145de 0
theorem nmJx145de : ∀ a, a < 0 → ∀ b, b < 0 → a ≠ b → (TJx145de a).2.1 ≠ (TJx145de b).2.1 := by decide +kernel
theorem tyJx145de_ok : ∀ k, k < 0 → parseFieldDescriptor (TJx145de k).2.2.1 = some (tyJx145de k) := by decide +kernel
def RJx8e188 : String := "java/lang/Cloneable"
def TJx8e188 : u_T := fun k => match k with
  | _ => ("", "", "", false)
def tyJx8e188 : Nat → FieldType := fun k => match k with
  | _ => .int
abbrev wsJx8e1880 : List Cond := u_ws RJx8e188 TJx8e188 0
theorem nmJx8e188 : ∀ a, a < 0 → ∀ b, b < 0 → a ≠ b → (TJx8e188 a).2.1 ≠ (TJx8e188 b).2.1 := by decide +kernel
theorem tyJx8e188_ok : ∀ k, k < 0 → parseFieldDescriptor (TJx8e188 k).2.2.1 = some (tyJx8e188 k) := by decide +kernel
def RJ9 : String := "java/lang/Math"
def TJ9 : u_T := fun k => match k with
  | _ => ("", "", "", false)
def tyJ9 : Nat → FieldType := fun k => match k with
  | _ => .int
abbrev wsJ90 : List Cond := u_ws RJ9 TJ9 0
theorem nmJ9 : ∀ a, a < 0 → ∀ b, b < 0 → a ≠ b → (TJ9 a).2.1 ≠ (TJ9 b).2.1 := by decide +kernel
theorem tyJ9_ok : ∀ k, k < 0 → parseFieldDescriptor (TJ9 k).2.2.1 = some (tyJ9 k) := by decide +kernel
abbrev cJ9_max_7cf53 : ByteArray := prog_19_method_65_code
def yJ9_max_7cf53 : MethodName := ⟨RJ9, "max", "(II)I"⟩
abbrev cJ9_min_7cf53 : ByteArray := prog_19_method_69_code
def yJ9_min_7cf53 : MethodName := ⟨RJ9, "min", "(II)I"⟩
def RJ0 : String := "java/lang/String"
def TJ0 : u_T := fun k => match k with
  | _ => ("", "", "", false)
def tyJ0 : Nat → FieldType := fun k => match k with
  | _ => .int
abbrev wsJ00 : List Cond := u_ws RJ0 TJ0 0
theorem nmJ0 : ∀ a, a < 0 → ∀ b, b < 0 → a ≠ b → (TJ0 a).2.1 ≠ (TJ0 b).2.1 := by decide +kernel
theorem tyJ0_ok : ∀ k, k < 0 → parseFieldDescriptor (TJ0 k).2.2.1 = some (tyJ0 k) := by decide +kernel
def RJ10 : String := "java/lang/System"
def TJ10 : u_T := fun k => match k with
  | _ => ("", "", "", false)
def tyJ10 : Nat → FieldType := fun k => match k with
  | _ => .int
abbrev wsJ100 : List Cond := u_ws RJ10 TJ10 0
theorem nmJ10 : ∀ a, a < 0 → ∀ b, b < 0 → a ≠ b → (TJ10 a).2.1 ≠ (TJ10 b).2.1 := by decide +kernel
theorem tyJ10_ok : ∀ k, k < 0 → parseFieldDescriptor (TJ10 k).2.2.1 = some (tyJ10 k) := by decide +kernel
def RJ7 : String := "java/util/Arrays"
def TJ7 : u_T := fun k => match k with
  | _ => ("", "", "", false)
def tyJ7 : Nat → FieldType := fun k => match k with
  | _ => .int
abbrev wsJ70 : List Cond := u_ws RJ7 TJ7 0
theorem nmJ7 : ∀ a, a < 0 → ∀ b, b < 0 → a ≠ b → (TJ7 a).2.1 ≠ (TJ7 b).2.1 := by decide +kernel
theorem tyJ7_ok : ∀ k, k < 0 → parseFieldDescriptor (TJ7 k).2.2.1 = some (tyJ7 k) := by decide +kernel
abbrev cJ7_fill_53178 : ByteArray := prog_24_method_103_code
def yJ7_fill_53178 : MethodName := ⟨RJ7, "fill", "([II)V"⟩
abbrev cJ7_copyOf_59c91 : ByteArray := prog_24_method_123_code
def yJ7_copyOf_59c91 : MethodName := ⟨RJ7, "copyOf", "([II)[I"⟩
def RL : String := "RoutingDomainLaw"
abbrev cL_below : ByteArray := method_2_code
def yL_below : MethodName := ⟨RL, "below", "(II)I"⟩
abbrev cL_cell : ByteArray := method_3_code
def yL_cell : MethodName := ⟨RL, "cell", "([II)I"⟩
abbrev cL_act : ByteArray := method_4_code
def yL_act : MethodName := ⟨RL, "act", "(LRoutingDomain;I)V"⟩
abbrev cL_law : ByteArray := code
def yL_law : MethodName := ⟨RL, "law", "([I)Z"⟩
abbrev vwCl : List vw_C := [(RX0, TX0, 6), (RX1, TX1, 4), (RX2, TX2, 5), (RX3, TX3, 2), (RX4, TX4, 4), (RX5, TX5, 5), (RX6, TX6, 11), (RX7, TX7, 9), (RX8, TX8, 12), (RX9, TX9, 7)]
