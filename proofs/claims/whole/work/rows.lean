section
/-- a private method of a class that the tables say can be made, by its rows of tables_1 -/
def lw_okq (q : MethodName × Nat) : Prop := (q.1.cls ≠ "java/lang/invoke/MethodHandle" ∧ q.1.cls ≠ "java/lang/invoke/VarHandle") ∧ Cond.instantiable q.1.cls q.2 ∈ tables_1 ∧ Cond.privateMethod q.1 ∈ tables_1 ∧ Cond.instanceMethod q.1 ∈ tables_1
theorem lw_p0 : lw_okq (⟨"WeakTableHeap", "occupyNext", "(II)I"⟩, 4) := ⟨⟨by decide +kernel, by decide +kernel⟩, List.mem_of_getElem? (i := 12) (by decide +kernel), List.mem_of_getElem? (i := 145) (by decide +kernel), List.mem_of_getElem? (i := 146) (by decide +kernel)⟩
theorem lw_p1 : lw_okq (⟨"WeakTableHeap", "markFromRoots", "()V"⟩, 4) := ⟨⟨by decide +kernel, by decide +kernel⟩, List.mem_of_getElem? (i := 12) (by decide +kernel), List.mem_of_getElem? (i := 284) (by decide +kernel), List.mem_of_getElem? (i := 285) (by decide +kernel)⟩
theorem lw_p2 : lw_okq (⟨"WeakTableHeap$Marking", "markWithFields", "(LWeakTableHeap$State;I)V"⟩, 4) := ⟨⟨by decide +kernel, by decide +kernel⟩, List.mem_of_getElem? (i := 106) (by decide +kernel), List.mem_of_getElem? (i := 298) (by decide +kernel), List.mem_of_getElem? (i := 299) (by decide +kernel)⟩
theorem lw_p3 : lw_okq (⟨"WeakTableHeap$Marking", "markable", "(I)I"⟩, 4) := ⟨⟨by decide +kernel, by decide +kernel⟩, List.mem_of_getElem? (i := 106) (by decide +kernel), List.mem_of_getElem? (i := 302) (by decide +kernel), List.mem_of_getElem? (i := 303) (by decide +kernel)⟩
theorem lw_p4 : lw_okq (⟨"WeakTableHeap$Marking", "number", "(I)V"⟩, 4) := ⟨⟨by decide +kernel, by decide +kernel⟩, List.mem_of_getElem? (i := 106) (by decide +kernel), List.mem_of_getElem? (i := 306) (by decide +kernel), List.mem_of_getElem? (i := 307) (by decide +kernel)⟩
theorem lw_p5 : lw_okq (⟨"WeakTableHeap$State", "fieldTargetsOf", "(I)I"⟩, 9) := ⟨⟨by decide +kernel, by decide +kernel⟩, List.mem_of_getElem? (i := 20) (by decide +kernel), List.mem_of_getElem? (i := 315) (by decide +kernel), List.mem_of_getElem? (i := 316) (by decide +kernel)⟩
theorem lw_p6 : lw_okq (⟨"WeakTableHeap$State", "valuesOfEntriesOf", "(II)I"⟩, 9) := ⟨⟨by decide +kernel, by decide +kernel⟩, List.mem_of_getElem? (i := 20) (by decide +kernel), List.mem_of_getElem? (i := 323) (by decide +kernel), List.mem_of_getElem? (i := 324) (by decide +kernel)⟩
theorem lw_p7 : lw_okq (⟨"WeakTableHeap", "markFromRootsAnd", "(I)V"⟩, 4) := ⟨⟨by decide +kernel, by decide +kernel⟩, List.mem_of_getElem? (i := 12) (by decide +kernel), List.mem_of_getElem? (i := 346) (by decide +kernel), List.mem_of_getElem? (i := 347) (by decide +kernel)⟩
theorem lw_p8 : lw_okq (⟨"WeakTableHeap$State", "announceEntriesWithoutKey", "(II)V"⟩, 9) := ⟨⟨by decide +kernel, by decide +kernel⟩, List.mem_of_getElem? (i := 20) (by decide +kernel), List.mem_of_getElem? (i := 354) (by decide +kernel), List.mem_of_getElem? (i := 355) (by decide +kernel)⟩
theorem lw_p9 : lw_okq (⟨"WeakTableHeapModel", "copyState", "(II)V"⟩, 5) := ⟨⟨by decide +kernel, by decide +kernel⟩, List.mem_of_getElem? (i := 447) (by decide +kernel), List.mem_of_getElem? (i := 474) (by decide +kernel), List.mem_of_getElem? (i := 475) (by decide +kernel)⟩
theorem lw_p10 : lw_okq (⟨"WeakTableHeapModel", "isAllocated", "(I)Z"⟩, 5) := ⟨⟨by decide +kernel, by decide +kernel⟩, List.mem_of_getElem? (i := 447) (by decide +kernel), List.mem_of_getElem? (i := 493) (by decide +kernel), List.mem_of_getElem? (i := 494) (by decide +kernel)⟩
theorem lw_p11 : lw_okq (⟨"WeakTableHeapModel", "part", "(II)I"⟩, 5) := ⟨⟨by decide +kernel, by decide +kernel⟩, List.mem_of_getElem? (i := 447) (by decide +kernel), List.mem_of_getElem? (i := 497) (by decide +kernel), List.mem_of_getElem? (i := 498) (by decide +kernel)⟩
theorem lw_p12 : lw_okq (⟨"WeakTableHeapModel", "make", "(II)I"⟩, 5) := ⟨⟨by decide +kernel, by decide +kernel⟩, List.mem_of_getElem? (i := 447) (by decide +kernel), List.mem_of_getElem? (i := 509) (by decide +kernel), List.mem_of_getElem? (i := 510) (by decide +kernel)⟩
theorem lw_p13 : lw_okq (⟨"WeakTableHeapModel", "saveState", "()V"⟩, 5) := ⟨⟨by decide +kernel, by decide +kernel⟩, List.mem_of_getElem? (i := 447) (by decide +kernel), List.mem_of_getElem? (i := 513) (by decide +kernel), List.mem_of_getElem? (i := 514) (by decide +kernel)⟩
theorem lw_p14 : lw_okq (⟨"WeakTableHeapModel", "isKind", "(II)Z"⟩, 5) := ⟨⟨by decide +kernel, by decide +kernel⟩, List.mem_of_getElem? (i := 447) (by decide +kernel), List.mem_of_getElem? (i := 533) (by decide +kernel), List.mem_of_getElem? (i := 534) (by decide +kernel)⟩
theorem lw_p15 : lw_okq (⟨"WeakTableHeapModel", "change", "(II)I"⟩, 5) := ⟨⟨by decide +kernel, by decide +kernel⟩, List.mem_of_getElem? (i := 447) (by decide +kernel), List.mem_of_getElem? (i := 537) (by decide +kernel), List.mem_of_getElem? (i := 538) (by decide +kernel)⟩
def lw_privs_1 : List (MethodName × Nat) := [(⟨"WeakTableHeap", "occupyNext", "(II)I"⟩, 4), (⟨"WeakTableHeap", "markFromRoots", "()V"⟩, 4), (⟨"WeakTableHeap$Marking", "markWithFields", "(LWeakTableHeap$State;I)V"⟩, 4), (⟨"WeakTableHeap$Marking", "markable", "(I)I"⟩, 4), (⟨"WeakTableHeap$Marking", "number", "(I)V"⟩, 4), (⟨"WeakTableHeap$State", "fieldTargetsOf", "(I)I"⟩, 9), (⟨"WeakTableHeap$State", "valuesOfEntriesOf", "(II)I"⟩, 9), (⟨"WeakTableHeap", "markFromRootsAnd", "(I)V"⟩, 4), (⟨"WeakTableHeap$State", "announceEntriesWithoutKey", "(II)V"⟩, 9), (⟨"WeakTableHeapModel", "copyState", "(II)V"⟩, 5), (⟨"WeakTableHeapModel", "isAllocated", "(I)Z"⟩, 5), (⟨"WeakTableHeapModel", "part", "(II)I"⟩, 5), (⟨"WeakTableHeapModel", "make", "(II)I"⟩, 5), (⟨"WeakTableHeapModel", "saveState", "()V"⟩, 5), (⟨"WeakTableHeapModel", "isKind", "(II)Z"⟩, 5), (⟨"WeakTableHeapModel", "change", "(II)I"⟩, 5)]
theorem lw_r1 : ∀ q ∈ lw_privs_1, lw_okq q := List.forall_mem_cons.mpr ⟨lw_p0, List.forall_mem_cons.mpr ⟨lw_p1, List.forall_mem_cons.mpr ⟨lw_p2, List.forall_mem_cons.mpr ⟨lw_p3, List.forall_mem_cons.mpr ⟨lw_p4, List.forall_mem_cons.mpr ⟨lw_p5, List.forall_mem_cons.mpr ⟨lw_p6, List.forall_mem_cons.mpr ⟨lw_p7, List.forall_mem_cons.mpr ⟨lw_p8, List.forall_mem_cons.mpr ⟨lw_p9, List.forall_mem_cons.mpr ⟨lw_p10, List.forall_mem_cons.mpr ⟨lw_p11, List.forall_mem_cons.mpr ⟨lw_p12, List.forall_mem_cons.mpr ⟨lw_p13, List.forall_mem_cons.mpr ⟨lw_p14, List.forall_mem_cons.mpr ⟨lw_p15, fun _ h => absurd h List.not_mem_nil⟩⟩⟩⟩⟩⟩⟩⟩⟩⟩⟩⟩⟩⟩⟩⟩
theorem lw_p16 : lw_okq (⟨"WeakTableHeapModel", "placeOf", "(II)I"⟩, 5) := ⟨⟨by decide +kernel, by decide +kernel⟩, List.mem_of_getElem? (i := 447) (by decide +kernel), List.mem_of_getElem? (i := 565) (by decide +kernel), List.mem_of_getElem? (i := 566) (by decide +kernel)⟩
theorem lw_p17 : lw_okq (⟨"WeakTableHeapModel", "removeAt", "(II)V"⟩, 5) := ⟨⟨by decide +kernel, by decide +kernel⟩, List.mem_of_getElem? (i := 447) (by decide +kernel), List.mem_of_getElem? (i := 577) (by decide +kernel), List.mem_of_getElem? (i := 578) (by decide +kernel)⟩
theorem lw_p18 : lw_okq (⟨"WeakTableHeapModel", "collectNow", "()I"⟩, 5) := ⟨⟨by decide +kernel, by decide +kernel⟩, List.mem_of_getElem? (i := 447) (by decide +kernel), List.mem_of_getElem? (i := 593) (by decide +kernel), List.mem_of_getElem? (i := 594) (by decide +kernel)⟩
theorem lw_p19 : lw_okq (⟨"WeakTableHeapModel", "markAll", "(I)I"⟩, 5) := ⟨⟨by decide +kernel, by decide +kernel⟩, List.mem_of_getElem? (i := 447) (by decide +kernel), List.mem_of_getElem? (i := 597) (by decide +kernel), List.mem_of_getElem? (i := 598) (by decide +kernel)⟩
theorem lw_p20 : lw_okq (⟨"WeakTableHeapModel", "startAtRoots", "()V"⟩, 5) := ⟨⟨by decide +kernel, by decide +kernel⟩, List.mem_of_getElem? (i := 447) (by decide +kernel), List.mem_of_getElem? (i := 601) (by decide +kernel), List.mem_of_getElem? (i := 602) (by decide +kernel)⟩
theorem lw_p21 : lw_okq (⟨"WeakTableHeapModel", "marks", "(I)I"⟩, 5) := ⟨⟨by decide +kernel, by decide +kernel⟩, List.mem_of_getElem? (i := 447) (by decide +kernel), List.mem_of_getElem? (i := 605) (by decide +kernel), List.mem_of_getElem? (i := 606) (by decide +kernel)⟩
theorem lw_p22 : lw_okq (⟨"WeakTableHeapModel", "followFields", "(II)V"⟩, 5) := ⟨⟨by decide +kernel, by decide +kernel⟩, List.mem_of_getElem? (i := 447) (by decide +kernel), List.mem_of_getElem? (i := 609) (by decide +kernel), List.mem_of_getElem? (i := 610) (by decide +kernel)⟩
theorem lw_p23 : lw_okq (⟨"WeakTableHeapModel", "followEntries", "(II)Z"⟩, 5) := ⟨⟨by decide +kernel, by decide +kernel⟩, List.mem_of_getElem? (i := 447) (by decide +kernel), List.mem_of_getElem? (i := 613) (by decide +kernel), List.mem_of_getElem? (i := 614) (by decide +kernel)⟩
theorem lw_p24 : lw_okq (⟨"WeakTableHeapModel", "emptyWeak", "(Z)V"⟩, 5) := ⟨⟨by decide +kernel, by decide +kernel⟩, List.mem_of_getElem? (i := 447) (by decide +kernel), List.mem_of_getElem? (i := 617) (by decide +kernel), List.mem_of_getElem? (i := 618) (by decide +kernel)⟩
theorem lw_p25 : lw_okq (⟨"WeakTableHeapModel", "notice", "(I)V"⟩, 5) := ⟨⟨by decide +kernel, by decide +kernel⟩, List.mem_of_getElem? (i := 447) (by decide +kernel), List.mem_of_getElem? (i := 621) (by decide +kernel), List.mem_of_getElem? (i := 622) (by decide +kernel)⟩
theorem lw_p26 : lw_okq (⟨"WeakTableHeapModel", "takeNotice", "()I"⟩, 5) := ⟨⟨by decide +kernel, by decide +kernel⟩, List.mem_of_getElem? (i := 447) (by decide +kernel), List.mem_of_getElem? (i := 625) (by decide +kernel), List.mem_of_getElem? (i := 626) (by decide +kernel)⟩
theorem lw_p27 : lw_okq (⟨"WeakTableHeapModel", "finalizeAll", "()V"⟩, 5) := ⟨⟨by decide +kernel, by decide +kernel⟩, List.mem_of_getElem? (i := 447) (by decide +kernel), List.mem_of_getElem? (i := 629) (by decide +kernel), List.mem_of_getElem? (i := 630) (by decide +kernel)⟩
theorem lw_p28 : lw_okq (⟨"WeakTableHeapModel", "dropEntries", "()V"⟩, 5) := ⟨⟨by decide +kernel, by decide +kernel⟩, List.mem_of_getElem? (i := 447) (by decide +kernel), List.mem_of_getElem? (i := 633) (by decide +kernel), List.mem_of_getElem? (i := 634) (by decide +kernel)⟩
theorem lw_p29 : lw_okq (⟨"WeakTableHeapModel", "free", "()I"⟩, 5) := ⟨⟨by decide +kernel, by decide +kernel⟩, List.mem_of_getElem? (i := 447) (by decide +kernel), List.mem_of_getElem? (i := 637) (by decide +kernel), List.mem_of_getElem? (i := 638) (by decide +kernel)⟩
theorem lw_p30 : lw_okq (⟨"WeakTableHeapModel", "marked", "()I"⟩, 5) := ⟨⟨by decide +kernel, by decide +kernel⟩, List.mem_of_getElem? (i := 447) (by decide +kernel), List.mem_of_getElem? (i := 662) (by decide +kernel), List.mem_of_getElem? (i := 663) (by decide +kernel)⟩
def lw_privs_2 : List (MethodName × Nat) := [(⟨"WeakTableHeapModel", "placeOf", "(II)I"⟩, 5), (⟨"WeakTableHeapModel", "removeAt", "(II)V"⟩, 5), (⟨"WeakTableHeapModel", "collectNow", "()I"⟩, 5), (⟨"WeakTableHeapModel", "markAll", "(I)I"⟩, 5), (⟨"WeakTableHeapModel", "startAtRoots", "()V"⟩, 5), (⟨"WeakTableHeapModel", "marks", "(I)I"⟩, 5), (⟨"WeakTableHeapModel", "followFields", "(II)V"⟩, 5), (⟨"WeakTableHeapModel", "followEntries", "(II)Z"⟩, 5), (⟨"WeakTableHeapModel", "emptyWeak", "(Z)V"⟩, 5), (⟨"WeakTableHeapModel", "notice", "(I)V"⟩, 5), (⟨"WeakTableHeapModel", "takeNotice", "()I"⟩, 5), (⟨"WeakTableHeapModel", "finalizeAll", "()V"⟩, 5), (⟨"WeakTableHeapModel", "dropEntries", "()V"⟩, 5), (⟨"WeakTableHeapModel", "free", "()I"⟩, 5), (⟨"WeakTableHeapModel", "marked", "()I"⟩, 5)]
theorem lw_r2 : ∀ q ∈ lw_privs_2, lw_okq q := List.forall_mem_cons.mpr ⟨lw_p16, List.forall_mem_cons.mpr ⟨lw_p17, List.forall_mem_cons.mpr ⟨lw_p18, List.forall_mem_cons.mpr ⟨lw_p19, List.forall_mem_cons.mpr ⟨lw_p20, List.forall_mem_cons.mpr ⟨lw_p21, List.forall_mem_cons.mpr ⟨lw_p22, List.forall_mem_cons.mpr ⟨lw_p23, List.forall_mem_cons.mpr ⟨lw_p24, List.forall_mem_cons.mpr ⟨lw_p25, List.forall_mem_cons.mpr ⟨lw_p26, List.forall_mem_cons.mpr ⟨lw_p27, List.forall_mem_cons.mpr ⟨lw_p28, List.forall_mem_cons.mpr ⟨lw_p29, List.forall_mem_cons.mpr ⟨lw_p30, fun _ h => absurd h List.not_mem_nil⟩⟩⟩⟩⟩⟩⟩⟩⟩⟩⟩⟩⟩⟩⟩
def lw_privs : List (MethodName × Nat) := lw_privs_1 ++ (lw_privs_2)
def lw_tbl : List Cond := k2_sels lw_privs ++ tables_1
theorem lw_privs_ok : ∀ q ∈ lw_privs, lw_okq q := by
  show ∀ q ∈ lw_privs_1 ++ (lw_privs_2), lw_okq q
  exact List.forall_mem_append.mpr ⟨lw_r1, lw_r2⟩
end
section
/-! ===== BEGIN words of one list among another's, by their places ===== -/
theorem goodIn_r {big : List Cond} (ws : List Cond) (ps : List Nat) (hp : ws = ps.filterMap (fun i => big[i]?)) (h : ws.all goodWord = true) : GoodIn big ws := by
  intro w hw
  have h1 := List.all_eq_true.mp h w hw
  rw [hp] at hw
  obtain ⟨i, -, hi⟩ := List.mem_filterMap.mp hw
  have hm : w ∈ big := by first | exact List.mem_of_getElem? hi | exact List.getElem?_mem hi
  exact ⟨hm, good_of_word h1⟩
theorem goodIn_app {big a b : List Cond} (ha : GoodIn big a) (hb : GoodIn big b) : GoodIn big (a ++ b) := fun w h => (List.mem_append.mp h).elim (ha w) (hb w)
theorem goodIn_ca {big a b : List Cond} {c : Cond} (ha : GoodIn big (c :: a)) (hb : GoodIn big b) : GoodIn big (c :: (a ++ b)) := fun w h => (List.mem_cons.mp h).elim (fun e => ha w (List.mem_cons.mpr (Or.inl e))) (fun h => (List.mem_append.mp h).elim (fun h => ha w (List.mem_cons.mpr (Or.inr h))) (hb w))
theorem goodIn_sub {big ws : List Cond} (hm : ∀ w ∈ ws, w ∈ big) (h : ws.all goodWord = true) : GoodIn big ws := fun w hw => ⟨hm w hw, good_of_word (List.all_eq_true.mp h w hw)⟩
/-! ===== END ===== -/

/-! ===== BEGIN printed: names, fields, word lists, decode rows ===== -/
def RX0 : String := "WeakTableHeap$History"
def TX0 : u_T := fun k => match k with
  | 0 => ("WeakTableHeap$History", "ring", "[LWeakTableHeap$State;", true)
  | 1 => ("WeakTableHeap$History", "next", "I", false)
  | _ => ("WeakTableHeap$History", "depth", "I", false)
def tyX0 : Nat → FieldType := fun k => match k with
  | 0 => .array (.object "WeakTableHeap$State")
  | 1 => .int
  | _ => .int
abbrev wsX00 : List Cond := u_ws RX0 TX0 3
theorem nmX0 : ∀ a, a < 3 → ∀ b, b < 3 → a ≠ b → (TX0 a).2.1 ≠ (TX0 b).2.1 := by decide +kernel
theorem tyX0_ok : ∀ k, k < 3 → parseFieldDescriptor (TX0 k).2.2.1 = some (tyX0 k) := by decide +kernel
abbrev cX0_init : ByteArray := prog_2_method_1_code
def yX0_init : MethodName := ⟨RX0, "<init>", "()V"⟩
abbrev cX0_push : ByteArray := prog_2_method_2_code
def yX0_push : MethodName := ⟨RX0, "push", "(LWeakTableHeap$State;)V"⟩
abbrev cX0_popInto : ByteArray := prog_2_method_3_code
def yX0_popInto : MethodName := ⟨RX0, "popInto", "(LWeakTableHeap$State;)Z"⟩
abbrev cX0_forget : ByteArray := prog_2_method_4_code
def yX0_forget : MethodName := ⟨RX0, "forget", "()V"⟩
def RX1 : String := "WeakTableHeap$Marking"
def TX1 : u_T := fun k => match k with
  | 0 => ("WeakTableHeap$Marking", "rounds", "[I", true)
  | 1 => ("WeakTableHeap$Marking", "marked", "I", false)
  | 2 => ("WeakTableHeap$Marking", "lastRound", "I", false)
  | _ => ("WeakTableHeap$Marking", "unmarkable", "I", false)
def tyX1 : Nat → FieldType := fun k => match k with
  | 0 => .array .int
  | 1 => .int
  | 2 => .int
  | _ => .int
abbrev wsX10 : List Cond := u_ws RX1 TX1 4
theorem nmX1 : ∀ a, a < 4 → ∀ b, b < 4 → a ≠ b → (TX1 a).2.1 ≠ (TX1 b).2.1 := by decide +kernel
theorem tyX1_ok : ∀ k, k < 4 → parseFieldDescriptor (TX1 k).2.2.1 = some (tyX1 k) := by decide +kernel
abbrev cX1_init : ByteArray := prog_3_method_1_code
def yX1_init : MethodName := ⟨RX1, "<init>", "()V"⟩
abbrev cX1_run : ByteArray := prog_3_method_2_code
def yX1_run : MethodName := ⟨RX1, "run", "(LWeakTableHeap$State;II)V"⟩
abbrev cX1_markable : ByteArray := prog_3_method_3_code
def yX1_markable : MethodName := ⟨RX1, "markable", "(I)I"⟩
abbrev cX1_markWithFields : ByteArray := prog_3_method_4_code
def yX1_markWithFields : MethodName := ⟨RX1, "markWithFields", "(LWeakTableHeap$State;I)V"⟩
abbrev cX1_number : ByteArray := prog_3_method_5_code
def yX1_number : MethodName := ⟨RX1, "number", "(I)V"⟩
def RX2 : String := "WeakTableHeap$Notices"
def TX2 : u_T := fun k => match k with
  | 0 => ("WeakTableHeap$Notices", "queue", "[I", true)
  | _ => ("WeakTableHeap$Notices", "size", "I", false)
def tyX2 : Nat → FieldType := fun k => match k with
  | 0 => .array .int
  | _ => .int
abbrev wsX20 : List Cond := u_ws RX2 TX2 2
theorem nmX2 : ∀ a, a < 2 → ∀ b, b < 2 → a ≠ b → (TX2 a).2.1 ≠ (TX2 b).2.1 := by decide +kernel
theorem tyX2_ok : ∀ k, k < 2 → parseFieldDescriptor (TX2 k).2.2.1 = some (tyX2 k) := by decide +kernel
abbrev cX2_init : ByteArray := prog_4_method_1_code
def yX2_init : MethodName := ⟨RX2, "<init>", "()V"⟩
abbrev cX2_copyFrom : ByteArray := prog_4_method_2_code
def yX2_copyFrom : MethodName := ⟨RX2, "copyFrom", "(LWeakTableHeap$Notices;)V"⟩
abbrev cX2_issue : ByteArray := prog_4_method_3_code
def yX2_issue : MethodName := ⟨RX2, "issue", "(I)V"⟩
abbrev cX2_removeOldest : ByteArray := prog_4_method_4_code
def yX2_removeOldest : MethodName := ⟨RX2, "removeOldest", "()I"⟩
def RX3 : String := "WeakTableHeap$State"
def TX3 : u_T := fun k => match k with
  | 0 => ("WeakTableHeap$State", "kinds", "[I", true)
  | 1 => ("WeakTableHeap$State", "fields", "[I", true)
  | 2 => ("WeakTableHeap$State", "keys", "[I", true)
  | 3 => ("WeakTableHeap$State", "values", "[I", true)
  | 4 => ("WeakTableHeap$State", "targets", "[I", true)
  | 5 => ("WeakTableHeap$State", "roots", "[I", true)
  | 6 => ("WeakTableHeap$State", "notices", "LWeakTableHeap$Notices;", true)
  | 7 => ("WeakTableHeap$State", "finalizable", "I", false)
  | _ => ("WeakTableHeap$State", "roundsOfCollection", "I", false)
def tyX3 : Nat → FieldType := fun k => match k with
  | 0 => .array .int
  | 1 => .array .int
  | 2 => .array .int
  | 3 => .array .int
  | 4 => .array .int
  | 5 => .array .int
  | 6 => .object "WeakTableHeap$Notices"
  | 7 => .int
  | _ => .int
abbrev wsX30 : List Cond := u_ws RX3 TX3 9
theorem nmX3 : ∀ a, a < 9 → ∀ b, b < 9 → a ≠ b → (TX3 a).2.1 ≠ (TX3 b).2.1 := by decide +kernel
theorem tyX3_ok : ∀ k, k < 9 → parseFieldDescriptor (TX3 k).2.2.1 = some (tyX3 k) := by decide +kernel
abbrev cX3_init : ByteArray := prog_5_method_1_code
def yX3_init : MethodName := ⟨RX3, "<init>", "()V"⟩
abbrev cX3_copyFrom : ByteArray := prog_5_method_2_code
def yX3_copyFrom : MethodName := ⟨RX3, "copyFrom", "(LWeakTableHeap$State;)V"⟩
abbrev cX3_isAllocated : ByteArray := prog_5_method_3_code
def yX3_isAllocated : MethodName := ⟨RX3, "isAllocated", "(I)Z"⟩
abbrev cX3_hasKind : ByteArray := prog_5_method_4_code
def yX3_hasKind : MethodName := ⟨RX3, "hasKind", "(II)Z"⟩
abbrev cX3_isContent : ByteArray := prog_5_method_5_code
def yX3_isContent : MethodName := ⟨RX3, "isContent", "(I)Z"⟩
abbrev cX3_isTableAndKey : ByteArray := prog_5_method_6_code
def yX3_isTableAndKey : MethodName := ⟨RX3, "isTableAndKey", "(II)Z"⟩
abbrev cX3_smallestFree : ByteArray := prog_5_method_7_code
def yX3_smallestFree : MethodName := ⟨RX3, "smallestFree", "()I"⟩
abbrev cX3_occupy : ByteArray := prog_5_method_8_code
def yX3_occupy : MethodName := ⟨RX3, "occupy", "(III)V"⟩
abbrev cX3_allocated : ByteArray := prog_5_method_9_code
def yX3_allocated : MethodName := ⟨RX3, "allocated", "()I"⟩
abbrev cX3_rootObjects : ByteArray := prog_5_method_10_code
def yX3_rootObjects : MethodName := ⟨RX3, "rootObjects", "()I"⟩
abbrev cX3_fieldTargets : ByteArray := prog_5_method_11_code
def yX3_fieldTargets : MethodName := ⟨RX3, "fieldTargets", "(I)I"⟩
abbrev cX3_fieldTargetsOf : ByteArray := prog_5_method_12_code
def yX3_fieldTargetsOf : MethodName := ⟨RX3, "fieldTargetsOf", "(I)I"⟩
abbrev cX3_valuesOfEntries : ByteArray := prog_5_method_13_code
def yX3_valuesOfEntries : MethodName := ⟨RX3, "valuesOfEntries", "(II)I"⟩
abbrev cX3_valuesOfEntriesOf : ByteArray := prog_5_method_14_code
def yX3_valuesOfEntriesOf : MethodName := ⟨RX3, "valuesOfEntriesOf", "(II)I"⟩
abbrev cX3_tablesWithKey : ByteArray := prog_5_method_15_code
def yX3_tablesWithKey : MethodName := ⟨RX3, "tablesWithKey", "(II)I"⟩
abbrev cX3_placeOfKey : ByteArray := prog_5_method_16_code
def yX3_placeOfKey : MethodName := ⟨RX3, "placeOfKey", "(II)I"⟩
abbrev cX3_keepEntries : ByteArray := prog_5_method_17_code
def yX3_keepEntries : MethodName := ⟨RX3, "keepEntries", "(II)V"⟩
abbrev cX3_emptyWeakReferences : ByteArray := prog_5_method_18_code
def yX3_emptyWeakReferences : MethodName := ⟨RX3, "emptyWeakReferences", "(IZ)V"⟩
abbrev cX3_finalizeObjects : ByteArray := prog_5_method_19_code
def yX3_finalizeObjects : MethodName := ⟨RX3, "finalizeObjects", "(I)V"⟩
abbrev cX3_removeEntriesWithoutKey : ByteArray := prog_5_method_20_code
def yX3_removeEntriesWithoutKey : MethodName := ⟨RX3, "removeEntriesWithoutKey", "(I)V"⟩
abbrev cX3_announceEntriesWithoutKey : ByteArray := prog_5_method_21_code
def yX3_announceEntriesWithoutKey : MethodName := ⟨RX3, "announceEntriesWithoutKey", "(II)V"⟩
abbrev cX3_free : ByteArray := prog_5_method_22_code
def yX3_free : MethodName := ⟨RX3, "free", "(I)V"⟩
def RX4 : String := "WeakTableHeap"
def TX4 : u_T := fun k => match k with
  | 0 => ("WeakTableHeap", "state", "LWeakTableHeap$State;", true)
  | 1 => ("WeakTableHeap", "history", "LWeakTableHeap$History;", true)
  | 2 => ("WeakTableHeap", "slots", "[LWeakTableHeap$State;", true)
  | _ => ("WeakTableHeap", "marking", "LWeakTableHeap$Marking;", true)
def tyX4 : Nat → FieldType := fun k => match k with
  | 0 => .object "WeakTableHeap$State"
  | 1 => .object "WeakTableHeap$History"
  | 2 => .array (.object "WeakTableHeap$State")
  | _ => .object "WeakTableHeap$Marking"
abbrev wsX40 : List Cond := u_ws RX4 TX4 4
theorem nmX4 : ∀ a, a < 4 → ∀ b, b < 4 → a ≠ b → (TX4 a).2.1 ≠ (TX4 b).2.1 := by decide +kernel
theorem tyX4_ok : ∀ k, k < 4 → parseFieldDescriptor (TX4 k).2.2.1 = some (tyX4 k) := by decide +kernel
abbrev cX4_init : ByteArray := prog_1_method_1_code
def yX4_init : MethodName := ⟨RX4, "<init>", "()V"⟩
abbrev cX4_allocate : ByteArray := prog_1_method_2_code
def yX4_allocate : MethodName := ⟨RX4, "allocate", "()I"⟩
abbrev cX4_allocateTable : ByteArray := prog_1_method_3_code
def yX4_allocateTable : MethodName := ⟨RX4, "allocateTable", "()I"⟩
abbrev cX4_allocateWeak : ByteArray := prog_1_method_4_code
def yX4_allocateWeak : MethodName := ⟨RX4, "allocateWeak", "(I)I"⟩
abbrev cX4_occupyNext : ByteArray := prog_1_method_5_code
def yX4_occupyNext : MethodName := ⟨RX4, "occupyNext", "(II)I"⟩
abbrev cX4_kind : ByteArray := prog_1_method_6_code
def yX4_kind : MethodName := ⟨RX4, "kind", "(I)I"⟩
abbrev cX4_setField : ByteArray := prog_1_method_7_code
def yX4_setField : MethodName := ⟨RX4, "setField", "(III)I"⟩
abbrev cX4_field : ByteArray := prog_1_method_8_code
def yX4_field : MethodName := ⟨RX4, "field", "(II)I"⟩
abbrev cX4_setRoot : ByteArray := prog_1_method_9_code
def yX4_setRoot : MethodName := ⟨RX4, "setRoot", "(II)I"⟩
abbrev cX4_root : ByteArray := prog_1_method_10_code
def yX4_root : MethodName := ⟨RX4, "root", "(I)I"⟩
abbrev cX4_target : ByteArray := prog_1_method_11_code
def yX4_target : MethodName := ⟨RX4, "target", "(I)I"⟩
abbrev cX4_setFinalizable : ByteArray := prog_1_method_12_code
def yX4_setFinalizable : MethodName := ⟨RX4, "setFinalizable", "(II)I"⟩
abbrev cX4_put : ByteArray := prog_1_method_13_code
def yX4_put : MethodName := ⟨RX4, "put", "(III)I"⟩
abbrev cX4_get : ByteArray := prog_1_method_14_code
def yX4_get : MethodName := ⟨RX4, "get", "(II)I"⟩
abbrev cX4_removeEntry : ByteArray := prog_1_method_15_code
def yX4_removeEntry : MethodName := ⟨RX4, "removeEntry", "(II)I"⟩
abbrev cX4_entryCount : ByteArray := prog_1_method_16_code
def yX4_entryCount : MethodName := ⟨RX4, "entryCount", "(I)I"⟩
abbrev cX4_entryKey : ByteArray := prog_1_method_17_code
def yX4_entryKey : MethodName := ⟨RX4, "entryKey", "(II)I"⟩
abbrev cX4_collect : ByteArray := prog_1_method_18_code
def yX4_collect : MethodName := ⟨RX4, "collect", "()I"⟩
abbrev cX4_lastRounds : ByteArray := prog_1_method_19_code
def yX4_lastRounds : MethodName := ⟨RX4, "lastRounds", "()I"⟩
abbrev cX4_pollNotice : ByteArray := prog_1_method_20_code
def yX4_pollNotice : MethodName := ⟨RX4, "pollNotice", "()I"⟩
abbrev cX4_noticeCount : ByteArray := prog_1_method_21_code
def yX4_noticeCount : MethodName := ⟨RX4, "noticeCount", "()I"⟩
abbrev cX4_objectCount : ByteArray := prog_1_method_22_code
def yX4_objectCount : MethodName := ⟨RX4, "objectCount", "()I"⟩
abbrev cX4_reachableCount : ByteArray := prog_1_method_23_code
def yX4_reachableCount : MethodName := ⟨RX4, "reachableCount", "()I"⟩
abbrev cX4_markRound : ByteArray := prog_1_method_24_code
def yX4_markRound : MethodName := ⟨RX4, "markRound", "(I)I"⟩
abbrev cX4_wouldFree : ByteArray := prog_1_method_25_code
def yX4_wouldFree : MethodName := ⟨RX4, "wouldFree", "()I"⟩
abbrev cX4_retainedSize : ByteArray := prog_1_method_26_code
def yX4_retainedSize : MethodName := ⟨RX4, "retainedSize", "(I)I"⟩
abbrev cX4_waitingEntries : ByteArray := prog_1_method_27_code
def yX4_waitingEntries : MethodName := ⟨RX4, "waitingEntries", "(I)I"⟩
abbrev cX4_referenceCount : ByteArray := prog_1_method_28_code
def yX4_referenceCount : MethodName := ⟨RX4, "referenceCount", "(I)I"⟩
abbrev cX4_markFromRoots : ByteArray := prog_1_method_29_code
def yX4_markFromRoots : MethodName := ⟨RX4, "markFromRoots", "()V"⟩
abbrev cX4_markFromRootsAnd : ByteArray := prog_1_method_30_code
def yX4_markFromRootsAnd : MethodName := ⟨RX4, "markFromRootsAnd", "(I)V"⟩
abbrev cX4_undo : ByteArray := prog_1_method_31_code
def yX4_undo : MethodName := ⟨RX4, "undo", "()I"⟩
abbrev cX4_undoDepth : ByteArray := prog_1_method_32_code
def yX4_undoDepth : MethodName := ⟨RX4, "undoDepth", "()I"⟩
abbrev cX4_save : ByteArray := prog_1_method_33_code
def yX4_save : MethodName := ⟨RX4, "save", "(I)I"⟩
abbrev cX4_restore : ByteArray := prog_1_method_34_code
def yX4_restore : MethodName := ⟨RX4, "restore", "(I)I"⟩
abbrev cX4_within : ByteArray := prog_1_method_35_code
def yX4_within : MethodName := ⟨RX4, "within", "(II)Z"⟩
abbrev cX4_setOf : ByteArray := prog_1_method_36_code
def yX4_setOf : MethodName := ⟨RX4, "setOf", "(I)I"⟩
abbrev cX4_contains : ByteArray := prog_1_method_37_code
def yX4_contains : MethodName := ⟨RX4, "contains", "(II)Z"⟩
abbrev cX4_emptyRow : ByteArray := prog_1_method_38_code
def yX4_emptyRow : MethodName := ⟨RX4, "emptyRow", "(I)[I"⟩
abbrev cX4_copyRow : ByteArray := prog_1_method_39_code
def yX4_copyRow : MethodName := ⟨RX4, "copyRow", "([I[I)V"⟩
abbrev cX4_occurrences : ByteArray := prog_1_method_40_code
def yX4_occurrences : MethodName := ⟨RX4, "occurrences", "([II)I"⟩
def RX5 : String := "WeakTableHeapModel"
def TX5 : u_T := fun k => match k with
  | 0 => ("WeakTableHeapModel", "w", "[I", true)
  | 1 => ("WeakTableHeapModel", "depth", "I", false)
  | 2 => ("WeakTableHeapModel", "kept", "[Z", true)
  | 3 => ("WeakTableHeapModel", "mark", "[I", true)
  | _ => ("WeakTableHeapModel", "start", "[Z", true)
def tyX5 : Nat → FieldType := fun k => match k with
  | 0 => .array .int
  | 1 => .int
  | 2 => .array .boolean
  | 3 => .array .int
  | _ => .array .boolean
abbrev wsX50 : List Cond := u_ws RX5 TX5 5
theorem nmX5 : ∀ a, a < 5 → ∀ b, b < 5 → a ≠ b → (TX5 a).2.1 ≠ (TX5 b).2.1 := by decide +kernel
theorem tyX5_ok : ∀ k, k < 5 → parseFieldDescriptor (TX5 k).2.2.1 = some (tyX5 k) := by decide +kernel
abbrev cX5_init : ByteArray := prog_7_method_1_code
def yX5_init : MethodName := ⟨RX5, "<init>", "()V"⟩
abbrev cX5_within : ByteArray := prog_7_method_3_code
def yX5_within : MethodName := ⟨RX5, "within", "(III)Z"⟩
abbrev cX5_copyState : ByteArray := prog_7_method_4_code
def yX5_copyState : MethodName := ⟨RX5, "copyState", "(II)V"⟩
abbrev cX5_saveState : ByteArray := prog_7_method_5_code
def yX5_saveState : MethodName := ⟨RX5, "saveState", "()V"⟩
abbrev cX5_undo : ByteArray := prog_7_method_6_code
def yX5_undo : MethodName := ⟨RX5, "undo", "()I"⟩
abbrev cX5_undoDepth : ByteArray := prog_7_method_7_code
def yX5_undoDepth : MethodName := ⟨RX5, "undoDepth", "()I"⟩
abbrev cX5_save : ByteArray := prog_7_method_8_code
def yX5_save : MethodName := ⟨RX5, "save", "(I)I"⟩
abbrev cX5_restore : ByteArray := prog_7_method_9_code
def yX5_restore : MethodName := ⟨RX5, "restore", "(I)I"⟩
abbrev cX5_part : ByteArray := prog_7_method_10_code
def yX5_part : MethodName := ⟨RX5, "part", "(II)I"⟩
abbrev cX5_isAllocated : ByteArray := prog_7_method_11_code
def yX5_isAllocated : MethodName := ⟨RX5, "isAllocated", "(I)Z"⟩
abbrev cX5_isKind : ByteArray := prog_7_method_12_code
def yX5_isKind : MethodName := ⟨RX5, "isKind", "(II)Z"⟩
abbrev cX5_make : ByteArray := prog_7_method_13_code
def yX5_make : MethodName := ⟨RX5, "make", "(II)I"⟩
abbrev cX5_allocate : ByteArray := prog_7_method_14_code
def yX5_allocate : MethodName := ⟨RX5, "allocate", "()I"⟩
abbrev cX5_allocateTable : ByteArray := prog_7_method_15_code
def yX5_allocateTable : MethodName := ⟨RX5, "allocateTable", "()I"⟩
abbrev cX5_allocateWeak : ByteArray := prog_7_method_16_code
def yX5_allocateWeak : MethodName := ⟨RX5, "allocateWeak", "(I)I"⟩
abbrev cX5_kind : ByteArray := prog_7_method_17_code
def yX5_kind : MethodName := ⟨RX5, "kind", "(I)I"⟩
abbrev cX5_change : ByteArray := prog_7_method_18_code
def yX5_change : MethodName := ⟨RX5, "change", "(II)I"⟩
abbrev cX5_setField : ByteArray := prog_7_method_19_code
def yX5_setField : MethodName := ⟨RX5, "setField", "(III)I"⟩
abbrev cX5_field : ByteArray := prog_7_method_20_code
def yX5_field : MethodName := ⟨RX5, "field", "(II)I"⟩
abbrev cX5_setRoot : ByteArray := prog_7_method_21_code
def yX5_setRoot : MethodName := ⟨RX5, "setRoot", "(II)I"⟩
abbrev cX5_root : ByteArray := prog_7_method_22_code
def yX5_root : MethodName := ⟨RX5, "root", "(I)I"⟩
abbrev cX5_target : ByteArray := prog_7_method_23_code
def yX5_target : MethodName := ⟨RX5, "target", "(I)I"⟩
abbrev cX5_setFinalizable : ByteArray := prog_7_method_24_code
def yX5_setFinalizable : MethodName := ⟨RX5, "setFinalizable", "(II)I"⟩
abbrev cX5_placeOf : ByteArray := prog_7_method_25_code
def yX5_placeOf : MethodName := ⟨RX5, "placeOf", "(II)I"⟩
abbrev cX5_removeAt : ByteArray := prog_7_method_26_code
def yX5_removeAt : MethodName := ⟨RX5, "removeAt", "(II)V"⟩
abbrev cX5_put : ByteArray := prog_7_method_27_code
def yX5_put : MethodName := ⟨RX5, "put", "(III)I"⟩
abbrev cX5_get : ByteArray := prog_7_method_28_code
def yX5_get : MethodName := ⟨RX5, "get", "(II)I"⟩
abbrev cX5_removeEntry : ByteArray := prog_7_method_29_code
def yX5_removeEntry : MethodName := ⟨RX5, "removeEntry", "(II)I"⟩
abbrev cX5_entryCount : ByteArray := prog_7_method_30_code
def yX5_entryCount : MethodName := ⟨RX5, "entryCount", "(I)I"⟩
abbrev cX5_entryKey : ByteArray := prog_7_method_31_code
def yX5_entryKey : MethodName := ⟨RX5, "entryKey", "(II)I"⟩
abbrev cX5_startAtRoots : ByteArray := prog_7_method_32_code
def yX5_startAtRoots : MethodName := ⟨RX5, "startAtRoots", "()V"⟩
abbrev cX5_followFields : ByteArray := prog_7_method_33_code
def yX5_followFields : MethodName := ⟨RX5, "followFields", "(II)V"⟩
abbrev cX5_followEntries : ByteArray := prog_7_method_34_code
def yX5_followEntries : MethodName := ⟨RX5, "followEntries", "(II)Z"⟩
abbrev cX5_marks : ByteArray := prog_7_method_35_code
def yX5_marks : MethodName := ⟨RX5, "marks", "(I)I"⟩
abbrev cX5_marked : ByteArray := prog_7_method_36_code
def yX5_marked : MethodName := ⟨RX5, "marked", "()I"⟩
abbrev cX5_markAll : ByteArray := prog_7_method_37_code
def yX5_markAll : MethodName := ⟨RX5, "markAll", "(I)I"⟩
abbrev cX5_notice : ByteArray := prog_7_method_38_code
def yX5_notice : MethodName := ⟨RX5, "notice", "(I)V"⟩
abbrev cX5_takeNotice : ByteArray := prog_7_method_39_code
def yX5_takeNotice : MethodName := ⟨RX5, "takeNotice", "()I"⟩
abbrev cX5_emptyWeak : ByteArray := prog_7_method_40_code
def yX5_emptyWeak : MethodName := ⟨RX5, "emptyWeak", "(Z)V"⟩
abbrev cX5_finalizeAll : ByteArray := prog_7_method_41_code
def yX5_finalizeAll : MethodName := ⟨RX5, "finalizeAll", "()V"⟩
abbrev cX5_dropEntries : ByteArray := prog_7_method_42_code
def yX5_dropEntries : MethodName := ⟨RX5, "dropEntries", "()V"⟩
abbrev cX5_free : ByteArray := prog_7_method_43_code
def yX5_free : MethodName := ⟨RX5, "free", "()I"⟩
abbrev cX5_collectNow : ByteArray := prog_7_method_44_code
def yX5_collectNow : MethodName := ⟨RX5, "collectNow", "()I"⟩
abbrev cX5_collect : ByteArray := prog_7_method_45_code
def yX5_collect : MethodName := ⟨RX5, "collect", "()I"⟩
abbrev cX5_wouldFree : ByteArray := prog_7_method_46_code
def yX5_wouldFree : MethodName := ⟨RX5, "wouldFree", "()I"⟩
abbrev cX5_lastRounds : ByteArray := prog_7_method_47_code
def yX5_lastRounds : MethodName := ⟨RX5, "lastRounds", "()I"⟩
abbrev cX5_pollNotice : ByteArray := prog_7_method_48_code
def yX5_pollNotice : MethodName := ⟨RX5, "pollNotice", "()I"⟩
abbrev cX5_noticeCount : ByteArray := prog_7_method_49_code
def yX5_noticeCount : MethodName := ⟨RX5, "noticeCount", "()I"⟩
abbrev cX5_objectCount : ByteArray := prog_7_method_50_code
def yX5_objectCount : MethodName := ⟨RX5, "objectCount", "()I"⟩
abbrev cX5_reachableCount : ByteArray := prog_7_method_51_code
def yX5_reachableCount : MethodName := ⟨RX5, "reachableCount", "()I"⟩
abbrev cX5_markRound : ByteArray := prog_7_method_52_code
def yX5_markRound : MethodName := ⟨RX5, "markRound", "(I)I"⟩
abbrev cX5_retainedSize : ByteArray := prog_7_method_53_code
def yX5_retainedSize : MethodName := ⟨RX5, "retainedSize", "(I)I"⟩
abbrev cX5_waitingEntries : ByteArray := prog_7_method_54_code
def yX5_waitingEntries : MethodName := ⟨RX5, "waitingEntries", "(I)I"⟩
abbrev cX5_referenceCount : ByteArray := prog_7_method_55_code
def yX5_referenceCount : MethodName := ⟨RX5, "referenceCount", "(I)I"⟩
def RJ6 : String := "java/lang/Integer"
def TJ6 : u_T := fun k => match k with
  | _ => ("", "", "", false)
def tyJ6 : Nat → FieldType := fun k => match k with
  | _ => .int
abbrev wsJ60 : List Cond := u_ws RJ6 TJ6 0
theorem nmJ6 : ∀ a, a < 0 → ∀ b, b < 0 → a ≠ b → (TJ6 a).2.1 ≠ (TJ6 b).2.1 := by decide +kernel
theorem tyJ6_ok : ∀ k, k < 0 → parseFieldDescriptor (TJ6 k).2.2.1 = some (tyJ6 k) := by decide +kernel
abbrev cJ6_bitCount_0f7a4 : ByteArray := prog_8_method_49_code
def yJ6_bitCount_0f7a4 : MethodName := ⟨RJ6, "bitCount", "(I)I"⟩
def RJ9 : String := "java/lang/Math"
def TJ9 : u_T := fun k => match k with
  | _ => ("", "", "", false)
def tyJ9 : Nat → FieldType := fun k => match k with
  | _ => .int
abbrev wsJ90 : List Cond := u_ws RJ9 TJ9 0
theorem nmJ9 : ∀ a, a < 0 → ∀ b, b < 0 → a ≠ b → (TJ9 a).2.1 ≠ (TJ9 b).2.1 := by decide +kernel
theorem tyJ9_ok : ∀ k, k < 0 → parseFieldDescriptor (TJ9 k).2.2.1 = some (tyJ9 k) := by decide +kernel
abbrev cJ9_max_7cf53 : ByteArray := prog_9_method_65_code
def yJ9_max_7cf53 : MethodName := ⟨RJ9, "max", "(II)I"⟩
abbrev cJ9_min_7cf53 : ByteArray := prog_9_method_69_code
def yJ9_min_7cf53 : MethodName := ⟨RJ9, "min", "(II)I"⟩
def RJ10 : String := "java/lang/System"
def TJ10 : u_T := fun k => match k with
  | _ => ("", "", "", false)
def tyJ10 : Nat → FieldType := fun k => match k with
  | _ => .int
abbrev wsJ100 : List Cond := u_ws RJ10 TJ10 0
theorem nmJ10 : ∀ a, a < 0 → ∀ b, b < 0 → a ≠ b → (TJ10 a).2.1 ≠ (TJ10 b).2.1 := by decide +kernel
theorem tyJ10_ok : ∀ k, k < 0 → parseFieldDescriptor (TJ10 k).2.2.1 = some (tyJ10 k) := by decide +kernel
def RJ7 : String := "java/util/Arrays"
def TJ7 : u_T := fun k => match k with
  | _ => ("", "", "", false)
def tyJ7 : Nat → FieldType := fun k => match k with
  | _ => .int
abbrev wsJ70 : List Cond := u_ws RJ7 TJ7 0
theorem nmJ7 : ∀ a, a < 0 → ∀ b, b < 0 → a ≠ b → (TJ7 a).2.1 ≠ (TJ7 b).2.1 := by decide +kernel
theorem tyJ7_ok : ∀ k, k < 0 → parseFieldDescriptor (TJ7 k).2.2.1 = some (tyJ7 k) := by decide +kernel
abbrev cJ7_rangeCheck_23922 : ByteArray := prog_11_method_30_code
def yJ7_rangeCheck_23922 : MethodName := ⟨RJ7, "rangeCheck", "(III)V"⟩
abbrev cJ7_fill_53178 : ByteArray := prog_11_method_103_code
def yJ7_fill_53178 : MethodName := ⟨RJ7, "fill", "([II)V"⟩
abbrev cJ7_fill_fda19 : ByteArray := prog_11_method_104_code
def yJ7_fill_fda19 : MethodName := ⟨RJ7, "fill", "([IIII)V"⟩
def RL : String := "WeakTableHeapLaw"
abbrev cL_law : ByteArray := code
def yL_law : MethodName := ⟨RL, "law", "([I)Z"⟩
def wsX0_init : List Cond := .code yX0_init cX0_init 1 none :: ([.methodLink RX0 3 objectInit, .instanceMethod objectInit, .code objectInit ⟨#[0xb1]⟩ 1 none, .classLink RX0 9 RX3, .fieldLink RX0 11 "WeakTableHeap$History" "ring" "[LWeakTableHeap$State;"] ++ wsX00)
def wsJ7_fill_53178 : List Cond := .code yJ7_fill_53178 cJ7_fill_53178 4 none :: ([])
def wsX4_emptyRow : List Cond := .code yX4_emptyRow cX4_emptyRow 2 (some (.array .int)) :: ([.methodLink RX4 183 Lib.Math.max.name, .static Lib.Math.max.name, .initialized "java/lang/Math", .code Lib.Math.max.name Lib.Math.max.code 2 (some .int), .arrayClass .int, .methodLink RX4 188 yJ7_fill_53178, .static yJ7_fill_53178, .initialized RJ7, .code yJ7_fill_53178 cJ7_fill_53178 4 none])
def wsX2_init : List Cond := .code yX2_init cX2_init 1 none :: ([.methodLink RX2 3 objectInit, .instanceMethod objectInit, .code objectInit ⟨#[0xb1]⟩ 1 none, .arrayClass .int, .fieldLink RX2 9 "WeakTableHeap$Notices" "queue" "[I"] ++ wsX20)
def wsX3_init_r1 : List Cond := [Cond.methodLink RX3 3 objectInit, Cond.instanceMethod objectInit, Cond.code objectInit ⟨#[0xb1]⟩ 1 none, Cond.fieldLink RX3 13 "WeakTableHeap$State" "kinds" "[I", Cond.fieldLink RX3 19 "WeakTableHeap$State" "fields" "[I", Cond.fieldLink RX3 22 "WeakTableHeap$State" "keys" "[I", Cond.fieldLink RX3 25 "WeakTableHeap$State" "values" "[I", Cond.fieldLink RX3 28 "WeakTableHeap$State" "targets" "[I", Cond.fieldLink RX3 31 "WeakTableHeap$State" "roots" "[I", Cond.classLink RX3 34 RX2, Cond.instantiable RX2 2, Cond.initialized RX2, Cond.fieldLink RX3 37 "WeakTableHeap$State" "notices" "LWeakTableHeap$Notices;", Cond.static yX4_emptyRow, Cond.initialized RX4, Cond.code yX4_emptyRow cX4_emptyRow 2 (some (.array .int)), Cond.methodLink RX4 183 Lib.Math.max.name, Cond.static Lib.Math.max.name, Cond.initialized "java/lang/Math", Cond.code Lib.Math.max.name Lib.Math.max.code 2 (some .int), Cond.arrayClass .int, Cond.methodLink RX4 188 yJ7_fill_53178, Cond.static yJ7_fill_53178, Cond.initialized RJ7]
def wsX3_init_r2 : List Cond := [Cond.code yJ7_fill_53178 cJ7_fill_53178 4 none, Cond.instanceMethod yX2_init, Cond.code yX2_init cX2_init 1 none, Cond.methodLink RX2 3 objectInit, Cond.fieldLink RX2 9 "WeakTableHeap$Notices" "queue" "[I"]
def wsX3_init : List Cond := .code yX3_init cX3_init 1 none :: ((wsX3_init_r1 ++ wsX3_init_r2) ++ wsX30 ++ wsX20)
def wsX4_copyRow : List Cond := .code yX4_copyRow cX4_copyRow 2 none :: ([.methodLink RX4 194 Lib.Math.min.name, .static Lib.Math.min.name, .initialized "java/lang/Math", .code Lib.Math.min.name Lib.Math.min.code 2 (some .int), .methodLink RX4 197 arraycopyName, .native arraycopyName, .static arraycopyName, .initialized "java/lang/System"])
def wsX2_copyFrom : List Cond := .code yX2_copyFrom cX2_copyFrom 2 none :: ([.fieldLink RX2 9 "WeakTableHeap$Notices" "queue" "[I", .fieldLink RX2 19 "WeakTableHeap$Notices" "size" "I", .static yX4_copyRow, .initialized RX4, .code yX4_copyRow cX4_copyRow 2 none, .methodLink RX4 194 Lib.Math.min.name, .static Lib.Math.min.name, .initialized "java/lang/Math", .code Lib.Math.min.name Lib.Math.min.code 2 (some .int), .methodLink RX4 197 arraycopyName, .native arraycopyName, .static arraycopyName, .initialized "java/lang/System"] ++ wsX20)
def wsX3_copyFrom_r1 : List Cond := [Cond.fieldLink RX3 13 "WeakTableHeap$State" "kinds" "[I", Cond.fieldLink RX3 19 "WeakTableHeap$State" "fields" "[I", Cond.fieldLink RX3 22 "WeakTableHeap$State" "keys" "[I", Cond.fieldLink RX3 25 "WeakTableHeap$State" "values" "[I", Cond.fieldLink RX3 28 "WeakTableHeap$State" "targets" "[I", Cond.fieldLink RX3 31 "WeakTableHeap$State" "roots" "[I", Cond.fieldLink RX3 37 "WeakTableHeap$State" "notices" "LWeakTableHeap$Notices;", Cond.fieldLink RX3 49 "WeakTableHeap$State" "finalizable" "I", Cond.fieldLink RX3 53 "WeakTableHeap$State" "roundsOfCollection" "I", Cond.static yX4_copyRow, Cond.initialized RX4, Cond.code yX4_copyRow cX4_copyRow 2 none, Cond.methodLink RX4 194 Lib.Math.min.name, Cond.static Lib.Math.min.name, Cond.initialized "java/lang/Math", Cond.code Lib.Math.min.name Lib.Math.min.code 2 (some .int), Cond.methodLink RX4 197 arraycopyName, Cond.native arraycopyName, Cond.static arraycopyName, Cond.initialized "java/lang/System", Cond.methodLink RX3 45 yX2_copyFrom, Cond.instanceMethod yX2_copyFrom, Cond.selects RX2 yX2_copyFrom yX2_copyFrom, Cond.initialized RX2]
def wsX3_copyFrom_r2 : List Cond := [Cond.code yX2_copyFrom cX2_copyFrom 2 none, Cond.fieldLink RX2 9 "WeakTableHeap$Notices" "queue" "[I", Cond.fieldLink RX2 19 "WeakTableHeap$Notices" "size" "I"]
def wsX3_copyFrom : List Cond := .code yX3_copyFrom cX3_copyFrom 2 none :: ((wsX3_copyFrom_r1 ++ wsX3_copyFrom_r2) ++ wsX30 ++ wsX20)
def wsX0_push_r1 : List Cond := [Cond.fieldLink RX0 11 "WeakTableHeap$History" "ring" "[LWeakTableHeap$State;", Cond.fieldLink RX0 17 "WeakTableHeap$History" "next" "I", Cond.classLink RX0 9 RX3, Cond.instantiable RX3 9, Cond.initialized RX3, Cond.fieldLink RX0 26 "WeakTableHeap$History" "depth" "I", Cond.methodLink RX0 29 Lib.Math.min.name, Cond.static Lib.Math.min.name, Cond.initialized "java/lang/Math", Cond.code Lib.Math.min.name Lib.Math.min.code 2 (some .int), Cond.instanceMethod yX3_init, Cond.code yX3_init cX3_init 1 none, Cond.methodLink RX3 3 objectInit, Cond.instanceMethod objectInit, Cond.code objectInit ⟨#[0xb1]⟩ 1 none, Cond.fieldLink RX3 13 "WeakTableHeap$State" "kinds" "[I", Cond.fieldLink RX3 19 "WeakTableHeap$State" "fields" "[I", Cond.fieldLink RX3 22 "WeakTableHeap$State" "keys" "[I", Cond.fieldLink RX3 25 "WeakTableHeap$State" "values" "[I", Cond.fieldLink RX3 28 "WeakTableHeap$State" "targets" "[I", Cond.fieldLink RX3 31 "WeakTableHeap$State" "roots" "[I", Cond.classLink RX3 34 RX2, Cond.instantiable RX2 2, Cond.initialized RX2]
def wsX0_push_r2 : List Cond := [Cond.fieldLink RX3 37 "WeakTableHeap$State" "notices" "LWeakTableHeap$Notices;", Cond.static yX4_emptyRow, Cond.initialized RX4, Cond.code yX4_emptyRow cX4_emptyRow 2 (some (.array .int)), Cond.methodLink RX4 183 Lib.Math.max.name, Cond.static Lib.Math.max.name, Cond.code Lib.Math.max.name Lib.Math.max.code 2 (some .int), Cond.arrayClass .int, Cond.methodLink RX4 188 yJ7_fill_53178, Cond.static yJ7_fill_53178, Cond.initialized RJ7, Cond.code yJ7_fill_53178 cJ7_fill_53178 4 none, Cond.instanceMethod yX2_init, Cond.code yX2_init cX2_init 1 none, Cond.methodLink RX2 3 objectInit, Cond.fieldLink RX2 9 "WeakTableHeap$Notices" "queue" "[I", Cond.methodLink RX0 22 yX3_copyFrom, Cond.instanceMethod yX3_copyFrom, Cond.selects RX3 yX3_copyFrom yX3_copyFrom, Cond.code yX3_copyFrom cX3_copyFrom 2 none, Cond.fieldLink RX3 49 "WeakTableHeap$State" "finalizable" "I", Cond.fieldLink RX3 53 "WeakTableHeap$State" "roundsOfCollection" "I", Cond.static yX4_copyRow, Cond.code yX4_copyRow cX4_copyRow 2 none]
def wsX0_push_r3 : List Cond := [Cond.methodLink RX4 194 Lib.Math.min.name, Cond.methodLink RX4 197 arraycopyName, Cond.native arraycopyName, Cond.static arraycopyName, Cond.initialized "java/lang/System", Cond.methodLink RX3 45 yX2_copyFrom, Cond.instanceMethod yX2_copyFrom, Cond.selects RX2 yX2_copyFrom yX2_copyFrom, Cond.code yX2_copyFrom cX2_copyFrom 2 none, Cond.fieldLink RX2 19 "WeakTableHeap$Notices" "size" "I"]
def wsX0_push : List Cond := .code yX0_push cX0_push 2 none :: ((wsX0_push_r1 ++ (wsX0_push_r2 ++ wsX0_push_r3)) ++ wsX00 ++ wsX30 ++ wsX20)
def wsX0_popInto_r1 : List Cond := [Cond.fieldLink RX0 17 "WeakTableHeap$History" "next" "I", Cond.fieldLink RX0 26 "WeakTableHeap$History" "depth" "I", Cond.fieldLink RX0 11 "WeakTableHeap$History" "ring" "[LWeakTableHeap$State;", Cond.methodLink RX0 22 yX3_copyFrom, Cond.instanceMethod yX3_copyFrom, Cond.selects RX3 yX3_copyFrom yX3_copyFrom, Cond.initialized RX3, Cond.code yX3_copyFrom cX3_copyFrom 2 none, Cond.fieldLink RX3 13 "WeakTableHeap$State" "kinds" "[I", Cond.fieldLink RX3 19 "WeakTableHeap$State" "fields" "[I", Cond.fieldLink RX3 22 "WeakTableHeap$State" "keys" "[I", Cond.fieldLink RX3 25 "WeakTableHeap$State" "values" "[I", Cond.fieldLink RX3 28 "WeakTableHeap$State" "targets" "[I", Cond.fieldLink RX3 31 "WeakTableHeap$State" "roots" "[I", Cond.fieldLink RX3 37 "WeakTableHeap$State" "notices" "LWeakTableHeap$Notices;", Cond.fieldLink RX3 49 "WeakTableHeap$State" "finalizable" "I", Cond.fieldLink RX3 53 "WeakTableHeap$State" "roundsOfCollection" "I", Cond.static yX4_copyRow, Cond.initialized RX4, Cond.code yX4_copyRow cX4_copyRow 2 none, Cond.methodLink RX4 194 Lib.Math.min.name, Cond.static Lib.Math.min.name, Cond.initialized "java/lang/Math", Cond.code Lib.Math.min.name Lib.Math.min.code 2 (some .int)]
def wsX0_popInto_r2 : List Cond := [Cond.methodLink RX4 197 arraycopyName, Cond.native arraycopyName, Cond.static arraycopyName, Cond.initialized "java/lang/System", Cond.methodLink RX3 45 yX2_copyFrom, Cond.instanceMethod yX2_copyFrom, Cond.selects RX2 yX2_copyFrom yX2_copyFrom, Cond.initialized RX2, Cond.code yX2_copyFrom cX2_copyFrom 2 none, Cond.fieldLink RX2 9 "WeakTableHeap$Notices" "queue" "[I", Cond.fieldLink RX2 19 "WeakTableHeap$Notices" "size" "I"]
def wsX0_popInto : List Cond := .code yX0_popInto cX0_popInto 3 (some .boolean) :: ((wsX0_popInto_r1 ++ wsX0_popInto_r2) ++ wsX00 ++ wsX30 ++ wsX20)
def wsX0_forget : List Cond := .code yX0_forget cX0_forget 1 none :: ([.fieldLink RX0 26 "WeakTableHeap$History" "depth" "I"] ++ wsX00)
def wsX1_init : List Cond := .code yX1_init cX1_init 1 none :: ([.methodLink RX1 3 objectInit, .instanceMethod objectInit, .code objectInit ⟨#[0xb1]⟩ 1 none, .arrayClass .int, .fieldLink RX1 9 "WeakTableHeap$Marking" "rounds" "[I"] ++ wsX10)
def wsX1_markable : List Cond := .code yX1_markable cX1_markable 2 (some .int) :: ([.fieldLink RX1 21 "WeakTableHeap$Marking" "marked" "I", .fieldLink RX1 25 "WeakTableHeap$Marking" "unmarkable" "I"] ++ wsX10)
def wsX4_setOf : List Cond := .code yX4_setOf cX4_setOf 1 (some .int) :: ([])
def wsX4_contains : List Cond := .code yX4_contains cX4_contains 2 (some .boolean) :: ([.methodLink RX4 84 yX4_setOf, .static yX4_setOf, .initialized RX4, .code yX4_setOf cX4_setOf 1 (some .int)])
def wsX1_number : List Cond := .code yX1_number cX1_number 3 none :: ([.fieldLink RX1 9 "WeakTableHeap$Marking" "rounds" "[I", .fieldLink RX1 28 "WeakTableHeap$Marking" "lastRound" "I", .static yX4_contains, .initialized RX4, .code yX4_contains cX4_contains 2 (some .boolean), .methodLink RX4 84 yX4_setOf, .static yX4_setOf, .code yX4_setOf cX4_setOf 1 (some .int)] ++ wsX10)
def wsX3_fieldTargetsOf : List Cond := .code yX3_fieldTargetsOf cX3_fieldTargetsOf 4 (some .int) :: ([.fieldLink RX3 19 "WeakTableHeap$State" "fields" "[I", .static yX4_setOf, .initialized RX4, .code yX4_setOf cX4_setOf 1 (some .int)] ++ wsX30)
def wsX3_fieldTargets : List Cond := .code yX3_fieldTargets cX3_fieldTargets 4 (some .int) :: ([.static yX4_contains, .initialized RX4, .code yX4_contains cX4_contains 2 (some .boolean), .methodLink RX4 84 yX4_setOf, .static yX4_setOf, .code yX4_setOf cX4_setOf 1 (some .int), .methodLink RX3 74 yX3_fieldTargetsOf, .instanceMethod yX3_fieldTargetsOf, .selects RX3 yX3_fieldTargetsOf yX3_fieldTargetsOf, .initialized RX3, .code yX3_fieldTargetsOf cX3_fieldTargetsOf 4 (some .int), .fieldLink RX3 19 "WeakTableHeap$State" "fields" "[I"] ++ wsX30)
def wsX1_markWithFields_r1 : List Cond := [Cond.fieldLink RX1 21 "WeakTableHeap$Marking" "marked" "I", Cond.methodLink RX1 41 yX1_markable, Cond.instanceMethod yX1_markable, Cond.selects RX1 yX1_markable yX1_markable, Cond.initialized RX1, Cond.code yX1_markable cX1_markable 2 (some .int), Cond.fieldLink RX1 25 "WeakTableHeap$Marking" "unmarkable" "I", Cond.methodLink RX1 45 yX1_number, Cond.instanceMethod yX1_number, Cond.selects RX1 yX1_number yX1_number, Cond.code yX1_number cX1_number 3 none, Cond.fieldLink RX1 9 "WeakTableHeap$Marking" "rounds" "[I", Cond.fieldLink RX1 28 "WeakTableHeap$Marking" "lastRound" "I", Cond.static yX4_contains, Cond.initialized RX4, Cond.code yX4_contains cX4_contains 2 (some .boolean), Cond.methodLink RX4 84 yX4_setOf, Cond.static yX4_setOf, Cond.code yX4_setOf cX4_setOf 1 (some .int), Cond.methodLink RX1 49 yX3_fieldTargets, Cond.instanceMethod yX3_fieldTargets, Cond.selects RX3 yX3_fieldTargets yX3_fieldTargets, Cond.initialized RX3, Cond.code yX3_fieldTargets cX3_fieldTargets 4 (some .int)]
def wsX1_markWithFields_r2 : List Cond := [Cond.methodLink RX3 74 yX3_fieldTargetsOf, Cond.instanceMethod yX3_fieldTargetsOf, Cond.selects RX3 yX3_fieldTargetsOf yX3_fieldTargetsOf, Cond.code yX3_fieldTargetsOf cX3_fieldTargetsOf 4 (some .int), Cond.fieldLink RX3 19 "WeakTableHeap$State" "fields" "[I"]
def wsX1_markWithFields : List Cond := .code yX1_markWithFields cX1_markWithFields 5 none :: ((wsX1_markWithFields_r1 ++ wsX1_markWithFields_r2) ++ wsX10 ++ wsX30)
def wsX3_valuesOfEntriesOf : List Cond := .code yX3_valuesOfEntriesOf cX3_valuesOfEntriesOf 5 (some .int) :: ([.fieldLink RX3 22 "WeakTableHeap$State" "keys" "[I", .fieldLink RX3 25 "WeakTableHeap$State" "values" "[I", .static yX4_contains, .initialized RX4, .code yX4_contains cX4_contains 2 (some .boolean), .methodLink RX4 84 yX4_setOf, .static yX4_setOf, .code yX4_setOf cX4_setOf 1 (some .int)] ++ wsX30)
def wsX3_valuesOfEntries : List Cond := .code yX3_valuesOfEntries cX3_valuesOfEntries 5 (some .int) :: ([.static yX4_contains, .initialized RX4, .code yX4_contains cX4_contains 2 (some .boolean), .methodLink RX4 84 yX4_setOf, .static yX4_setOf, .code yX4_setOf cX4_setOf 1 (some .int), .methodLink RX3 77 yX3_valuesOfEntriesOf, .instanceMethod yX3_valuesOfEntriesOf, .selects RX3 yX3_valuesOfEntriesOf yX3_valuesOfEntriesOf, .initialized RX3, .code yX3_valuesOfEntriesOf cX3_valuesOfEntriesOf 5 (some .int), .fieldLink RX3 22 "WeakTableHeap$State" "keys" "[I", .fieldLink RX3 25 "WeakTableHeap$State" "values" "[I"] ++ wsX30)
def wsX1_run_r1 : List Cond := [Cond.fieldLink RX1 9 "WeakTableHeap$Marking" "rounds" "[I", Cond.fieldLink RX1 21 "WeakTableHeap$Marking" "marked" "I", Cond.fieldLink RX1 25 "WeakTableHeap$Marking" "unmarkable" "I", Cond.fieldLink RX1 28 "WeakTableHeap$Marking" "lastRound" "I", Cond.methodLink RX1 15 yJ7_fill_53178, Cond.static yJ7_fill_53178, Cond.initialized RJ7, Cond.code yJ7_fill_53178 cJ7_fill_53178 4 none, Cond.methodLink RX1 31 yX1_markWithFields, Cond.instanceMethod yX1_markWithFields, Cond.selects RX1 yX1_markWithFields yX1_markWithFields, Cond.initialized RX1, Cond.code yX1_markWithFields cX1_markWithFields 5 none, Cond.methodLink RX1 41 yX1_markable, Cond.instanceMethod yX1_markable, Cond.selects RX1 yX1_markable yX1_markable, Cond.code yX1_markable cX1_markable 2 (some .int), Cond.methodLink RX1 45 yX1_number, Cond.instanceMethod yX1_number, Cond.selects RX1 yX1_number yX1_number, Cond.code yX1_number cX1_number 3 none, Cond.static yX4_contains, Cond.initialized RX4, Cond.code yX4_contains cX4_contains 2 (some .boolean)]
def wsX1_run_r2 : List Cond := [Cond.methodLink RX4 84 yX4_setOf, Cond.static yX4_setOf, Cond.code yX4_setOf cX4_setOf 1 (some .int), Cond.methodLink RX1 49 yX3_fieldTargets, Cond.instanceMethod yX3_fieldTargets, Cond.selects RX3 yX3_fieldTargets yX3_fieldTargets, Cond.initialized RX3, Cond.code yX3_fieldTargets cX3_fieldTargets 4 (some .int), Cond.methodLink RX3 74 yX3_fieldTargetsOf, Cond.instanceMethod yX3_fieldTargetsOf, Cond.selects RX3 yX3_fieldTargetsOf yX3_fieldTargetsOf, Cond.code yX3_fieldTargetsOf cX3_fieldTargetsOf 4 (some .int), Cond.fieldLink RX3 19 "WeakTableHeap$State" "fields" "[I", Cond.methodLink RX1 35 yX3_valuesOfEntries, Cond.instanceMethod yX3_valuesOfEntries, Cond.selects RX3 yX3_valuesOfEntries yX3_valuesOfEntries, Cond.code yX3_valuesOfEntries cX3_valuesOfEntries 5 (some .int), Cond.methodLink RX3 77 yX3_valuesOfEntriesOf, Cond.instanceMethod yX3_valuesOfEntriesOf, Cond.selects RX3 yX3_valuesOfEntriesOf yX3_valuesOfEntriesOf, Cond.code yX3_valuesOfEntriesOf cX3_valuesOfEntriesOf 5 (some .int), Cond.fieldLink RX3 22 "WeakTableHeap$State" "keys" "[I", Cond.fieldLink RX3 25 "WeakTableHeap$State" "values" "[I"]
def wsX1_run : List Cond := .code yX1_run cX1_run 6 none :: ((wsX1_run_r1 ++ wsX1_run_r2) ++ wsX10 ++ wsX30)
def wsX2_removeOldest : List Cond := .code yX2_removeOldest cX2_removeOldest 2 (some .int) :: ([.fieldLink RX2 9 "WeakTableHeap$Notices" "queue" "[I", .methodLink RX2 31 arraycopyName, .native arraycopyName, .static arraycopyName, .initialized "java/lang/System", .fieldLink RX2 19 "WeakTableHeap$Notices" "size" "I", .methodLink RX2 37 Lib.Math.max.name, .static Lib.Math.max.name, .initialized "java/lang/Math", .code Lib.Math.max.name Lib.Math.max.code 2 (some .int)] ++ wsX20)
def wsX4_within : List Cond := .code yX4_within cX4_within 2 (some .boolean) :: ([])
def wsX2_issue : List Cond := .code yX2_issue cX2_issue 2 none :: ([.fieldLink RX2 19 "WeakTableHeap$Notices" "size" "I", .fieldLink RX2 9 "WeakTableHeap$Notices" "queue" "[I", .methodLink RX2 23 yX2_removeOldest, .instanceMethod yX2_removeOldest, .selects RX2 yX2_removeOldest yX2_removeOldest, .initialized RX2, .code yX2_removeOldest cX2_removeOldest 2 (some .int), .methodLink RX2 31 arraycopyName, .native arraycopyName, .static arraycopyName, .initialized "java/lang/System", .methodLink RX2 37 Lib.Math.max.name, .static Lib.Math.max.name, .initialized "java/lang/Math", .code Lib.Math.max.name Lib.Math.max.code 2 (some .int), .static yX4_within, .initialized RX4, .code yX4_within cX4_within 2 (some .boolean)] ++ wsX20)
def wsX3_isAllocated : List Cond := .code yX3_isAllocated cX3_isAllocated 2 (some .boolean) :: ([.fieldLink RX3 13 "WeakTableHeap$State" "kinds" "[I", .static yX4_within, .initialized RX4, .code yX4_within cX4_within 2 (some .boolean)] ++ wsX30)
def wsX3_hasKind : List Cond := .code yX3_hasKind cX3_hasKind 3 (some .boolean) :: ([.fieldLink RX3 13 "WeakTableHeap$State" "kinds" "[I", .static yX4_within, .initialized RX4, .code yX4_within cX4_within 2 (some .boolean)] ++ wsX30)
def wsX3_isContent : List Cond := .code yX3_isContent cX3_isContent 2 (some .boolean) :: ([.methodLink RX3 60 yX3_isAllocated, .instanceMethod yX3_isAllocated, .selects RX3 yX3_isAllocated yX3_isAllocated, .initialized RX3, .code yX3_isAllocated cX3_isAllocated 2 (some .boolean), .fieldLink RX3 13 "WeakTableHeap$State" "kinds" "[I", .static yX4_within, .initialized RX4, .code yX4_within cX4_within 2 (some .boolean)] ++ wsX30)
def wsX3_isTableAndKey : List Cond := .code yX3_isTableAndKey cX3_isTableAndKey 3 (some .boolean) :: ([.methodLink RX3 64 yX3_hasKind, .instanceMethod yX3_hasKind, .selects RX3 yX3_hasKind yX3_hasKind, .initialized RX3, .code yX3_hasKind cX3_hasKind 3 (some .boolean), .fieldLink RX3 13 "WeakTableHeap$State" "kinds" "[I", .static yX4_within, .initialized RX4, .code yX4_within cX4_within 2 (some .boolean), .methodLink RX3 60 yX3_isAllocated, .instanceMethod yX3_isAllocated, .selects RX3 yX3_isAllocated yX3_isAllocated, .code yX3_isAllocated cX3_isAllocated 2 (some .boolean)] ++ wsX30)
def wsX3_smallestFree : List Cond := .code yX3_smallestFree cX3_smallestFree 2 (some .int) :: ([.fieldLink RX3 13 "WeakTableHeap$State" "kinds" "[I"] ++ wsX30)
def wsX3_occupy : List Cond := .code yX3_occupy cX3_occupy 4 none :: ([.fieldLink RX3 13 "WeakTableHeap$State" "kinds" "[I", .fieldLink RX3 28 "WeakTableHeap$State" "targets" "[I", .static yX4_within, .initialized RX4, .code yX4_within cX4_within 2 (some .boolean)] ++ wsX30)
def wsX3_allocated : List Cond := .code yX3_allocated cX3_allocated 3 (some .int) :: ([.fieldLink RX3 13 "WeakTableHeap$State" "kinds" "[I", .static yX4_setOf, .initialized RX4, .code yX4_setOf cX4_setOf 1 (some .int)] ++ wsX30)
def wsX3_rootObjects : List Cond := .code yX3_rootObjects cX3_rootObjects 3 (some .int) :: ([.fieldLink RX3 31 "WeakTableHeap$State" "roots" "[I", .static yX4_setOf, .initialized RX4, .code yX4_setOf cX4_setOf 1 (some .int)] ++ wsX30)
def wsX3_placeOfKey : List Cond := .code yX3_placeOfKey cX3_placeOfKey 4 (some .int) :: ([.fieldLink RX3 22 "WeakTableHeap$State" "keys" "[I", .static yX4_within, .initialized RX4, .code yX4_within cX4_within 2 (some .boolean)] ++ wsX30)
def wsX3_tablesWithKey : List Cond := .code yX3_tablesWithKey cX3_tablesWithKey 5 (some .int) :: ([.static yX4_contains, .initialized RX4, .code yX4_contains cX4_contains 2 (some .boolean), .methodLink RX4 84 yX4_setOf, .static yX4_setOf, .code yX4_setOf cX4_setOf 1 (some .int), .methodLink RX3 81 yX3_placeOfKey, .instanceMethod yX3_placeOfKey, .selects RX3 yX3_placeOfKey yX3_placeOfKey, .initialized RX3, .code yX3_placeOfKey cX3_placeOfKey 4 (some .int), .fieldLink RX3 22 "WeakTableHeap$State" "keys" "[I", .static yX4_within, .code yX4_within cX4_within 2 (some .boolean)] ++ wsX30)
def wsX3_keepEntries : List Cond := .code yX3_keepEntries cX3_keepEntries 7 none :: ([.fieldLink RX3 22 "WeakTableHeap$State" "keys" "[I", .fieldLink RX3 25 "WeakTableHeap$State" "values" "[I", .static yX4_within, .initialized RX4, .code yX4_within cX4_within 2 (some .boolean), .static yX4_contains, .code yX4_contains cX4_contains 2 (some .boolean), .methodLink RX4 84 yX4_setOf, .static yX4_setOf, .code yX4_setOf cX4_setOf 1 (some .int)] ++ wsX30)
def wsX3_emptyWeakReferences_r1 : List Cond := [Cond.fieldLink RX3 28 "WeakTableHeap$State" "targets" "[I", Cond.fieldLink RX3 37 "WeakTableHeap$State" "notices" "LWeakTableHeap$Notices;", Cond.static yX4_contains, Cond.initialized RX4, Cond.code yX4_contains cX4_contains 2 (some .boolean), Cond.methodLink RX4 84 yX4_setOf, Cond.static yX4_setOf, Cond.code yX4_setOf cX4_setOf 1 (some .int), Cond.methodLink RX3 84 yX2_issue, Cond.instanceMethod yX2_issue, Cond.selects RX2 yX2_issue yX2_issue, Cond.initialized RX2, Cond.code yX2_issue cX2_issue 2 none, Cond.fieldLink RX2 19 "WeakTableHeap$Notices" "size" "I", Cond.fieldLink RX2 9 "WeakTableHeap$Notices" "queue" "[I", Cond.methodLink RX2 23 yX2_removeOldest, Cond.instanceMethod yX2_removeOldest, Cond.selects RX2 yX2_removeOldest yX2_removeOldest, Cond.code yX2_removeOldest cX2_removeOldest 2 (some .int), Cond.methodLink RX2 31 arraycopyName, Cond.native arraycopyName, Cond.static arraycopyName, Cond.initialized "java/lang/System", Cond.methodLink RX2 37 Lib.Math.max.name]
def wsX3_emptyWeakReferences_r2 : List Cond := [Cond.static Lib.Math.max.name, Cond.initialized "java/lang/Math", Cond.code Lib.Math.max.name Lib.Math.max.code 2 (some .int), Cond.static yX4_within, Cond.code yX4_within cX4_within 2 (some .boolean)]
def wsX3_emptyWeakReferences : List Cond := .code yX3_emptyWeakReferences cX3_emptyWeakReferences 5 none :: ((wsX3_emptyWeakReferences_r1 ++ wsX3_emptyWeakReferences_r2) ++ wsX30 ++ wsX20)
def wsX3_finalizeObjects_r1 : List Cond := [Cond.fieldLink RX3 37 "WeakTableHeap$State" "notices" "LWeakTableHeap$Notices;", Cond.fieldLink RX3 49 "WeakTableHeap$State" "finalizable" "I", Cond.static yX4_contains, Cond.initialized RX4, Cond.code yX4_contains cX4_contains 2 (some .boolean), Cond.methodLink RX4 84 yX4_setOf, Cond.static yX4_setOf, Cond.code yX4_setOf cX4_setOf 1 (some .int), Cond.methodLink RX3 84 yX2_issue, Cond.instanceMethod yX2_issue, Cond.selects RX2 yX2_issue yX2_issue, Cond.initialized RX2, Cond.code yX2_issue cX2_issue 2 none, Cond.fieldLink RX2 19 "WeakTableHeap$Notices" "size" "I", Cond.fieldLink RX2 9 "WeakTableHeap$Notices" "queue" "[I", Cond.methodLink RX2 23 yX2_removeOldest, Cond.instanceMethod yX2_removeOldest, Cond.selects RX2 yX2_removeOldest yX2_removeOldest, Cond.code yX2_removeOldest cX2_removeOldest 2 (some .int), Cond.methodLink RX2 31 arraycopyName, Cond.native arraycopyName, Cond.static arraycopyName, Cond.initialized "java/lang/System", Cond.methodLink RX2 37 Lib.Math.max.name]
def wsX3_finalizeObjects_r2 : List Cond := [Cond.static Lib.Math.max.name, Cond.initialized "java/lang/Math", Cond.code Lib.Math.max.name Lib.Math.max.code 2 (some .int), Cond.static yX4_within, Cond.code yX4_within cX4_within 2 (some .boolean)]
def wsX3_finalizeObjects : List Cond := .code yX3_finalizeObjects cX3_finalizeObjects 3 none :: ((wsX3_finalizeObjects_r1 ++ wsX3_finalizeObjects_r2) ++ wsX30 ++ wsX20)
def wsX3_announceEntriesWithoutKey_r1 : List Cond := [Cond.fieldLink RX3 22 "WeakTableHeap$State" "keys" "[I", Cond.fieldLink RX3 37 "WeakTableHeap$State" "notices" "LWeakTableHeap$Notices;", Cond.static yX4_contains, Cond.initialized RX4, Cond.code yX4_contains cX4_contains 2 (some .boolean), Cond.methodLink RX4 84 yX4_setOf, Cond.static yX4_setOf, Cond.code yX4_setOf cX4_setOf 1 (some .int), Cond.methodLink RX3 84 yX2_issue, Cond.instanceMethod yX2_issue, Cond.selects RX2 yX2_issue yX2_issue, Cond.initialized RX2, Cond.code yX2_issue cX2_issue 2 none, Cond.fieldLink RX2 19 "WeakTableHeap$Notices" "size" "I", Cond.fieldLink RX2 9 "WeakTableHeap$Notices" "queue" "[I", Cond.methodLink RX2 23 yX2_removeOldest, Cond.instanceMethod yX2_removeOldest, Cond.selects RX2 yX2_removeOldest yX2_removeOldest, Cond.code yX2_removeOldest cX2_removeOldest 2 (some .int), Cond.methodLink RX2 31 arraycopyName, Cond.native arraycopyName, Cond.static arraycopyName, Cond.initialized "java/lang/System", Cond.methodLink RX2 37 Lib.Math.max.name]
def wsX3_announceEntriesWithoutKey_r2 : List Cond := [Cond.static Lib.Math.max.name, Cond.initialized "java/lang/Math", Cond.code Lib.Math.max.name Lib.Math.max.code 2 (some .int), Cond.static yX4_within, Cond.code yX4_within cX4_within 2 (some .boolean)]
def wsX3_announceEntriesWithoutKey : List Cond := .code yX3_announceEntriesWithoutKey cX3_announceEntriesWithoutKey 4 none :: ((wsX3_announceEntriesWithoutKey_r1 ++ wsX3_announceEntriesWithoutKey_r2) ++ wsX30 ++ wsX20)
def wsX3_removeEntriesWithoutKey_r1 : List Cond := [Cond.static yX4_contains, Cond.initialized RX4, Cond.code yX4_contains cX4_contains 2 (some .boolean), Cond.methodLink RX4 84 yX4_setOf, Cond.static yX4_setOf, Cond.code yX4_setOf cX4_setOf 1 (some .int), Cond.methodLink RX3 88 yX3_announceEntriesWithoutKey, Cond.instanceMethod yX3_announceEntriesWithoutKey, Cond.selects RX3 yX3_announceEntriesWithoutKey yX3_announceEntriesWithoutKey, Cond.initialized RX3, Cond.code yX3_announceEntriesWithoutKey cX3_announceEntriesWithoutKey 4 none, Cond.fieldLink RX3 22 "WeakTableHeap$State" "keys" "[I", Cond.fieldLink RX3 37 "WeakTableHeap$State" "notices" "LWeakTableHeap$Notices;", Cond.methodLink RX3 84 yX2_issue, Cond.instanceMethod yX2_issue, Cond.selects RX2 yX2_issue yX2_issue, Cond.initialized RX2, Cond.code yX2_issue cX2_issue 2 none, Cond.fieldLink RX2 19 "WeakTableHeap$Notices" "size" "I", Cond.fieldLink RX2 9 "WeakTableHeap$Notices" "queue" "[I", Cond.methodLink RX2 23 yX2_removeOldest, Cond.instanceMethod yX2_removeOldest, Cond.selects RX2 yX2_removeOldest yX2_removeOldest, Cond.code yX2_removeOldest cX2_removeOldest 2 (some .int)]
def wsX3_removeEntriesWithoutKey_r2 : List Cond := [Cond.methodLink RX2 31 arraycopyName, Cond.native arraycopyName, Cond.static arraycopyName, Cond.initialized "java/lang/System", Cond.methodLink RX2 37 Lib.Math.max.name, Cond.static Lib.Math.max.name, Cond.initialized "java/lang/Math", Cond.code Lib.Math.max.name Lib.Math.max.code 2 (some .int), Cond.static yX4_within, Cond.code yX4_within cX4_within 2 (some .boolean), Cond.methodLink RX3 92 yX3_keepEntries, Cond.instanceMethod yX3_keepEntries, Cond.selects RX3 yX3_keepEntries yX3_keepEntries, Cond.code yX3_keepEntries cX3_keepEntries 7 none, Cond.fieldLink RX3 25 "WeakTableHeap$State" "values" "[I"]
def wsX3_removeEntriesWithoutKey : List Cond := .code yX3_removeEntriesWithoutKey cX3_removeEntriesWithoutKey 3 none :: ((wsX3_removeEntriesWithoutKey_r1 ++ wsX3_removeEntriesWithoutKey_r2) ++ wsX30 ++ wsX20)
def wsJ7_rangeCheck_23922 : List Cond := .code yJ7_rangeCheck_23922 cJ7_rangeCheck_23922 3 none :: ([])
def wsJ7_fill_fda19 : List Cond := .code yJ7_fill_fda19 cJ7_fill_fda19 5 none :: ([.methodLink RJ7 13 yJ7_rangeCheck_23922, .static yJ7_rangeCheck_23922, .initialized RJ7, .code yJ7_rangeCheck_23922 cJ7_rangeCheck_23922 3 none])
def wsX3_free_r1 : List Cond := [Cond.fieldLink RX3 13 "WeakTableHeap$State" "kinds" "[I", Cond.fieldLink RX3 28 "WeakTableHeap$State" "targets" "[I", Cond.fieldLink RX3 19 "WeakTableHeap$State" "fields" "[I", Cond.fieldLink RX3 49 "WeakTableHeap$State" "finalizable" "I", Cond.static yX4_contains, Cond.initialized RX4, Cond.code yX4_contains cX4_contains 2 (some .boolean), Cond.methodLink RX4 84 yX4_setOf, Cond.static yX4_setOf, Cond.code yX4_setOf cX4_setOf 1 (some .int), Cond.methodLink RX3 95 yJ7_fill_fda19, Cond.static yJ7_fill_fda19, Cond.initialized RJ7, Cond.code yJ7_fill_fda19 cJ7_fill_fda19 5 none, Cond.methodLink RJ7 13 yJ7_rangeCheck_23922, Cond.static yJ7_rangeCheck_23922, Cond.code yJ7_rangeCheck_23922 cJ7_rangeCheck_23922 3 none, Cond.methodLink RX3 92 yX3_keepEntries, Cond.instanceMethod yX3_keepEntries, Cond.selects RX3 yX3_keepEntries yX3_keepEntries, Cond.initialized RX3, Cond.code yX3_keepEntries cX3_keepEntries 7 none, Cond.fieldLink RX3 22 "WeakTableHeap$State" "keys" "[I", Cond.fieldLink RX3 25 "WeakTableHeap$State" "values" "[I"]
def wsX3_free_r2 : List Cond := [Cond.static yX4_within, Cond.code yX4_within cX4_within 2 (some .boolean)]
def wsX3_free : List Cond := .code yX3_free cX3_free 3 none :: ((wsX3_free_r1 ++ wsX3_free_r2) ++ wsX30)
def wsX4_init_r1 : List Cond := [Cond.methodLink RX4 1 objectInit, Cond.instanceMethod objectInit, Cond.code objectInit ⟨#[0xb1]⟩ 1 none, Cond.classLink RX4 7 RX3, Cond.instantiable RX3 9, Cond.initialized RX3, Cond.fieldLink RX4 10 "WeakTableHeap" "state" "LWeakTableHeap$State;", Cond.classLink RX4 16 RX0, Cond.instantiable RX0 3, Cond.initialized RX0, Cond.fieldLink RX4 19 "WeakTableHeap" "history" "LWeakTableHeap$History;", Cond.fieldLink RX4 23 "WeakTableHeap" "slots" "[LWeakTableHeap$State;", Cond.classLink RX4 27 RX1, Cond.instantiable RX1 4, Cond.initialized RX1, Cond.fieldLink RX4 30 "WeakTableHeap" "marking" "LWeakTableHeap$Marking;", Cond.instanceMethod yX3_init, Cond.code yX3_init cX3_init 1 none, Cond.methodLink RX3 3 objectInit, Cond.fieldLink RX3 13 "WeakTableHeap$State" "kinds" "[I", Cond.fieldLink RX3 19 "WeakTableHeap$State" "fields" "[I", Cond.fieldLink RX3 22 "WeakTableHeap$State" "keys" "[I", Cond.fieldLink RX3 25 "WeakTableHeap$State" "values" "[I", Cond.fieldLink RX3 28 "WeakTableHeap$State" "targets" "[I"]
def wsX4_init_r2 : List Cond := [Cond.fieldLink RX3 31 "WeakTableHeap$State" "roots" "[I", Cond.classLink RX3 34 RX2, Cond.instantiable RX2 2, Cond.initialized RX2, Cond.fieldLink RX3 37 "WeakTableHeap$State" "notices" "LWeakTableHeap$Notices;", Cond.static yX4_emptyRow, Cond.initialized RX4, Cond.code yX4_emptyRow cX4_emptyRow 2 (some (.array .int)), Cond.methodLink RX4 183 Lib.Math.max.name, Cond.static Lib.Math.max.name, Cond.initialized "java/lang/Math", Cond.code Lib.Math.max.name Lib.Math.max.code 2 (some .int), Cond.arrayClass .int, Cond.methodLink RX4 188 yJ7_fill_53178, Cond.static yJ7_fill_53178, Cond.initialized RJ7, Cond.code yJ7_fill_53178 cJ7_fill_53178 4 none, Cond.instanceMethod yX2_init, Cond.code yX2_init cX2_init 1 none, Cond.methodLink RX2 3 objectInit, Cond.fieldLink RX2 9 "WeakTableHeap$Notices" "queue" "[I", Cond.instanceMethod yX0_init, Cond.code yX0_init cX0_init 1 none, Cond.methodLink RX0 3 objectInit]
def wsX4_init_r3 : List Cond := [Cond.classLink RX0 9 RX3, Cond.fieldLink RX0 11 "WeakTableHeap$History" "ring" "[LWeakTableHeap$State;", Cond.instanceMethod yX1_init, Cond.code yX1_init cX1_init 1 none, Cond.methodLink RX1 3 objectInit, Cond.fieldLink RX1 9 "WeakTableHeap$Marking" "rounds" "[I"]
def wsX4_init : List Cond := .code yX4_init cX4_init 1 none :: ((wsX4_init_r1 ++ (wsX4_init_r2 ++ wsX4_init_r3)) ++ wsX30 ++ wsX40 ++ wsX00 ++ wsX10 ++ wsX20)
def wsX4_occupyNext_r1 : List Cond := [Cond.fieldLink RX4 10 "WeakTableHeap" "state" "LWeakTableHeap$State;", Cond.fieldLink RX4 19 "WeakTableHeap" "history" "LWeakTableHeap$History;", Cond.methodLink RX4 42 yX3_smallestFree, Cond.instanceMethod yX3_smallestFree, Cond.selects RX3 yX3_smallestFree yX3_smallestFree, Cond.initialized RX3, Cond.code yX3_smallestFree cX3_smallestFree 2 (some .int), Cond.fieldLink RX3 13 "WeakTableHeap$State" "kinds" "[I", Cond.methodLink RX4 46 yX0_push, Cond.instanceMethod yX0_push, Cond.selects RX0 yX0_push yX0_push, Cond.initialized RX0, Cond.code yX0_push cX0_push 2 none, Cond.fieldLink RX0 11 "WeakTableHeap$History" "ring" "[LWeakTableHeap$State;", Cond.fieldLink RX0 17 "WeakTableHeap$History" "next" "I", Cond.classLink RX0 9 RX3, Cond.instantiable RX3 9, Cond.fieldLink RX0 26 "WeakTableHeap$History" "depth" "I", Cond.methodLink RX0 29 Lib.Math.min.name, Cond.static Lib.Math.min.name, Cond.initialized "java/lang/Math", Cond.code Lib.Math.min.name Lib.Math.min.code 2 (some .int), Cond.instanceMethod yX3_init, Cond.code yX3_init cX3_init 1 none]
def wsX4_occupyNext_r2 : List Cond := [Cond.methodLink RX3 3 objectInit, Cond.instanceMethod objectInit, Cond.code objectInit ⟨#[0xb1]⟩ 1 none, Cond.fieldLink RX3 19 "WeakTableHeap$State" "fields" "[I", Cond.fieldLink RX3 22 "WeakTableHeap$State" "keys" "[I", Cond.fieldLink RX3 25 "WeakTableHeap$State" "values" "[I", Cond.fieldLink RX3 28 "WeakTableHeap$State" "targets" "[I", Cond.fieldLink RX3 31 "WeakTableHeap$State" "roots" "[I", Cond.classLink RX3 34 RX2, Cond.instantiable RX2 2, Cond.initialized RX2, Cond.fieldLink RX3 37 "WeakTableHeap$State" "notices" "LWeakTableHeap$Notices;", Cond.static yX4_emptyRow, Cond.initialized RX4, Cond.code yX4_emptyRow cX4_emptyRow 2 (some (.array .int)), Cond.methodLink RX4 183 Lib.Math.max.name, Cond.static Lib.Math.max.name, Cond.code Lib.Math.max.name Lib.Math.max.code 2 (some .int), Cond.arrayClass .int, Cond.methodLink RX4 188 yJ7_fill_53178, Cond.static yJ7_fill_53178, Cond.initialized RJ7, Cond.code yJ7_fill_53178 cJ7_fill_53178 4 none, Cond.instanceMethod yX2_init]
def wsX4_occupyNext_r3 : List Cond := [Cond.code yX2_init cX2_init 1 none, Cond.methodLink RX2 3 objectInit, Cond.fieldLink RX2 9 "WeakTableHeap$Notices" "queue" "[I", Cond.methodLink RX0 22 yX3_copyFrom, Cond.instanceMethod yX3_copyFrom, Cond.selects RX3 yX3_copyFrom yX3_copyFrom, Cond.code yX3_copyFrom cX3_copyFrom 2 none, Cond.fieldLink RX3 49 "WeakTableHeap$State" "finalizable" "I", Cond.fieldLink RX3 53 "WeakTableHeap$State" "roundsOfCollection" "I", Cond.static yX4_copyRow, Cond.code yX4_copyRow cX4_copyRow 2 none, Cond.methodLink RX4 194 Lib.Math.min.name, Cond.methodLink RX4 197 arraycopyName, Cond.native arraycopyName, Cond.static arraycopyName, Cond.initialized "java/lang/System", Cond.methodLink RX3 45 yX2_copyFrom, Cond.instanceMethod yX2_copyFrom, Cond.selects RX2 yX2_copyFrom yX2_copyFrom, Cond.code yX2_copyFrom cX2_copyFrom 2 none, Cond.fieldLink RX2 19 "WeakTableHeap$Notices" "size" "I", Cond.methodLink RX4 50 yX3_occupy, Cond.instanceMethod yX3_occupy, Cond.selects RX3 yX3_occupy yX3_occupy]
def wsX4_occupyNext_r4 : List Cond := [Cond.code yX3_occupy cX3_occupy 4 none, Cond.static yX4_within, Cond.code yX4_within cX4_within 2 (some .boolean)]
def wsX4_occupyNext : List Cond := .code yX4_occupyNext cX4_occupyNext 4 (some .int) :: ((wsX4_occupyNext_r1 ++ (wsX4_occupyNext_r2 ++ (wsX4_occupyNext_r3 ++ wsX4_occupyNext_r4))) ++ wsX40 ++ wsX30 ++ wsX00 ++ wsX20)
def wsX4_allocate_r1 : List Cond := [Cond.methodLink RX4 34 yX4_occupyNext, Cond.instanceMethod yX4_occupyNext, Cond.selects RX4 yX4_occupyNext yX4_occupyNext, Cond.initialized RX4, Cond.code yX4_occupyNext cX4_occupyNext 4 (some .int), Cond.fieldLink RX4 10 "WeakTableHeap" "state" "LWeakTableHeap$State;", Cond.fieldLink RX4 19 "WeakTableHeap" "history" "LWeakTableHeap$History;", Cond.methodLink RX4 42 yX3_smallestFree, Cond.instanceMethod yX3_smallestFree, Cond.selects RX3 yX3_smallestFree yX3_smallestFree, Cond.initialized RX3, Cond.code yX3_smallestFree cX3_smallestFree 2 (some .int), Cond.fieldLink RX3 13 "WeakTableHeap$State" "kinds" "[I", Cond.methodLink RX4 46 yX0_push, Cond.instanceMethod yX0_push, Cond.selects RX0 yX0_push yX0_push, Cond.initialized RX0, Cond.code yX0_push cX0_push 2 none, Cond.fieldLink RX0 11 "WeakTableHeap$History" "ring" "[LWeakTableHeap$State;", Cond.fieldLink RX0 17 "WeakTableHeap$History" "next" "I", Cond.classLink RX0 9 RX3, Cond.instantiable RX3 9, Cond.fieldLink RX0 26 "WeakTableHeap$History" "depth" "I", Cond.methodLink RX0 29 Lib.Math.min.name]
def wsX4_allocate_r2 : List Cond := [Cond.static Lib.Math.min.name, Cond.initialized "java/lang/Math", Cond.code Lib.Math.min.name Lib.Math.min.code 2 (some .int), Cond.instanceMethod yX3_init, Cond.code yX3_init cX3_init 1 none, Cond.methodLink RX3 3 objectInit, Cond.instanceMethod objectInit, Cond.code objectInit ⟨#[0xb1]⟩ 1 none, Cond.fieldLink RX3 19 "WeakTableHeap$State" "fields" "[I", Cond.fieldLink RX3 22 "WeakTableHeap$State" "keys" "[I", Cond.fieldLink RX3 25 "WeakTableHeap$State" "values" "[I", Cond.fieldLink RX3 28 "WeakTableHeap$State" "targets" "[I", Cond.fieldLink RX3 31 "WeakTableHeap$State" "roots" "[I", Cond.classLink RX3 34 RX2, Cond.instantiable RX2 2, Cond.initialized RX2, Cond.fieldLink RX3 37 "WeakTableHeap$State" "notices" "LWeakTableHeap$Notices;", Cond.static yX4_emptyRow, Cond.code yX4_emptyRow cX4_emptyRow 2 (some (.array .int)), Cond.methodLink RX4 183 Lib.Math.max.name, Cond.static Lib.Math.max.name, Cond.code Lib.Math.max.name Lib.Math.max.code 2 (some .int), Cond.arrayClass .int, Cond.methodLink RX4 188 yJ7_fill_53178]
def wsX4_allocate_r3 : List Cond := [Cond.static yJ7_fill_53178, Cond.initialized RJ7, Cond.code yJ7_fill_53178 cJ7_fill_53178 4 none, Cond.instanceMethod yX2_init, Cond.code yX2_init cX2_init 1 none, Cond.methodLink RX2 3 objectInit, Cond.fieldLink RX2 9 "WeakTableHeap$Notices" "queue" "[I", Cond.methodLink RX0 22 yX3_copyFrom, Cond.instanceMethod yX3_copyFrom, Cond.selects RX3 yX3_copyFrom yX3_copyFrom, Cond.code yX3_copyFrom cX3_copyFrom 2 none, Cond.fieldLink RX3 49 "WeakTableHeap$State" "finalizable" "I", Cond.fieldLink RX3 53 "WeakTableHeap$State" "roundsOfCollection" "I", Cond.static yX4_copyRow, Cond.code yX4_copyRow cX4_copyRow 2 none, Cond.methodLink RX4 194 Lib.Math.min.name, Cond.methodLink RX4 197 arraycopyName, Cond.native arraycopyName, Cond.static arraycopyName, Cond.initialized "java/lang/System", Cond.methodLink RX3 45 yX2_copyFrom, Cond.instanceMethod yX2_copyFrom, Cond.selects RX2 yX2_copyFrom yX2_copyFrom, Cond.code yX2_copyFrom cX2_copyFrom 2 none]
def wsX4_allocate_r4 : List Cond := [Cond.fieldLink RX2 19 "WeakTableHeap$Notices" "size" "I", Cond.methodLink RX4 50 yX3_occupy, Cond.instanceMethod yX3_occupy, Cond.selects RX3 yX3_occupy yX3_occupy, Cond.code yX3_occupy cX3_occupy 4 none, Cond.static yX4_within, Cond.code yX4_within cX4_within 2 (some .boolean)]
def wsX4_allocate : List Cond := .code yX4_allocate cX4_allocate 1 (some .int) :: ((wsX4_allocate_r1 ++ (wsX4_allocate_r2 ++ (wsX4_allocate_r3 ++ wsX4_allocate_r4))) ++ wsX40 ++ wsX30 ++ wsX00 ++ wsX20)
def wsX4_allocateTable_r1 : List Cond := [Cond.methodLink RX4 34 yX4_occupyNext, Cond.instanceMethod yX4_occupyNext, Cond.selects RX4 yX4_occupyNext yX4_occupyNext, Cond.initialized RX4, Cond.code yX4_occupyNext cX4_occupyNext 4 (some .int), Cond.fieldLink RX4 10 "WeakTableHeap" "state" "LWeakTableHeap$State;", Cond.fieldLink RX4 19 "WeakTableHeap" "history" "LWeakTableHeap$History;", Cond.methodLink RX4 42 yX3_smallestFree, Cond.instanceMethod yX3_smallestFree, Cond.selects RX3 yX3_smallestFree yX3_smallestFree, Cond.initialized RX3, Cond.code yX3_smallestFree cX3_smallestFree 2 (some .int), Cond.fieldLink RX3 13 "WeakTableHeap$State" "kinds" "[I", Cond.methodLink RX4 46 yX0_push, Cond.instanceMethod yX0_push, Cond.selects RX0 yX0_push yX0_push, Cond.initialized RX0, Cond.code yX0_push cX0_push 2 none, Cond.fieldLink RX0 11 "WeakTableHeap$History" "ring" "[LWeakTableHeap$State;", Cond.fieldLink RX0 17 "WeakTableHeap$History" "next" "I", Cond.classLink RX0 9 RX3, Cond.instantiable RX3 9, Cond.fieldLink RX0 26 "WeakTableHeap$History" "depth" "I", Cond.methodLink RX0 29 Lib.Math.min.name]
def wsX4_allocateTable_r2 : List Cond := [Cond.static Lib.Math.min.name, Cond.initialized "java/lang/Math", Cond.code Lib.Math.min.name Lib.Math.min.code 2 (some .int), Cond.instanceMethod yX3_init, Cond.code yX3_init cX3_init 1 none, Cond.methodLink RX3 3 objectInit, Cond.instanceMethod objectInit, Cond.code objectInit ⟨#[0xb1]⟩ 1 none, Cond.fieldLink RX3 19 "WeakTableHeap$State" "fields" "[I", Cond.fieldLink RX3 22 "WeakTableHeap$State" "keys" "[I", Cond.fieldLink RX3 25 "WeakTableHeap$State" "values" "[I", Cond.fieldLink RX3 28 "WeakTableHeap$State" "targets" "[I", Cond.fieldLink RX3 31 "WeakTableHeap$State" "roots" "[I", Cond.classLink RX3 34 RX2, Cond.instantiable RX2 2, Cond.initialized RX2, Cond.fieldLink RX3 37 "WeakTableHeap$State" "notices" "LWeakTableHeap$Notices;", Cond.static yX4_emptyRow, Cond.code yX4_emptyRow cX4_emptyRow 2 (some (.array .int)), Cond.methodLink RX4 183 Lib.Math.max.name, Cond.static Lib.Math.max.name, Cond.code Lib.Math.max.name Lib.Math.max.code 2 (some .int), Cond.arrayClass .int, Cond.methodLink RX4 188 yJ7_fill_53178]
def wsX4_allocateTable_r3 : List Cond := [Cond.static yJ7_fill_53178, Cond.initialized RJ7, Cond.code yJ7_fill_53178 cJ7_fill_53178 4 none, Cond.instanceMethod yX2_init, Cond.code yX2_init cX2_init 1 none, Cond.methodLink RX2 3 objectInit, Cond.fieldLink RX2 9 "WeakTableHeap$Notices" "queue" "[I", Cond.methodLink RX0 22 yX3_copyFrom, Cond.instanceMethod yX3_copyFrom, Cond.selects RX3 yX3_copyFrom yX3_copyFrom, Cond.code yX3_copyFrom cX3_copyFrom 2 none, Cond.fieldLink RX3 49 "WeakTableHeap$State" "finalizable" "I", Cond.fieldLink RX3 53 "WeakTableHeap$State" "roundsOfCollection" "I", Cond.static yX4_copyRow, Cond.code yX4_copyRow cX4_copyRow 2 none, Cond.methodLink RX4 194 Lib.Math.min.name, Cond.methodLink RX4 197 arraycopyName, Cond.native arraycopyName, Cond.static arraycopyName, Cond.initialized "java/lang/System", Cond.methodLink RX3 45 yX2_copyFrom, Cond.instanceMethod yX2_copyFrom, Cond.selects RX2 yX2_copyFrom yX2_copyFrom, Cond.code yX2_copyFrom cX2_copyFrom 2 none]
def wsX4_allocateTable_r4 : List Cond := [Cond.fieldLink RX2 19 "WeakTableHeap$Notices" "size" "I", Cond.methodLink RX4 50 yX3_occupy, Cond.instanceMethod yX3_occupy, Cond.selects RX3 yX3_occupy yX3_occupy, Cond.code yX3_occupy cX3_occupy 4 none, Cond.static yX4_within, Cond.code yX4_within cX4_within 2 (some .boolean)]
def wsX4_allocateTable : List Cond := .code yX4_allocateTable cX4_allocateTable 1 (some .int) :: ((wsX4_allocateTable_r1 ++ (wsX4_allocateTable_r2 ++ (wsX4_allocateTable_r3 ++ wsX4_allocateTable_r4))) ++ wsX40 ++ wsX30 ++ wsX00 ++ wsX20)
def wsX4_allocateWeak_r1 : List Cond := [Cond.fieldLink RX4 10 "WeakTableHeap" "state" "LWeakTableHeap$State;", Cond.methodLink RX4 38 yX3_isAllocated, Cond.instanceMethod yX3_isAllocated, Cond.selects RX3 yX3_isAllocated yX3_isAllocated, Cond.initialized RX3, Cond.code yX3_isAllocated cX3_isAllocated 2 (some .boolean), Cond.fieldLink RX3 13 "WeakTableHeap$State" "kinds" "[I", Cond.static yX4_within, Cond.initialized RX4, Cond.code yX4_within cX4_within 2 (some .boolean), Cond.methodLink RX4 34 yX4_occupyNext, Cond.instanceMethod yX4_occupyNext, Cond.selects RX4 yX4_occupyNext yX4_occupyNext, Cond.code yX4_occupyNext cX4_occupyNext 4 (some .int), Cond.fieldLink RX4 19 "WeakTableHeap" "history" "LWeakTableHeap$History;", Cond.methodLink RX4 42 yX3_smallestFree, Cond.instanceMethod yX3_smallestFree, Cond.selects RX3 yX3_smallestFree yX3_smallestFree, Cond.code yX3_smallestFree cX3_smallestFree 2 (some .int), Cond.methodLink RX4 46 yX0_push, Cond.instanceMethod yX0_push, Cond.selects RX0 yX0_push yX0_push, Cond.initialized RX0, Cond.code yX0_push cX0_push 2 none]
def wsX4_allocateWeak_r2 : List Cond := [Cond.fieldLink RX0 11 "WeakTableHeap$History" "ring" "[LWeakTableHeap$State;", Cond.fieldLink RX0 17 "WeakTableHeap$History" "next" "I", Cond.classLink RX0 9 RX3, Cond.instantiable RX3 9, Cond.fieldLink RX0 26 "WeakTableHeap$History" "depth" "I", Cond.methodLink RX0 29 Lib.Math.min.name, Cond.static Lib.Math.min.name, Cond.initialized "java/lang/Math", Cond.code Lib.Math.min.name Lib.Math.min.code 2 (some .int), Cond.instanceMethod yX3_init, Cond.code yX3_init cX3_init 1 none, Cond.methodLink RX3 3 objectInit, Cond.instanceMethod objectInit, Cond.code objectInit ⟨#[0xb1]⟩ 1 none, Cond.fieldLink RX3 19 "WeakTableHeap$State" "fields" "[I", Cond.fieldLink RX3 22 "WeakTableHeap$State" "keys" "[I", Cond.fieldLink RX3 25 "WeakTableHeap$State" "values" "[I", Cond.fieldLink RX3 28 "WeakTableHeap$State" "targets" "[I", Cond.fieldLink RX3 31 "WeakTableHeap$State" "roots" "[I", Cond.classLink RX3 34 RX2, Cond.instantiable RX2 2, Cond.initialized RX2, Cond.fieldLink RX3 37 "WeakTableHeap$State" "notices" "LWeakTableHeap$Notices;", Cond.static yX4_emptyRow]
def wsX4_allocateWeak_r3 : List Cond := [Cond.code yX4_emptyRow cX4_emptyRow 2 (some (.array .int)), Cond.methodLink RX4 183 Lib.Math.max.name, Cond.static Lib.Math.max.name, Cond.code Lib.Math.max.name Lib.Math.max.code 2 (some .int), Cond.arrayClass .int, Cond.methodLink RX4 188 yJ7_fill_53178, Cond.static yJ7_fill_53178, Cond.initialized RJ7, Cond.code yJ7_fill_53178 cJ7_fill_53178 4 none, Cond.instanceMethod yX2_init, Cond.code yX2_init cX2_init 1 none, Cond.methodLink RX2 3 objectInit, Cond.fieldLink RX2 9 "WeakTableHeap$Notices" "queue" "[I", Cond.methodLink RX0 22 yX3_copyFrom, Cond.instanceMethod yX3_copyFrom, Cond.selects RX3 yX3_copyFrom yX3_copyFrom, Cond.code yX3_copyFrom cX3_copyFrom 2 none, Cond.fieldLink RX3 49 "WeakTableHeap$State" "finalizable" "I", Cond.fieldLink RX3 53 "WeakTableHeap$State" "roundsOfCollection" "I", Cond.static yX4_copyRow, Cond.code yX4_copyRow cX4_copyRow 2 none, Cond.methodLink RX4 194 Lib.Math.min.name, Cond.methodLink RX4 197 arraycopyName, Cond.native arraycopyName]
def wsX4_allocateWeak_r4 : List Cond := [Cond.static arraycopyName, Cond.initialized "java/lang/System", Cond.methodLink RX3 45 yX2_copyFrom, Cond.instanceMethod yX2_copyFrom, Cond.selects RX2 yX2_copyFrom yX2_copyFrom, Cond.code yX2_copyFrom cX2_copyFrom 2 none, Cond.fieldLink RX2 19 "WeakTableHeap$Notices" "size" "I", Cond.methodLink RX4 50 yX3_occupy, Cond.instanceMethod yX3_occupy, Cond.selects RX3 yX3_occupy yX3_occupy, Cond.code yX3_occupy cX3_occupy 4 none]
def wsX4_allocateWeak : List Cond := .code yX4_allocateWeak cX4_allocateWeak 2 (some .int) :: ((wsX4_allocateWeak_r1 ++ (wsX4_allocateWeak_r2 ++ (wsX4_allocateWeak_r3 ++ wsX4_allocateWeak_r4))) ++ wsX40 ++ wsX30 ++ wsX00 ++ wsX20)
def wsX4_kind : List Cond := .code yX4_kind cX4_kind 2 (some .int) :: ([.fieldLink RX4 10 "WeakTableHeap" "state" "LWeakTableHeap$State;", .fieldLink RX4 58 "WeakTableHeap$State" "kinds" "[I", .methodLink RX4 54 yX4_within, .static yX4_within, .initialized RX4, .code yX4_within cX4_within 2 (some .boolean)] ++ wsX40 ++ wsX30)
def wsX4_setField_r1 : List Cond := [Cond.fieldLink RX4 10 "WeakTableHeap" "state" "LWeakTableHeap$State;", Cond.fieldLink RX4 68 "WeakTableHeap$State" "fields" "[I", Cond.fieldLink RX4 19 "WeakTableHeap" "history" "LWeakTableHeap$History;", Cond.methodLink RX4 62 yX3_hasKind, Cond.instanceMethod yX3_hasKind, Cond.selects RX3 yX3_hasKind yX3_hasKind, Cond.initialized RX3, Cond.code yX3_hasKind cX3_hasKind 3 (some .boolean), Cond.fieldLink RX3 13 "WeakTableHeap$State" "kinds" "[I", Cond.static yX4_within, Cond.initialized RX4, Cond.code yX4_within cX4_within 2 (some .boolean), Cond.methodLink RX4 54 yX4_within, Cond.methodLink RX4 65 yX3_isContent, Cond.instanceMethod yX3_isContent, Cond.selects RX3 yX3_isContent yX3_isContent, Cond.code yX3_isContent cX3_isContent 2 (some .boolean), Cond.methodLink RX3 60 yX3_isAllocated, Cond.instanceMethod yX3_isAllocated, Cond.selects RX3 yX3_isAllocated yX3_isAllocated, Cond.code yX3_isAllocated cX3_isAllocated 2 (some .boolean), Cond.methodLink RX4 46 yX0_push, Cond.instanceMethod yX0_push, Cond.selects RX0 yX0_push yX0_push]
def wsX4_setField_r2 : List Cond := [Cond.initialized RX0, Cond.code yX0_push cX0_push 2 none, Cond.fieldLink RX0 11 "WeakTableHeap$History" "ring" "[LWeakTableHeap$State;", Cond.fieldLink RX0 17 "WeakTableHeap$History" "next" "I", Cond.classLink RX0 9 RX3, Cond.instantiable RX3 9, Cond.fieldLink RX0 26 "WeakTableHeap$History" "depth" "I", Cond.methodLink RX0 29 Lib.Math.min.name, Cond.static Lib.Math.min.name, Cond.initialized "java/lang/Math", Cond.code Lib.Math.min.name Lib.Math.min.code 2 (some .int), Cond.instanceMethod yX3_init, Cond.code yX3_init cX3_init 1 none, Cond.methodLink RX3 3 objectInit, Cond.instanceMethod objectInit, Cond.code objectInit ⟨#[0xb1]⟩ 1 none, Cond.fieldLink RX3 19 "WeakTableHeap$State" "fields" "[I", Cond.fieldLink RX3 22 "WeakTableHeap$State" "keys" "[I", Cond.fieldLink RX3 25 "WeakTableHeap$State" "values" "[I", Cond.fieldLink RX3 28 "WeakTableHeap$State" "targets" "[I", Cond.fieldLink RX3 31 "WeakTableHeap$State" "roots" "[I", Cond.classLink RX3 34 RX2, Cond.instantiable RX2 2, Cond.initialized RX2]
def wsX4_setField_r3 : List Cond := [Cond.fieldLink RX3 37 "WeakTableHeap$State" "notices" "LWeakTableHeap$Notices;", Cond.static yX4_emptyRow, Cond.code yX4_emptyRow cX4_emptyRow 2 (some (.array .int)), Cond.methodLink RX4 183 Lib.Math.max.name, Cond.static Lib.Math.max.name, Cond.code Lib.Math.max.name Lib.Math.max.code 2 (some .int), Cond.arrayClass .int, Cond.methodLink RX4 188 yJ7_fill_53178, Cond.static yJ7_fill_53178, Cond.initialized RJ7, Cond.code yJ7_fill_53178 cJ7_fill_53178 4 none, Cond.instanceMethod yX2_init, Cond.code yX2_init cX2_init 1 none, Cond.methodLink RX2 3 objectInit, Cond.fieldLink RX2 9 "WeakTableHeap$Notices" "queue" "[I", Cond.methodLink RX0 22 yX3_copyFrom, Cond.instanceMethod yX3_copyFrom, Cond.selects RX3 yX3_copyFrom yX3_copyFrom, Cond.code yX3_copyFrom cX3_copyFrom 2 none, Cond.fieldLink RX3 49 "WeakTableHeap$State" "finalizable" "I", Cond.fieldLink RX3 53 "WeakTableHeap$State" "roundsOfCollection" "I", Cond.static yX4_copyRow, Cond.code yX4_copyRow cX4_copyRow 2 none, Cond.methodLink RX4 194 Lib.Math.min.name]
def wsX4_setField_r4 : List Cond := [Cond.methodLink RX4 197 arraycopyName, Cond.native arraycopyName, Cond.static arraycopyName, Cond.initialized "java/lang/System", Cond.methodLink RX3 45 yX2_copyFrom, Cond.instanceMethod yX2_copyFrom, Cond.selects RX2 yX2_copyFrom yX2_copyFrom, Cond.code yX2_copyFrom cX2_copyFrom 2 none, Cond.fieldLink RX2 19 "WeakTableHeap$Notices" "size" "I"]
def wsX4_setField : List Cond := .code yX4_setField cX4_setField 6 (some .int) :: ((wsX4_setField_r1 ++ (wsX4_setField_r2 ++ (wsX4_setField_r3 ++ wsX4_setField_r4))) ++ wsX40 ++ wsX30 ++ wsX00 ++ wsX20)
def wsX4_field : List Cond := .code yX4_field cX4_field 3 (some .int) :: ([.fieldLink RX4 10 "WeakTableHeap" "state" "LWeakTableHeap$State;", .fieldLink RX4 68 "WeakTableHeap$State" "fields" "[I", .methodLink RX4 62 yX3_hasKind, .instanceMethod yX3_hasKind, .selects RX3 yX3_hasKind yX3_hasKind, .initialized RX3, .code yX3_hasKind cX3_hasKind 3 (some .boolean), .fieldLink RX3 13 "WeakTableHeap$State" "kinds" "[I", .static yX4_within, .initialized RX4, .code yX4_within cX4_within 2 (some .boolean), .methodLink RX4 54 yX4_within] ++ wsX40 ++ wsX30)
def wsX4_setRoot_r1 : List Cond := [Cond.fieldLink RX4 10 "WeakTableHeap" "state" "LWeakTableHeap$State;", Cond.fieldLink RX4 71 "WeakTableHeap$State" "roots" "[I", Cond.fieldLink RX4 19 "WeakTableHeap" "history" "LWeakTableHeap$History;", Cond.methodLink RX4 54 yX4_within, Cond.static yX4_within, Cond.initialized RX4, Cond.code yX4_within cX4_within 2 (some .boolean), Cond.methodLink RX4 65 yX3_isContent, Cond.instanceMethod yX3_isContent, Cond.selects RX3 yX3_isContent yX3_isContent, Cond.initialized RX3, Cond.code yX3_isContent cX3_isContent 2 (some .boolean), Cond.methodLink RX3 60 yX3_isAllocated, Cond.instanceMethod yX3_isAllocated, Cond.selects RX3 yX3_isAllocated yX3_isAllocated, Cond.code yX3_isAllocated cX3_isAllocated 2 (some .boolean), Cond.fieldLink RX3 13 "WeakTableHeap$State" "kinds" "[I", Cond.methodLink RX4 46 yX0_push, Cond.instanceMethod yX0_push, Cond.selects RX0 yX0_push yX0_push, Cond.initialized RX0, Cond.code yX0_push cX0_push 2 none, Cond.fieldLink RX0 11 "WeakTableHeap$History" "ring" "[LWeakTableHeap$State;", Cond.fieldLink RX0 17 "WeakTableHeap$History" "next" "I"]
def wsX4_setRoot_r2 : List Cond := [Cond.classLink RX0 9 RX3, Cond.instantiable RX3 9, Cond.fieldLink RX0 26 "WeakTableHeap$History" "depth" "I", Cond.methodLink RX0 29 Lib.Math.min.name, Cond.static Lib.Math.min.name, Cond.initialized "java/lang/Math", Cond.code Lib.Math.min.name Lib.Math.min.code 2 (some .int), Cond.instanceMethod yX3_init, Cond.code yX3_init cX3_init 1 none, Cond.methodLink RX3 3 objectInit, Cond.instanceMethod objectInit, Cond.code objectInit ⟨#[0xb1]⟩ 1 none, Cond.fieldLink RX3 19 "WeakTableHeap$State" "fields" "[I", Cond.fieldLink RX3 22 "WeakTableHeap$State" "keys" "[I", Cond.fieldLink RX3 25 "WeakTableHeap$State" "values" "[I", Cond.fieldLink RX3 28 "WeakTableHeap$State" "targets" "[I", Cond.fieldLink RX3 31 "WeakTableHeap$State" "roots" "[I", Cond.classLink RX3 34 RX2, Cond.instantiable RX2 2, Cond.initialized RX2, Cond.fieldLink RX3 37 "WeakTableHeap$State" "notices" "LWeakTableHeap$Notices;", Cond.static yX4_emptyRow, Cond.code yX4_emptyRow cX4_emptyRow 2 (some (.array .int)), Cond.methodLink RX4 183 Lib.Math.max.name]
def wsX4_setRoot_r3 : List Cond := [Cond.static Lib.Math.max.name, Cond.code Lib.Math.max.name Lib.Math.max.code 2 (some .int), Cond.arrayClass .int, Cond.methodLink RX4 188 yJ7_fill_53178, Cond.static yJ7_fill_53178, Cond.initialized RJ7, Cond.code yJ7_fill_53178 cJ7_fill_53178 4 none, Cond.instanceMethod yX2_init, Cond.code yX2_init cX2_init 1 none, Cond.methodLink RX2 3 objectInit, Cond.fieldLink RX2 9 "WeakTableHeap$Notices" "queue" "[I", Cond.methodLink RX0 22 yX3_copyFrom, Cond.instanceMethod yX3_copyFrom, Cond.selects RX3 yX3_copyFrom yX3_copyFrom, Cond.code yX3_copyFrom cX3_copyFrom 2 none, Cond.fieldLink RX3 49 "WeakTableHeap$State" "finalizable" "I", Cond.fieldLink RX3 53 "WeakTableHeap$State" "roundsOfCollection" "I", Cond.static yX4_copyRow, Cond.code yX4_copyRow cX4_copyRow 2 none, Cond.methodLink RX4 194 Lib.Math.min.name, Cond.methodLink RX4 197 arraycopyName, Cond.native arraycopyName, Cond.static arraycopyName, Cond.initialized "java/lang/System"]
def wsX4_setRoot_r4 : List Cond := [Cond.methodLink RX3 45 yX2_copyFrom, Cond.instanceMethod yX2_copyFrom, Cond.selects RX2 yX2_copyFrom yX2_copyFrom, Cond.code yX2_copyFrom cX2_copyFrom 2 none, Cond.fieldLink RX2 19 "WeakTableHeap$Notices" "size" "I"]
def wsX4_setRoot : List Cond := .code yX4_setRoot cX4_setRoot 4 (some .int) :: ((wsX4_setRoot_r1 ++ (wsX4_setRoot_r2 ++ (wsX4_setRoot_r3 ++ wsX4_setRoot_r4))) ++ wsX40 ++ wsX30 ++ wsX00 ++ wsX20)
def wsX4_root : List Cond := .code yX4_root cX4_root 2 (some .int) :: ([.fieldLink RX4 10 "WeakTableHeap" "state" "LWeakTableHeap$State;", .fieldLink RX4 71 "WeakTableHeap$State" "roots" "[I", .methodLink RX4 54 yX4_within, .static yX4_within, .initialized RX4, .code yX4_within cX4_within 2 (some .boolean)] ++ wsX40 ++ wsX30)
def wsX4_target : List Cond := .code yX4_target cX4_target 2 (some .int) :: ([.fieldLink RX4 10 "WeakTableHeap" "state" "LWeakTableHeap$State;", .fieldLink RX4 74 "WeakTableHeap$State" "targets" "[I", .methodLink RX4 62 yX3_hasKind, .instanceMethod yX3_hasKind, .selects RX3 yX3_hasKind yX3_hasKind, .initialized RX3, .code yX3_hasKind cX3_hasKind 3 (some .boolean), .fieldLink RX3 13 "WeakTableHeap$State" "kinds" "[I", .static yX4_within, .initialized RX4, .code yX4_within cX4_within 2 (some .boolean)] ++ wsX40 ++ wsX30)
def wsJ6_bitCount_0f7a4 : List Cond := .code yJ6_bitCount_0f7a4 cJ6_bitCount_0f7a4 1 (some .int) :: ([.constant RJ6 265 (1431655765), .constant RJ6 266 (858993459), .constant RJ6 267 (252645135)])
def wsX4_setFinalizable_r1 : List Cond := [Cond.fieldLink RX4 10 "WeakTableHeap" "state" "LWeakTableHeap$State;", Cond.fieldLink RX4 77 "WeakTableHeap$State" "finalizable" "I", Cond.fieldLink RX4 19 "WeakTableHeap" "history" "LWeakTableHeap$History;", Cond.methodLink RX4 38 yX3_isAllocated, Cond.instanceMethod yX3_isAllocated, Cond.selects RX3 yX3_isAllocated yX3_isAllocated, Cond.initialized RX3, Cond.code yX3_isAllocated cX3_isAllocated 2 (some .boolean), Cond.fieldLink RX3 13 "WeakTableHeap$State" "kinds" "[I", Cond.static yX4_within, Cond.initialized RX4, Cond.code yX4_within cX4_within 2 (some .boolean), Cond.methodLink RX4 81 yX4_contains, Cond.static yX4_contains, Cond.code yX4_contains cX4_contains 2 (some .boolean), Cond.methodLink RX4 84 yX4_setOf, Cond.static yX4_setOf, Cond.code yX4_setOf cX4_setOf 1 (some .int), Cond.methodLink RX4 46 yX0_push, Cond.instanceMethod yX0_push, Cond.selects RX0 yX0_push yX0_push, Cond.initialized RX0, Cond.code yX0_push cX0_push 2 none, Cond.fieldLink RX0 11 "WeakTableHeap$History" "ring" "[LWeakTableHeap$State;"]
def wsX4_setFinalizable_r2 : List Cond := [Cond.fieldLink RX0 17 "WeakTableHeap$History" "next" "I", Cond.classLink RX0 9 RX3, Cond.instantiable RX3 9, Cond.fieldLink RX0 26 "WeakTableHeap$History" "depth" "I", Cond.methodLink RX0 29 Lib.Math.min.name, Cond.static Lib.Math.min.name, Cond.initialized "java/lang/Math", Cond.code Lib.Math.min.name Lib.Math.min.code 2 (some .int), Cond.instanceMethod yX3_init, Cond.code yX3_init cX3_init 1 none, Cond.methodLink RX3 3 objectInit, Cond.instanceMethod objectInit, Cond.code objectInit ⟨#[0xb1]⟩ 1 none, Cond.fieldLink RX3 19 "WeakTableHeap$State" "fields" "[I", Cond.fieldLink RX3 22 "WeakTableHeap$State" "keys" "[I", Cond.fieldLink RX3 25 "WeakTableHeap$State" "values" "[I", Cond.fieldLink RX3 28 "WeakTableHeap$State" "targets" "[I", Cond.fieldLink RX3 31 "WeakTableHeap$State" "roots" "[I", Cond.classLink RX3 34 RX2, Cond.instantiable RX2 2, Cond.initialized RX2, Cond.fieldLink RX3 37 "WeakTableHeap$State" "notices" "LWeakTableHeap$Notices;", Cond.static yX4_emptyRow, Cond.code yX4_emptyRow cX4_emptyRow 2 (some (.array .int))]
def wsX4_setFinalizable_r3 : List Cond := [Cond.methodLink RX4 183 Lib.Math.max.name, Cond.static Lib.Math.max.name, Cond.code Lib.Math.max.name Lib.Math.max.code 2 (some .int), Cond.arrayClass .int, Cond.methodLink RX4 188 yJ7_fill_53178, Cond.static yJ7_fill_53178, Cond.initialized RJ7, Cond.code yJ7_fill_53178 cJ7_fill_53178 4 none, Cond.instanceMethod yX2_init, Cond.code yX2_init cX2_init 1 none, Cond.methodLink RX2 3 objectInit, Cond.fieldLink RX2 9 "WeakTableHeap$Notices" "queue" "[I", Cond.methodLink RX0 22 yX3_copyFrom, Cond.instanceMethod yX3_copyFrom, Cond.selects RX3 yX3_copyFrom yX3_copyFrom, Cond.code yX3_copyFrom cX3_copyFrom 2 none, Cond.fieldLink RX3 49 "WeakTableHeap$State" "finalizable" "I", Cond.fieldLink RX3 53 "WeakTableHeap$State" "roundsOfCollection" "I", Cond.static yX4_copyRow, Cond.code yX4_copyRow cX4_copyRow 2 none, Cond.methodLink RX4 194 Lib.Math.min.name, Cond.methodLink RX4 197 arraycopyName, Cond.native arraycopyName, Cond.static arraycopyName]
def wsX4_setFinalizable_r4 : List Cond := [Cond.initialized "java/lang/System", Cond.methodLink RX3 45 yX2_copyFrom, Cond.instanceMethod yX2_copyFrom, Cond.selects RX2 yX2_copyFrom yX2_copyFrom, Cond.code yX2_copyFrom cX2_copyFrom 2 none, Cond.fieldLink RX2 19 "WeakTableHeap$Notices" "size" "I", Cond.methodLink RX4 88 yJ6_bitCount_0f7a4, Cond.static yJ6_bitCount_0f7a4, Cond.initialized RJ6, Cond.code yJ6_bitCount_0f7a4 cJ6_bitCount_0f7a4 1 (some .int), Cond.constant RJ6 265 (1431655765), Cond.constant RJ6 266 (858993459), Cond.constant RJ6 267 (252645135)]
def wsX4_setFinalizable : List Cond := .code yX4_setFinalizable cX4_setFinalizable 3 (some .int) :: ((wsX4_setFinalizable_r1 ++ (wsX4_setFinalizable_r2 ++ (wsX4_setFinalizable_r3 ++ wsX4_setFinalizable_r4))) ++ wsX40 ++ wsX30 ++ wsX00 ++ wsX20)
def wsX4_put_r1 : List Cond := [Cond.fieldLink RX4 10 "WeakTableHeap" "state" "LWeakTableHeap$State;", Cond.fieldLink RX4 19 "WeakTableHeap" "history" "LWeakTableHeap$History;", Cond.fieldLink RX4 99 "WeakTableHeap$State" "values" "[I", Cond.fieldLink RX4 102 "WeakTableHeap$State" "keys" "[I", Cond.methodLink RX4 93 yX3_isTableAndKey, Cond.instanceMethod yX3_isTableAndKey, Cond.selects RX3 yX3_isTableAndKey yX3_isTableAndKey, Cond.initialized RX3, Cond.code yX3_isTableAndKey cX3_isTableAndKey 3 (some .boolean), Cond.methodLink RX3 64 yX3_hasKind, Cond.instanceMethod yX3_hasKind, Cond.selects RX3 yX3_hasKind yX3_hasKind, Cond.code yX3_hasKind cX3_hasKind 3 (some .boolean), Cond.fieldLink RX3 13 "WeakTableHeap$State" "kinds" "[I", Cond.static yX4_within, Cond.initialized RX4, Cond.code yX4_within cX4_within 2 (some .boolean), Cond.methodLink RX3 60 yX3_isAllocated, Cond.instanceMethod yX3_isAllocated, Cond.selects RX3 yX3_isAllocated yX3_isAllocated, Cond.code yX3_isAllocated cX3_isAllocated 2 (some .boolean), Cond.methodLink RX4 38 yX3_isAllocated, Cond.methodLink RX4 96 yX3_placeOfKey, Cond.instanceMethod yX3_placeOfKey]
def wsX4_put_r2 : List Cond := [Cond.selects RX3 yX3_placeOfKey yX3_placeOfKey, Cond.code yX3_placeOfKey cX3_placeOfKey 4 (some .int), Cond.fieldLink RX3 22 "WeakTableHeap$State" "keys" "[I", Cond.methodLink RX4 46 yX0_push, Cond.instanceMethod yX0_push, Cond.selects RX0 yX0_push yX0_push, Cond.initialized RX0, Cond.code yX0_push cX0_push 2 none, Cond.fieldLink RX0 11 "WeakTableHeap$History" "ring" "[LWeakTableHeap$State;", Cond.fieldLink RX0 17 "WeakTableHeap$History" "next" "I", Cond.classLink RX0 9 RX3, Cond.instantiable RX3 9, Cond.fieldLink RX0 26 "WeakTableHeap$History" "depth" "I", Cond.methodLink RX0 29 Lib.Math.min.name, Cond.static Lib.Math.min.name, Cond.initialized "java/lang/Math", Cond.code Lib.Math.min.name Lib.Math.min.code 2 (some .int), Cond.instanceMethod yX3_init, Cond.code yX3_init cX3_init 1 none, Cond.methodLink RX3 3 objectInit, Cond.instanceMethod objectInit, Cond.code objectInit ⟨#[0xb1]⟩ 1 none, Cond.fieldLink RX3 19 "WeakTableHeap$State" "fields" "[I", Cond.fieldLink RX3 25 "WeakTableHeap$State" "values" "[I"]
def wsX4_put_r3 : List Cond := [Cond.fieldLink RX3 28 "WeakTableHeap$State" "targets" "[I", Cond.fieldLink RX3 31 "WeakTableHeap$State" "roots" "[I", Cond.classLink RX3 34 RX2, Cond.instantiable RX2 2, Cond.initialized RX2, Cond.fieldLink RX3 37 "WeakTableHeap$State" "notices" "LWeakTableHeap$Notices;", Cond.static yX4_emptyRow, Cond.code yX4_emptyRow cX4_emptyRow 2 (some (.array .int)), Cond.methodLink RX4 183 Lib.Math.max.name, Cond.static Lib.Math.max.name, Cond.code Lib.Math.max.name Lib.Math.max.code 2 (some .int), Cond.arrayClass .int, Cond.methodLink RX4 188 yJ7_fill_53178, Cond.static yJ7_fill_53178, Cond.initialized RJ7, Cond.code yJ7_fill_53178 cJ7_fill_53178 4 none, Cond.instanceMethod yX2_init, Cond.code yX2_init cX2_init 1 none, Cond.methodLink RX2 3 objectInit, Cond.fieldLink RX2 9 "WeakTableHeap$Notices" "queue" "[I", Cond.methodLink RX0 22 yX3_copyFrom, Cond.instanceMethod yX3_copyFrom, Cond.selects RX3 yX3_copyFrom yX3_copyFrom, Cond.code yX3_copyFrom cX3_copyFrom 2 none]
def wsX4_put_r4 : List Cond := [Cond.fieldLink RX3 49 "WeakTableHeap$State" "finalizable" "I", Cond.fieldLink RX3 53 "WeakTableHeap$State" "roundsOfCollection" "I", Cond.static yX4_copyRow, Cond.code yX4_copyRow cX4_copyRow 2 none, Cond.methodLink RX4 194 Lib.Math.min.name, Cond.methodLink RX4 197 arraycopyName, Cond.native arraycopyName, Cond.static arraycopyName, Cond.initialized "java/lang/System", Cond.methodLink RX3 45 yX2_copyFrom, Cond.instanceMethod yX2_copyFrom, Cond.selects RX2 yX2_copyFrom yX2_copyFrom, Cond.code yX2_copyFrom cX2_copyFrom 2 none, Cond.fieldLink RX2 19 "WeakTableHeap$Notices" "size" "I"]
def wsX4_put : List Cond := .code yX4_put cX4_put 6 (some .int) :: ((wsX4_put_r1 ++ (wsX4_put_r2 ++ (wsX4_put_r3 ++ wsX4_put_r4))) ++ wsX40 ++ wsX30 ++ wsX00 ++ wsX20)
def wsX4_get : List Cond := .code yX4_get cX4_get 4 (some .int) :: ([.fieldLink RX4 10 "WeakTableHeap" "state" "LWeakTableHeap$State;", .fieldLink RX4 99 "WeakTableHeap$State" "values" "[I", .methodLink RX4 93 yX3_isTableAndKey, .instanceMethod yX3_isTableAndKey, .selects RX3 yX3_isTableAndKey yX3_isTableAndKey, .initialized RX3, .code yX3_isTableAndKey cX3_isTableAndKey 3 (some .boolean), .methodLink RX3 64 yX3_hasKind, .instanceMethod yX3_hasKind, .selects RX3 yX3_hasKind yX3_hasKind, .code yX3_hasKind cX3_hasKind 3 (some .boolean), .fieldLink RX3 13 "WeakTableHeap$State" "kinds" "[I", .static yX4_within, .initialized RX4, .code yX4_within cX4_within 2 (some .boolean), .methodLink RX3 60 yX3_isAllocated, .instanceMethod yX3_isAllocated, .selects RX3 yX3_isAllocated yX3_isAllocated, .code yX3_isAllocated cX3_isAllocated 2 (some .boolean), .methodLink RX4 96 yX3_placeOfKey, .instanceMethod yX3_placeOfKey, .selects RX3 yX3_placeOfKey yX3_placeOfKey, .code yX3_placeOfKey cX3_placeOfKey 4 (some .int), .fieldLink RX3 22 "WeakTableHeap$State" "keys" "[I"] ++ wsX40 ++ wsX30)
def wsX4_removeEntry_r1 : List Cond := [Cond.fieldLink RX4 10 "WeakTableHeap" "state" "LWeakTableHeap$State;", Cond.fieldLink RX4 19 "WeakTableHeap" "history" "LWeakTableHeap$History;", Cond.fieldLink RX4 99 "WeakTableHeap$State" "values" "[I", Cond.methodLink RX4 93 yX3_isTableAndKey, Cond.instanceMethod yX3_isTableAndKey, Cond.selects RX3 yX3_isTableAndKey yX3_isTableAndKey, Cond.initialized RX3, Cond.code yX3_isTableAndKey cX3_isTableAndKey 3 (some .boolean), Cond.methodLink RX3 64 yX3_hasKind, Cond.instanceMethod yX3_hasKind, Cond.selects RX3 yX3_hasKind yX3_hasKind, Cond.code yX3_hasKind cX3_hasKind 3 (some .boolean), Cond.fieldLink RX3 13 "WeakTableHeap$State" "kinds" "[I", Cond.static yX4_within, Cond.initialized RX4, Cond.code yX4_within cX4_within 2 (some .boolean), Cond.methodLink RX3 60 yX3_isAllocated, Cond.instanceMethod yX3_isAllocated, Cond.selects RX3 yX3_isAllocated yX3_isAllocated, Cond.code yX3_isAllocated cX3_isAllocated 2 (some .boolean), Cond.methodLink RX4 96 yX3_placeOfKey, Cond.instanceMethod yX3_placeOfKey, Cond.selects RX3 yX3_placeOfKey yX3_placeOfKey, Cond.code yX3_placeOfKey cX3_placeOfKey 4 (some .int)]
def wsX4_removeEntry_r2 : List Cond := [Cond.fieldLink RX3 22 "WeakTableHeap$State" "keys" "[I", Cond.methodLink RX4 46 yX0_push, Cond.instanceMethod yX0_push, Cond.selects RX0 yX0_push yX0_push, Cond.initialized RX0, Cond.code yX0_push cX0_push 2 none, Cond.fieldLink RX0 11 "WeakTableHeap$History" "ring" "[LWeakTableHeap$State;", Cond.fieldLink RX0 17 "WeakTableHeap$History" "next" "I", Cond.classLink RX0 9 RX3, Cond.instantiable RX3 9, Cond.fieldLink RX0 26 "WeakTableHeap$History" "depth" "I", Cond.methodLink RX0 29 Lib.Math.min.name, Cond.static Lib.Math.min.name, Cond.initialized "java/lang/Math", Cond.code Lib.Math.min.name Lib.Math.min.code 2 (some .int), Cond.instanceMethod yX3_init, Cond.code yX3_init cX3_init 1 none, Cond.methodLink RX3 3 objectInit, Cond.instanceMethod objectInit, Cond.code objectInit ⟨#[0xb1]⟩ 1 none, Cond.fieldLink RX3 19 "WeakTableHeap$State" "fields" "[I", Cond.fieldLink RX3 25 "WeakTableHeap$State" "values" "[I", Cond.fieldLink RX3 28 "WeakTableHeap$State" "targets" "[I", Cond.fieldLink RX3 31 "WeakTableHeap$State" "roots" "[I"]
def wsX4_removeEntry_r3 : List Cond := [Cond.classLink RX3 34 RX2, Cond.instantiable RX2 2, Cond.initialized RX2, Cond.fieldLink RX3 37 "WeakTableHeap$State" "notices" "LWeakTableHeap$Notices;", Cond.static yX4_emptyRow, Cond.code yX4_emptyRow cX4_emptyRow 2 (some (.array .int)), Cond.methodLink RX4 183 Lib.Math.max.name, Cond.static Lib.Math.max.name, Cond.code Lib.Math.max.name Lib.Math.max.code 2 (some .int), Cond.arrayClass .int, Cond.methodLink RX4 188 yJ7_fill_53178, Cond.static yJ7_fill_53178, Cond.initialized RJ7, Cond.code yJ7_fill_53178 cJ7_fill_53178 4 none, Cond.instanceMethod yX2_init, Cond.code yX2_init cX2_init 1 none, Cond.methodLink RX2 3 objectInit, Cond.fieldLink RX2 9 "WeakTableHeap$Notices" "queue" "[I", Cond.methodLink RX0 22 yX3_copyFrom, Cond.instanceMethod yX3_copyFrom, Cond.selects RX3 yX3_copyFrom yX3_copyFrom, Cond.code yX3_copyFrom cX3_copyFrom 2 none, Cond.fieldLink RX3 49 "WeakTableHeap$State" "finalizable" "I", Cond.fieldLink RX3 53 "WeakTableHeap$State" "roundsOfCollection" "I"]
def wsX4_removeEntry_r4 : List Cond := [Cond.static yX4_copyRow, Cond.code yX4_copyRow cX4_copyRow 2 none, Cond.methodLink RX4 194 Lib.Math.min.name, Cond.methodLink RX4 197 arraycopyName, Cond.native arraycopyName, Cond.static arraycopyName, Cond.initialized "java/lang/System", Cond.methodLink RX3 45 yX2_copyFrom, Cond.instanceMethod yX2_copyFrom, Cond.selects RX2 yX2_copyFrom yX2_copyFrom, Cond.code yX2_copyFrom cX2_copyFrom 2 none, Cond.fieldLink RX2 19 "WeakTableHeap$Notices" "size" "I", Cond.methodLink RX4 84 yX4_setOf, Cond.static yX4_setOf, Cond.code yX4_setOf cX4_setOf 1 (some .int), Cond.methodLink RX4 105 yX3_keepEntries, Cond.instanceMethod yX3_keepEntries, Cond.selects RX3 yX3_keepEntries yX3_keepEntries, Cond.code yX3_keepEntries cX3_keepEntries 7 none, Cond.static yX4_contains, Cond.code yX4_contains cX4_contains 2 (some .boolean)]
def wsX4_removeEntry : List Cond := .code yX4_removeEntry cX4_removeEntry 5 (some .int) :: ((wsX4_removeEntry_r1 ++ (wsX4_removeEntry_r2 ++ (wsX4_removeEntry_r3 ++ wsX4_removeEntry_r4))) ++ wsX40 ++ wsX30 ++ wsX00 ++ wsX20)
def wsX4_entryCount : List Cond := .code yX4_entryCount cX4_entryCount 3 (some .int) :: ([.fieldLink RX4 10 "WeakTableHeap" "state" "LWeakTableHeap$State;", .methodLink RX4 62 yX3_hasKind, .instanceMethod yX3_hasKind, .selects RX3 yX3_hasKind yX3_hasKind, .initialized RX3, .code yX3_hasKind cX3_hasKind 3 (some .boolean), .fieldLink RX3 13 "WeakTableHeap$State" "kinds" "[I", .static yX4_within, .initialized RX4, .code yX4_within cX4_within 2 (some .boolean), .methodLink RX4 96 yX3_placeOfKey, .instanceMethod yX3_placeOfKey, .selects RX3 yX3_placeOfKey yX3_placeOfKey, .code yX3_placeOfKey cX3_placeOfKey 4 (some .int), .fieldLink RX3 22 "WeakTableHeap$State" "keys" "[I"] ++ wsX40 ++ wsX30)
def wsX4_entryKey : List Cond := .code yX4_entryKey cX4_entryKey 3 (some .int) :: ([.fieldLink RX4 10 "WeakTableHeap" "state" "LWeakTableHeap$State;", .fieldLink RX4 102 "WeakTableHeap$State" "keys" "[I", .methodLink RX4 62 yX3_hasKind, .instanceMethod yX3_hasKind, .selects RX3 yX3_hasKind yX3_hasKind, .initialized RX3, .code yX3_hasKind cX3_hasKind 3 (some .boolean), .fieldLink RX3 13 "WeakTableHeap$State" "kinds" "[I", .static yX4_within, .initialized RX4, .code yX4_within cX4_within 2 (some .boolean)] ++ wsX40 ++ wsX30)
def wsX4_markFromRoots_r1 : List Cond := [Cond.fieldLink RX4 30 "WeakTableHeap" "marking" "LWeakTableHeap$Marking;", Cond.fieldLink RX4 10 "WeakTableHeap" "state" "LWeakTableHeap$State;", Cond.methodLink RX4 156 yX3_rootObjects, Cond.instanceMethod yX3_rootObjects, Cond.selects RX3 yX3_rootObjects yX3_rootObjects, Cond.initialized RX3, Cond.code yX3_rootObjects cX3_rootObjects 3 (some .int), Cond.fieldLink RX3 31 "WeakTableHeap$State" "roots" "[I", Cond.static yX4_setOf, Cond.initialized RX4, Cond.code yX4_setOf cX4_setOf 1 (some .int), Cond.methodLink RX4 159 yX1_run, Cond.instanceMethod yX1_run, Cond.selects RX1 yX1_run yX1_run, Cond.initialized RX1, Cond.code yX1_run cX1_run 6 none, Cond.fieldLink RX1 9 "WeakTableHeap$Marking" "rounds" "[I", Cond.fieldLink RX1 21 "WeakTableHeap$Marking" "marked" "I", Cond.fieldLink RX1 25 "WeakTableHeap$Marking" "unmarkable" "I", Cond.fieldLink RX1 28 "WeakTableHeap$Marking" "lastRound" "I", Cond.methodLink RX1 15 yJ7_fill_53178, Cond.static yJ7_fill_53178, Cond.initialized RJ7, Cond.code yJ7_fill_53178 cJ7_fill_53178 4 none]
def wsX4_markFromRoots_r2 : List Cond := [Cond.methodLink RX1 31 yX1_markWithFields, Cond.instanceMethod yX1_markWithFields, Cond.selects RX1 yX1_markWithFields yX1_markWithFields, Cond.code yX1_markWithFields cX1_markWithFields 5 none, Cond.methodLink RX1 41 yX1_markable, Cond.instanceMethod yX1_markable, Cond.selects RX1 yX1_markable yX1_markable, Cond.code yX1_markable cX1_markable 2 (some .int), Cond.methodLink RX1 45 yX1_number, Cond.instanceMethod yX1_number, Cond.selects RX1 yX1_number yX1_number, Cond.code yX1_number cX1_number 3 none, Cond.static yX4_contains, Cond.code yX4_contains cX4_contains 2 (some .boolean), Cond.methodLink RX4 84 yX4_setOf, Cond.methodLink RX1 49 yX3_fieldTargets, Cond.instanceMethod yX3_fieldTargets, Cond.selects RX3 yX3_fieldTargets yX3_fieldTargets, Cond.code yX3_fieldTargets cX3_fieldTargets 4 (some .int), Cond.methodLink RX3 74 yX3_fieldTargetsOf, Cond.instanceMethod yX3_fieldTargetsOf, Cond.selects RX3 yX3_fieldTargetsOf yX3_fieldTargetsOf, Cond.code yX3_fieldTargetsOf cX3_fieldTargetsOf 4 (some .int), Cond.fieldLink RX3 19 "WeakTableHeap$State" "fields" "[I"]
def wsX4_markFromRoots_r3 : List Cond := [Cond.methodLink RX1 35 yX3_valuesOfEntries, Cond.instanceMethod yX3_valuesOfEntries, Cond.selects RX3 yX3_valuesOfEntries yX3_valuesOfEntries, Cond.code yX3_valuesOfEntries cX3_valuesOfEntries 5 (some .int), Cond.methodLink RX3 77 yX3_valuesOfEntriesOf, Cond.instanceMethod yX3_valuesOfEntriesOf, Cond.selects RX3 yX3_valuesOfEntriesOf yX3_valuesOfEntriesOf, Cond.code yX3_valuesOfEntriesOf cX3_valuesOfEntriesOf 5 (some .int), Cond.fieldLink RX3 22 "WeakTableHeap$State" "keys" "[I", Cond.fieldLink RX3 25 "WeakTableHeap$State" "values" "[I"]
def wsX4_markFromRoots : List Cond := .code yX4_markFromRoots cX4_markFromRoots 1 none :: ((wsX4_markFromRoots_r1 ++ (wsX4_markFromRoots_r2 ++ wsX4_markFromRoots_r3)) ++ wsX40 ++ wsX30 ++ wsX10)
def wsX4_markFromRootsAnd_r1 : List Cond := [Cond.fieldLink RX4 30 "WeakTableHeap" "marking" "LWeakTableHeap$Marking;", Cond.fieldLink RX4 10 "WeakTableHeap" "state" "LWeakTableHeap$State;", Cond.methodLink RX4 156 yX3_rootObjects, Cond.instanceMethod yX3_rootObjects, Cond.selects RX3 yX3_rootObjects yX3_rootObjects, Cond.initialized RX3, Cond.code yX3_rootObjects cX3_rootObjects 3 (some .int), Cond.fieldLink RX3 31 "WeakTableHeap$State" "roots" "[I", Cond.static yX4_setOf, Cond.initialized RX4, Cond.code yX4_setOf cX4_setOf 1 (some .int), Cond.methodLink RX4 159 yX1_run, Cond.instanceMethod yX1_run, Cond.selects RX1 yX1_run yX1_run, Cond.initialized RX1, Cond.code yX1_run cX1_run 6 none, Cond.fieldLink RX1 9 "WeakTableHeap$Marking" "rounds" "[I", Cond.fieldLink RX1 21 "WeakTableHeap$Marking" "marked" "I", Cond.fieldLink RX1 25 "WeakTableHeap$Marking" "unmarkable" "I", Cond.fieldLink RX1 28 "WeakTableHeap$Marking" "lastRound" "I", Cond.methodLink RX1 15 yJ7_fill_53178, Cond.static yJ7_fill_53178, Cond.initialized RJ7, Cond.code yJ7_fill_53178 cJ7_fill_53178 4 none]
def wsX4_markFromRootsAnd_r2 : List Cond := [Cond.methodLink RX1 31 yX1_markWithFields, Cond.instanceMethod yX1_markWithFields, Cond.selects RX1 yX1_markWithFields yX1_markWithFields, Cond.code yX1_markWithFields cX1_markWithFields 5 none, Cond.methodLink RX1 41 yX1_markable, Cond.instanceMethod yX1_markable, Cond.selects RX1 yX1_markable yX1_markable, Cond.code yX1_markable cX1_markable 2 (some .int), Cond.methodLink RX1 45 yX1_number, Cond.instanceMethod yX1_number, Cond.selects RX1 yX1_number yX1_number, Cond.code yX1_number cX1_number 3 none, Cond.static yX4_contains, Cond.code yX4_contains cX4_contains 2 (some .boolean), Cond.methodLink RX4 84 yX4_setOf, Cond.methodLink RX1 49 yX3_fieldTargets, Cond.instanceMethod yX3_fieldTargets, Cond.selects RX3 yX3_fieldTargets yX3_fieldTargets, Cond.code yX3_fieldTargets cX3_fieldTargets 4 (some .int), Cond.methodLink RX3 74 yX3_fieldTargetsOf, Cond.instanceMethod yX3_fieldTargetsOf, Cond.selects RX3 yX3_fieldTargetsOf yX3_fieldTargetsOf, Cond.code yX3_fieldTargetsOf cX3_fieldTargetsOf 4 (some .int), Cond.fieldLink RX3 19 "WeakTableHeap$State" "fields" "[I"]
def wsX4_markFromRootsAnd_r3 : List Cond := [Cond.methodLink RX1 35 yX3_valuesOfEntries, Cond.instanceMethod yX3_valuesOfEntries, Cond.selects RX3 yX3_valuesOfEntries yX3_valuesOfEntries, Cond.code yX3_valuesOfEntries cX3_valuesOfEntries 5 (some .int), Cond.methodLink RX3 77 yX3_valuesOfEntriesOf, Cond.instanceMethod yX3_valuesOfEntriesOf, Cond.selects RX3 yX3_valuesOfEntriesOf yX3_valuesOfEntriesOf, Cond.code yX3_valuesOfEntriesOf cX3_valuesOfEntriesOf 5 (some .int), Cond.fieldLink RX3 22 "WeakTableHeap$State" "keys" "[I", Cond.fieldLink RX3 25 "WeakTableHeap$State" "values" "[I"]
def wsX4_markFromRootsAnd : List Cond := .code yX4_markFromRootsAnd cX4_markFromRootsAnd 2 none :: ((wsX4_markFromRootsAnd_r1 ++ (wsX4_markFromRootsAnd_r2 ++ wsX4_markFromRootsAnd_r3)) ++ wsX40 ++ wsX30 ++ wsX10)
def wsX4_collect_r1 : List Cond := [Cond.fieldLink RX4 19 "WeakTableHeap" "history" "LWeakTableHeap$History;", Cond.fieldLink RX4 10 "WeakTableHeap" "state" "LWeakTableHeap$State;", Cond.fieldLink RX4 30 "WeakTableHeap" "marking" "LWeakTableHeap$Marking;", Cond.fieldLink RX4 112 "WeakTableHeap$Marking" "lastRound" "I", Cond.fieldLink RX4 115 "WeakTableHeap$State" "roundsOfCollection" "I", Cond.fieldLink RX4 118 "WeakTableHeap$Marking" "marked" "I", Cond.fieldLink RX4 77 "WeakTableHeap$State" "finalizable" "I", Cond.methodLink RX4 46 yX0_push, Cond.instanceMethod yX0_push, Cond.selects RX0 yX0_push yX0_push, Cond.initialized RX0, Cond.code yX0_push cX0_push 2 none, Cond.fieldLink RX0 11 "WeakTableHeap$History" "ring" "[LWeakTableHeap$State;", Cond.fieldLink RX0 17 "WeakTableHeap$History" "next" "I", Cond.classLink RX0 9 RX3, Cond.instantiable RX3 9, Cond.initialized RX3, Cond.fieldLink RX0 26 "WeakTableHeap$History" "depth" "I", Cond.methodLink RX0 29 Lib.Math.min.name, Cond.static Lib.Math.min.name, Cond.initialized "java/lang/Math", Cond.code Lib.Math.min.name Lib.Math.min.code 2 (some .int), Cond.instanceMethod yX3_init, Cond.code yX3_init cX3_init 1 none]
def wsX4_collect_r2 : List Cond := [Cond.methodLink RX3 3 objectInit, Cond.instanceMethod objectInit, Cond.code objectInit ⟨#[0xb1]⟩ 1 none, Cond.fieldLink RX3 13 "WeakTableHeap$State" "kinds" "[I", Cond.fieldLink RX3 19 "WeakTableHeap$State" "fields" "[I", Cond.fieldLink RX3 22 "WeakTableHeap$State" "keys" "[I", Cond.fieldLink RX3 25 "WeakTableHeap$State" "values" "[I", Cond.fieldLink RX3 28 "WeakTableHeap$State" "targets" "[I", Cond.fieldLink RX3 31 "WeakTableHeap$State" "roots" "[I", Cond.classLink RX3 34 RX2, Cond.instantiable RX2 2, Cond.initialized RX2, Cond.fieldLink RX3 37 "WeakTableHeap$State" "notices" "LWeakTableHeap$Notices;", Cond.static yX4_emptyRow, Cond.initialized RX4, Cond.code yX4_emptyRow cX4_emptyRow 2 (some (.array .int)), Cond.methodLink RX4 183 Lib.Math.max.name, Cond.static Lib.Math.max.name, Cond.code Lib.Math.max.name Lib.Math.max.code 2 (some .int), Cond.arrayClass .int, Cond.methodLink RX4 188 yJ7_fill_53178, Cond.static yJ7_fill_53178, Cond.initialized RJ7, Cond.code yJ7_fill_53178 cJ7_fill_53178 4 none]
def wsX4_collect_r3 : List Cond := [Cond.instanceMethod yX2_init, Cond.code yX2_init cX2_init 1 none, Cond.methodLink RX2 3 objectInit, Cond.fieldLink RX2 9 "WeakTableHeap$Notices" "queue" "[I", Cond.methodLink RX0 22 yX3_copyFrom, Cond.instanceMethod yX3_copyFrom, Cond.selects RX3 yX3_copyFrom yX3_copyFrom, Cond.code yX3_copyFrom cX3_copyFrom 2 none, Cond.fieldLink RX3 49 "WeakTableHeap$State" "finalizable" "I", Cond.fieldLink RX3 53 "WeakTableHeap$State" "roundsOfCollection" "I", Cond.static yX4_copyRow, Cond.code yX4_copyRow cX4_copyRow 2 none, Cond.methodLink RX4 194 Lib.Math.min.name, Cond.methodLink RX4 197 arraycopyName, Cond.native arraycopyName, Cond.static arraycopyName, Cond.initialized "java/lang/System", Cond.methodLink RX3 45 yX2_copyFrom, Cond.instanceMethod yX2_copyFrom, Cond.selects RX2 yX2_copyFrom yX2_copyFrom, Cond.code yX2_copyFrom cX2_copyFrom 2 none, Cond.fieldLink RX2 19 "WeakTableHeap$Notices" "size" "I", Cond.methodLink RX4 109 yX4_markFromRoots, Cond.instanceMethod yX4_markFromRoots]
def wsX4_collect_r4 : List Cond := [Cond.selects RX4 yX4_markFromRoots yX4_markFromRoots, Cond.code yX4_markFromRoots cX4_markFromRoots 1 none, Cond.methodLink RX4 156 yX3_rootObjects, Cond.instanceMethod yX3_rootObjects, Cond.selects RX3 yX3_rootObjects yX3_rootObjects, Cond.code yX3_rootObjects cX3_rootObjects 3 (some .int), Cond.static yX4_setOf, Cond.code yX4_setOf cX4_setOf 1 (some .int), Cond.methodLink RX4 159 yX1_run, Cond.instanceMethod yX1_run, Cond.selects RX1 yX1_run yX1_run, Cond.initialized RX1, Cond.code yX1_run cX1_run 6 none, Cond.fieldLink RX1 9 "WeakTableHeap$Marking" "rounds" "[I", Cond.fieldLink RX1 21 "WeakTableHeap$Marking" "marked" "I", Cond.fieldLink RX1 25 "WeakTableHeap$Marking" "unmarkable" "I", Cond.fieldLink RX1 28 "WeakTableHeap$Marking" "lastRound" "I", Cond.methodLink RX1 15 yJ7_fill_53178, Cond.methodLink RX1 31 yX1_markWithFields, Cond.instanceMethod yX1_markWithFields, Cond.selects RX1 yX1_markWithFields yX1_markWithFields, Cond.code yX1_markWithFields cX1_markWithFields 5 none, Cond.methodLink RX1 41 yX1_markable, Cond.instanceMethod yX1_markable]
def wsX4_collect_r5 : List Cond := [Cond.selects RX1 yX1_markable yX1_markable, Cond.code yX1_markable cX1_markable 2 (some .int), Cond.methodLink RX1 45 yX1_number, Cond.instanceMethod yX1_number, Cond.selects RX1 yX1_number yX1_number, Cond.code yX1_number cX1_number 3 none, Cond.static yX4_contains, Cond.code yX4_contains cX4_contains 2 (some .boolean), Cond.methodLink RX4 84 yX4_setOf, Cond.methodLink RX1 49 yX3_fieldTargets, Cond.instanceMethod yX3_fieldTargets, Cond.selects RX3 yX3_fieldTargets yX3_fieldTargets, Cond.code yX3_fieldTargets cX3_fieldTargets 4 (some .int), Cond.methodLink RX3 74 yX3_fieldTargetsOf, Cond.instanceMethod yX3_fieldTargetsOf, Cond.selects RX3 yX3_fieldTargetsOf yX3_fieldTargetsOf, Cond.code yX3_fieldTargetsOf cX3_fieldTargetsOf 4 (some .int), Cond.methodLink RX1 35 yX3_valuesOfEntries, Cond.instanceMethod yX3_valuesOfEntries, Cond.selects RX3 yX3_valuesOfEntries yX3_valuesOfEntries, Cond.code yX3_valuesOfEntries cX3_valuesOfEntries 5 (some .int), Cond.methodLink RX3 77 yX3_valuesOfEntriesOf, Cond.instanceMethod yX3_valuesOfEntriesOf, Cond.selects RX3 yX3_valuesOfEntriesOf yX3_valuesOfEntriesOf]
def wsX4_collect_r6 : List Cond := [Cond.code yX3_valuesOfEntriesOf cX3_valuesOfEntriesOf 5 (some .int), Cond.methodLink RX4 121 yX3_emptyWeakReferences, Cond.instanceMethod yX3_emptyWeakReferences, Cond.selects RX3 yX3_emptyWeakReferences yX3_emptyWeakReferences, Cond.code yX3_emptyWeakReferences cX3_emptyWeakReferences 5 none, Cond.methodLink RX3 84 yX2_issue, Cond.instanceMethod yX2_issue, Cond.selects RX2 yX2_issue yX2_issue, Cond.code yX2_issue cX2_issue 2 none, Cond.methodLink RX2 23 yX2_removeOldest, Cond.instanceMethod yX2_removeOldest, Cond.selects RX2 yX2_removeOldest yX2_removeOldest, Cond.code yX2_removeOldest cX2_removeOldest 2 (some .int), Cond.methodLink RX2 31 arraycopyName, Cond.methodLink RX2 37 Lib.Math.max.name, Cond.static yX4_within, Cond.code yX4_within cX4_within 2 (some .boolean), Cond.methodLink RX4 125 yX3_finalizeObjects, Cond.instanceMethod yX3_finalizeObjects, Cond.selects RX3 yX3_finalizeObjects yX3_finalizeObjects, Cond.code yX3_finalizeObjects cX3_finalizeObjects 3 none, Cond.methodLink RX4 129 yX4_markFromRootsAnd, Cond.instanceMethod yX4_markFromRootsAnd, Cond.selects RX4 yX4_markFromRootsAnd yX4_markFromRootsAnd]
def wsX4_collect_r7 : List Cond := [Cond.code yX4_markFromRootsAnd cX4_markFromRootsAnd 2 none, Cond.methodLink RX4 132 yX3_removeEntriesWithoutKey, Cond.instanceMethod yX3_removeEntriesWithoutKey, Cond.selects RX3 yX3_removeEntriesWithoutKey yX3_removeEntriesWithoutKey, Cond.code yX3_removeEntriesWithoutKey cX3_removeEntriesWithoutKey 3 none, Cond.methodLink RX3 88 yX3_announceEntriesWithoutKey, Cond.instanceMethod yX3_announceEntriesWithoutKey, Cond.selects RX3 yX3_announceEntriesWithoutKey yX3_announceEntriesWithoutKey, Cond.code yX3_announceEntriesWithoutKey cX3_announceEntriesWithoutKey 4 none, Cond.methodLink RX3 92 yX3_keepEntries, Cond.instanceMethod yX3_keepEntries, Cond.selects RX3 yX3_keepEntries yX3_keepEntries, Cond.code yX3_keepEntries cX3_keepEntries 7 none, Cond.methodLink RX4 135 yX3_allocated, Cond.instanceMethod yX3_allocated, Cond.selects RX3 yX3_allocated yX3_allocated, Cond.code yX3_allocated cX3_allocated 3 (some .int), Cond.methodLink RX4 138 yX3_free, Cond.instanceMethod yX3_free, Cond.selects RX3 yX3_free yX3_free, Cond.code yX3_free cX3_free 3 none, Cond.methodLink RX3 95 yJ7_fill_fda19, Cond.static yJ7_fill_fda19, Cond.code yJ7_fill_fda19 cJ7_fill_fda19 5 none]
def wsX4_collect_r8 : List Cond := [Cond.methodLink RJ7 13 yJ7_rangeCheck_23922, Cond.static yJ7_rangeCheck_23922, Cond.code yJ7_rangeCheck_23922 cJ7_rangeCheck_23922 3 none, Cond.methodLink RX4 88 yJ6_bitCount_0f7a4, Cond.static yJ6_bitCount_0f7a4, Cond.initialized RJ6, Cond.code yJ6_bitCount_0f7a4 cJ6_bitCount_0f7a4 1 (some .int), Cond.constant RJ6 265 (1431655765), Cond.constant RJ6 266 (858993459), Cond.constant RJ6 267 (252645135)]
def wsX4_collect : List Cond := .code yX4_collect cX4_collect 3 (some .int) :: ((wsX4_collect_r1 ++ (wsX4_collect_r2 ++ (wsX4_collect_r3 ++ (wsX4_collect_r4 ++ (wsX4_collect_r5 ++ (wsX4_collect_r6 ++ (wsX4_collect_r7 ++ wsX4_collect_r8))))))) ++ wsX40 ++ wsX10 ++ wsX30 ++ wsX00 ++ wsX20)
def wsX4_lastRounds : List Cond := .code yX4_lastRounds cX4_lastRounds 1 (some .int) :: ([.fieldLink RX4 10 "WeakTableHeap" "state" "LWeakTableHeap$State;", .fieldLink RX4 115 "WeakTableHeap$State" "roundsOfCollection" "I"] ++ wsX40 ++ wsX30)
def wsX4_pollNotice_r1 : List Cond := [Cond.fieldLink RX4 10 "WeakTableHeap" "state" "LWeakTableHeap$State;", Cond.fieldLink RX4 141 "WeakTableHeap$State" "notices" "LWeakTableHeap$Notices;", Cond.fieldLink RX4 145 "WeakTableHeap$Notices" "size" "I", Cond.fieldLink RX4 19 "WeakTableHeap" "history" "LWeakTableHeap$History;", Cond.methodLink RX4 46 yX0_push, Cond.instanceMethod yX0_push, Cond.selects RX0 yX0_push yX0_push, Cond.initialized RX0, Cond.code yX0_push cX0_push 2 none, Cond.fieldLink RX0 11 "WeakTableHeap$History" "ring" "[LWeakTableHeap$State;", Cond.fieldLink RX0 17 "WeakTableHeap$History" "next" "I", Cond.classLink RX0 9 RX3, Cond.instantiable RX3 9, Cond.initialized RX3, Cond.fieldLink RX0 26 "WeakTableHeap$History" "depth" "I", Cond.methodLink RX0 29 Lib.Math.min.name, Cond.static Lib.Math.min.name, Cond.initialized "java/lang/Math", Cond.code Lib.Math.min.name Lib.Math.min.code 2 (some .int), Cond.instanceMethod yX3_init, Cond.code yX3_init cX3_init 1 none, Cond.methodLink RX3 3 objectInit, Cond.instanceMethod objectInit, Cond.code objectInit ⟨#[0xb1]⟩ 1 none]
def wsX4_pollNotice_r2 : List Cond := [Cond.fieldLink RX3 13 "WeakTableHeap$State" "kinds" "[I", Cond.fieldLink RX3 19 "WeakTableHeap$State" "fields" "[I", Cond.fieldLink RX3 22 "WeakTableHeap$State" "keys" "[I", Cond.fieldLink RX3 25 "WeakTableHeap$State" "values" "[I", Cond.fieldLink RX3 28 "WeakTableHeap$State" "targets" "[I", Cond.fieldLink RX3 31 "WeakTableHeap$State" "roots" "[I", Cond.classLink RX3 34 RX2, Cond.instantiable RX2 2, Cond.initialized RX2, Cond.fieldLink RX3 37 "WeakTableHeap$State" "notices" "LWeakTableHeap$Notices;", Cond.static yX4_emptyRow, Cond.initialized RX4, Cond.code yX4_emptyRow cX4_emptyRow 2 (some (.array .int)), Cond.methodLink RX4 183 Lib.Math.max.name, Cond.static Lib.Math.max.name, Cond.code Lib.Math.max.name Lib.Math.max.code 2 (some .int), Cond.arrayClass .int, Cond.methodLink RX4 188 yJ7_fill_53178, Cond.static yJ7_fill_53178, Cond.initialized RJ7, Cond.code yJ7_fill_53178 cJ7_fill_53178 4 none, Cond.instanceMethod yX2_init, Cond.code yX2_init cX2_init 1 none, Cond.methodLink RX2 3 objectInit]
def wsX4_pollNotice_r3 : List Cond := [Cond.fieldLink RX2 9 "WeakTableHeap$Notices" "queue" "[I", Cond.methodLink RX0 22 yX3_copyFrom, Cond.instanceMethod yX3_copyFrom, Cond.selects RX3 yX3_copyFrom yX3_copyFrom, Cond.code yX3_copyFrom cX3_copyFrom 2 none, Cond.fieldLink RX3 49 "WeakTableHeap$State" "finalizable" "I", Cond.fieldLink RX3 53 "WeakTableHeap$State" "roundsOfCollection" "I", Cond.static yX4_copyRow, Cond.code yX4_copyRow cX4_copyRow 2 none, Cond.methodLink RX4 194 Lib.Math.min.name, Cond.methodLink RX4 197 arraycopyName, Cond.native arraycopyName, Cond.static arraycopyName, Cond.initialized "java/lang/System", Cond.methodLink RX3 45 yX2_copyFrom, Cond.instanceMethod yX2_copyFrom, Cond.selects RX2 yX2_copyFrom yX2_copyFrom, Cond.code yX2_copyFrom cX2_copyFrom 2 none, Cond.fieldLink RX2 19 "WeakTableHeap$Notices" "size" "I", Cond.methodLink RX4 150 yX2_removeOldest, Cond.instanceMethod yX2_removeOldest, Cond.selects RX2 yX2_removeOldest yX2_removeOldest, Cond.code yX2_removeOldest cX2_removeOldest 2 (some .int), Cond.methodLink RX2 31 arraycopyName]
def wsX4_pollNotice_r4 : List Cond := [Cond.methodLink RX2 37 Lib.Math.max.name]
def wsX4_pollNotice : List Cond := .code yX4_pollNotice cX4_pollNotice 1 (some .int) :: ((wsX4_pollNotice_r1 ++ (wsX4_pollNotice_r2 ++ (wsX4_pollNotice_r3 ++ wsX4_pollNotice_r4))) ++ wsX40 ++ wsX30 ++ wsX20 ++ wsX00)
def wsX4_noticeCount : List Cond := .code yX4_noticeCount cX4_noticeCount 1 (some .int) :: ([.fieldLink RX4 10 "WeakTableHeap" "state" "LWeakTableHeap$State;", .fieldLink RX4 141 "WeakTableHeap$State" "notices" "LWeakTableHeap$Notices;", .fieldLink RX4 145 "WeakTableHeap$Notices" "size" "I"] ++ wsX40 ++ wsX30 ++ wsX20)
def wsX4_objectCount : List Cond := .code yX4_objectCount cX4_objectCount 1 (some .int) :: ([.fieldLink RX4 10 "WeakTableHeap" "state" "LWeakTableHeap$State;", .methodLink RX4 135 yX3_allocated, .instanceMethod yX3_allocated, .selects RX3 yX3_allocated yX3_allocated, .initialized RX3, .code yX3_allocated cX3_allocated 3 (some .int), .fieldLink RX3 13 "WeakTableHeap$State" "kinds" "[I", .static yX4_setOf, .initialized RX4, .code yX4_setOf cX4_setOf 1 (some .int), .methodLink RX4 88 yJ6_bitCount_0f7a4, .static yJ6_bitCount_0f7a4, .initialized RJ6, .code yJ6_bitCount_0f7a4 cJ6_bitCount_0f7a4 1 (some .int), .constant RJ6 265 (1431655765), .constant RJ6 266 (858993459), .constant RJ6 267 (252645135)] ++ wsX40 ++ wsX30)
def wsX4_reachableCount_r1 : List Cond := [Cond.fieldLink RX4 30 "WeakTableHeap" "marking" "LWeakTableHeap$Marking;", Cond.fieldLink RX4 118 "WeakTableHeap$Marking" "marked" "I", Cond.methodLink RX4 109 yX4_markFromRoots, Cond.instanceMethod yX4_markFromRoots, Cond.selects RX4 yX4_markFromRoots yX4_markFromRoots, Cond.initialized RX4, Cond.code yX4_markFromRoots cX4_markFromRoots 1 none, Cond.fieldLink RX4 10 "WeakTableHeap" "state" "LWeakTableHeap$State;", Cond.methodLink RX4 156 yX3_rootObjects, Cond.instanceMethod yX3_rootObjects, Cond.selects RX3 yX3_rootObjects yX3_rootObjects, Cond.initialized RX3, Cond.code yX3_rootObjects cX3_rootObjects 3 (some .int), Cond.fieldLink RX3 31 "WeakTableHeap$State" "roots" "[I", Cond.static yX4_setOf, Cond.code yX4_setOf cX4_setOf 1 (some .int), Cond.methodLink RX4 159 yX1_run, Cond.instanceMethod yX1_run, Cond.selects RX1 yX1_run yX1_run, Cond.initialized RX1, Cond.code yX1_run cX1_run 6 none, Cond.fieldLink RX1 9 "WeakTableHeap$Marking" "rounds" "[I", Cond.fieldLink RX1 21 "WeakTableHeap$Marking" "marked" "I", Cond.fieldLink RX1 25 "WeakTableHeap$Marking" "unmarkable" "I"]
def wsX4_reachableCount_r2 : List Cond := [Cond.fieldLink RX1 28 "WeakTableHeap$Marking" "lastRound" "I", Cond.methodLink RX1 15 yJ7_fill_53178, Cond.static yJ7_fill_53178, Cond.initialized RJ7, Cond.code yJ7_fill_53178 cJ7_fill_53178 4 none, Cond.methodLink RX1 31 yX1_markWithFields, Cond.instanceMethod yX1_markWithFields, Cond.selects RX1 yX1_markWithFields yX1_markWithFields, Cond.code yX1_markWithFields cX1_markWithFields 5 none, Cond.methodLink RX1 41 yX1_markable, Cond.instanceMethod yX1_markable, Cond.selects RX1 yX1_markable yX1_markable, Cond.code yX1_markable cX1_markable 2 (some .int), Cond.methodLink RX1 45 yX1_number, Cond.instanceMethod yX1_number, Cond.selects RX1 yX1_number yX1_number, Cond.code yX1_number cX1_number 3 none, Cond.static yX4_contains, Cond.code yX4_contains cX4_contains 2 (some .boolean), Cond.methodLink RX4 84 yX4_setOf, Cond.methodLink RX1 49 yX3_fieldTargets, Cond.instanceMethod yX3_fieldTargets, Cond.selects RX3 yX3_fieldTargets yX3_fieldTargets, Cond.code yX3_fieldTargets cX3_fieldTargets 4 (some .int)]
def wsX4_reachableCount_r3 : List Cond := [Cond.methodLink RX3 74 yX3_fieldTargetsOf, Cond.instanceMethod yX3_fieldTargetsOf, Cond.selects RX3 yX3_fieldTargetsOf yX3_fieldTargetsOf, Cond.code yX3_fieldTargetsOf cX3_fieldTargetsOf 4 (some .int), Cond.fieldLink RX3 19 "WeakTableHeap$State" "fields" "[I", Cond.methodLink RX1 35 yX3_valuesOfEntries, Cond.instanceMethod yX3_valuesOfEntries, Cond.selects RX3 yX3_valuesOfEntries yX3_valuesOfEntries, Cond.code yX3_valuesOfEntries cX3_valuesOfEntries 5 (some .int), Cond.methodLink RX3 77 yX3_valuesOfEntriesOf, Cond.instanceMethod yX3_valuesOfEntriesOf, Cond.selects RX3 yX3_valuesOfEntriesOf yX3_valuesOfEntriesOf, Cond.code yX3_valuesOfEntriesOf cX3_valuesOfEntriesOf 5 (some .int), Cond.fieldLink RX3 22 "WeakTableHeap$State" "keys" "[I", Cond.fieldLink RX3 25 "WeakTableHeap$State" "values" "[I", Cond.methodLink RX4 88 yJ6_bitCount_0f7a4, Cond.static yJ6_bitCount_0f7a4, Cond.initialized RJ6, Cond.code yJ6_bitCount_0f7a4 cJ6_bitCount_0f7a4 1 (some .int), Cond.constant RJ6 265 (1431655765), Cond.constant RJ6 266 (858993459), Cond.constant RJ6 267 (252645135)]
def wsX4_reachableCount : List Cond := .code yX4_reachableCount cX4_reachableCount 1 (some .int) :: ((wsX4_reachableCount_r1 ++ (wsX4_reachableCount_r2 ++ wsX4_reachableCount_r3)) ++ wsX40 ++ wsX10 ++ wsX30)
def wsX4_markRound_r1 : List Cond := [Cond.fieldLink RX4 10 "WeakTableHeap" "state" "LWeakTableHeap$State;", Cond.fieldLink RX4 30 "WeakTableHeap" "marking" "LWeakTableHeap$Marking;", Cond.fieldLink RX4 153 "WeakTableHeap$Marking" "rounds" "[I", Cond.methodLink RX4 38 yX3_isAllocated, Cond.instanceMethod yX3_isAllocated, Cond.selects RX3 yX3_isAllocated yX3_isAllocated, Cond.initialized RX3, Cond.code yX3_isAllocated cX3_isAllocated 2 (some .boolean), Cond.fieldLink RX3 13 "WeakTableHeap$State" "kinds" "[I", Cond.static yX4_within, Cond.initialized RX4, Cond.code yX4_within cX4_within 2 (some .boolean), Cond.methodLink RX4 109 yX4_markFromRoots, Cond.instanceMethod yX4_markFromRoots, Cond.selects RX4 yX4_markFromRoots yX4_markFromRoots, Cond.code yX4_markFromRoots cX4_markFromRoots 1 none, Cond.methodLink RX4 156 yX3_rootObjects, Cond.instanceMethod yX3_rootObjects, Cond.selects RX3 yX3_rootObjects yX3_rootObjects, Cond.code yX3_rootObjects cX3_rootObjects 3 (some .int), Cond.fieldLink RX3 31 "WeakTableHeap$State" "roots" "[I", Cond.static yX4_setOf, Cond.code yX4_setOf cX4_setOf 1 (some .int), Cond.methodLink RX4 159 yX1_run]
def wsX4_markRound_r2 : List Cond := [Cond.instanceMethod yX1_run, Cond.selects RX1 yX1_run yX1_run, Cond.initialized RX1, Cond.code yX1_run cX1_run 6 none, Cond.fieldLink RX1 9 "WeakTableHeap$Marking" "rounds" "[I", Cond.fieldLink RX1 21 "WeakTableHeap$Marking" "marked" "I", Cond.fieldLink RX1 25 "WeakTableHeap$Marking" "unmarkable" "I", Cond.fieldLink RX1 28 "WeakTableHeap$Marking" "lastRound" "I", Cond.methodLink RX1 15 yJ7_fill_53178, Cond.static yJ7_fill_53178, Cond.initialized RJ7, Cond.code yJ7_fill_53178 cJ7_fill_53178 4 none, Cond.methodLink RX1 31 yX1_markWithFields, Cond.instanceMethod yX1_markWithFields, Cond.selects RX1 yX1_markWithFields yX1_markWithFields, Cond.code yX1_markWithFields cX1_markWithFields 5 none, Cond.methodLink RX1 41 yX1_markable, Cond.instanceMethod yX1_markable, Cond.selects RX1 yX1_markable yX1_markable, Cond.code yX1_markable cX1_markable 2 (some .int), Cond.methodLink RX1 45 yX1_number, Cond.instanceMethod yX1_number, Cond.selects RX1 yX1_number yX1_number, Cond.code yX1_number cX1_number 3 none]
def wsX4_markRound_r3 : List Cond := [Cond.static yX4_contains, Cond.code yX4_contains cX4_contains 2 (some .boolean), Cond.methodLink RX4 84 yX4_setOf, Cond.methodLink RX1 49 yX3_fieldTargets, Cond.instanceMethod yX3_fieldTargets, Cond.selects RX3 yX3_fieldTargets yX3_fieldTargets, Cond.code yX3_fieldTargets cX3_fieldTargets 4 (some .int), Cond.methodLink RX3 74 yX3_fieldTargetsOf, Cond.instanceMethod yX3_fieldTargetsOf, Cond.selects RX3 yX3_fieldTargetsOf yX3_fieldTargetsOf, Cond.code yX3_fieldTargetsOf cX3_fieldTargetsOf 4 (some .int), Cond.fieldLink RX3 19 "WeakTableHeap$State" "fields" "[I", Cond.methodLink RX1 35 yX3_valuesOfEntries, Cond.instanceMethod yX3_valuesOfEntries, Cond.selects RX3 yX3_valuesOfEntries yX3_valuesOfEntries, Cond.code yX3_valuesOfEntries cX3_valuesOfEntries 5 (some .int), Cond.methodLink RX3 77 yX3_valuesOfEntriesOf, Cond.instanceMethod yX3_valuesOfEntriesOf, Cond.selects RX3 yX3_valuesOfEntriesOf yX3_valuesOfEntriesOf, Cond.code yX3_valuesOfEntriesOf cX3_valuesOfEntriesOf 5 (some .int), Cond.fieldLink RX3 22 "WeakTableHeap$State" "keys" "[I", Cond.fieldLink RX3 25 "WeakTableHeap$State" "values" "[I"]
def wsX4_markRound : List Cond := .code yX4_markRound cX4_markRound 2 (some .int) :: ((wsX4_markRound_r1 ++ (wsX4_markRound_r2 ++ wsX4_markRound_r3)) ++ wsX40 ++ wsX10 ++ wsX30)
def wsX4_wouldFree_r1 : List Cond := [Cond.fieldLink RX4 10 "WeakTableHeap" "state" "LWeakTableHeap$State;", Cond.fieldLink RX4 77 "WeakTableHeap$State" "finalizable" "I", Cond.fieldLink RX4 30 "WeakTableHeap" "marking" "LWeakTableHeap$Marking;", Cond.fieldLink RX4 118 "WeakTableHeap$Marking" "marked" "I", Cond.methodLink RX4 129 yX4_markFromRootsAnd, Cond.instanceMethod yX4_markFromRootsAnd, Cond.selects RX4 yX4_markFromRootsAnd yX4_markFromRootsAnd, Cond.initialized RX4, Cond.code yX4_markFromRootsAnd cX4_markFromRootsAnd 2 none, Cond.methodLink RX4 156 yX3_rootObjects, Cond.instanceMethod yX3_rootObjects, Cond.selects RX3 yX3_rootObjects yX3_rootObjects, Cond.initialized RX3, Cond.code yX3_rootObjects cX3_rootObjects 3 (some .int), Cond.fieldLink RX3 31 "WeakTableHeap$State" "roots" "[I", Cond.static yX4_setOf, Cond.code yX4_setOf cX4_setOf 1 (some .int), Cond.methodLink RX4 159 yX1_run, Cond.instanceMethod yX1_run, Cond.selects RX1 yX1_run yX1_run, Cond.initialized RX1, Cond.code yX1_run cX1_run 6 none, Cond.fieldLink RX1 9 "WeakTableHeap$Marking" "rounds" "[I", Cond.fieldLink RX1 21 "WeakTableHeap$Marking" "marked" "I"]
def wsX4_wouldFree_r2 : List Cond := [Cond.fieldLink RX1 25 "WeakTableHeap$Marking" "unmarkable" "I", Cond.fieldLink RX1 28 "WeakTableHeap$Marking" "lastRound" "I", Cond.methodLink RX1 15 yJ7_fill_53178, Cond.static yJ7_fill_53178, Cond.initialized RJ7, Cond.code yJ7_fill_53178 cJ7_fill_53178 4 none, Cond.methodLink RX1 31 yX1_markWithFields, Cond.instanceMethod yX1_markWithFields, Cond.selects RX1 yX1_markWithFields yX1_markWithFields, Cond.code yX1_markWithFields cX1_markWithFields 5 none, Cond.methodLink RX1 41 yX1_markable, Cond.instanceMethod yX1_markable, Cond.selects RX1 yX1_markable yX1_markable, Cond.code yX1_markable cX1_markable 2 (some .int), Cond.methodLink RX1 45 yX1_number, Cond.instanceMethod yX1_number, Cond.selects RX1 yX1_number yX1_number, Cond.code yX1_number cX1_number 3 none, Cond.static yX4_contains, Cond.code yX4_contains cX4_contains 2 (some .boolean), Cond.methodLink RX4 84 yX4_setOf, Cond.methodLink RX1 49 yX3_fieldTargets, Cond.instanceMethod yX3_fieldTargets, Cond.selects RX3 yX3_fieldTargets yX3_fieldTargets]
def wsX4_wouldFree_r3 : List Cond := [Cond.code yX3_fieldTargets cX3_fieldTargets 4 (some .int), Cond.methodLink RX3 74 yX3_fieldTargetsOf, Cond.instanceMethod yX3_fieldTargetsOf, Cond.selects RX3 yX3_fieldTargetsOf yX3_fieldTargetsOf, Cond.code yX3_fieldTargetsOf cX3_fieldTargetsOf 4 (some .int), Cond.fieldLink RX3 19 "WeakTableHeap$State" "fields" "[I", Cond.methodLink RX1 35 yX3_valuesOfEntries, Cond.instanceMethod yX3_valuesOfEntries, Cond.selects RX3 yX3_valuesOfEntries yX3_valuesOfEntries, Cond.code yX3_valuesOfEntries cX3_valuesOfEntries 5 (some .int), Cond.methodLink RX3 77 yX3_valuesOfEntriesOf, Cond.instanceMethod yX3_valuesOfEntriesOf, Cond.selects RX3 yX3_valuesOfEntriesOf yX3_valuesOfEntriesOf, Cond.code yX3_valuesOfEntriesOf cX3_valuesOfEntriesOf 5 (some .int), Cond.fieldLink RX3 22 "WeakTableHeap$State" "keys" "[I", Cond.fieldLink RX3 25 "WeakTableHeap$State" "values" "[I", Cond.methodLink RX4 135 yX3_allocated, Cond.instanceMethod yX3_allocated, Cond.selects RX3 yX3_allocated yX3_allocated, Cond.code yX3_allocated cX3_allocated 3 (some .int), Cond.fieldLink RX3 13 "WeakTableHeap$State" "kinds" "[I", Cond.methodLink RX4 88 yJ6_bitCount_0f7a4, Cond.static yJ6_bitCount_0f7a4, Cond.initialized RJ6]
def wsX4_wouldFree_r4 : List Cond := [Cond.code yJ6_bitCount_0f7a4 cJ6_bitCount_0f7a4 1 (some .int), Cond.constant RJ6 265 (1431655765), Cond.constant RJ6 266 (858993459), Cond.constant RJ6 267 (252645135)]
def wsX4_wouldFree : List Cond := .code yX4_wouldFree cX4_wouldFree 1 (some .int) :: ((wsX4_wouldFree_r1 ++ (wsX4_wouldFree_r2 ++ (wsX4_wouldFree_r3 ++ wsX4_wouldFree_r4))) ++ wsX40 ++ wsX30 ++ wsX10)
def wsX4_retainedSize_r1 : List Cond := [Cond.fieldLink RX4 10 "WeakTableHeap" "state" "LWeakTableHeap$State;", Cond.fieldLink RX4 30 "WeakTableHeap" "marking" "LWeakTableHeap$Marking;", Cond.fieldLink RX4 118 "WeakTableHeap$Marking" "marked" "I", Cond.methodLink RX4 38 yX3_isAllocated, Cond.instanceMethod yX3_isAllocated, Cond.selects RX3 yX3_isAllocated yX3_isAllocated, Cond.initialized RX3, Cond.code yX3_isAllocated cX3_isAllocated 2 (some .boolean), Cond.fieldLink RX3 13 "WeakTableHeap$State" "kinds" "[I", Cond.static yX4_within, Cond.initialized RX4, Cond.code yX4_within cX4_within 2 (some .boolean), Cond.methodLink RX4 109 yX4_markFromRoots, Cond.instanceMethod yX4_markFromRoots, Cond.selects RX4 yX4_markFromRoots yX4_markFromRoots, Cond.code yX4_markFromRoots cX4_markFromRoots 1 none, Cond.methodLink RX4 156 yX3_rootObjects, Cond.instanceMethod yX3_rootObjects, Cond.selects RX3 yX3_rootObjects yX3_rootObjects, Cond.code yX3_rootObjects cX3_rootObjects 3 (some .int), Cond.fieldLink RX3 31 "WeakTableHeap$State" "roots" "[I", Cond.static yX4_setOf, Cond.code yX4_setOf cX4_setOf 1 (some .int), Cond.methodLink RX4 159 yX1_run]
def wsX4_retainedSize_r2 : List Cond := [Cond.instanceMethod yX1_run, Cond.selects RX1 yX1_run yX1_run, Cond.initialized RX1, Cond.code yX1_run cX1_run 6 none, Cond.fieldLink RX1 9 "WeakTableHeap$Marking" "rounds" "[I", Cond.fieldLink RX1 21 "WeakTableHeap$Marking" "marked" "I", Cond.fieldLink RX1 25 "WeakTableHeap$Marking" "unmarkable" "I", Cond.fieldLink RX1 28 "WeakTableHeap$Marking" "lastRound" "I", Cond.methodLink RX1 15 yJ7_fill_53178, Cond.static yJ7_fill_53178, Cond.initialized RJ7, Cond.code yJ7_fill_53178 cJ7_fill_53178 4 none, Cond.methodLink RX1 31 yX1_markWithFields, Cond.instanceMethod yX1_markWithFields, Cond.selects RX1 yX1_markWithFields yX1_markWithFields, Cond.code yX1_markWithFields cX1_markWithFields 5 none, Cond.methodLink RX1 41 yX1_markable, Cond.instanceMethod yX1_markable, Cond.selects RX1 yX1_markable yX1_markable, Cond.code yX1_markable cX1_markable 2 (some .int), Cond.methodLink RX1 45 yX1_number, Cond.instanceMethod yX1_number, Cond.selects RX1 yX1_number yX1_number, Cond.code yX1_number cX1_number 3 none]
def wsX4_retainedSize_r3 : List Cond := [Cond.static yX4_contains, Cond.code yX4_contains cX4_contains 2 (some .boolean), Cond.methodLink RX4 84 yX4_setOf, Cond.methodLink RX1 49 yX3_fieldTargets, Cond.instanceMethod yX3_fieldTargets, Cond.selects RX3 yX3_fieldTargets yX3_fieldTargets, Cond.code yX3_fieldTargets cX3_fieldTargets 4 (some .int), Cond.methodLink RX3 74 yX3_fieldTargetsOf, Cond.instanceMethod yX3_fieldTargetsOf, Cond.selects RX3 yX3_fieldTargetsOf yX3_fieldTargetsOf, Cond.code yX3_fieldTargetsOf cX3_fieldTargetsOf 4 (some .int), Cond.fieldLink RX3 19 "WeakTableHeap$State" "fields" "[I", Cond.methodLink RX1 35 yX3_valuesOfEntries, Cond.instanceMethod yX3_valuesOfEntries, Cond.selects RX3 yX3_valuesOfEntries yX3_valuesOfEntries, Cond.code yX3_valuesOfEntries cX3_valuesOfEntries 5 (some .int), Cond.methodLink RX3 77 yX3_valuesOfEntriesOf, Cond.instanceMethod yX3_valuesOfEntriesOf, Cond.selects RX3 yX3_valuesOfEntriesOf yX3_valuesOfEntriesOf, Cond.code yX3_valuesOfEntriesOf cX3_valuesOfEntriesOf 5 (some .int), Cond.fieldLink RX3 22 "WeakTableHeap$State" "keys" "[I", Cond.fieldLink RX3 25 "WeakTableHeap$State" "values" "[I", Cond.methodLink RX4 88 yJ6_bitCount_0f7a4, Cond.static yJ6_bitCount_0f7a4]
def wsX4_retainedSize_r4 : List Cond := [Cond.initialized RJ6, Cond.code yJ6_bitCount_0f7a4 cJ6_bitCount_0f7a4 1 (some .int), Cond.constant RJ6 265 (1431655765), Cond.constant RJ6 266 (858993459), Cond.constant RJ6 267 (252645135)]
def wsX4_retainedSize : List Cond := .code yX4_retainedSize cX4_retainedSize 3 (some .int) :: ((wsX4_retainedSize_r1 ++ (wsX4_retainedSize_r2 ++ (wsX4_retainedSize_r3 ++ wsX4_retainedSize_r4))) ++ wsX40 ++ wsX10 ++ wsX30)
def wsX4_waitingEntries_r1 : List Cond := [Cond.fieldLink RX4 10 "WeakTableHeap" "state" "LWeakTableHeap$State;", Cond.fieldLink RX4 30 "WeakTableHeap" "marking" "LWeakTableHeap$Marking;", Cond.fieldLink RX4 118 "WeakTableHeap$Marking" "marked" "I", Cond.methodLink RX4 38 yX3_isAllocated, Cond.instanceMethod yX3_isAllocated, Cond.selects RX3 yX3_isAllocated yX3_isAllocated, Cond.initialized RX3, Cond.code yX3_isAllocated cX3_isAllocated 2 (some .boolean), Cond.fieldLink RX3 13 "WeakTableHeap$State" "kinds" "[I", Cond.static yX4_within, Cond.initialized RX4, Cond.code yX4_within cX4_within 2 (some .boolean), Cond.methodLink RX4 109 yX4_markFromRoots, Cond.instanceMethod yX4_markFromRoots, Cond.selects RX4 yX4_markFromRoots yX4_markFromRoots, Cond.code yX4_markFromRoots cX4_markFromRoots 1 none, Cond.methodLink RX4 156 yX3_rootObjects, Cond.instanceMethod yX3_rootObjects, Cond.selects RX3 yX3_rootObjects yX3_rootObjects, Cond.code yX3_rootObjects cX3_rootObjects 3 (some .int), Cond.fieldLink RX3 31 "WeakTableHeap$State" "roots" "[I", Cond.static yX4_setOf, Cond.code yX4_setOf cX4_setOf 1 (some .int), Cond.methodLink RX4 159 yX1_run]
def wsX4_waitingEntries_r2 : List Cond := [Cond.instanceMethod yX1_run, Cond.selects RX1 yX1_run yX1_run, Cond.initialized RX1, Cond.code yX1_run cX1_run 6 none, Cond.fieldLink RX1 9 "WeakTableHeap$Marking" "rounds" "[I", Cond.fieldLink RX1 21 "WeakTableHeap$Marking" "marked" "I", Cond.fieldLink RX1 25 "WeakTableHeap$Marking" "unmarkable" "I", Cond.fieldLink RX1 28 "WeakTableHeap$Marking" "lastRound" "I", Cond.methodLink RX1 15 yJ7_fill_53178, Cond.static yJ7_fill_53178, Cond.initialized RJ7, Cond.code yJ7_fill_53178 cJ7_fill_53178 4 none, Cond.methodLink RX1 31 yX1_markWithFields, Cond.instanceMethod yX1_markWithFields, Cond.selects RX1 yX1_markWithFields yX1_markWithFields, Cond.code yX1_markWithFields cX1_markWithFields 5 none, Cond.methodLink RX1 41 yX1_markable, Cond.instanceMethod yX1_markable, Cond.selects RX1 yX1_markable yX1_markable, Cond.code yX1_markable cX1_markable 2 (some .int), Cond.methodLink RX1 45 yX1_number, Cond.instanceMethod yX1_number, Cond.selects RX1 yX1_number yX1_number, Cond.code yX1_number cX1_number 3 none]
def wsX4_waitingEntries_r3 : List Cond := [Cond.static yX4_contains, Cond.code yX4_contains cX4_contains 2 (some .boolean), Cond.methodLink RX4 84 yX4_setOf, Cond.methodLink RX1 49 yX3_fieldTargets, Cond.instanceMethod yX3_fieldTargets, Cond.selects RX3 yX3_fieldTargets yX3_fieldTargets, Cond.code yX3_fieldTargets cX3_fieldTargets 4 (some .int), Cond.methodLink RX3 74 yX3_fieldTargetsOf, Cond.instanceMethod yX3_fieldTargetsOf, Cond.selects RX3 yX3_fieldTargetsOf yX3_fieldTargetsOf, Cond.code yX3_fieldTargetsOf cX3_fieldTargetsOf 4 (some .int), Cond.fieldLink RX3 19 "WeakTableHeap$State" "fields" "[I", Cond.methodLink RX1 35 yX3_valuesOfEntries, Cond.instanceMethod yX3_valuesOfEntries, Cond.selects RX3 yX3_valuesOfEntries yX3_valuesOfEntries, Cond.code yX3_valuesOfEntries cX3_valuesOfEntries 5 (some .int), Cond.methodLink RX3 77 yX3_valuesOfEntriesOf, Cond.instanceMethod yX3_valuesOfEntriesOf, Cond.selects RX3 yX3_valuesOfEntriesOf yX3_valuesOfEntriesOf, Cond.code yX3_valuesOfEntriesOf cX3_valuesOfEntriesOf 5 (some .int), Cond.fieldLink RX3 22 "WeakTableHeap$State" "keys" "[I", Cond.fieldLink RX3 25 "WeakTableHeap$State" "values" "[I", Cond.methodLink RX4 81 yX4_contains, Cond.methodLink RX4 163 yX3_tablesWithKey]
def wsX4_waitingEntries_r4 : List Cond := [Cond.instanceMethod yX3_tablesWithKey, Cond.selects RX3 yX3_tablesWithKey yX3_tablesWithKey, Cond.code yX3_tablesWithKey cX3_tablesWithKey 5 (some .int), Cond.methodLink RX3 81 yX3_placeOfKey, Cond.instanceMethod yX3_placeOfKey, Cond.selects RX3 yX3_placeOfKey yX3_placeOfKey, Cond.code yX3_placeOfKey cX3_placeOfKey 4 (some .int)]
def wsX4_waitingEntries : List Cond := .code yX4_waitingEntries cX4_waitingEntries 2 (some .int) :: ((wsX4_waitingEntries_r1 ++ (wsX4_waitingEntries_r2 ++ (wsX4_waitingEntries_r3 ++ wsX4_waitingEntries_r4))) ++ wsX40 ++ wsX10 ++ wsX30)
def wsX4_occurrences : List Cond := .code yX4_occurrences cX4_occurrences 4 (some .int) :: ([])
def wsX4_referenceCount : List Cond := .code yX4_referenceCount cX4_referenceCount 2 (some .int) :: ([.fieldLink RX4 10 "WeakTableHeap" "state" "LWeakTableHeap$State;", .fieldLink RX4 71 "WeakTableHeap$State" "roots" "[I", .fieldLink RX4 68 "WeakTableHeap$State" "fields" "[I", .fieldLink RX4 102 "WeakTableHeap$State" "keys" "[I", .fieldLink RX4 99 "WeakTableHeap$State" "values" "[I", .fieldLink RX4 74 "WeakTableHeap$State" "targets" "[I", .methodLink RX4 38 yX3_isAllocated, .instanceMethod yX3_isAllocated, .selects RX3 yX3_isAllocated yX3_isAllocated, .initialized RX3, .code yX3_isAllocated cX3_isAllocated 2 (some .boolean), .fieldLink RX3 13 "WeakTableHeap$State" "kinds" "[I", .static yX4_within, .initialized RX4, .code yX4_within cX4_within 2 (some .boolean), .methodLink RX4 166 yX4_occurrences, .static yX4_occurrences, .code yX4_occurrences cX4_occurrences 4 (some .int)] ++ wsX40 ++ wsX30)
def wsX4_undo_r1 : List Cond := [Cond.fieldLink RX4 19 "WeakTableHeap" "history" "LWeakTableHeap$History;", Cond.fieldLink RX4 10 "WeakTableHeap" "state" "LWeakTableHeap$State;", Cond.fieldLink RX4 174 "WeakTableHeap$History" "depth" "I", Cond.methodLink RX4 170 yX0_popInto, Cond.instanceMethod yX0_popInto, Cond.selects RX0 yX0_popInto yX0_popInto, Cond.initialized RX0, Cond.code yX0_popInto cX0_popInto 3 (some .boolean), Cond.fieldLink RX0 17 "WeakTableHeap$History" "next" "I", Cond.fieldLink RX0 26 "WeakTableHeap$History" "depth" "I", Cond.fieldLink RX0 11 "WeakTableHeap$History" "ring" "[LWeakTableHeap$State;", Cond.methodLink RX0 22 yX3_copyFrom, Cond.instanceMethod yX3_copyFrom, Cond.selects RX3 yX3_copyFrom yX3_copyFrom, Cond.initialized RX3, Cond.code yX3_copyFrom cX3_copyFrom 2 none, Cond.fieldLink RX3 13 "WeakTableHeap$State" "kinds" "[I", Cond.fieldLink RX3 19 "WeakTableHeap$State" "fields" "[I", Cond.fieldLink RX3 22 "WeakTableHeap$State" "keys" "[I", Cond.fieldLink RX3 25 "WeakTableHeap$State" "values" "[I", Cond.fieldLink RX3 28 "WeakTableHeap$State" "targets" "[I", Cond.fieldLink RX3 31 "WeakTableHeap$State" "roots" "[I", Cond.fieldLink RX3 37 "WeakTableHeap$State" "notices" "LWeakTableHeap$Notices;", Cond.fieldLink RX3 49 "WeakTableHeap$State" "finalizable" "I"]
def wsX4_undo_r2 : List Cond := [Cond.fieldLink RX3 53 "WeakTableHeap$State" "roundsOfCollection" "I", Cond.static yX4_copyRow, Cond.initialized RX4, Cond.code yX4_copyRow cX4_copyRow 2 none, Cond.methodLink RX4 194 Lib.Math.min.name, Cond.static Lib.Math.min.name, Cond.initialized "java/lang/Math", Cond.code Lib.Math.min.name Lib.Math.min.code 2 (some .int), Cond.methodLink RX4 197 arraycopyName, Cond.native arraycopyName, Cond.static arraycopyName, Cond.initialized "java/lang/System", Cond.methodLink RX3 45 yX2_copyFrom, Cond.instanceMethod yX2_copyFrom, Cond.selects RX2 yX2_copyFrom yX2_copyFrom, Cond.initialized RX2, Cond.code yX2_copyFrom cX2_copyFrom 2 none, Cond.fieldLink RX2 9 "WeakTableHeap$Notices" "queue" "[I", Cond.fieldLink RX2 19 "WeakTableHeap$Notices" "size" "I"]
def wsX4_undo : List Cond := .code yX4_undo cX4_undo 1 (some .int) :: ((wsX4_undo_r1 ++ wsX4_undo_r2) ++ wsX40 ++ wsX00 ++ wsX30 ++ wsX20)
def wsX4_undoDepth : List Cond := .code yX4_undoDepth cX4_undoDepth 1 (some .int) :: ([.fieldLink RX4 19 "WeakTableHeap" "history" "LWeakTableHeap$History;", .fieldLink RX4 174 "WeakTableHeap$History" "depth" "I"] ++ wsX40 ++ wsX00)
def wsX4_save_r1 : List Cond := [Cond.fieldLink RX4 23 "WeakTableHeap" "slots" "[LWeakTableHeap$State;", Cond.classLink RX4 7 RX3, Cond.instantiable RX3 9, Cond.initialized RX3, Cond.fieldLink RX4 10 "WeakTableHeap" "state" "LWeakTableHeap$State;", Cond.methodLink RX4 54 yX4_within, Cond.static yX4_within, Cond.initialized RX4, Cond.code yX4_within cX4_within 2 (some .boolean), Cond.instanceMethod yX3_init, Cond.code yX3_init cX3_init 1 none, Cond.methodLink RX3 3 objectInit, Cond.instanceMethod objectInit, Cond.code objectInit ⟨#[0xb1]⟩ 1 none, Cond.fieldLink RX3 13 "WeakTableHeap$State" "kinds" "[I", Cond.fieldLink RX3 19 "WeakTableHeap$State" "fields" "[I", Cond.fieldLink RX3 22 "WeakTableHeap$State" "keys" "[I", Cond.fieldLink RX3 25 "WeakTableHeap$State" "values" "[I", Cond.fieldLink RX3 28 "WeakTableHeap$State" "targets" "[I", Cond.fieldLink RX3 31 "WeakTableHeap$State" "roots" "[I", Cond.classLink RX3 34 RX2, Cond.instantiable RX2 2, Cond.initialized RX2, Cond.fieldLink RX3 37 "WeakTableHeap$State" "notices" "LWeakTableHeap$Notices;"]
def wsX4_save_r2 : List Cond := [Cond.static yX4_emptyRow, Cond.code yX4_emptyRow cX4_emptyRow 2 (some (.array .int)), Cond.methodLink RX4 183 Lib.Math.max.name, Cond.static Lib.Math.max.name, Cond.initialized "java/lang/Math", Cond.code Lib.Math.max.name Lib.Math.max.code 2 (some .int), Cond.arrayClass .int, Cond.methodLink RX4 188 yJ7_fill_53178, Cond.static yJ7_fill_53178, Cond.initialized RJ7, Cond.code yJ7_fill_53178 cJ7_fill_53178 4 none, Cond.instanceMethod yX2_init, Cond.code yX2_init cX2_init 1 none, Cond.methodLink RX2 3 objectInit, Cond.fieldLink RX2 9 "WeakTableHeap$Notices" "queue" "[I", Cond.methodLink RX4 177 yX3_copyFrom, Cond.instanceMethod yX3_copyFrom, Cond.selects RX3 yX3_copyFrom yX3_copyFrom, Cond.code yX3_copyFrom cX3_copyFrom 2 none, Cond.fieldLink RX3 49 "WeakTableHeap$State" "finalizable" "I", Cond.fieldLink RX3 53 "WeakTableHeap$State" "roundsOfCollection" "I", Cond.static yX4_copyRow, Cond.code yX4_copyRow cX4_copyRow 2 none, Cond.methodLink RX4 194 Lib.Math.min.name]
def wsX4_save_r3 : List Cond := [Cond.static Lib.Math.min.name, Cond.code Lib.Math.min.name Lib.Math.min.code 2 (some .int), Cond.methodLink RX4 197 arraycopyName, Cond.native arraycopyName, Cond.static arraycopyName, Cond.initialized "java/lang/System", Cond.methodLink RX3 45 yX2_copyFrom, Cond.instanceMethod yX2_copyFrom, Cond.selects RX2 yX2_copyFrom yX2_copyFrom, Cond.code yX2_copyFrom cX2_copyFrom 2 none, Cond.fieldLink RX2 19 "WeakTableHeap$Notices" "size" "I", Cond.methodLink RX4 135 yX3_allocated, Cond.instanceMethod yX3_allocated, Cond.selects RX3 yX3_allocated yX3_allocated, Cond.code yX3_allocated cX3_allocated 3 (some .int), Cond.static yX4_setOf, Cond.code yX4_setOf cX4_setOf 1 (some .int), Cond.methodLink RX4 88 yJ6_bitCount_0f7a4, Cond.static yJ6_bitCount_0f7a4, Cond.initialized RJ6, Cond.code yJ6_bitCount_0f7a4 cJ6_bitCount_0f7a4 1 (some .int), Cond.constant RJ6 265 (1431655765), Cond.constant RJ6 266 (858993459), Cond.constant RJ6 267 (252645135)]
def wsX4_save : List Cond := .code yX4_save cX4_save 2 (some .int) :: ((wsX4_save_r1 ++ (wsX4_save_r2 ++ wsX4_save_r3)) ++ wsX40 ++ wsX30 ++ wsX20)
def wsX4_restore_r1 : List Cond := [Cond.fieldLink RX4 23 "WeakTableHeap" "slots" "[LWeakTableHeap$State;", Cond.fieldLink RX4 10 "WeakTableHeap" "state" "LWeakTableHeap$State;", Cond.fieldLink RX4 19 "WeakTableHeap" "history" "LWeakTableHeap$History;", Cond.methodLink RX4 54 yX4_within, Cond.static yX4_within, Cond.initialized RX4, Cond.code yX4_within cX4_within 2 (some .boolean), Cond.methodLink RX4 177 yX3_copyFrom, Cond.instanceMethod yX3_copyFrom, Cond.selects RX3 yX3_copyFrom yX3_copyFrom, Cond.initialized RX3, Cond.code yX3_copyFrom cX3_copyFrom 2 none, Cond.fieldLink RX3 13 "WeakTableHeap$State" "kinds" "[I", Cond.fieldLink RX3 19 "WeakTableHeap$State" "fields" "[I", Cond.fieldLink RX3 22 "WeakTableHeap$State" "keys" "[I", Cond.fieldLink RX3 25 "WeakTableHeap$State" "values" "[I", Cond.fieldLink RX3 28 "WeakTableHeap$State" "targets" "[I", Cond.fieldLink RX3 31 "WeakTableHeap$State" "roots" "[I", Cond.fieldLink RX3 37 "WeakTableHeap$State" "notices" "LWeakTableHeap$Notices;", Cond.fieldLink RX3 49 "WeakTableHeap$State" "finalizable" "I", Cond.fieldLink RX3 53 "WeakTableHeap$State" "roundsOfCollection" "I", Cond.static yX4_copyRow, Cond.code yX4_copyRow cX4_copyRow 2 none, Cond.methodLink RX4 194 Lib.Math.min.name]
def wsX4_restore_r2 : List Cond := [Cond.static Lib.Math.min.name, Cond.initialized "java/lang/Math", Cond.code Lib.Math.min.name Lib.Math.min.code 2 (some .int), Cond.methodLink RX4 197 arraycopyName, Cond.native arraycopyName, Cond.static arraycopyName, Cond.initialized "java/lang/System", Cond.methodLink RX3 45 yX2_copyFrom, Cond.instanceMethod yX2_copyFrom, Cond.selects RX2 yX2_copyFrom yX2_copyFrom, Cond.initialized RX2, Cond.code yX2_copyFrom cX2_copyFrom 2 none, Cond.fieldLink RX2 9 "WeakTableHeap$Notices" "queue" "[I", Cond.fieldLink RX2 19 "WeakTableHeap$Notices" "size" "I", Cond.methodLink RX4 180 yX0_forget, Cond.instanceMethod yX0_forget, Cond.selects RX0 yX0_forget yX0_forget, Cond.initialized RX0, Cond.code yX0_forget cX0_forget 1 none, Cond.fieldLink RX0 26 "WeakTableHeap$History" "depth" "I", Cond.methodLink RX4 135 yX3_allocated, Cond.instanceMethod yX3_allocated, Cond.selects RX3 yX3_allocated yX3_allocated, Cond.code yX3_allocated cX3_allocated 3 (some .int)]
def wsX4_restore_r3 : List Cond := [Cond.static yX4_setOf, Cond.code yX4_setOf cX4_setOf 1 (some .int), Cond.methodLink RX4 88 yJ6_bitCount_0f7a4, Cond.static yJ6_bitCount_0f7a4, Cond.initialized RJ6, Cond.code yJ6_bitCount_0f7a4 cJ6_bitCount_0f7a4 1 (some .int), Cond.constant RJ6 265 (1431655765), Cond.constant RJ6 266 (858993459), Cond.constant RJ6 267 (252645135)]
def wsX4_restore : List Cond := .code yX4_restore cX4_restore 2 (some .int) :: ((wsX4_restore_r1 ++ (wsX4_restore_r2 ++ wsX4_restore_r3)) ++ wsX40 ++ wsX30 ++ wsX20 ++ wsX00)
def wsX5_init : List Cond := .code yX5_init cX5_init 2 none :: ([.methodLink RX5 1 objectInit, .instanceMethod objectInit, .code objectInit ⟨#[0xb1]⟩ 1 none, .arrayClass .int, .fieldLink RX5 7 "WeakTableHeapModel" "w" "[I", .arrayClass .boolean, .fieldLink RX5 13 "WeakTableHeapModel" "kept" "[Z", .fieldLink RX5 17 "WeakTableHeapModel" "mark" "[I", .fieldLink RX5 20 "WeakTableHeapModel" "start" "[Z"] ++ wsX50)
def wsX5_within : List Cond := .code yX5_within cX5_within 3 (some .boolean) :: ([])
def wsX5_copyState : List Cond := .code yX5_copyState cX5_copyState 4 none :: ([.fieldLink RX5 7 "WeakTableHeapModel" "w" "[I"] ++ wsX50)
def wsX5_saveState : List Cond := .code yX5_saveState cX5_saveState 2 none :: ([.fieldLink RX5 23 "WeakTableHeapModel" "depth" "I", .methodLink RX5 27 yX5_copyState, .instanceMethod yX5_copyState, .selects RX5 yX5_copyState yX5_copyState, .initialized RX5, .code yX5_copyState cX5_copyState 4 none, .fieldLink RX5 7 "WeakTableHeapModel" "w" "[I"] ++ wsX50)
def wsX5_undo : List Cond := .code yX5_undo cX5_undo 1 (some .int) :: ([.fieldLink RX5 23 "WeakTableHeapModel" "depth" "I", .methodLink RX5 27 yX5_copyState, .instanceMethod yX5_copyState, .selects RX5 yX5_copyState yX5_copyState, .initialized RX5, .code yX5_copyState cX5_copyState 4 none, .fieldLink RX5 7 "WeakTableHeapModel" "w" "[I"] ++ wsX50)
def wsX5_undoDepth : List Cond := .code yX5_undoDepth cX5_undoDepth 1 (some .int) :: ([.fieldLink RX5 23 "WeakTableHeapModel" "depth" "I"] ++ wsX50)
def wsX5_part : List Cond := .code yX5_part cX5_part 3 (some .int) :: ([.fieldLink RX5 7 "WeakTableHeapModel" "w" "[I"] ++ wsX50)
def wsX5_isAllocated : List Cond := .code yX5_isAllocated cX5_isAllocated 2 (some .boolean) :: ([.methodLink RX5 31 yX5_within, .static yX5_within, .initialized RX5, .code yX5_within cX5_within 3 (some .boolean), .methodLink RX5 39 yX5_part, .instanceMethod yX5_part, .selects RX5 yX5_part yX5_part, .code yX5_part cX5_part 3 (some .int), .fieldLink RX5 7 "WeakTableHeapModel" "w" "[I"] ++ wsX50)
def wsX5_objectCount : List Cond := .code yX5_objectCount cX5_objectCount 3 (some .int) :: ([.methodLink RX5 43 yX5_isAllocated, .instanceMethod yX5_isAllocated, .selects RX5 yX5_isAllocated yX5_isAllocated, .initialized RX5, .code yX5_isAllocated cX5_isAllocated 2 (some .boolean), .methodLink RX5 31 yX5_within, .static yX5_within, .code yX5_within cX5_within 3 (some .boolean), .methodLink RX5 39 yX5_part, .instanceMethod yX5_part, .selects RX5 yX5_part yX5_part, .code yX5_part cX5_part 3 (some .int), .fieldLink RX5 7 "WeakTableHeapModel" "w" "[I"] ++ wsX50)
def wsX5_save : List Cond := .code yX5_save cX5_save 2 (some .int) :: ([.fieldLink RX5 13 "WeakTableHeapModel" "kept" "[Z", .methodLink RX5 31 yX5_within, .static yX5_within, .initialized RX5, .code yX5_within cX5_within 3 (some .boolean), .methodLink RX5 27 yX5_copyState, .instanceMethod yX5_copyState, .selects RX5 yX5_copyState yX5_copyState, .code yX5_copyState cX5_copyState 4 none, .fieldLink RX5 7 "WeakTableHeapModel" "w" "[I", .methodLink RX5 35 yX5_objectCount, .instanceMethod yX5_objectCount, .selects RX5 yX5_objectCount yX5_objectCount, .code yX5_objectCount cX5_objectCount 3 (some .int), .methodLink RX5 43 yX5_isAllocated, .instanceMethod yX5_isAllocated, .selects RX5 yX5_isAllocated yX5_isAllocated, .code yX5_isAllocated cX5_isAllocated 2 (some .boolean), .methodLink RX5 39 yX5_part, .instanceMethod yX5_part, .selects RX5 yX5_part yX5_part, .code yX5_part cX5_part 3 (some .int)] ++ wsX50)
def wsX5_restore : List Cond := .code yX5_restore cX5_restore 2 (some .int) :: ([.fieldLink RX5 13 "WeakTableHeapModel" "kept" "[Z", .fieldLink RX5 23 "WeakTableHeapModel" "depth" "I", .methodLink RX5 31 yX5_within, .static yX5_within, .initialized RX5, .code yX5_within cX5_within 3 (some .boolean), .methodLink RX5 27 yX5_copyState, .instanceMethod yX5_copyState, .selects RX5 yX5_copyState yX5_copyState, .code yX5_copyState cX5_copyState 4 none, .fieldLink RX5 7 "WeakTableHeapModel" "w" "[I", .methodLink RX5 35 yX5_objectCount, .instanceMethod yX5_objectCount, .selects RX5 yX5_objectCount yX5_objectCount, .code yX5_objectCount cX5_objectCount 3 (some .int), .methodLink RX5 43 yX5_isAllocated, .instanceMethod yX5_isAllocated, .selects RX5 yX5_isAllocated yX5_isAllocated, .code yX5_isAllocated cX5_isAllocated 2 (some .boolean), .methodLink RX5 39 yX5_part, .instanceMethod yX5_part, .selects RX5 yX5_part yX5_part, .code yX5_part cX5_part 3 (some .int)] ++ wsX50)
def wsX5_isKind : List Cond := .code yX5_isKind cX5_isKind 3 (some .boolean) :: ([.methodLink RX5 43 yX5_isAllocated, .instanceMethod yX5_isAllocated, .selects RX5 yX5_isAllocated yX5_isAllocated, .initialized RX5, .code yX5_isAllocated cX5_isAllocated 2 (some .boolean), .methodLink RX5 31 yX5_within, .static yX5_within, .code yX5_within cX5_within 3 (some .boolean), .methodLink RX5 39 yX5_part, .instanceMethod yX5_part, .selects RX5 yX5_part yX5_part, .code yX5_part cX5_part 3 (some .int), .fieldLink RX5 7 "WeakTableHeapModel" "w" "[I"] ++ wsX50)
def wsX5_make : List Cond := .code yX5_make cX5_make 5 (some .int) :: ([.fieldLink RX5 7 "WeakTableHeapModel" "w" "[I", .methodLink RX5 43 yX5_isAllocated, .instanceMethod yX5_isAllocated, .selects RX5 yX5_isAllocated yX5_isAllocated, .initialized RX5, .code yX5_isAllocated cX5_isAllocated 2 (some .boolean), .methodLink RX5 31 yX5_within, .static yX5_within, .code yX5_within cX5_within 3 (some .boolean), .methodLink RX5 39 yX5_part, .instanceMethod yX5_part, .selects RX5 yX5_part yX5_part, .code yX5_part cX5_part 3 (some .int), .methodLink RX5 47 yX5_saveState, .instanceMethod yX5_saveState, .selects RX5 yX5_saveState yX5_saveState, .code yX5_saveState cX5_saveState 2 none, .fieldLink RX5 23 "WeakTableHeapModel" "depth" "I", .methodLink RX5 27 yX5_copyState, .instanceMethod yX5_copyState, .selects RX5 yX5_copyState yX5_copyState, .code yX5_copyState cX5_copyState 4 none] ++ wsX50)
def wsX5_allocate_r1 : List Cond := [Cond.methodLink RX5 50 yX5_make, Cond.instanceMethod yX5_make, Cond.selects RX5 yX5_make yX5_make, Cond.initialized RX5, Cond.code yX5_make cX5_make 5 (some .int), Cond.fieldLink RX5 7 "WeakTableHeapModel" "w" "[I", Cond.methodLink RX5 43 yX5_isAllocated, Cond.instanceMethod yX5_isAllocated, Cond.selects RX5 yX5_isAllocated yX5_isAllocated, Cond.code yX5_isAllocated cX5_isAllocated 2 (some .boolean), Cond.methodLink RX5 31 yX5_within, Cond.static yX5_within, Cond.code yX5_within cX5_within 3 (some .boolean), Cond.methodLink RX5 39 yX5_part, Cond.instanceMethod yX5_part, Cond.selects RX5 yX5_part yX5_part, Cond.code yX5_part cX5_part 3 (some .int), Cond.methodLink RX5 47 yX5_saveState, Cond.instanceMethod yX5_saveState, Cond.selects RX5 yX5_saveState yX5_saveState, Cond.code yX5_saveState cX5_saveState 2 none, Cond.fieldLink RX5 23 "WeakTableHeapModel" "depth" "I", Cond.methodLink RX5 27 yX5_copyState, Cond.instanceMethod yX5_copyState]
def wsX5_allocate_r2 : List Cond := [Cond.selects RX5 yX5_copyState yX5_copyState, Cond.code yX5_copyState cX5_copyState 4 none]
def wsX5_allocate : List Cond := .code yX5_allocate cX5_allocate 1 (some .int) :: ((wsX5_allocate_r1 ++ wsX5_allocate_r2) ++ wsX50)
def wsX5_allocateTable_r1 : List Cond := [Cond.methodLink RX5 50 yX5_make, Cond.instanceMethod yX5_make, Cond.selects RX5 yX5_make yX5_make, Cond.initialized RX5, Cond.code yX5_make cX5_make 5 (some .int), Cond.fieldLink RX5 7 "WeakTableHeapModel" "w" "[I", Cond.methodLink RX5 43 yX5_isAllocated, Cond.instanceMethod yX5_isAllocated, Cond.selects RX5 yX5_isAllocated yX5_isAllocated, Cond.code yX5_isAllocated cX5_isAllocated 2 (some .boolean), Cond.methodLink RX5 31 yX5_within, Cond.static yX5_within, Cond.code yX5_within cX5_within 3 (some .boolean), Cond.methodLink RX5 39 yX5_part, Cond.instanceMethod yX5_part, Cond.selects RX5 yX5_part yX5_part, Cond.code yX5_part cX5_part 3 (some .int), Cond.methodLink RX5 47 yX5_saveState, Cond.instanceMethod yX5_saveState, Cond.selects RX5 yX5_saveState yX5_saveState, Cond.code yX5_saveState cX5_saveState 2 none, Cond.fieldLink RX5 23 "WeakTableHeapModel" "depth" "I", Cond.methodLink RX5 27 yX5_copyState, Cond.instanceMethod yX5_copyState]
def wsX5_allocateTable_r2 : List Cond := [Cond.selects RX5 yX5_copyState yX5_copyState, Cond.code yX5_copyState cX5_copyState 4 none]
def wsX5_allocateTable : List Cond := .code yX5_allocateTable cX5_allocateTable 1 (some .int) :: ((wsX5_allocateTable_r1 ++ wsX5_allocateTable_r2) ++ wsX50)
def wsX5_allocateWeak_r1 : List Cond := [Cond.methodLink RX5 43 yX5_isAllocated, Cond.instanceMethod yX5_isAllocated, Cond.selects RX5 yX5_isAllocated yX5_isAllocated, Cond.initialized RX5, Cond.code yX5_isAllocated cX5_isAllocated 2 (some .boolean), Cond.methodLink RX5 31 yX5_within, Cond.static yX5_within, Cond.code yX5_within cX5_within 3 (some .boolean), Cond.methodLink RX5 39 yX5_part, Cond.instanceMethod yX5_part, Cond.selects RX5 yX5_part yX5_part, Cond.code yX5_part cX5_part 3 (some .int), Cond.fieldLink RX5 7 "WeakTableHeapModel" "w" "[I", Cond.methodLink RX5 50 yX5_make, Cond.instanceMethod yX5_make, Cond.selects RX5 yX5_make yX5_make, Cond.code yX5_make cX5_make 5 (some .int), Cond.methodLink RX5 47 yX5_saveState, Cond.instanceMethod yX5_saveState, Cond.selects RX5 yX5_saveState yX5_saveState, Cond.code yX5_saveState cX5_saveState 2 none, Cond.fieldLink RX5 23 "WeakTableHeapModel" "depth" "I", Cond.methodLink RX5 27 yX5_copyState, Cond.instanceMethod yX5_copyState]
def wsX5_allocateWeak_r2 : List Cond := [Cond.selects RX5 yX5_copyState yX5_copyState, Cond.code yX5_copyState cX5_copyState 4 none]
def wsX5_allocateWeak : List Cond := .code yX5_allocateWeak cX5_allocateWeak 2 (some .int) :: ((wsX5_allocateWeak_r1 ++ wsX5_allocateWeak_r2) ++ wsX50)
def wsX5_kind : List Cond := .code yX5_kind cX5_kind 2 (some .int) :: ([.methodLink RX5 43 yX5_isAllocated, .instanceMethod yX5_isAllocated, .selects RX5 yX5_isAllocated yX5_isAllocated, .initialized RX5, .code yX5_isAllocated cX5_isAllocated 2 (some .boolean), .methodLink RX5 31 yX5_within, .static yX5_within, .code yX5_within cX5_within 3 (some .boolean), .methodLink RX5 39 yX5_part, .instanceMethod yX5_part, .selects RX5 yX5_part yX5_part, .code yX5_part cX5_part 3 (some .int), .fieldLink RX5 7 "WeakTableHeapModel" "w" "[I"] ++ wsX50)
def wsX5_change : List Cond := .code yX5_change cX5_change 4 (some .int) :: ([.fieldLink RX5 7 "WeakTableHeapModel" "w" "[I", .methodLink RX5 47 yX5_saveState, .instanceMethod yX5_saveState, .selects RX5 yX5_saveState yX5_saveState, .initialized RX5, .code yX5_saveState cX5_saveState 2 none, .fieldLink RX5 23 "WeakTableHeapModel" "depth" "I", .methodLink RX5 27 yX5_copyState, .instanceMethod yX5_copyState, .selects RX5 yX5_copyState yX5_copyState, .code yX5_copyState cX5_copyState 4 none] ++ wsX50)
def wsX5_setField_r1 : List Cond := [Cond.methodLink RX5 53 yX5_isKind, Cond.instanceMethod yX5_isKind, Cond.selects RX5 yX5_isKind yX5_isKind, Cond.initialized RX5, Cond.code yX5_isKind cX5_isKind 3 (some .boolean), Cond.methodLink RX5 43 yX5_isAllocated, Cond.instanceMethod yX5_isAllocated, Cond.selects RX5 yX5_isAllocated yX5_isAllocated, Cond.code yX5_isAllocated cX5_isAllocated 2 (some .boolean), Cond.methodLink RX5 31 yX5_within, Cond.static yX5_within, Cond.code yX5_within cX5_within 3 (some .boolean), Cond.methodLink RX5 39 yX5_part, Cond.instanceMethod yX5_part, Cond.selects RX5 yX5_part yX5_part, Cond.code yX5_part cX5_part 3 (some .int), Cond.fieldLink RX5 7 "WeakTableHeapModel" "w" "[I", Cond.methodLink RX5 57 yX5_change, Cond.instanceMethod yX5_change, Cond.selects RX5 yX5_change yX5_change, Cond.code yX5_change cX5_change 4 (some .int), Cond.methodLink RX5 47 yX5_saveState, Cond.instanceMethod yX5_saveState, Cond.selects RX5 yX5_saveState yX5_saveState]
def wsX5_setField_r2 : List Cond := [Cond.code yX5_saveState cX5_saveState 2 none, Cond.fieldLink RX5 23 "WeakTableHeapModel" "depth" "I", Cond.methodLink RX5 27 yX5_copyState, Cond.instanceMethod yX5_copyState, Cond.selects RX5 yX5_copyState yX5_copyState, Cond.code yX5_copyState cX5_copyState 4 none]
def wsX5_setField : List Cond := .code yX5_setField cX5_setField 4 (some .int) :: ((wsX5_setField_r1 ++ wsX5_setField_r2) ++ wsX50)
def wsX5_field : List Cond := .code yX5_field cX5_field 3 (some .int) :: ([.methodLink RX5 53 yX5_isKind, .instanceMethod yX5_isKind, .selects RX5 yX5_isKind yX5_isKind, .initialized RX5, .code yX5_isKind cX5_isKind 3 (some .boolean), .methodLink RX5 43 yX5_isAllocated, .instanceMethod yX5_isAllocated, .selects RX5 yX5_isAllocated yX5_isAllocated, .code yX5_isAllocated cX5_isAllocated 2 (some .boolean), .methodLink RX5 31 yX5_within, .static yX5_within, .code yX5_within cX5_within 3 (some .boolean), .methodLink RX5 39 yX5_part, .instanceMethod yX5_part, .selects RX5 yX5_part yX5_part, .code yX5_part cX5_part 3 (some .int), .fieldLink RX5 7 "WeakTableHeapModel" "w" "[I"] ++ wsX50)
def wsX5_setRoot_r1 : List Cond := [Cond.methodLink RX5 31 yX5_within, Cond.static yX5_within, Cond.initialized RX5, Cond.code yX5_within cX5_within 3 (some .boolean), Cond.methodLink RX5 43 yX5_isAllocated, Cond.instanceMethod yX5_isAllocated, Cond.selects RX5 yX5_isAllocated yX5_isAllocated, Cond.code yX5_isAllocated cX5_isAllocated 2 (some .boolean), Cond.methodLink RX5 39 yX5_part, Cond.instanceMethod yX5_part, Cond.selects RX5 yX5_part yX5_part, Cond.code yX5_part cX5_part 3 (some .int), Cond.fieldLink RX5 7 "WeakTableHeapModel" "w" "[I", Cond.methodLink RX5 57 yX5_change, Cond.instanceMethod yX5_change, Cond.selects RX5 yX5_change yX5_change, Cond.code yX5_change cX5_change 4 (some .int), Cond.methodLink RX5 47 yX5_saveState, Cond.instanceMethod yX5_saveState, Cond.selects RX5 yX5_saveState yX5_saveState, Cond.code yX5_saveState cX5_saveState 2 none, Cond.fieldLink RX5 23 "WeakTableHeapModel" "depth" "I", Cond.methodLink RX5 27 yX5_copyState, Cond.instanceMethod yX5_copyState]
def wsX5_setRoot_r2 : List Cond := [Cond.selects RX5 yX5_copyState yX5_copyState, Cond.code yX5_copyState cX5_copyState 4 none]
def wsX5_setRoot : List Cond := .code yX5_setRoot cX5_setRoot 3 (some .int) :: ((wsX5_setRoot_r1 ++ wsX5_setRoot_r2) ++ wsX50)
def wsX5_root : List Cond := .code yX5_root cX5_root 2 (some .int) :: ([.fieldLink RX5 7 "WeakTableHeapModel" "w" "[I", .methodLink RX5 31 yX5_within, .static yX5_within, .initialized RX5, .code yX5_within cX5_within 3 (some .boolean)] ++ wsX50)
def wsX5_target : List Cond := .code yX5_target cX5_target 2 (some .int) :: ([.methodLink RX5 53 yX5_isKind, .instanceMethod yX5_isKind, .selects RX5 yX5_isKind yX5_isKind, .initialized RX5, .code yX5_isKind cX5_isKind 3 (some .boolean), .methodLink RX5 43 yX5_isAllocated, .instanceMethod yX5_isAllocated, .selects RX5 yX5_isAllocated yX5_isAllocated, .code yX5_isAllocated cX5_isAllocated 2 (some .boolean), .methodLink RX5 31 yX5_within, .static yX5_within, .code yX5_within cX5_within 3 (some .boolean), .methodLink RX5 39 yX5_part, .instanceMethod yX5_part, .selects RX5 yX5_part yX5_part, .code yX5_part cX5_part 3 (some .int), .fieldLink RX5 7 "WeakTableHeapModel" "w" "[I"] ++ wsX50)
def wsX5_setFinalizable : List Cond := .code yX5_setFinalizable cX5_setFinalizable 5 (some .int) :: ([.fieldLink RX5 7 "WeakTableHeapModel" "w" "[I", .methodLink RX5 43 yX5_isAllocated, .instanceMethod yX5_isAllocated, .selects RX5 yX5_isAllocated yX5_isAllocated, .initialized RX5, .code yX5_isAllocated cX5_isAllocated 2 (some .boolean), .methodLink RX5 31 yX5_within, .static yX5_within, .code yX5_within cX5_within 3 (some .boolean), .methodLink RX5 39 yX5_part, .instanceMethod yX5_part, .selects RX5 yX5_part yX5_part, .code yX5_part cX5_part 3 (some .int), .methodLink RX5 47 yX5_saveState, .instanceMethod yX5_saveState, .selects RX5 yX5_saveState yX5_saveState, .code yX5_saveState cX5_saveState 2 none, .fieldLink RX5 23 "WeakTableHeapModel" "depth" "I", .methodLink RX5 27 yX5_copyState, .instanceMethod yX5_copyState, .selects RX5 yX5_copyState yX5_copyState, .code yX5_copyState cX5_copyState 4 none] ++ wsX50)
def wsX5_placeOf : List Cond := .code yX5_placeOf cX5_placeOf 4 (some .int) :: ([.methodLink RX5 39 yX5_part, .instanceMethod yX5_part, .selects RX5 yX5_part yX5_part, .initialized RX5, .code yX5_part cX5_part 3 (some .int), .fieldLink RX5 7 "WeakTableHeapModel" "w" "[I"] ++ wsX50)
def wsX5_removeAt : List Cond := .code yX5_removeAt cX5_removeAt 5 none :: ([.fieldLink RX5 7 "WeakTableHeapModel" "w" "[I", .methodLink RX5 39 yX5_part, .instanceMethod yX5_part, .selects RX5 yX5_part yX5_part, .initialized RX5, .code yX5_part cX5_part 3 (some .int)] ++ wsX50)
def wsX5_put_r1 : List Cond := [Cond.fieldLink RX5 7 "WeakTableHeapModel" "w" "[I", Cond.methodLink RX5 53 yX5_isKind, Cond.instanceMethod yX5_isKind, Cond.selects RX5 yX5_isKind yX5_isKind, Cond.initialized RX5, Cond.code yX5_isKind cX5_isKind 3 (some .boolean), Cond.methodLink RX5 43 yX5_isAllocated, Cond.instanceMethod yX5_isAllocated, Cond.selects RX5 yX5_isAllocated yX5_isAllocated, Cond.code yX5_isAllocated cX5_isAllocated 2 (some .boolean), Cond.methodLink RX5 31 yX5_within, Cond.static yX5_within, Cond.code yX5_within cX5_within 3 (some .boolean), Cond.methodLink RX5 39 yX5_part, Cond.instanceMethod yX5_part, Cond.selects RX5 yX5_part yX5_part, Cond.code yX5_part cX5_part 3 (some .int), Cond.methodLink RX5 60 yX5_placeOf, Cond.instanceMethod yX5_placeOf, Cond.selects RX5 yX5_placeOf yX5_placeOf, Cond.code yX5_placeOf cX5_placeOf 4 (some .int), Cond.methodLink RX5 47 yX5_saveState, Cond.instanceMethod yX5_saveState, Cond.selects RX5 yX5_saveState yX5_saveState]
def wsX5_put_r2 : List Cond := [Cond.code yX5_saveState cX5_saveState 2 none, Cond.fieldLink RX5 23 "WeakTableHeapModel" "depth" "I", Cond.methodLink RX5 27 yX5_copyState, Cond.instanceMethod yX5_copyState, Cond.selects RX5 yX5_copyState yX5_copyState, Cond.code yX5_copyState cX5_copyState 4 none]
def wsX5_put : List Cond := .code yX5_put cX5_put 6 (some .int) :: ((wsX5_put_r1 ++ wsX5_put_r2) ++ wsX50)
def wsX5_get : List Cond := .code yX5_get cX5_get 4 (some .int) :: ([.methodLink RX5 53 yX5_isKind, .instanceMethod yX5_isKind, .selects RX5 yX5_isKind yX5_isKind, .initialized RX5, .code yX5_isKind cX5_isKind 3 (some .boolean), .methodLink RX5 43 yX5_isAllocated, .instanceMethod yX5_isAllocated, .selects RX5 yX5_isAllocated yX5_isAllocated, .code yX5_isAllocated cX5_isAllocated 2 (some .boolean), .methodLink RX5 31 yX5_within, .static yX5_within, .code yX5_within cX5_within 3 (some .boolean), .methodLink RX5 39 yX5_part, .instanceMethod yX5_part, .selects RX5 yX5_part yX5_part, .code yX5_part cX5_part 3 (some .int), .fieldLink RX5 7 "WeakTableHeapModel" "w" "[I", .methodLink RX5 60 yX5_placeOf, .instanceMethod yX5_placeOf, .selects RX5 yX5_placeOf yX5_placeOf, .code yX5_placeOf cX5_placeOf 4 (some .int)] ++ wsX50)
def wsX5_removeEntry_r1 : List Cond := [Cond.methodLink RX5 53 yX5_isKind, Cond.instanceMethod yX5_isKind, Cond.selects RX5 yX5_isKind yX5_isKind, Cond.initialized RX5, Cond.code yX5_isKind cX5_isKind 3 (some .boolean), Cond.methodLink RX5 43 yX5_isAllocated, Cond.instanceMethod yX5_isAllocated, Cond.selects RX5 yX5_isAllocated yX5_isAllocated, Cond.code yX5_isAllocated cX5_isAllocated 2 (some .boolean), Cond.methodLink RX5 31 yX5_within, Cond.static yX5_within, Cond.code yX5_within cX5_within 3 (some .boolean), Cond.methodLink RX5 39 yX5_part, Cond.instanceMethod yX5_part, Cond.selects RX5 yX5_part yX5_part, Cond.code yX5_part cX5_part 3 (some .int), Cond.fieldLink RX5 7 "WeakTableHeapModel" "w" "[I", Cond.methodLink RX5 60 yX5_placeOf, Cond.instanceMethod yX5_placeOf, Cond.selects RX5 yX5_placeOf yX5_placeOf, Cond.code yX5_placeOf cX5_placeOf 4 (some .int), Cond.methodLink RX5 47 yX5_saveState, Cond.instanceMethod yX5_saveState, Cond.selects RX5 yX5_saveState yX5_saveState]
def wsX5_removeEntry_r2 : List Cond := [Cond.code yX5_saveState cX5_saveState 2 none, Cond.fieldLink RX5 23 "WeakTableHeapModel" "depth" "I", Cond.methodLink RX5 27 yX5_copyState, Cond.instanceMethod yX5_copyState, Cond.selects RX5 yX5_copyState yX5_copyState, Cond.code yX5_copyState cX5_copyState 4 none, Cond.methodLink RX5 63 yX5_removeAt, Cond.instanceMethod yX5_removeAt, Cond.selects RX5 yX5_removeAt yX5_removeAt, Cond.code yX5_removeAt cX5_removeAt 5 none]
def wsX5_removeEntry : List Cond := .code yX5_removeEntry cX5_removeEntry 5 (some .int) :: ((wsX5_removeEntry_r1 ++ wsX5_removeEntry_r2) ++ wsX50)
def wsX5_entryCount : List Cond := .code yX5_entryCount cX5_entryCount 2 (some .int) :: ([.methodLink RX5 53 yX5_isKind, .instanceMethod yX5_isKind, .selects RX5 yX5_isKind yX5_isKind, .initialized RX5, .code yX5_isKind cX5_isKind 3 (some .boolean), .methodLink RX5 43 yX5_isAllocated, .instanceMethod yX5_isAllocated, .selects RX5 yX5_isAllocated yX5_isAllocated, .code yX5_isAllocated cX5_isAllocated 2 (some .boolean), .methodLink RX5 31 yX5_within, .static yX5_within, .code yX5_within cX5_within 3 (some .boolean), .methodLink RX5 39 yX5_part, .instanceMethod yX5_part, .selects RX5 yX5_part yX5_part, .code yX5_part cX5_part 3 (some .int), .fieldLink RX5 7 "WeakTableHeapModel" "w" "[I"] ++ wsX50)
def wsX5_entryKey : List Cond := .code yX5_entryKey cX5_entryKey 3 (some .int) :: ([.methodLink RX5 53 yX5_isKind, .instanceMethod yX5_isKind, .selects RX5 yX5_isKind yX5_isKind, .initialized RX5, .code yX5_isKind cX5_isKind 3 (some .boolean), .methodLink RX5 43 yX5_isAllocated, .instanceMethod yX5_isAllocated, .selects RX5 yX5_isAllocated yX5_isAllocated, .code yX5_isAllocated cX5_isAllocated 2 (some .boolean), .methodLink RX5 31 yX5_within, .static yX5_within, .code yX5_within cX5_within 3 (some .boolean), .methodLink RX5 39 yX5_part, .instanceMethod yX5_part, .selects RX5 yX5_part yX5_part, .code yX5_part cX5_part 3 (some .int), .fieldLink RX5 7 "WeakTableHeapModel" "w" "[I"] ++ wsX50)
def wsX5_startAtRoots : List Cond := .code yX5_startAtRoots cX5_startAtRoots 2 none :: ([.fieldLink RX5 20 "WeakTableHeapModel" "start" "[Z", .fieldLink RX5 7 "WeakTableHeapModel" "w" "[I"] ++ wsX50)
def wsX5_followFields : List Cond := .code yX5_followFields cX5_followFields 7 none :: ([.fieldLink RX5 17 "WeakTableHeapModel" "mark" "[I", .methodLink RX5 39 yX5_part, .instanceMethod yX5_part, .selects RX5 yX5_part yX5_part, .initialized RX5, .code yX5_part cX5_part 3 (some .int), .fieldLink RX5 7 "WeakTableHeapModel" "w" "[I"] ++ wsX50)
def wsX5_followEntries : List Cond := .code yX5_followEntries cX5_followEntries 9 (some .boolean) :: ([.fieldLink RX5 17 "WeakTableHeapModel" "mark" "[I", .methodLink RX5 39 yX5_part, .instanceMethod yX5_part, .selects RX5 yX5_part yX5_part, .initialized RX5, .code yX5_part cX5_part 3 (some .int), .fieldLink RX5 7 "WeakTableHeapModel" "w" "[I"] ++ wsX50)
def wsX5_marks : List Cond := .code yX5_marks cX5_marks 3 (some .int) :: ([.fieldLink RX5 17 "WeakTableHeapModel" "mark" "[I", .fieldLink RX5 20 "WeakTableHeapModel" "start" "[Z", .methodLink RX5 66 yX5_followFields, .instanceMethod yX5_followFields, .selects RX5 yX5_followFields yX5_followFields, .initialized RX5, .code yX5_followFields cX5_followFields 7 none, .methodLink RX5 39 yX5_part, .instanceMethod yX5_part, .selects RX5 yX5_part yX5_part, .code yX5_part cX5_part 3 (some .int), .fieldLink RX5 7 "WeakTableHeapModel" "w" "[I", .methodLink RX5 69 yX5_followEntries, .instanceMethod yX5_followEntries, .selects RX5 yX5_followEntries yX5_followEntries, .code yX5_followEntries cX5_followEntries 9 (some .boolean)] ++ wsX50)
def wsX5_marked : List Cond := .code yX5_marked cX5_marked 3 (some .int) :: ([.fieldLink RX5 17 "WeakTableHeapModel" "mark" "[I"] ++ wsX50)
def wsX5_markAll : List Cond := .code yX5_markAll cX5_markAll 2 (some .int) :: ([.methodLink RX5 72 yX5_startAtRoots, .instanceMethod yX5_startAtRoots, .selects RX5 yX5_startAtRoots yX5_startAtRoots, .initialized RX5, .code yX5_startAtRoots cX5_startAtRoots 2 none, .fieldLink RX5 20 "WeakTableHeapModel" "start" "[Z", .fieldLink RX5 7 "WeakTableHeapModel" "w" "[I", .methodLink RX5 75 yX5_marks, .instanceMethod yX5_marks, .selects RX5 yX5_marks yX5_marks, .code yX5_marks cX5_marks 3 (some .int), .fieldLink RX5 17 "WeakTableHeapModel" "mark" "[I", .methodLink RX5 66 yX5_followFields, .instanceMethod yX5_followFields, .selects RX5 yX5_followFields yX5_followFields, .code yX5_followFields cX5_followFields 7 none, .methodLink RX5 39 yX5_part, .instanceMethod yX5_part, .selects RX5 yX5_part yX5_part, .code yX5_part cX5_part 3 (some .int), .methodLink RX5 69 yX5_followEntries, .instanceMethod yX5_followEntries, .selects RX5 yX5_followEntries yX5_followEntries, .code yX5_followEntries cX5_followEntries 9 (some .boolean)] ++ wsX50)
def wsX5_takeNotice : List Cond := .code yX5_takeNotice cX5_takeNotice 3 (some .int) :: ([.fieldLink RX5 7 "WeakTableHeapModel" "w" "[I"] ++ wsX50)
def wsX5_notice : List Cond := .code yX5_notice cX5_notice 2 none :: ([.fieldLink RX5 7 "WeakTableHeapModel" "w" "[I", .methodLink RX5 79 yX5_takeNotice, .instanceMethod yX5_takeNotice, .selects RX5 yX5_takeNotice yX5_takeNotice, .initialized RX5, .code yX5_takeNotice cX5_takeNotice 3 (some .int)] ++ wsX50)
def wsX5_emptyWeak : List Cond := .code yX5_emptyWeak cX5_emptyWeak 4 none :: ([.fieldLink RX5 17 "WeakTableHeapModel" "mark" "[I", .fieldLink RX5 7 "WeakTableHeapModel" "w" "[I", .methodLink RX5 39 yX5_part, .instanceMethod yX5_part, .selects RX5 yX5_part yX5_part, .initialized RX5, .code yX5_part cX5_part 3 (some .int), .methodLink RX5 82 yX5_notice, .instanceMethod yX5_notice, .selects RX5 yX5_notice yX5_notice, .code yX5_notice cX5_notice 2 none, .methodLink RX5 79 yX5_takeNotice, .instanceMethod yX5_takeNotice, .selects RX5 yX5_takeNotice yX5_takeNotice, .code yX5_takeNotice cX5_takeNotice 3 (some .int)] ++ wsX50)
def wsX5_finalizeAll : List Cond := .code yX5_finalizeAll cX5_finalizeAll 2 none :: ([.fieldLink RX5 17 "WeakTableHeapModel" "mark" "[I", .fieldLink RX5 7 "WeakTableHeapModel" "w" "[I", .fieldLink RX5 20 "WeakTableHeapModel" "start" "[Z", .methodLink RX5 43 yX5_isAllocated, .instanceMethod yX5_isAllocated, .selects RX5 yX5_isAllocated yX5_isAllocated, .initialized RX5, .code yX5_isAllocated cX5_isAllocated 2 (some .boolean), .methodLink RX5 31 yX5_within, .static yX5_within, .code yX5_within cX5_within 3 (some .boolean), .methodLink RX5 39 yX5_part, .instanceMethod yX5_part, .selects RX5 yX5_part yX5_part, .code yX5_part cX5_part 3 (some .int), .methodLink RX5 82 yX5_notice, .instanceMethod yX5_notice, .selects RX5 yX5_notice yX5_notice, .code yX5_notice cX5_notice 2 none, .methodLink RX5 79 yX5_takeNotice, .instanceMethod yX5_takeNotice, .selects RX5 yX5_takeNotice yX5_takeNotice, .code yX5_takeNotice cX5_takeNotice 3 (some .int)] ++ wsX50)
def wsX5_dropEntries : List Cond := .code yX5_dropEntries cX5_dropEntries 4 none :: ([.fieldLink RX5 17 "WeakTableHeapModel" "mark" "[I", .methodLink RX5 39 yX5_part, .instanceMethod yX5_part, .selects RX5 yX5_part yX5_part, .initialized RX5, .code yX5_part cX5_part 3 (some .int), .fieldLink RX5 7 "WeakTableHeapModel" "w" "[I", .methodLink RX5 82 yX5_notice, .instanceMethod yX5_notice, .selects RX5 yX5_notice yX5_notice, .code yX5_notice cX5_notice 2 none, .methodLink RX5 79 yX5_takeNotice, .instanceMethod yX5_takeNotice, .selects RX5 yX5_takeNotice yX5_takeNotice, .code yX5_takeNotice cX5_takeNotice 3 (some .int), .methodLink RX5 63 yX5_removeAt, .instanceMethod yX5_removeAt, .selects RX5 yX5_removeAt yX5_removeAt, .code yX5_removeAt cX5_removeAt 5 none] ++ wsX50)
def wsX5_free : List Cond := .code yX5_free cX5_free 3 (some .int) :: ([.fieldLink RX5 17 "WeakTableHeapModel" "mark" "[I", .fieldLink RX5 7 "WeakTableHeapModel" "w" "[I", .methodLink RX5 43 yX5_isAllocated, .instanceMethod yX5_isAllocated, .selects RX5 yX5_isAllocated yX5_isAllocated, .initialized RX5, .code yX5_isAllocated cX5_isAllocated 2 (some .boolean), .methodLink RX5 31 yX5_within, .static yX5_within, .code yX5_within cX5_within 3 (some .boolean), .methodLink RX5 39 yX5_part, .instanceMethod yX5_part, .selects RX5 yX5_part yX5_part, .code yX5_part cX5_part 3 (some .int)] ++ wsX50)
def wsX5_collectNow_r1 : List Cond := [Cond.fieldLink RX5 7 "WeakTableHeapModel" "w" "[I", Cond.methodLink RX5 86 yX5_markAll, Cond.instanceMethod yX5_markAll, Cond.selects RX5 yX5_markAll yX5_markAll, Cond.initialized RX5, Cond.code yX5_markAll cX5_markAll 2 (some .int), Cond.methodLink RX5 72 yX5_startAtRoots, Cond.instanceMethod yX5_startAtRoots, Cond.selects RX5 yX5_startAtRoots yX5_startAtRoots, Cond.code yX5_startAtRoots cX5_startAtRoots 2 none, Cond.fieldLink RX5 20 "WeakTableHeapModel" "start" "[Z", Cond.methodLink RX5 75 yX5_marks, Cond.instanceMethod yX5_marks, Cond.selects RX5 yX5_marks yX5_marks, Cond.code yX5_marks cX5_marks 3 (some .int), Cond.fieldLink RX5 17 "WeakTableHeapModel" "mark" "[I", Cond.methodLink RX5 66 yX5_followFields, Cond.instanceMethod yX5_followFields, Cond.selects RX5 yX5_followFields yX5_followFields, Cond.code yX5_followFields cX5_followFields 7 none, Cond.methodLink RX5 39 yX5_part, Cond.instanceMethod yX5_part, Cond.selects RX5 yX5_part yX5_part, Cond.code yX5_part cX5_part 3 (some .int)]
def wsX5_collectNow_r2 : List Cond := [Cond.methodLink RX5 69 yX5_followEntries, Cond.instanceMethod yX5_followEntries, Cond.selects RX5 yX5_followEntries yX5_followEntries, Cond.code yX5_followEntries cX5_followEntries 9 (some .boolean), Cond.methodLink RX5 89 yX5_emptyWeak, Cond.instanceMethod yX5_emptyWeak, Cond.selects RX5 yX5_emptyWeak yX5_emptyWeak, Cond.code yX5_emptyWeak cX5_emptyWeak 4 none, Cond.methodLink RX5 82 yX5_notice, Cond.instanceMethod yX5_notice, Cond.selects RX5 yX5_notice yX5_notice, Cond.code yX5_notice cX5_notice 2 none, Cond.methodLink RX5 79 yX5_takeNotice, Cond.instanceMethod yX5_takeNotice, Cond.selects RX5 yX5_takeNotice yX5_takeNotice, Cond.code yX5_takeNotice cX5_takeNotice 3 (some .int), Cond.methodLink RX5 93 yX5_finalizeAll, Cond.instanceMethod yX5_finalizeAll, Cond.selects RX5 yX5_finalizeAll yX5_finalizeAll, Cond.code yX5_finalizeAll cX5_finalizeAll 2 none, Cond.methodLink RX5 43 yX5_isAllocated, Cond.instanceMethod yX5_isAllocated, Cond.selects RX5 yX5_isAllocated yX5_isAllocated, Cond.code yX5_isAllocated cX5_isAllocated 2 (some .boolean)]
def wsX5_collectNow_r3 : List Cond := [Cond.methodLink RX5 31 yX5_within, Cond.static yX5_within, Cond.code yX5_within cX5_within 3 (some .boolean), Cond.methodLink RX5 96 yX5_dropEntries, Cond.instanceMethod yX5_dropEntries, Cond.selects RX5 yX5_dropEntries yX5_dropEntries, Cond.code yX5_dropEntries cX5_dropEntries 4 none, Cond.methodLink RX5 63 yX5_removeAt, Cond.instanceMethod yX5_removeAt, Cond.selects RX5 yX5_removeAt yX5_removeAt, Cond.code yX5_removeAt cX5_removeAt 5 none, Cond.methodLink RX5 99 yX5_free, Cond.instanceMethod yX5_free, Cond.selects RX5 yX5_free yX5_free, Cond.code yX5_free cX5_free 3 (some .int)]
def wsX5_collectNow : List Cond := .code yX5_collectNow cX5_collectNow 1 (some .int) :: ((wsX5_collectNow_r1 ++ (wsX5_collectNow_r2 ++ wsX5_collectNow_r3)) ++ wsX50)
def wsX5_collect_r1 : List Cond := [Cond.methodLink RX5 47 yX5_saveState, Cond.instanceMethod yX5_saveState, Cond.selects RX5 yX5_saveState yX5_saveState, Cond.initialized RX5, Cond.code yX5_saveState cX5_saveState 2 none, Cond.fieldLink RX5 23 "WeakTableHeapModel" "depth" "I", Cond.methodLink RX5 27 yX5_copyState, Cond.instanceMethod yX5_copyState, Cond.selects RX5 yX5_copyState yX5_copyState, Cond.code yX5_copyState cX5_copyState 4 none, Cond.fieldLink RX5 7 "WeakTableHeapModel" "w" "[I", Cond.methodLink RX5 102 yX5_collectNow, Cond.instanceMethod yX5_collectNow, Cond.selects RX5 yX5_collectNow yX5_collectNow, Cond.code yX5_collectNow cX5_collectNow 1 (some .int), Cond.methodLink RX5 86 yX5_markAll, Cond.instanceMethod yX5_markAll, Cond.selects RX5 yX5_markAll yX5_markAll, Cond.code yX5_markAll cX5_markAll 2 (some .int), Cond.methodLink RX5 72 yX5_startAtRoots, Cond.instanceMethod yX5_startAtRoots, Cond.selects RX5 yX5_startAtRoots yX5_startAtRoots, Cond.code yX5_startAtRoots cX5_startAtRoots 2 none, Cond.fieldLink RX5 20 "WeakTableHeapModel" "start" "[Z"]
def wsX5_collect_r2 : List Cond := [Cond.methodLink RX5 75 yX5_marks, Cond.instanceMethod yX5_marks, Cond.selects RX5 yX5_marks yX5_marks, Cond.code yX5_marks cX5_marks 3 (some .int), Cond.fieldLink RX5 17 "WeakTableHeapModel" "mark" "[I", Cond.methodLink RX5 66 yX5_followFields, Cond.instanceMethod yX5_followFields, Cond.selects RX5 yX5_followFields yX5_followFields, Cond.code yX5_followFields cX5_followFields 7 none, Cond.methodLink RX5 39 yX5_part, Cond.instanceMethod yX5_part, Cond.selects RX5 yX5_part yX5_part, Cond.code yX5_part cX5_part 3 (some .int), Cond.methodLink RX5 69 yX5_followEntries, Cond.instanceMethod yX5_followEntries, Cond.selects RX5 yX5_followEntries yX5_followEntries, Cond.code yX5_followEntries cX5_followEntries 9 (some .boolean), Cond.methodLink RX5 89 yX5_emptyWeak, Cond.instanceMethod yX5_emptyWeak, Cond.selects RX5 yX5_emptyWeak yX5_emptyWeak, Cond.code yX5_emptyWeak cX5_emptyWeak 4 none, Cond.methodLink RX5 82 yX5_notice, Cond.instanceMethod yX5_notice, Cond.selects RX5 yX5_notice yX5_notice]
def wsX5_collect_r3 : List Cond := [Cond.code yX5_notice cX5_notice 2 none, Cond.methodLink RX5 79 yX5_takeNotice, Cond.instanceMethod yX5_takeNotice, Cond.selects RX5 yX5_takeNotice yX5_takeNotice, Cond.code yX5_takeNotice cX5_takeNotice 3 (some .int), Cond.methodLink RX5 93 yX5_finalizeAll, Cond.instanceMethod yX5_finalizeAll, Cond.selects RX5 yX5_finalizeAll yX5_finalizeAll, Cond.code yX5_finalizeAll cX5_finalizeAll 2 none, Cond.methodLink RX5 43 yX5_isAllocated, Cond.instanceMethod yX5_isAllocated, Cond.selects RX5 yX5_isAllocated yX5_isAllocated, Cond.code yX5_isAllocated cX5_isAllocated 2 (some .boolean), Cond.methodLink RX5 31 yX5_within, Cond.static yX5_within, Cond.code yX5_within cX5_within 3 (some .boolean), Cond.methodLink RX5 96 yX5_dropEntries, Cond.instanceMethod yX5_dropEntries, Cond.selects RX5 yX5_dropEntries yX5_dropEntries, Cond.code yX5_dropEntries cX5_dropEntries 4 none, Cond.methodLink RX5 63 yX5_removeAt, Cond.instanceMethod yX5_removeAt, Cond.selects RX5 yX5_removeAt yX5_removeAt, Cond.code yX5_removeAt cX5_removeAt 5 none]
def wsX5_collect_r4 : List Cond := [Cond.methodLink RX5 99 yX5_free, Cond.instanceMethod yX5_free, Cond.selects RX5 yX5_free yX5_free, Cond.code yX5_free cX5_free 3 (some .int)]
def wsX5_collect : List Cond := .code yX5_collect cX5_collect 1 (some .int) :: ((wsX5_collect_r1 ++ (wsX5_collect_r2 ++ (wsX5_collect_r3 ++ wsX5_collect_r4))) ++ wsX50)
def wsX5_wouldFree_r1 : List Cond := [Cond.methodLink RX5 27 yX5_copyState, Cond.instanceMethod yX5_copyState, Cond.selects RX5 yX5_copyState yX5_copyState, Cond.initialized RX5, Cond.code yX5_copyState cX5_copyState 4 none, Cond.fieldLink RX5 7 "WeakTableHeapModel" "w" "[I", Cond.methodLink RX5 102 yX5_collectNow, Cond.instanceMethod yX5_collectNow, Cond.selects RX5 yX5_collectNow yX5_collectNow, Cond.code yX5_collectNow cX5_collectNow 1 (some .int), Cond.methodLink RX5 86 yX5_markAll, Cond.instanceMethod yX5_markAll, Cond.selects RX5 yX5_markAll yX5_markAll, Cond.code yX5_markAll cX5_markAll 2 (some .int), Cond.methodLink RX5 72 yX5_startAtRoots, Cond.instanceMethod yX5_startAtRoots, Cond.selects RX5 yX5_startAtRoots yX5_startAtRoots, Cond.code yX5_startAtRoots cX5_startAtRoots 2 none, Cond.fieldLink RX5 20 "WeakTableHeapModel" "start" "[Z", Cond.methodLink RX5 75 yX5_marks, Cond.instanceMethod yX5_marks, Cond.selects RX5 yX5_marks yX5_marks, Cond.code yX5_marks cX5_marks 3 (some .int), Cond.fieldLink RX5 17 "WeakTableHeapModel" "mark" "[I"]
def wsX5_wouldFree_r2 : List Cond := [Cond.methodLink RX5 66 yX5_followFields, Cond.instanceMethod yX5_followFields, Cond.selects RX5 yX5_followFields yX5_followFields, Cond.code yX5_followFields cX5_followFields 7 none, Cond.methodLink RX5 39 yX5_part, Cond.instanceMethod yX5_part, Cond.selects RX5 yX5_part yX5_part, Cond.code yX5_part cX5_part 3 (some .int), Cond.methodLink RX5 69 yX5_followEntries, Cond.instanceMethod yX5_followEntries, Cond.selects RX5 yX5_followEntries yX5_followEntries, Cond.code yX5_followEntries cX5_followEntries 9 (some .boolean), Cond.methodLink RX5 89 yX5_emptyWeak, Cond.instanceMethod yX5_emptyWeak, Cond.selects RX5 yX5_emptyWeak yX5_emptyWeak, Cond.code yX5_emptyWeak cX5_emptyWeak 4 none, Cond.methodLink RX5 82 yX5_notice, Cond.instanceMethod yX5_notice, Cond.selects RX5 yX5_notice yX5_notice, Cond.code yX5_notice cX5_notice 2 none, Cond.methodLink RX5 79 yX5_takeNotice, Cond.instanceMethod yX5_takeNotice, Cond.selects RX5 yX5_takeNotice yX5_takeNotice, Cond.code yX5_takeNotice cX5_takeNotice 3 (some .int)]
def wsX5_wouldFree_r3 : List Cond := [Cond.methodLink RX5 93 yX5_finalizeAll, Cond.instanceMethod yX5_finalizeAll, Cond.selects RX5 yX5_finalizeAll yX5_finalizeAll, Cond.code yX5_finalizeAll cX5_finalizeAll 2 none, Cond.methodLink RX5 43 yX5_isAllocated, Cond.instanceMethod yX5_isAllocated, Cond.selects RX5 yX5_isAllocated yX5_isAllocated, Cond.code yX5_isAllocated cX5_isAllocated 2 (some .boolean), Cond.methodLink RX5 31 yX5_within, Cond.static yX5_within, Cond.code yX5_within cX5_within 3 (some .boolean), Cond.methodLink RX5 96 yX5_dropEntries, Cond.instanceMethod yX5_dropEntries, Cond.selects RX5 yX5_dropEntries yX5_dropEntries, Cond.code yX5_dropEntries cX5_dropEntries 4 none, Cond.methodLink RX5 63 yX5_removeAt, Cond.instanceMethod yX5_removeAt, Cond.selects RX5 yX5_removeAt yX5_removeAt, Cond.code yX5_removeAt cX5_removeAt 5 none, Cond.methodLink RX5 99 yX5_free, Cond.instanceMethod yX5_free, Cond.selects RX5 yX5_free yX5_free, Cond.code yX5_free cX5_free 3 (some .int)]
def wsX5_wouldFree : List Cond := .code yX5_wouldFree cX5_wouldFree 2 (some .int) :: ((wsX5_wouldFree_r1 ++ (wsX5_wouldFree_r2 ++ wsX5_wouldFree_r3)) ++ wsX50)
def wsX5_lastRounds : List Cond := .code yX5_lastRounds cX5_lastRounds 1 (some .int) :: ([.fieldLink RX5 7 "WeakTableHeapModel" "w" "[I"] ++ wsX50)
def wsX5_pollNotice : List Cond := .code yX5_pollNotice cX5_pollNotice 1 (some .int) :: ([.fieldLink RX5 7 "WeakTableHeapModel" "w" "[I", .methodLink RX5 47 yX5_saveState, .instanceMethod yX5_saveState, .selects RX5 yX5_saveState yX5_saveState, .initialized RX5, .code yX5_saveState cX5_saveState 2 none, .fieldLink RX5 23 "WeakTableHeapModel" "depth" "I", .methodLink RX5 27 yX5_copyState, .instanceMethod yX5_copyState, .selects RX5 yX5_copyState yX5_copyState, .code yX5_copyState cX5_copyState 4 none, .methodLink RX5 79 yX5_takeNotice, .instanceMethod yX5_takeNotice, .selects RX5 yX5_takeNotice yX5_takeNotice, .code yX5_takeNotice cX5_takeNotice 3 (some .int)] ++ wsX50)
def wsX5_noticeCount : List Cond := .code yX5_noticeCount cX5_noticeCount 1 (some .int) :: ([.fieldLink RX5 7 "WeakTableHeapModel" "w" "[I"] ++ wsX50)
def wsX5_reachableCount_r1 : List Cond := [Cond.methodLink RX5 86 yX5_markAll, Cond.instanceMethod yX5_markAll, Cond.selects RX5 yX5_markAll yX5_markAll, Cond.initialized RX5, Cond.code yX5_markAll cX5_markAll 2 (some .int), Cond.methodLink RX5 72 yX5_startAtRoots, Cond.instanceMethod yX5_startAtRoots, Cond.selects RX5 yX5_startAtRoots yX5_startAtRoots, Cond.code yX5_startAtRoots cX5_startAtRoots 2 none, Cond.fieldLink RX5 20 "WeakTableHeapModel" "start" "[Z", Cond.fieldLink RX5 7 "WeakTableHeapModel" "w" "[I", Cond.methodLink RX5 75 yX5_marks, Cond.instanceMethod yX5_marks, Cond.selects RX5 yX5_marks yX5_marks, Cond.code yX5_marks cX5_marks 3 (some .int), Cond.fieldLink RX5 17 "WeakTableHeapModel" "mark" "[I", Cond.methodLink RX5 66 yX5_followFields, Cond.instanceMethod yX5_followFields, Cond.selects RX5 yX5_followFields yX5_followFields, Cond.code yX5_followFields cX5_followFields 7 none, Cond.methodLink RX5 39 yX5_part, Cond.instanceMethod yX5_part, Cond.selects RX5 yX5_part yX5_part, Cond.code yX5_part cX5_part 3 (some .int)]
def wsX5_reachableCount_r2 : List Cond := [Cond.methodLink RX5 69 yX5_followEntries, Cond.instanceMethod yX5_followEntries, Cond.selects RX5 yX5_followEntries yX5_followEntries, Cond.code yX5_followEntries cX5_followEntries 9 (some .boolean), Cond.methodLink RX5 105 yX5_marked, Cond.instanceMethod yX5_marked, Cond.selects RX5 yX5_marked yX5_marked, Cond.code yX5_marked cX5_marked 3 (some .int)]
def wsX5_reachableCount : List Cond := .code yX5_reachableCount cX5_reachableCount 1 (some .int) :: ((wsX5_reachableCount_r1 ++ wsX5_reachableCount_r2) ++ wsX50)
def wsX5_markRound_r1 : List Cond := [Cond.fieldLink RX5 17 "WeakTableHeapModel" "mark" "[I", Cond.methodLink RX5 43 yX5_isAllocated, Cond.instanceMethod yX5_isAllocated, Cond.selects RX5 yX5_isAllocated yX5_isAllocated, Cond.initialized RX5, Cond.code yX5_isAllocated cX5_isAllocated 2 (some .boolean), Cond.methodLink RX5 31 yX5_within, Cond.static yX5_within, Cond.code yX5_within cX5_within 3 (some .boolean), Cond.methodLink RX5 39 yX5_part, Cond.instanceMethod yX5_part, Cond.selects RX5 yX5_part yX5_part, Cond.code yX5_part cX5_part 3 (some .int), Cond.fieldLink RX5 7 "WeakTableHeapModel" "w" "[I", Cond.methodLink RX5 86 yX5_markAll, Cond.instanceMethod yX5_markAll, Cond.selects RX5 yX5_markAll yX5_markAll, Cond.code yX5_markAll cX5_markAll 2 (some .int), Cond.methodLink RX5 72 yX5_startAtRoots, Cond.instanceMethod yX5_startAtRoots, Cond.selects RX5 yX5_startAtRoots yX5_startAtRoots, Cond.code yX5_startAtRoots cX5_startAtRoots 2 none, Cond.fieldLink RX5 20 "WeakTableHeapModel" "start" "[Z", Cond.methodLink RX5 75 yX5_marks]
def wsX5_markRound_r2 : List Cond := [Cond.instanceMethod yX5_marks, Cond.selects RX5 yX5_marks yX5_marks, Cond.code yX5_marks cX5_marks 3 (some .int), Cond.methodLink RX5 66 yX5_followFields, Cond.instanceMethod yX5_followFields, Cond.selects RX5 yX5_followFields yX5_followFields, Cond.code yX5_followFields cX5_followFields 7 none, Cond.methodLink RX5 69 yX5_followEntries, Cond.instanceMethod yX5_followEntries, Cond.selects RX5 yX5_followEntries yX5_followEntries, Cond.code yX5_followEntries cX5_followEntries 9 (some .boolean)]
def wsX5_markRound : List Cond := .code yX5_markRound cX5_markRound 2 (some .int) :: ((wsX5_markRound_r1 ++ wsX5_markRound_r2) ++ wsX50)
def wsX5_retainedSize_r1 : List Cond := [Cond.methodLink RX5 43 yX5_isAllocated, Cond.instanceMethod yX5_isAllocated, Cond.selects RX5 yX5_isAllocated yX5_isAllocated, Cond.initialized RX5, Cond.code yX5_isAllocated cX5_isAllocated 2 (some .boolean), Cond.methodLink RX5 31 yX5_within, Cond.static yX5_within, Cond.code yX5_within cX5_within 3 (some .boolean), Cond.methodLink RX5 39 yX5_part, Cond.instanceMethod yX5_part, Cond.selects RX5 yX5_part yX5_part, Cond.code yX5_part cX5_part 3 (some .int), Cond.fieldLink RX5 7 "WeakTableHeapModel" "w" "[I", Cond.methodLink RX5 108 yX5_reachableCount, Cond.instanceMethod yX5_reachableCount, Cond.selects RX5 yX5_reachableCount yX5_reachableCount, Cond.code yX5_reachableCount cX5_reachableCount 1 (some .int), Cond.methodLink RX5 86 yX5_markAll, Cond.instanceMethod yX5_markAll, Cond.selects RX5 yX5_markAll yX5_markAll, Cond.code yX5_markAll cX5_markAll 2 (some .int), Cond.methodLink RX5 72 yX5_startAtRoots, Cond.instanceMethod yX5_startAtRoots, Cond.selects RX5 yX5_startAtRoots yX5_startAtRoots]
def wsX5_retainedSize_r2 : List Cond := [Cond.code yX5_startAtRoots cX5_startAtRoots 2 none, Cond.fieldLink RX5 20 "WeakTableHeapModel" "start" "[Z", Cond.methodLink RX5 75 yX5_marks, Cond.instanceMethod yX5_marks, Cond.selects RX5 yX5_marks yX5_marks, Cond.code yX5_marks cX5_marks 3 (some .int), Cond.fieldLink RX5 17 "WeakTableHeapModel" "mark" "[I", Cond.methodLink RX5 66 yX5_followFields, Cond.instanceMethod yX5_followFields, Cond.selects RX5 yX5_followFields yX5_followFields, Cond.code yX5_followFields cX5_followFields 7 none, Cond.methodLink RX5 69 yX5_followEntries, Cond.instanceMethod yX5_followEntries, Cond.selects RX5 yX5_followEntries yX5_followEntries, Cond.code yX5_followEntries cX5_followEntries 9 (some .boolean), Cond.methodLink RX5 105 yX5_marked, Cond.instanceMethod yX5_marked, Cond.selects RX5 yX5_marked yX5_marked, Cond.code yX5_marked cX5_marked 3 (some .int)]
def wsX5_retainedSize : List Cond := .code yX5_retainedSize cX5_retainedSize 3 (some .int) :: ((wsX5_retainedSize_r1 ++ wsX5_retainedSize_r2) ++ wsX50)
def wsX5_waitingEntries_r1 : List Cond := [Cond.fieldLink RX5 17 "WeakTableHeapModel" "mark" "[I", Cond.methodLink RX5 43 yX5_isAllocated, Cond.instanceMethod yX5_isAllocated, Cond.selects RX5 yX5_isAllocated yX5_isAllocated, Cond.initialized RX5, Cond.code yX5_isAllocated cX5_isAllocated 2 (some .boolean), Cond.methodLink RX5 31 yX5_within, Cond.static yX5_within, Cond.code yX5_within cX5_within 3 (some .boolean), Cond.methodLink RX5 39 yX5_part, Cond.instanceMethod yX5_part, Cond.selects RX5 yX5_part yX5_part, Cond.code yX5_part cX5_part 3 (some .int), Cond.fieldLink RX5 7 "WeakTableHeapModel" "w" "[I", Cond.methodLink RX5 86 yX5_markAll, Cond.instanceMethod yX5_markAll, Cond.selects RX5 yX5_markAll yX5_markAll, Cond.code yX5_markAll cX5_markAll 2 (some .int), Cond.methodLink RX5 72 yX5_startAtRoots, Cond.instanceMethod yX5_startAtRoots, Cond.selects RX5 yX5_startAtRoots yX5_startAtRoots, Cond.code yX5_startAtRoots cX5_startAtRoots 2 none, Cond.fieldLink RX5 20 "WeakTableHeapModel" "start" "[Z", Cond.methodLink RX5 75 yX5_marks]
def wsX5_waitingEntries_r2 : List Cond := [Cond.instanceMethod yX5_marks, Cond.selects RX5 yX5_marks yX5_marks, Cond.code yX5_marks cX5_marks 3 (some .int), Cond.methodLink RX5 66 yX5_followFields, Cond.instanceMethod yX5_followFields, Cond.selects RX5 yX5_followFields yX5_followFields, Cond.code yX5_followFields cX5_followFields 7 none, Cond.methodLink RX5 69 yX5_followEntries, Cond.instanceMethod yX5_followEntries, Cond.selects RX5 yX5_followEntries yX5_followEntries, Cond.code yX5_followEntries cX5_followEntries 9 (some .boolean), Cond.methodLink RX5 60 yX5_placeOf, Cond.instanceMethod yX5_placeOf, Cond.selects RX5 yX5_placeOf yX5_placeOf, Cond.code yX5_placeOf cX5_placeOf 4 (some .int)]
def wsX5_waitingEntries : List Cond := .code yX5_waitingEntries cX5_waitingEntries 4 (some .int) :: ((wsX5_waitingEntries_r1 ++ wsX5_waitingEntries_r2) ++ wsX50)
def wsX5_referenceCount : List Cond := .code yX5_referenceCount cX5_referenceCount 5 (some .int) :: ([.fieldLink RX5 7 "WeakTableHeapModel" "w" "[I", .methodLink RX5 43 yX5_isAllocated, .instanceMethod yX5_isAllocated, .selects RX5 yX5_isAllocated yX5_isAllocated, .initialized RX5, .code yX5_isAllocated cX5_isAllocated 2 (some .boolean), .methodLink RX5 31 yX5_within, .static yX5_within, .code yX5_within cX5_within 3 (some .boolean), .methodLink RX5 39 yX5_part, .instanceMethod yX5_part, .selects RX5 yX5_part yX5_part, .code yX5_part cX5_part 3 (some .int)] ++ wsX50)
def wsJ9_max_7cf53 : List Cond := .code yJ9_max_7cf53 cJ9_max_7cf53 2 (some .int) :: ([])
def wsJ9_min_7cf53 : List Cond := .code yJ9_min_7cf53 cJ9_min_7cf53 2 (some .int) :: ([])
def wsL_law_r1 : List Cond := [Cond.classLink RL 7 RX4, Cond.instantiable RX4 4, Cond.initialized RX4, Cond.classLink RL 10 RX5, Cond.instantiable RX5 5, Cond.initialized RX5, Cond.methodLink RL 9 yX4_init, Cond.instanceMethod yX4_init, Cond.code yX4_init cX4_init 1 none, Cond.methodLink RX4 1 objectInit, Cond.instanceMethod objectInit, Cond.code objectInit ⟨#[0xb1]⟩ 1 none, Cond.classLink RX4 7 RX3, Cond.instantiable RX3 9, Cond.initialized RX3, Cond.fieldLink RX4 10 "WeakTableHeap" "state" "LWeakTableHeap$State;", Cond.classLink RX4 16 RX0, Cond.instantiable RX0 3, Cond.initialized RX0, Cond.fieldLink RX4 19 "WeakTableHeap" "history" "LWeakTableHeap$History;", Cond.fieldLink RX4 23 "WeakTableHeap" "slots" "[LWeakTableHeap$State;", Cond.classLink RX4 27 RX1, Cond.instantiable RX1 4, Cond.initialized RX1]
def wsL_law_r2 : List Cond := [Cond.fieldLink RX4 30 "WeakTableHeap" "marking" "LWeakTableHeap$Marking;", Cond.instanceMethod yX3_init, Cond.code yX3_init cX3_init 1 none, Cond.methodLink RX3 3 objectInit, Cond.fieldLink RX3 13 "WeakTableHeap$State" "kinds" "[I", Cond.fieldLink RX3 19 "WeakTableHeap$State" "fields" "[I", Cond.fieldLink RX3 22 "WeakTableHeap$State" "keys" "[I", Cond.fieldLink RX3 25 "WeakTableHeap$State" "values" "[I", Cond.fieldLink RX3 28 "WeakTableHeap$State" "targets" "[I", Cond.fieldLink RX3 31 "WeakTableHeap$State" "roots" "[I", Cond.classLink RX3 34 RX2, Cond.instantiable RX2 2, Cond.initialized RX2, Cond.fieldLink RX3 37 "WeakTableHeap$State" "notices" "LWeakTableHeap$Notices;", Cond.static yX4_emptyRow, Cond.code yX4_emptyRow cX4_emptyRow 2 (some (.array .int)), Cond.methodLink RX4 183 Lib.Math.max.name, Cond.static Lib.Math.max.name, Cond.initialized "java/lang/Math", Cond.code Lib.Math.max.name Lib.Math.max.code 2 (some .int), Cond.arrayClass .int, Cond.methodLink RX4 188 yJ7_fill_53178, Cond.static yJ7_fill_53178, Cond.initialized RJ7]
def wsL_law_r3 : List Cond := [Cond.code yJ7_fill_53178 cJ7_fill_53178 4 none, Cond.instanceMethod yX2_init, Cond.code yX2_init cX2_init 1 none, Cond.methodLink RX2 3 objectInit, Cond.fieldLink RX2 9 "WeakTableHeap$Notices" "queue" "[I", Cond.instanceMethod yX0_init, Cond.code yX0_init cX0_init 1 none, Cond.methodLink RX0 3 objectInit, Cond.classLink RX0 9 RX3, Cond.fieldLink RX0 11 "WeakTableHeap$History" "ring" "[LWeakTableHeap$State;", Cond.instanceMethod yX1_init, Cond.code yX1_init cX1_init 1 none, Cond.methodLink RX1 3 objectInit, Cond.fieldLink RX1 9 "WeakTableHeap$Marking" "rounds" "[I", Cond.methodLink RL 12 yX5_init, Cond.instanceMethod yX5_init, Cond.code yX5_init cX5_init 2 none, Cond.methodLink RX5 1 objectInit, Cond.fieldLink RX5 7 "WeakTableHeapModel" "w" "[I", Cond.arrayClass .boolean, Cond.fieldLink RX5 13 "WeakTableHeapModel" "kept" "[Z", Cond.fieldLink RX5 17 "WeakTableHeapModel" "mark" "[I", Cond.fieldLink RX5 20 "WeakTableHeapModel" "start" "[Z", Cond.methodLink RL 13 yX4_allocate]
def wsL_law_r4 : List Cond := [Cond.instanceMethod yX4_allocate, Cond.selects RX4 yX4_allocate yX4_allocate, Cond.code yX4_allocate cX4_allocate 1 (some .int), Cond.methodLink RX4 34 yX4_occupyNext, Cond.instanceMethod yX4_occupyNext, Cond.selects RX4 yX4_occupyNext yX4_occupyNext, Cond.code yX4_occupyNext cX4_occupyNext 4 (some .int), Cond.methodLink RX4 42 yX3_smallestFree, Cond.instanceMethod yX3_smallestFree, Cond.selects RX3 yX3_smallestFree yX3_smallestFree, Cond.code yX3_smallestFree cX3_smallestFree 2 (some .int), Cond.methodLink RX4 46 yX0_push, Cond.instanceMethod yX0_push, Cond.selects RX0 yX0_push yX0_push, Cond.code yX0_push cX0_push 2 none, Cond.fieldLink RX0 17 "WeakTableHeap$History" "next" "I", Cond.fieldLink RX0 26 "WeakTableHeap$History" "depth" "I", Cond.methodLink RX0 29 Lib.Math.min.name, Cond.static Lib.Math.min.name, Cond.code Lib.Math.min.name Lib.Math.min.code 2 (some .int), Cond.methodLink RX0 22 yX3_copyFrom, Cond.instanceMethod yX3_copyFrom, Cond.selects RX3 yX3_copyFrom yX3_copyFrom, Cond.code yX3_copyFrom cX3_copyFrom 2 none]
def wsL_law_r5 : List Cond := [Cond.fieldLink RX3 49 "WeakTableHeap$State" "finalizable" "I", Cond.fieldLink RX3 53 "WeakTableHeap$State" "roundsOfCollection" "I", Cond.static yX4_copyRow, Cond.code yX4_copyRow cX4_copyRow 2 none, Cond.methodLink RX4 194 Lib.Math.min.name, Cond.methodLink RX4 197 arraycopyName, Cond.native arraycopyName, Cond.static arraycopyName, Cond.initialized "java/lang/System", Cond.methodLink RX3 45 yX2_copyFrom, Cond.instanceMethod yX2_copyFrom, Cond.selects RX2 yX2_copyFrom yX2_copyFrom, Cond.code yX2_copyFrom cX2_copyFrom 2 none, Cond.fieldLink RX2 19 "WeakTableHeap$Notices" "size" "I", Cond.methodLink RX4 50 yX3_occupy, Cond.instanceMethod yX3_occupy, Cond.selects RX3 yX3_occupy yX3_occupy, Cond.code yX3_occupy cX3_occupy 4 none, Cond.static yX4_within, Cond.code yX4_within cX4_within 2 (some .boolean), Cond.methodLink RL 17 yX5_allocate, Cond.instanceMethod yX5_allocate, Cond.selects RX5 yX5_allocate yX5_allocate, Cond.code yX5_allocate cX5_allocate 1 (some .int)]
def wsL_law_r6 : List Cond := [Cond.methodLink RX5 50 yX5_make, Cond.instanceMethod yX5_make, Cond.selects RX5 yX5_make yX5_make, Cond.code yX5_make cX5_make 5 (some .int), Cond.methodLink RX5 43 yX5_isAllocated, Cond.instanceMethod yX5_isAllocated, Cond.selects RX5 yX5_isAllocated yX5_isAllocated, Cond.code yX5_isAllocated cX5_isAllocated 2 (some .boolean), Cond.methodLink RX5 31 yX5_within, Cond.static yX5_within, Cond.code yX5_within cX5_within 3 (some .boolean), Cond.methodLink RX5 39 yX5_part, Cond.instanceMethod yX5_part, Cond.selects RX5 yX5_part yX5_part, Cond.code yX5_part cX5_part 3 (some .int), Cond.methodLink RX5 47 yX5_saveState, Cond.instanceMethod yX5_saveState, Cond.selects RX5 yX5_saveState yX5_saveState, Cond.code yX5_saveState cX5_saveState 2 none, Cond.fieldLink RX5 23 "WeakTableHeapModel" "depth" "I", Cond.methodLink RX5 27 yX5_copyState, Cond.instanceMethod yX5_copyState, Cond.selects RX5 yX5_copyState yX5_copyState, Cond.code yX5_copyState cX5_copyState 4 none]
def wsL_law_r7 : List Cond := [Cond.methodLink RL 18 yX4_allocateTable, Cond.instanceMethod yX4_allocateTable, Cond.selects RX4 yX4_allocateTable yX4_allocateTable, Cond.code yX4_allocateTable cX4_allocateTable 1 (some .int), Cond.methodLink RL 21 yX5_allocateTable, Cond.instanceMethod yX5_allocateTable, Cond.selects RX5 yX5_allocateTable yX5_allocateTable, Cond.code yX5_allocateTable cX5_allocateTable 1 (some .int), Cond.methodLink RL 22 yX4_allocateWeak, Cond.instanceMethod yX4_allocateWeak, Cond.selects RX4 yX4_allocateWeak yX4_allocateWeak, Cond.code yX4_allocateWeak cX4_allocateWeak 2 (some .int), Cond.methodLink RX4 38 yX3_isAllocated, Cond.instanceMethod yX3_isAllocated, Cond.selects RX3 yX3_isAllocated yX3_isAllocated, Cond.code yX3_isAllocated cX3_isAllocated 2 (some .boolean), Cond.methodLink RL 26 yX5_allocateWeak, Cond.instanceMethod yX5_allocateWeak, Cond.selects RX5 yX5_allocateWeak yX5_allocateWeak, Cond.code yX5_allocateWeak cX5_allocateWeak 2 (some .int), Cond.methodLink RL 27 yX4_kind, Cond.instanceMethod yX4_kind, Cond.selects RX4 yX4_kind yX4_kind, Cond.code yX4_kind cX4_kind 2 (some .int)]
def wsL_law_r8 : List Cond := [Cond.fieldLink RX4 58 "WeakTableHeap$State" "kinds" "[I", Cond.methodLink RX4 54 yX4_within, Cond.methodLink RL 30 yX5_kind, Cond.instanceMethod yX5_kind, Cond.selects RX5 yX5_kind yX5_kind, Cond.code yX5_kind cX5_kind 2 (some .int), Cond.methodLink RL 31 yX4_setField, Cond.instanceMethod yX4_setField, Cond.selects RX4 yX4_setField yX4_setField, Cond.code yX4_setField cX4_setField 6 (some .int), Cond.fieldLink RX4 68 "WeakTableHeap$State" "fields" "[I", Cond.methodLink RX4 62 yX3_hasKind, Cond.instanceMethod yX3_hasKind, Cond.selects RX3 yX3_hasKind yX3_hasKind, Cond.code yX3_hasKind cX3_hasKind 3 (some .boolean), Cond.methodLink RX4 65 yX3_isContent, Cond.instanceMethod yX3_isContent, Cond.selects RX3 yX3_isContent yX3_isContent, Cond.code yX3_isContent cX3_isContent 2 (some .boolean), Cond.methodLink RX3 60 yX3_isAllocated, Cond.methodLink RL 35 yX5_setField, Cond.instanceMethod yX5_setField, Cond.selects RX5 yX5_setField yX5_setField, Cond.code yX5_setField cX5_setField 4 (some .int)]
def wsL_law_r9 : List Cond := [Cond.methodLink RX5 53 yX5_isKind, Cond.instanceMethod yX5_isKind, Cond.selects RX5 yX5_isKind yX5_isKind, Cond.code yX5_isKind cX5_isKind 3 (some .boolean), Cond.methodLink RX5 57 yX5_change, Cond.instanceMethod yX5_change, Cond.selects RX5 yX5_change yX5_change, Cond.code yX5_change cX5_change 4 (some .int), Cond.methodLink RL 36 yX4_field, Cond.instanceMethod yX4_field, Cond.selects RX4 yX4_field yX4_field, Cond.code yX4_field cX4_field 3 (some .int), Cond.methodLink RL 40 yX5_field, Cond.instanceMethod yX5_field, Cond.selects RX5 yX5_field yX5_field, Cond.code yX5_field cX5_field 3 (some .int), Cond.methodLink RL 41 yX4_setRoot, Cond.instanceMethod yX4_setRoot, Cond.selects RX4 yX4_setRoot yX4_setRoot, Cond.code yX4_setRoot cX4_setRoot 4 (some .int), Cond.fieldLink RX4 71 "WeakTableHeap$State" "roots" "[I", Cond.methodLink RL 44 yX5_setRoot, Cond.instanceMethod yX5_setRoot, Cond.selects RX5 yX5_setRoot yX5_setRoot]
def wsL_law_r10 : List Cond := [Cond.code yX5_setRoot cX5_setRoot 3 (some .int), Cond.methodLink RL 45 yX4_root, Cond.instanceMethod yX4_root, Cond.selects RX4 yX4_root yX4_root, Cond.code yX4_root cX4_root 2 (some .int), Cond.methodLink RL 48 yX5_root, Cond.instanceMethod yX5_root, Cond.selects RX5 yX5_root yX5_root, Cond.code yX5_root cX5_root 2 (some .int), Cond.methodLink RL 49 yX4_target, Cond.instanceMethod yX4_target, Cond.selects RX4 yX4_target yX4_target, Cond.code yX4_target cX4_target 2 (some .int), Cond.fieldLink RX4 74 "WeakTableHeap$State" "targets" "[I", Cond.methodLink RL 52 yX5_target, Cond.instanceMethod yX5_target, Cond.selects RX5 yX5_target yX5_target, Cond.code yX5_target cX5_target 2 (some .int), Cond.methodLink RL 53 yX4_setFinalizable, Cond.instanceMethod yX4_setFinalizable, Cond.selects RX4 yX4_setFinalizable yX4_setFinalizable, Cond.code yX4_setFinalizable cX4_setFinalizable 3 (some .int), Cond.fieldLink RX4 77 "WeakTableHeap$State" "finalizable" "I", Cond.methodLink RX4 81 yX4_contains]
def wsL_law_r11 : List Cond := [Cond.static yX4_contains, Cond.code yX4_contains cX4_contains 2 (some .boolean), Cond.methodLink RX4 84 yX4_setOf, Cond.static yX4_setOf, Cond.code yX4_setOf cX4_setOf 1 (some .int), Cond.methodLink RX4 88 yJ6_bitCount_0f7a4, Cond.static yJ6_bitCount_0f7a4, Cond.initialized RJ6, Cond.code yJ6_bitCount_0f7a4 cJ6_bitCount_0f7a4 1 (some .int), Cond.constant RJ6 265 (1431655765), Cond.constant RJ6 266 (858993459), Cond.constant RJ6 267 (252645135), Cond.methodLink RL 56 yX5_setFinalizable, Cond.instanceMethod yX5_setFinalizable, Cond.selects RX5 yX5_setFinalizable yX5_setFinalizable, Cond.code yX5_setFinalizable cX5_setFinalizable 5 (some .int), Cond.methodLink RL 57 yX4_put, Cond.instanceMethod yX4_put, Cond.selects RX4 yX4_put yX4_put, Cond.code yX4_put cX4_put 6 (some .int), Cond.fieldLink RX4 99 "WeakTableHeap$State" "values" "[I", Cond.fieldLink RX4 102 "WeakTableHeap$State" "keys" "[I", Cond.methodLink RX4 93 yX3_isTableAndKey, Cond.instanceMethod yX3_isTableAndKey]
def wsL_law_r12 : List Cond := [Cond.selects RX3 yX3_isTableAndKey yX3_isTableAndKey, Cond.code yX3_isTableAndKey cX3_isTableAndKey 3 (some .boolean), Cond.methodLink RX3 64 yX3_hasKind, Cond.methodLink RX4 96 yX3_placeOfKey, Cond.instanceMethod yX3_placeOfKey, Cond.selects RX3 yX3_placeOfKey yX3_placeOfKey, Cond.code yX3_placeOfKey cX3_placeOfKey 4 (some .int), Cond.methodLink RL 60 yX5_put, Cond.instanceMethod yX5_put, Cond.selects RX5 yX5_put yX5_put, Cond.code yX5_put cX5_put 6 (some .int), Cond.methodLink RX5 60 yX5_placeOf, Cond.instanceMethod yX5_placeOf, Cond.selects RX5 yX5_placeOf yX5_placeOf, Cond.code yX5_placeOf cX5_placeOf 4 (some .int), Cond.methodLink RL 61 yX4_get, Cond.instanceMethod yX4_get, Cond.selects RX4 yX4_get yX4_get, Cond.code yX4_get cX4_get 4 (some .int), Cond.methodLink RL 64 yX5_get, Cond.instanceMethod yX5_get, Cond.selects RX5 yX5_get yX5_get, Cond.code yX5_get cX5_get 4 (some .int), Cond.methodLink RL 65 yX4_removeEntry]
def wsL_law_r13 : List Cond := [Cond.instanceMethod yX4_removeEntry, Cond.selects RX4 yX4_removeEntry yX4_removeEntry, Cond.code yX4_removeEntry cX4_removeEntry 5 (some .int), Cond.methodLink RX4 105 yX3_keepEntries, Cond.instanceMethod yX3_keepEntries, Cond.selects RX3 yX3_keepEntries yX3_keepEntries, Cond.code yX3_keepEntries cX3_keepEntries 7 none, Cond.methodLink RL 68 yX5_removeEntry, Cond.instanceMethod yX5_removeEntry, Cond.selects RX5 yX5_removeEntry yX5_removeEntry, Cond.code yX5_removeEntry cX5_removeEntry 5 (some .int), Cond.methodLink RX5 63 yX5_removeAt, Cond.instanceMethod yX5_removeAt, Cond.selects RX5 yX5_removeAt yX5_removeAt, Cond.code yX5_removeAt cX5_removeAt 5 none, Cond.methodLink RL 69 yX4_entryCount, Cond.instanceMethod yX4_entryCount, Cond.selects RX4 yX4_entryCount yX4_entryCount, Cond.code yX4_entryCount cX4_entryCount 3 (some .int), Cond.methodLink RL 72 yX5_entryCount, Cond.instanceMethod yX5_entryCount, Cond.selects RX5 yX5_entryCount yX5_entryCount, Cond.code yX5_entryCount cX5_entryCount 2 (some .int), Cond.methodLink RL 73 yX4_entryKey]
def wsL_law_r14 : List Cond := [Cond.instanceMethod yX4_entryKey, Cond.selects RX4 yX4_entryKey yX4_entryKey, Cond.code yX4_entryKey cX4_entryKey 3 (some .int), Cond.methodLink RL 76 yX5_entryKey, Cond.instanceMethod yX5_entryKey, Cond.selects RX5 yX5_entryKey yX5_entryKey, Cond.code yX5_entryKey cX5_entryKey 3 (some .int), Cond.methodLink RL 77 yX4_collect, Cond.instanceMethod yX4_collect, Cond.selects RX4 yX4_collect yX4_collect, Cond.code yX4_collect cX4_collect 3 (some .int), Cond.fieldLink RX4 112 "WeakTableHeap$Marking" "lastRound" "I", Cond.fieldLink RX4 115 "WeakTableHeap$State" "roundsOfCollection" "I", Cond.fieldLink RX4 118 "WeakTableHeap$Marking" "marked" "I", Cond.methodLink RX4 109 yX4_markFromRoots, Cond.instanceMethod yX4_markFromRoots, Cond.selects RX4 yX4_markFromRoots yX4_markFromRoots, Cond.code yX4_markFromRoots cX4_markFromRoots 1 none, Cond.methodLink RX4 156 yX3_rootObjects, Cond.instanceMethod yX3_rootObjects, Cond.selects RX3 yX3_rootObjects yX3_rootObjects, Cond.code yX3_rootObjects cX3_rootObjects 3 (some .int), Cond.methodLink RX4 159 yX1_run, Cond.instanceMethod yX1_run]
def wsL_law_r15 : List Cond := [Cond.selects RX1 yX1_run yX1_run, Cond.code yX1_run cX1_run 6 none, Cond.fieldLink RX1 21 "WeakTableHeap$Marking" "marked" "I", Cond.fieldLink RX1 25 "WeakTableHeap$Marking" "unmarkable" "I", Cond.fieldLink RX1 28 "WeakTableHeap$Marking" "lastRound" "I", Cond.methodLink RX1 15 yJ7_fill_53178, Cond.methodLink RX1 31 yX1_markWithFields, Cond.instanceMethod yX1_markWithFields, Cond.selects RX1 yX1_markWithFields yX1_markWithFields, Cond.code yX1_markWithFields cX1_markWithFields 5 none, Cond.methodLink RX1 41 yX1_markable, Cond.instanceMethod yX1_markable, Cond.selects RX1 yX1_markable yX1_markable, Cond.code yX1_markable cX1_markable 2 (some .int), Cond.methodLink RX1 45 yX1_number, Cond.instanceMethod yX1_number, Cond.selects RX1 yX1_number yX1_number, Cond.code yX1_number cX1_number 3 none, Cond.methodLink RX1 49 yX3_fieldTargets, Cond.instanceMethod yX3_fieldTargets, Cond.selects RX3 yX3_fieldTargets yX3_fieldTargets, Cond.code yX3_fieldTargets cX3_fieldTargets 4 (some .int), Cond.methodLink RX3 74 yX3_fieldTargetsOf, Cond.instanceMethod yX3_fieldTargetsOf]
def wsL_law_r16 : List Cond := [Cond.selects RX3 yX3_fieldTargetsOf yX3_fieldTargetsOf, Cond.code yX3_fieldTargetsOf cX3_fieldTargetsOf 4 (some .int), Cond.methodLink RX1 35 yX3_valuesOfEntries, Cond.instanceMethod yX3_valuesOfEntries, Cond.selects RX3 yX3_valuesOfEntries yX3_valuesOfEntries, Cond.code yX3_valuesOfEntries cX3_valuesOfEntries 5 (some .int), Cond.methodLink RX3 77 yX3_valuesOfEntriesOf, Cond.instanceMethod yX3_valuesOfEntriesOf, Cond.selects RX3 yX3_valuesOfEntriesOf yX3_valuesOfEntriesOf, Cond.code yX3_valuesOfEntriesOf cX3_valuesOfEntriesOf 5 (some .int), Cond.methodLink RX4 121 yX3_emptyWeakReferences, Cond.instanceMethod yX3_emptyWeakReferences, Cond.selects RX3 yX3_emptyWeakReferences yX3_emptyWeakReferences, Cond.code yX3_emptyWeakReferences cX3_emptyWeakReferences 5 none, Cond.methodLink RX3 84 yX2_issue, Cond.instanceMethod yX2_issue, Cond.selects RX2 yX2_issue yX2_issue, Cond.code yX2_issue cX2_issue 2 none, Cond.methodLink RX2 23 yX2_removeOldest, Cond.instanceMethod yX2_removeOldest, Cond.selects RX2 yX2_removeOldest yX2_removeOldest, Cond.code yX2_removeOldest cX2_removeOldest 2 (some .int), Cond.methodLink RX2 31 arraycopyName, Cond.methodLink RX2 37 Lib.Math.max.name]
def wsL_law_r17 : List Cond := [Cond.methodLink RX4 125 yX3_finalizeObjects, Cond.instanceMethod yX3_finalizeObjects, Cond.selects RX3 yX3_finalizeObjects yX3_finalizeObjects, Cond.code yX3_finalizeObjects cX3_finalizeObjects 3 none, Cond.methodLink RX4 129 yX4_markFromRootsAnd, Cond.instanceMethod yX4_markFromRootsAnd, Cond.selects RX4 yX4_markFromRootsAnd yX4_markFromRootsAnd, Cond.code yX4_markFromRootsAnd cX4_markFromRootsAnd 2 none, Cond.methodLink RX4 132 yX3_removeEntriesWithoutKey, Cond.instanceMethod yX3_removeEntriesWithoutKey, Cond.selects RX3 yX3_removeEntriesWithoutKey yX3_removeEntriesWithoutKey, Cond.code yX3_removeEntriesWithoutKey cX3_removeEntriesWithoutKey 3 none, Cond.methodLink RX3 88 yX3_announceEntriesWithoutKey, Cond.instanceMethod yX3_announceEntriesWithoutKey, Cond.selects RX3 yX3_announceEntriesWithoutKey yX3_announceEntriesWithoutKey, Cond.code yX3_announceEntriesWithoutKey cX3_announceEntriesWithoutKey 4 none, Cond.methodLink RX3 92 yX3_keepEntries, Cond.methodLink RX4 135 yX3_allocated, Cond.instanceMethod yX3_allocated, Cond.selects RX3 yX3_allocated yX3_allocated, Cond.code yX3_allocated cX3_allocated 3 (some .int), Cond.methodLink RX4 138 yX3_free, Cond.instanceMethod yX3_free, Cond.selects RX3 yX3_free yX3_free]
def wsL_law_r18 : List Cond := [Cond.code yX3_free cX3_free 3 none, Cond.methodLink RX3 95 yJ7_fill_fda19, Cond.static yJ7_fill_fda19, Cond.code yJ7_fill_fda19 cJ7_fill_fda19 5 none, Cond.methodLink RJ7 13 yJ7_rangeCheck_23922, Cond.static yJ7_rangeCheck_23922, Cond.code yJ7_rangeCheck_23922 cJ7_rangeCheck_23922 3 none, Cond.methodLink RL 80 yX5_collect, Cond.instanceMethod yX5_collect, Cond.selects RX5 yX5_collect yX5_collect, Cond.code yX5_collect cX5_collect 1 (some .int), Cond.methodLink RX5 102 yX5_collectNow, Cond.instanceMethod yX5_collectNow, Cond.selects RX5 yX5_collectNow yX5_collectNow, Cond.code yX5_collectNow cX5_collectNow 1 (some .int), Cond.methodLink RX5 86 yX5_markAll, Cond.instanceMethod yX5_markAll, Cond.selects RX5 yX5_markAll yX5_markAll, Cond.code yX5_markAll cX5_markAll 2 (some .int), Cond.methodLink RX5 72 yX5_startAtRoots, Cond.instanceMethod yX5_startAtRoots, Cond.selects RX5 yX5_startAtRoots yX5_startAtRoots, Cond.code yX5_startAtRoots cX5_startAtRoots 2 none, Cond.methodLink RX5 75 yX5_marks]
def wsL_law_r19 : List Cond := [Cond.instanceMethod yX5_marks, Cond.selects RX5 yX5_marks yX5_marks, Cond.code yX5_marks cX5_marks 3 (some .int), Cond.methodLink RX5 66 yX5_followFields, Cond.instanceMethod yX5_followFields, Cond.selects RX5 yX5_followFields yX5_followFields, Cond.code yX5_followFields cX5_followFields 7 none, Cond.methodLink RX5 69 yX5_followEntries, Cond.instanceMethod yX5_followEntries, Cond.selects RX5 yX5_followEntries yX5_followEntries, Cond.code yX5_followEntries cX5_followEntries 9 (some .boolean), Cond.methodLink RX5 89 yX5_emptyWeak, Cond.instanceMethod yX5_emptyWeak, Cond.selects RX5 yX5_emptyWeak yX5_emptyWeak, Cond.code yX5_emptyWeak cX5_emptyWeak 4 none, Cond.methodLink RX5 82 yX5_notice, Cond.instanceMethod yX5_notice, Cond.selects RX5 yX5_notice yX5_notice, Cond.code yX5_notice cX5_notice 2 none, Cond.methodLink RX5 79 yX5_takeNotice, Cond.instanceMethod yX5_takeNotice, Cond.selects RX5 yX5_takeNotice yX5_takeNotice, Cond.code yX5_takeNotice cX5_takeNotice 3 (some .int), Cond.methodLink RX5 93 yX5_finalizeAll]
def wsL_law_r20 : List Cond := [Cond.instanceMethod yX5_finalizeAll, Cond.selects RX5 yX5_finalizeAll yX5_finalizeAll, Cond.code yX5_finalizeAll cX5_finalizeAll 2 none, Cond.methodLink RX5 96 yX5_dropEntries, Cond.instanceMethod yX5_dropEntries, Cond.selects RX5 yX5_dropEntries yX5_dropEntries, Cond.code yX5_dropEntries cX5_dropEntries 4 none, Cond.methodLink RX5 99 yX5_free, Cond.instanceMethod yX5_free, Cond.selects RX5 yX5_free yX5_free, Cond.code yX5_free cX5_free 3 (some .int), Cond.methodLink RL 81 yX4_lastRounds, Cond.instanceMethod yX4_lastRounds, Cond.selects RX4 yX4_lastRounds yX4_lastRounds, Cond.code yX4_lastRounds cX4_lastRounds 1 (some .int), Cond.methodLink RL 84 yX5_lastRounds, Cond.instanceMethod yX5_lastRounds, Cond.selects RX5 yX5_lastRounds yX5_lastRounds, Cond.code yX5_lastRounds cX5_lastRounds 1 (some .int), Cond.methodLink RL 85 yX4_pollNotice, Cond.instanceMethod yX4_pollNotice, Cond.selects RX4 yX4_pollNotice yX4_pollNotice, Cond.code yX4_pollNotice cX4_pollNotice 1 (some .int), Cond.fieldLink RX4 141 "WeakTableHeap$State" "notices" "LWeakTableHeap$Notices;"]
def wsL_law_r21 : List Cond := [Cond.fieldLink RX4 145 "WeakTableHeap$Notices" "size" "I", Cond.methodLink RX4 150 yX2_removeOldest, Cond.methodLink RL 88 yX5_pollNotice, Cond.instanceMethod yX5_pollNotice, Cond.selects RX5 yX5_pollNotice yX5_pollNotice, Cond.code yX5_pollNotice cX5_pollNotice 1 (some .int), Cond.methodLink RL 89 yX4_noticeCount, Cond.instanceMethod yX4_noticeCount, Cond.selects RX4 yX4_noticeCount yX4_noticeCount, Cond.code yX4_noticeCount cX4_noticeCount 1 (some .int), Cond.methodLink RL 92 yX5_noticeCount, Cond.instanceMethod yX5_noticeCount, Cond.selects RX5 yX5_noticeCount yX5_noticeCount, Cond.code yX5_noticeCount cX5_noticeCount 1 (some .int), Cond.methodLink RL 93 yX4_objectCount, Cond.instanceMethod yX4_objectCount, Cond.selects RX4 yX4_objectCount yX4_objectCount, Cond.code yX4_objectCount cX4_objectCount 1 (some .int), Cond.methodLink RL 96 yX5_objectCount, Cond.instanceMethod yX5_objectCount, Cond.selects RX5 yX5_objectCount yX5_objectCount, Cond.code yX5_objectCount cX5_objectCount 3 (some .int), Cond.methodLink RL 97 yX4_reachableCount, Cond.instanceMethod yX4_reachableCount]
def wsL_law_r22 : List Cond := [Cond.selects RX4 yX4_reachableCount yX4_reachableCount, Cond.code yX4_reachableCount cX4_reachableCount 1 (some .int), Cond.methodLink RL 100 yX5_reachableCount, Cond.instanceMethod yX5_reachableCount, Cond.selects RX5 yX5_reachableCount yX5_reachableCount, Cond.code yX5_reachableCount cX5_reachableCount 1 (some .int), Cond.methodLink RX5 105 yX5_marked, Cond.instanceMethod yX5_marked, Cond.selects RX5 yX5_marked yX5_marked, Cond.code yX5_marked cX5_marked 3 (some .int), Cond.methodLink RL 101 yX4_markRound, Cond.instanceMethod yX4_markRound, Cond.selects RX4 yX4_markRound yX4_markRound, Cond.code yX4_markRound cX4_markRound 2 (some .int), Cond.fieldLink RX4 153 "WeakTableHeap$Marking" "rounds" "[I", Cond.methodLink RL 104 yX5_markRound, Cond.instanceMethod yX5_markRound, Cond.selects RX5 yX5_markRound yX5_markRound, Cond.code yX5_markRound cX5_markRound 2 (some .int), Cond.methodLink RL 105 yX4_wouldFree, Cond.instanceMethod yX4_wouldFree, Cond.selects RX4 yX4_wouldFree yX4_wouldFree, Cond.code yX4_wouldFree cX4_wouldFree 1 (some .int), Cond.methodLink RL 108 yX5_wouldFree]
def wsL_law_r23 : List Cond := [Cond.instanceMethod yX5_wouldFree, Cond.selects RX5 yX5_wouldFree yX5_wouldFree, Cond.code yX5_wouldFree cX5_wouldFree 2 (some .int), Cond.methodLink RL 109 yX4_retainedSize, Cond.instanceMethod yX4_retainedSize, Cond.selects RX4 yX4_retainedSize yX4_retainedSize, Cond.code yX4_retainedSize cX4_retainedSize 3 (some .int), Cond.methodLink RL 112 yX5_retainedSize, Cond.instanceMethod yX5_retainedSize, Cond.selects RX5 yX5_retainedSize yX5_retainedSize, Cond.code yX5_retainedSize cX5_retainedSize 3 (some .int), Cond.methodLink RX5 108 yX5_reachableCount, Cond.methodLink RL 113 yX4_waitingEntries, Cond.instanceMethod yX4_waitingEntries, Cond.selects RX4 yX4_waitingEntries yX4_waitingEntries, Cond.code yX4_waitingEntries cX4_waitingEntries 2 (some .int), Cond.methodLink RX4 163 yX3_tablesWithKey, Cond.instanceMethod yX3_tablesWithKey, Cond.selects RX3 yX3_tablesWithKey yX3_tablesWithKey, Cond.code yX3_tablesWithKey cX3_tablesWithKey 5 (some .int), Cond.methodLink RX3 81 yX3_placeOfKey, Cond.methodLink RL 116 yX5_waitingEntries, Cond.instanceMethod yX5_waitingEntries, Cond.selects RX5 yX5_waitingEntries yX5_waitingEntries]
def wsL_law_r24 : List Cond := [Cond.code yX5_waitingEntries cX5_waitingEntries 4 (some .int), Cond.methodLink RL 117 yX4_referenceCount, Cond.instanceMethod yX4_referenceCount, Cond.selects RX4 yX4_referenceCount yX4_referenceCount, Cond.code yX4_referenceCount cX4_referenceCount 2 (some .int), Cond.methodLink RX4 166 yX4_occurrences, Cond.static yX4_occurrences, Cond.code yX4_occurrences cX4_occurrences 4 (some .int), Cond.methodLink RL 120 yX5_referenceCount, Cond.instanceMethod yX5_referenceCount, Cond.selects RX5 yX5_referenceCount yX5_referenceCount, Cond.code yX5_referenceCount cX5_referenceCount 5 (some .int), Cond.methodLink RL 121 yX4_undo, Cond.instanceMethod yX4_undo, Cond.selects RX4 yX4_undo yX4_undo, Cond.code yX4_undo cX4_undo 1 (some .int), Cond.fieldLink RX4 174 "WeakTableHeap$History" "depth" "I", Cond.methodLink RX4 170 yX0_popInto, Cond.instanceMethod yX0_popInto, Cond.selects RX0 yX0_popInto yX0_popInto, Cond.code yX0_popInto cX0_popInto 3 (some .boolean), Cond.methodLink RL 124 yX5_undo, Cond.instanceMethod yX5_undo, Cond.selects RX5 yX5_undo yX5_undo]
def wsL_law_r25 : List Cond := [Cond.code yX5_undo cX5_undo 1 (some .int), Cond.methodLink RL 125 yX4_undoDepth, Cond.instanceMethod yX4_undoDepth, Cond.selects RX4 yX4_undoDepth yX4_undoDepth, Cond.code yX4_undoDepth cX4_undoDepth 1 (some .int), Cond.methodLink RL 128 yX5_undoDepth, Cond.instanceMethod yX5_undoDepth, Cond.selects RX5 yX5_undoDepth yX5_undoDepth, Cond.code yX5_undoDepth cX5_undoDepth 1 (some .int), Cond.methodLink RL 129 yX4_save, Cond.instanceMethod yX4_save, Cond.selects RX4 yX4_save yX4_save, Cond.code yX4_save cX4_save 2 (some .int), Cond.methodLink RX4 177 yX3_copyFrom, Cond.methodLink RL 132 yX5_save, Cond.instanceMethod yX5_save, Cond.selects RX5 yX5_save yX5_save, Cond.code yX5_save cX5_save 2 (some .int), Cond.methodLink RX5 35 yX5_objectCount, Cond.methodLink RL 133 yX4_restore, Cond.instanceMethod yX4_restore, Cond.selects RX4 yX4_restore yX4_restore, Cond.code yX4_restore cX4_restore 2 (some .int), Cond.methodLink RX4 180 yX0_forget]
def wsL_law_r26 : List Cond := [Cond.instanceMethod yX0_forget, Cond.selects RX0 yX0_forget yX0_forget, Cond.code yX0_forget cX0_forget 1 none, Cond.methodLink RL 136 yX5_restore, Cond.instanceMethod yX5_restore, Cond.selects RX5 yX5_restore yX5_restore, Cond.code yX5_restore cX5_restore 2 (some .int)]
def wsL_law : List Cond := (wsL_law_r1 ++ (wsL_law_r2 ++ (wsL_law_r3 ++ (wsL_law_r4 ++ (wsL_law_r5 ++ (wsL_law_r6 ++ (wsL_law_r7 ++ (wsL_law_r8 ++ (wsL_law_r9 ++ (wsL_law_r10 ++ (wsL_law_r11 ++ (wsL_law_r12 ++ (wsL_law_r13 ++ (wsL_law_r14 ++ (wsL_law_r15 ++ (wsL_law_r16 ++ (wsL_law_r17 ++ (wsL_law_r18 ++ (wsL_law_r19 ++ (wsL_law_r20 ++ (wsL_law_r21 ++ (wsL_law_r22 ++ (wsL_law_r23 ++ (wsL_law_r24 ++ (wsL_law_r25 ++ wsL_law_r26))))))))))))))))))))))))) ++ wsX40 ++ wsX50 ++ wsX30 ++ wsX00 ++ wsX10 ++ wsX20 ++ ([] : List Cond)
theorem mem_ps {big ws : List Cond} (ps : List Nat) (hp : ps.map (fun i => big[i]?) = ws.map some) : ∀ w ∈ ws, w ∈ big := by
  intro w hw
  have h1 : some w ∈ ps.map (fun i => big[i]?) := by rw [hp]; exact List.mem_map.mpr ⟨w, hw, rfl⟩
  obtain ⟨i, -, hi⟩ := List.mem_map.mp h1
  exact List.mem_of_getElem? hi
set_option maxRecDepth 20000 in
theorem in_wsL_law_r1 : ∀ w ∈ wsL_law_r1, w ∈ lw_tbl := mem_ps [42, 43, 32, 477, 478, 39, 44, 45, 46, 47, 48, 49, 50, 51, 33, 158, 117, 118, 37, 159, 160, 136, 137, 38] rfl
set_option maxRecDepth 20000 in
theorem in_wsL_law_r2 : ∀ w ∈ wsL_law_r2, w ∈ lw_tbl := mem_ps [161, 53, 54, 55, 80, 82, 84, 86, 88, 90, 65, 66, 36, 92, 57, 58, 59, 60, 34, 61, 79, 62, 63, 35] rfl
set_option maxRecDepth 20000 in
theorem in_wsL_law_r3 : ∀ w ∈ wsL_law_r3, w ∈ lw_tbl := mem_ps [64, 68, 69, 70, 71, 120, 121, 122, 123, 125, 139, 140, 141, 142, 479, 480, 481, 482, 483, 499, 485, 486, 487, 171] rfl
set_option maxRecDepth 20000 in
theorem in_wsL_law_r4 : ∀ w ∈ wsL_law_r4, w ∈ lw_tbl := mem_ps [172, 173, 174, 175, 177, 0, 178, 179, 180, 181, 182, 183, 184, 185, 186, 126, 127, 206, 196, 197, 188, 189, 190, 191] rfl
set_option maxRecDepth 20000 in
theorem in_wsL_law_r5 : ∀ w ∈ wsL_law_r5, w ∈ lw_tbl := mem_ps [94, 96, 193, 194, 195, 198, 200, 199, 40, 201, 202, 203, 204, 72, 207, 208, 209, 210, 212, 213, 535, 536, 537, 538] rfl
set_option maxRecDepth 20000 in
theorem in_wsL_law_r6 : ∀ w ∈ wsL_law_r6, w ∈ lw_tbl := mem_ps [539, 541, 12, 542, 523, 525, 10, 526, 516, 517, 518, 527, 529, 11, 530, 543, 545, 13, 546, 484, 504, 506, 9, 507] rfl
set_option maxRecDepth 20000 in
theorem in_wsL_law_r7 : ∀ w ∈ wsL_law_r7, w ∈ lw_tbl := mem_ps [214, 215, 216, 217, 547, 548, 549, 550, 218, 219, 220, 221, 222, 223, 224, 225, 551, 552, 553, 554, 226, 227, 228, 229] rfl
set_option maxRecDepth 20000 in
theorem in_wsL_law_r8 : ∀ w ∈ wsL_law_r8, w ∈ lw_tbl := mem_ps [81, 230, 555, 556, 557, 558, 231, 232, 233, 234, 83, 235, 236, 237, 238, 239, 240, 241, 242, 243, 559, 560, 561, 562] rfl
set_option maxRecDepth 20000 in
theorem in_wsL_law_r9 : ∀ w ∈ wsL_law_r9, w ∈ lw_tbl := mem_ps [563, 565, 14, 566, 567, 569, 15, 570, 244, 245, 246, 247, 571, 572, 573, 574, 248, 249, 250, 251, 91, 575, 576, 577] rfl
set_option maxRecDepth 20000 in
theorem in_wsL_law_r10 : ∀ w ∈ wsL_law_r10, w ∈ lw_tbl := mem_ps [578, 252, 253, 254, 255, 579, 580, 581, 582, 256, 257, 258, 259, 89, 583, 584, 585, 586, 260, 261, 262, 263, 95, 264] rfl
set_option maxRecDepth 20000 in
theorem in_wsL_law_r11 : ∀ w ∈ wsL_law_r11, w ∈ lw_tbl := mem_ps [265, 266, 267, 268, 269, 270, 271, 41, 272, 273, 274, 275, 587, 588, 589, 590, 276, 277, 278, 279, 87, 85, 280, 281] rfl
set_option maxRecDepth 20000 in
theorem in_wsL_law_r12 : ∀ w ∈ wsL_law_r12, w ∈ lw_tbl := mem_ps [282, 283, 284, 285, 286, 287, 288, 591, 592, 593, 594, 595, 597, 16, 598, 289, 290, 291, 292, 599, 600, 601, 602, 293] rfl
set_option maxRecDepth 20000 in
theorem in_wsL_law_r13 : ∀ w ∈ wsL_law_r13, w ∈ lw_tbl := mem_ps [294, 295, 296, 297, 298, 299, 300, 603, 604, 605, 606, 607, 609, 17, 610, 302, 303, 304, 305, 611, 612, 613, 614, 306] rfl
set_option maxRecDepth 20000 in
theorem in_wsL_law_r14 : ∀ w ∈ wsL_law_r14, w ∈ lw_tbl := mem_ps [307, 308, 309, 615, 616, 617, 618, 310, 311, 312, 313, 147, 97, 145, 314, 316, 1, 317, 318, 319, 320, 321, 323, 324] rfl
set_option maxRecDepth 20000 in
theorem in_wsL_law_r15 : ∀ w ∈ wsL_law_r15, w ∈ lw_tbl := mem_ps [325, 326, 144, 148, 146, 327, 328, 330, 2, 331, 332, 334, 3, 335, 336, 338, 4, 339, 341, 342, 343, 344, 345, 347] rfl
set_option maxRecDepth 20000 in
theorem in_wsL_law_r16 : ∀ w ∈ wsL_law_r16, w ∈ lw_tbl := mem_ps [5, 348, 349, 350, 351, 352, 353, 355, 6, 356, 357, 358, 359, 360, 361, 362, 363, 364, 365, 366, 367, 368, 369, 370] rfl
set_option maxRecDepth 20000 in
theorem in_wsL_law_r17 : ∀ w ∈ wsL_law_r17, w ∈ lw_tbl := mem_ps [372, 373, 374, 375, 376, 378, 7, 379, 380, 381, 382, 383, 384, 386, 8, 387, 388, 389, 390, 391, 392, 393, 394, 395] rfl
set_option maxRecDepth 20000 in
theorem in_wsL_law_r18 : ∀ w ∈ wsL_law_r18, w ∈ lw_tbl := mem_ps [396, 397, 398, 399, 400, 401, 402, 619, 620, 621, 622, 623, 625, 18, 626, 627, 629, 19, 630, 631, 633, 20, 634, 635] rfl
set_option maxRecDepth 20000 in
theorem in_wsL_law_r19 : ∀ w ∈ wsL_law_r19, w ∈ lw_tbl := mem_ps [637, 21, 638, 639, 641, 22, 642, 643, 645, 23, 646, 647, 649, 24, 650, 651, 653, 25, 654, 655, 657, 26, 658, 659] rfl
set_option maxRecDepth 20000 in
theorem in_wsL_law_r20 : ∀ w ∈ wsL_law_r20, w ∈ lw_tbl := mem_ps [661, 27, 662, 663, 665, 28, 666, 667, 669, 29, 670, 403, 404, 405, 406, 675, 676, 677, 678, 407, 408, 409, 410, 93] rfl
set_option maxRecDepth 20000 in
theorem in_wsL_law_r21 : ∀ w ∈ wsL_law_r21, w ∈ lw_tbl := mem_ps [73, 411, 679, 680, 681, 682, 412, 413, 414, 415, 683, 684, 685, 686, 416, 417, 418, 419, 687, 520, 521, 522, 420, 421] rfl
set_option maxRecDepth 20000 in
theorem in_wsL_law_r22 : ∀ w ∈ wsL_law_r22, w ∈ lw_tbl := mem_ps [422, 423, 688, 689, 690, 691, 692, 694, 30, 695, 424, 425, 426, 427, 143, 696, 697, 698, 699, 428, 429, 430, 431, 671] rfl
set_option maxRecDepth 20000 in
theorem in_wsL_law_r23 : ∀ w ∈ wsL_law_r23, w ∈ lw_tbl := mem_ps [672, 673, 674, 432, 433, 434, 435, 700, 701, 702, 703, 704, 436, 437, 438, 439, 440, 441, 442, 443, 444, 705, 706, 707] rfl
set_option maxRecDepth 20000 in
theorem in_wsL_law_r24 : ∀ w ∈ wsL_law_r24, w ∈ lw_tbl := mem_ps [708, 445, 446, 447, 448, 449, 450, 451, 709, 710, 711, 712, 452, 453, 454, 455, 128, 456, 457, 458, 459, 500, 501, 502] rfl
set_option maxRecDepth 20000 in
theorem in_wsL_law_r25 : ∀ w ∈ wsL_law_r25, w ∈ lw_tbl := mem_ps [503, 460, 461, 462, 463, 508, 509, 510, 511, 464, 465, 466, 467, 468, 512, 513, 514, 515, 519, 469, 470, 471, 472, 473] rfl
set_option maxRecDepth 20000 in
theorem in_wsL_law_r26 : ∀ w ∈ wsL_law_r26, w ∈ lw_tbl := mem_ps [474, 475, 476, 531, 532, 533, 534] rfl
set_option maxRecDepth 20000 in
theorem in_wsX40 : ∀ w ∈ wsX40, w ∈ lw_tbl := by decide +kernel
set_option maxRecDepth 20000 in
theorem in_wsX50 : ∀ w ∈ wsX50, w ∈ lw_tbl := by decide +kernel
set_option maxRecDepth 20000 in
theorem in_wsX30 : ∀ w ∈ wsX30, w ∈ lw_tbl := by decide +kernel
set_option maxRecDepth 20000 in
theorem in_wsX00 : ∀ w ∈ wsX00, w ∈ lw_tbl := by decide +kernel
set_option maxRecDepth 20000 in
theorem in_wsX10 : ∀ w ∈ wsX10, w ∈ lw_tbl := by decide +kernel
set_option maxRecDepth 20000 in
theorem in_wsX20 : ∀ w ∈ wsX20, w ∈ lw_tbl := by decide +kernel
theorem mem_app {big a b : List Cond} (h1 : ∀ w ∈ a, w ∈ big) (h2 : ∀ w ∈ b, w ∈ big) : ∀ w ∈ a ++ b, w ∈ big := fun w h => (List.mem_append.mp h).elim (h1 w) (h2 w)
theorem wsL_law_in : ∀ w ∈ wsL_law, w ∈ lw_tbl := mem_app (mem_app (mem_app (mem_app (mem_app (mem_app (mem_app (mem_app in_wsL_law_r1 (mem_app in_wsL_law_r2 (mem_app in_wsL_law_r3 (mem_app in_wsL_law_r4 (mem_app in_wsL_law_r5 (mem_app in_wsL_law_r6 (mem_app in_wsL_law_r7 (mem_app in_wsL_law_r8 (mem_app in_wsL_law_r9 (mem_app in_wsL_law_r10 (mem_app in_wsL_law_r11 (mem_app in_wsL_law_r12 (mem_app in_wsL_law_r13 (mem_app in_wsL_law_r14 (mem_app in_wsL_law_r15 (mem_app in_wsL_law_r16 (mem_app in_wsL_law_r17 (mem_app in_wsL_law_r18 (mem_app in_wsL_law_r19 (mem_app in_wsL_law_r20 (mem_app in_wsL_law_r21 (mem_app in_wsL_law_r22 (mem_app in_wsL_law_r23 (mem_app in_wsL_law_r24 (mem_app in_wsL_law_r25 (in_wsL_law_r26)))))))))))))))))))))))))) in_wsX40) in_wsX50) in_wsX30) in_wsX00) in_wsX10) in_wsX20) (fun _ h => absurd h List.not_mem_nil)
theorem inlX0 : ∀ w ∈ wsX00, w ∈ wsL_law := fun _ h => List.mem_append_left _ (List.mem_append_left _ (List.mem_append_left _ (List.mem_append_right _ h)))
theorem inX0 : ∀ w ∈ wsX00, w ∈ lw_tbl := fun w h => wsL_law_in w (inlX0 w h)
theorem inlX1 : ∀ w ∈ wsX10, w ∈ wsL_law := fun _ h => List.mem_append_left _ (List.mem_append_left _ (List.mem_append_right _ h))
theorem inX1 : ∀ w ∈ wsX10, w ∈ lw_tbl := fun w h => wsL_law_in w (inlX1 w h)
theorem inlX2 : ∀ w ∈ wsX20, w ∈ wsL_law := fun _ h => List.mem_append_left _ (List.mem_append_right _ h)
theorem inX2 : ∀ w ∈ wsX20, w ∈ lw_tbl := fun w h => wsL_law_in w (inlX2 w h)
theorem inlX3 : ∀ w ∈ wsX30, w ∈ wsL_law := fun _ h => List.mem_append_left _ (List.mem_append_left _ (List.mem_append_left _ (List.mem_append_left _ (List.mem_append_right _ h))))
theorem inX3 : ∀ w ∈ wsX30, w ∈ lw_tbl := fun w h => wsL_law_in w (inlX3 w h)
theorem inlX4 : ∀ w ∈ wsX40, w ∈ wsL_law := fun _ h => List.mem_append_left _ (List.mem_append_left _ (List.mem_append_left _ (List.mem_append_left _ (List.mem_append_left _ (List.mem_append_left _ (List.mem_append_right _ h))))))
theorem inX4 : ∀ w ∈ wsX40, w ∈ lw_tbl := fun w h => wsL_law_in w (inlX4 w h)
theorem inlX5 : ∀ w ∈ wsX50, w ∈ wsL_law := fun _ h => List.mem_append_left _ (List.mem_append_left _ (List.mem_append_left _ (List.mem_append_left _ (List.mem_append_left _ (List.mem_append_right _ h)))))
theorem inX5 : ∀ w ∈ wsX50, w ∈ lw_tbl := fun w h => wsL_law_in w (inlX5 w h)
theorem inJ6 : ∀ w ∈ wsJ60, w ∈ lw_tbl := by decide +kernel
theorem inJ9 : ∀ w ∈ wsJ90, w ∈ lw_tbl := by decide +kernel
theorem inJ10 : ∀ w ∈ wsJ100, w ∈ lw_tbl := by decide +kernel
theorem inJ7 : ∀ w ∈ wsJ70, w ∈ lw_tbl := by decide +kernel
abbrev vwCl : List vw_C := [(RX0, TX0, 3), (RX1, TX1, 4), (RX2, TX2, 2), (RX3, TX3, 9), (RX4, TX4, 4), (RX5, TX5, 5)]
end
section
theorem dX0_init_0 : decode cX0_init 0 = .ok (.aload_n 0, 1) := by decide +kernel
theorem dX0_init_1 : decode cX0_init 1 = .ok (.invokespecial 3, 3) := by decide +kernel
theorem dX0_init_4 : decode cX0_init 4 = .ok (.aload_n 0, 1) := by decide +kernel
theorem dX0_init_5 : decode cX0_init 5 = .ok (.bipush 6, 2) := by decide +kernel
theorem dX0_init_7 : decode cX0_init 7 = .ok (.anewarray 9, 3) := by decide +kernel
theorem dX0_init_10 : decode cX0_init 10 = .ok (.putfield 11, 3) := by decide +kernel
theorem dX0_init_13 : decode cX0_init 13 = .ok (.return_, 1) := by decide +kernel
set_option maxRecDepth 20000 in
theorem ggX0_push_X3_init : GoodIn wsX0_push wsX3_init := goodIn_r _ [12, 13, 14, 15, 16, 17, 18, 19, 20, 21, 22, 23, 24, 25, 26, 27, 28, 29, 30, 9, 31, 32, 33, 34, 35, 36, 37, 38, 39, 40, 62, 63, 64, 65, 66, 67, 68, 69, 70, 71, 72] (by decide +kernel) (by decide +kernel)
set_option maxRecDepth 20000 in
theorem gX0_push_X3_init_n21 : GoodIn wsX0_push (wsX3_init) := ggX0_push_X3_init
set_option maxRecDepth 20000 in
theorem ggX0_push_X3_copyFrom : GoodIn wsX0_push wsX3_copyFrom := goodIn_r _ [44, 16, 17, 18, 19, 20, 21, 25, 45, 46, 47, 27, 48, 49, 8, 9, 10, 50, 51, 52, 53, 54, 55, 56, 24, 57, 40, 58, 62, 63, 64, 65, 66, 67, 68, 69, 70, 71, 72] (by decide +kernel) (by decide +kernel)
set_option maxRecDepth 20000 in
theorem gX0_push_X3_copyFrom : GoodIn wsX0_push (wsV RX0 22 RX3 yX3_copyFrom wsX3_copyFrom) := goodIn_app (goodIn_of _ (by decide +kernel)) ggX0_push_X3_copyFrom
theorem dX0_push_0 : decode cX0_push 0 = .ok (.aload_n 0, 1) := by decide +kernel
theorem dX0_push_1 : decode cX0_push 1 = .ok (.getfield 11, 3) := by decide +kernel
theorem dX0_push_4 : decode cX0_push 4 = .ok (.aload_n 0, 1) := by decide +kernel
theorem dX0_push_5 : decode cX0_push 5 = .ok (.getfield 17, 3) := by decide +kernel
theorem dX0_push_8 : decode cX0_push 8 = .ok (.aaload, 1) := by decide +kernel
theorem dX0_push_9 : decode cX0_push 9 = .ok (.ifnonnull 19, 3) := by decide +kernel
theorem dX0_push_12 : decode cX0_push 12 = .ok (.aload_n 0, 1) := by decide +kernel
theorem dX0_push_13 : decode cX0_push 13 = .ok (.getfield 11, 3) := by decide +kernel
theorem dX0_push_16 : decode cX0_push 16 = .ok (.aload_n 0, 1) := by decide +kernel
theorem dX0_push_17 : decode cX0_push 17 = .ok (.getfield 17, 3) := by decide +kernel
theorem dX0_push_20 : decode cX0_push 20 = .ok (.new 9, 3) := by decide +kernel
theorem dX0_push_23 : decode cX0_push 23 = .ok (.dup, 1) := by decide +kernel
theorem dX0_push_24 : decode cX0_push 24 = .ok (.invokespecial 21, 3) := by decide +kernel
theorem dX0_push_27 : decode cX0_push 27 = .ok (.aastore, 1) := by decide +kernel
theorem dX0_push_28 : decode cX0_push 28 = .ok (.aload_n 0, 1) := by decide +kernel
theorem dX0_push_29 : decode cX0_push 29 = .ok (.getfield 11, 3) := by decide +kernel
theorem dX0_push_32 : decode cX0_push 32 = .ok (.aload_n 0, 1) := by decide +kernel
theorem dX0_push_33 : decode cX0_push 33 = .ok (.getfield 17, 3) := by decide +kernel
theorem dX0_push_36 : decode cX0_push 36 = .ok (.aaload, 1) := by decide +kernel
theorem dX0_push_37 : decode cX0_push 37 = .ok (.aload_n 1, 1) := by decide +kernel
theorem dX0_push_38 : decode cX0_push 38 = .ok (.invokevirtual 22, 3) := by decide +kernel
theorem dX0_push_41 : decode cX0_push 41 = .ok (.aload_n 0, 1) := by decide +kernel
theorem dX0_push_42 : decode cX0_push 42 = .ok (.aload_n 0, 1) := by decide +kernel
theorem dX0_push_43 : decode cX0_push 43 = .ok (.getfield 17, 3) := by decide +kernel
theorem dX0_push_46 : decode cX0_push 46 = .ok (.iconst 1, 1) := by decide +kernel
theorem dX0_push_47 : decode cX0_push 47 = .ok (.iadd, 1) := by decide +kernel
theorem dX0_push_48 : decode cX0_push 48 = .ok (.bipush 6, 2) := by decide +kernel
theorem dX0_push_50 : decode cX0_push 50 = .ok (.irem, 1) := by decide +kernel
theorem dX0_push_51 : decode cX0_push 51 = .ok (.putfield 17, 3) := by decide +kernel
theorem dX0_push_54 : decode cX0_push 54 = .ok (.aload_n 0, 1) := by decide +kernel
theorem dX0_push_55 : decode cX0_push 55 = .ok (.aload_n 0, 1) := by decide +kernel
theorem dX0_push_56 : decode cX0_push 56 = .ok (.getfield 26, 3) := by decide +kernel
theorem dX0_push_59 : decode cX0_push 59 = .ok (.iconst 1, 1) := by decide +kernel
theorem dX0_push_60 : decode cX0_push 60 = .ok (.iadd, 1) := by decide +kernel
theorem dX0_push_61 : decode cX0_push 61 = .ok (.bipush 6, 2) := by decide +kernel
theorem dX0_push_63 : decode cX0_push 63 = .ok (.invokestatic 29, 3) := by decide +kernel
theorem dX0_push_66 : decode cX0_push 66 = .ok (.putfield 26, 3) := by decide +kernel
theorem dX0_push_69 : decode cX0_push 69 = .ok (.return_, 1) := by decide +kernel
set_option maxRecDepth 20000 in
theorem ggX0_popInto_X3_copyFrom : GoodIn wsX0_popInto wsX3_copyFrom := goodIn_r _ [8, 9, 10, 11, 12, 13, 14, 15, 16, 17, 18, 19, 20, 21, 22, 23, 24, 25, 26, 27, 28, 29, 30, 31, 32, 33, 34, 35, 39, 40, 41, 42, 43, 44, 45, 46, 47, 48, 49] (by decide +kernel) (by decide +kernel)
set_option maxRecDepth 20000 in
theorem gX0_popInto_X3_copyFrom : GoodIn wsX0_popInto (wsV RX0 22 RX3 yX3_copyFrom wsX3_copyFrom) := goodIn_app (goodIn_of _ (by decide +kernel)) ggX0_popInto_X3_copyFrom
theorem dX0_popInto_0 : decode cX0_popInto 0 = .ok (.aload_n 0, 1) := by decide +kernel
theorem dX0_popInto_1 : decode cX0_popInto 1 = .ok (.getfield 17, 3) := by decide +kernel
theorem dX0_popInto_4 : decode cX0_popInto 4 = .ok (.bipush 6, 2) := by decide +kernel
theorem dX0_popInto_6 : decode cX0_popInto 6 = .ok (.iadd, 1) := by decide +kernel
theorem dX0_popInto_7 : decode cX0_popInto 7 = .ok (.iconst 1, 1) := by decide +kernel
theorem dX0_popInto_8 : decode cX0_popInto 8 = .ok (.isub, 1) := by decide +kernel
theorem dX0_popInto_9 : decode cX0_popInto 9 = .ok (.bipush 6, 2) := by decide +kernel
theorem dX0_popInto_11 : decode cX0_popInto 11 = .ok (.irem, 1) := by decide +kernel
theorem dX0_popInto_12 : decode cX0_popInto 12 = .ok (.istore_n 2, 1) := by decide +kernel
theorem dX0_popInto_13 : decode cX0_popInto 13 = .ok (.aload_n 0, 1) := by decide +kernel
theorem dX0_popInto_14 : decode cX0_popInto 14 = .ok (.getfield 26, 3) := by decide +kernel
theorem dX0_popInto_17 : decode cX0_popInto 17 = .ok (.ifCond .eq 12, 3) := by decide +kernel
theorem dX0_popInto_20 : decode cX0_popInto 20 = .ok (.aload_n 0, 1) := by decide +kernel
theorem dX0_popInto_21 : decode cX0_popInto 21 = .ok (.getfield 11, 3) := by decide +kernel
theorem dX0_popInto_24 : decode cX0_popInto 24 = .ok (.iload_n 2, 1) := by decide +kernel
theorem dX0_popInto_25 : decode cX0_popInto 25 = .ok (.aaload, 1) := by decide +kernel
theorem dX0_popInto_26 : decode cX0_popInto 26 = .ok (.ifnonnull 5, 3) := by decide +kernel
theorem dX0_popInto_29 : decode cX0_popInto 29 = .ok (.iconst 0, 1) := by decide +kernel
theorem dX0_popInto_30 : decode cX0_popInto 30 = .ok (.ireturn, 1) := by decide +kernel
theorem dX0_popInto_31 : decode cX0_popInto 31 = .ok (.aload_n 1, 1) := by decide +kernel
theorem dX0_popInto_32 : decode cX0_popInto 32 = .ok (.aload_n 0, 1) := by decide +kernel
theorem dX0_popInto_33 : decode cX0_popInto 33 = .ok (.getfield 11, 3) := by decide +kernel
theorem dX0_popInto_36 : decode cX0_popInto 36 = .ok (.iload_n 2, 1) := by decide +kernel
theorem dX0_popInto_37 : decode cX0_popInto 37 = .ok (.aaload, 1) := by decide +kernel
theorem dX0_popInto_38 : decode cX0_popInto 38 = .ok (.invokevirtual 22, 3) := by decide +kernel
theorem dX0_popInto_41 : decode cX0_popInto 41 = .ok (.aload_n 0, 1) := by decide +kernel
theorem dX0_popInto_42 : decode cX0_popInto 42 = .ok (.iload_n 2, 1) := by decide +kernel
theorem dX0_popInto_43 : decode cX0_popInto 43 = .ok (.putfield 17, 3) := by decide +kernel
theorem dX0_popInto_46 : decode cX0_popInto 46 = .ok (.aload_n 0, 1) := by decide +kernel
theorem dX0_popInto_47 : decode cX0_popInto 47 = .ok (.dup, 1) := by decide +kernel
theorem dX0_popInto_48 : decode cX0_popInto 48 = .ok (.getfield 26, 3) := by decide +kernel
theorem dX0_popInto_51 : decode cX0_popInto 51 = .ok (.iconst 1, 1) := by decide +kernel
theorem dX0_popInto_52 : decode cX0_popInto 52 = .ok (.isub, 1) := by decide +kernel
theorem dX0_popInto_53 : decode cX0_popInto 53 = .ok (.putfield 26, 3) := by decide +kernel
theorem dX0_popInto_56 : decode cX0_popInto 56 = .ok (.iconst 1, 1) := by decide +kernel
theorem dX0_popInto_57 : decode cX0_popInto 57 = .ok (.ireturn, 1) := by decide +kernel
theorem dX0_forget_0 : decode cX0_forget 0 = .ok (.aload_n 0, 1) := by decide +kernel
theorem dX0_forget_1 : decode cX0_forget 1 = .ok (.iconst 0, 1) := by decide +kernel
theorem dX0_forget_2 : decode cX0_forget 2 = .ok (.putfield 26, 3) := by decide +kernel
theorem dX0_forget_5 : decode cX0_forget 5 = .ok (.return_, 1) := by decide +kernel
theorem dX1_init_0 : decode cX1_init 0 = .ok (.aload_n 0, 1) := by decide +kernel
theorem dX1_init_1 : decode cX1_init 1 = .ok (.invokespecial 3, 3) := by decide +kernel
theorem dX1_init_4 : decode cX1_init 4 = .ok (.aload_n 0, 1) := by decide +kernel
theorem dX1_init_5 : decode cX1_init 5 = .ok (.bipush 24, 2) := by decide +kernel
theorem dX1_init_7 : decode cX1_init 7 = .ok (.newarray .int, 2) := by decide +kernel
theorem dX1_init_9 : decode cX1_init 9 = .ok (.putfield 9, 3) := by decide +kernel
theorem dX1_init_12 : decode cX1_init 12 = .ok (.return_, 1) := by decide +kernel
set_option maxRecDepth 20000 in
theorem ggX1_run_J7_fill_53178 : GoodIn wsX1_run wsJ7_fill_53178 := goodIn_r _ [8] (by decide +kernel) (by decide +kernel)
set_option maxRecDepth 20000 in
theorem gX1_run_J7_fill_53178 : GoodIn wsX1_run (va_wsS RX1 15 yJ7_fill_53178 wsJ7_fill_53178) := goodIn_app (goodIn_of _ (by decide +kernel)) ggX1_run_J7_fill_53178
set_option maxRecDepth 20000 in
theorem ggX1_run_X1_markWithFields : GoodIn wsX1_run wsX1_markWithFields := goodIn_r _ [13, 2, 14, 15, 16, 12, 17, 3, 18, 19, 20, 21, 1, 4, 22, 23, 24, 25, 26, 27, 28, 29, 30, 31, 32, 33, 34, 35, 36, 37, 48, 49, 50, 51, 52, 53, 54, 55, 56, 57, 58, 59, 60] (by decide +kernel) (by decide +kernel)
set_option maxRecDepth 20000 in
theorem gX1_run_X1_markWithFields : GoodIn wsX1_run (wsV RX1 31 RX1 yX1_markWithFields wsX1_markWithFields) := goodIn_app (goodIn_of _ (by decide +kernel)) ggX1_run_X1_markWithFields
set_option maxRecDepth 20000 in
theorem ggX1_run_X3_valuesOfEntries : GoodIn wsX1_run wsX3_valuesOfEntries := goodIn_r _ [41, 22, 23, 24, 25, 26, 27, 42, 43, 44, 31, 45, 46, 47, 52, 53, 54, 55, 56, 57, 58, 59, 60] (by decide +kernel) (by decide +kernel)
set_option maxRecDepth 20000 in
theorem gX1_run_X3_valuesOfEntries : GoodIn wsX1_run (wsV RX1 35 RX3 yX3_valuesOfEntries wsX3_valuesOfEntries) := goodIn_app (goodIn_of _ (by decide +kernel)) ggX1_run_X3_valuesOfEntries
set_option maxRecDepth 20000 in
theorem ggX1_run_X1_markable : GoodIn wsX1_run wsX1_markable := goodIn_r _ [17, 2, 3, 48, 49, 50, 51] (by decide +kernel) (by decide +kernel)
set_option maxRecDepth 20000 in
theorem gX1_run_X1_markable : GoodIn wsX1_run (wsV RX1 41 RX1 yX1_markable wsX1_markable) := goodIn_app (goodIn_of _ (by decide +kernel)) ggX1_run_X1_markable
theorem dX1_run_0 : decode cX1_run 0 = .ok (.aload_n 0, 1) := by decide +kernel
theorem dX1_run_1 : decode cX1_run 1 = .ok (.getfield 9, 3) := by decide +kernel
theorem dX1_run_4 : decode cX1_run 4 = .ok (.bipush (-9), 2) := by decide +kernel
theorem dX1_run_6 : decode cX1_run 6 = .ok (.invokestatic 15, 3) := by decide +kernel
theorem dX1_run_9 : decode cX1_run 9 = .ok (.aload_n 0, 1) := by decide +kernel
theorem dX1_run_10 : decode cX1_run 10 = .ok (.iconst 0, 1) := by decide +kernel
theorem dX1_run_11 : decode cX1_run 11 = .ok (.putfield 21, 3) := by decide +kernel
theorem dX1_run_14 : decode cX1_run 14 = .ok (.aload_n 0, 1) := by decide +kernel
theorem dX1_run_15 : decode cX1_run 15 = .ok (.iload_n 3, 1) := by decide +kernel
theorem dX1_run_16 : decode cX1_run 16 = .ok (.putfield 25, 3) := by decide +kernel
theorem dX1_run_19 : decode cX1_run 19 = .ok (.aload_n 0, 1) := by decide +kernel
theorem dX1_run_20 : decode cX1_run 20 = .ok (.iconst 0, 1) := by decide +kernel
theorem dX1_run_21 : decode cX1_run 21 = .ok (.putfield 28, 3) := by decide +kernel
theorem dX1_run_24 : decode cX1_run 24 = .ok (.aload_n 0, 1) := by decide +kernel
theorem dX1_run_25 : decode cX1_run 25 = .ok (.aload_n 1, 1) := by decide +kernel
theorem dX1_run_26 : decode cX1_run 26 = .ok (.iload_n 2, 1) := by decide +kernel
theorem dX1_run_27 : decode cX1_run 27 = .ok (.invokevirtual 31, 3) := by decide +kernel
theorem dX1_run_30 : decode cX1_run 30 = .ok (.iconst 1, 1) := by decide +kernel
theorem dX1_run_31 : decode cX1_run 31 = .ok (.istore 4, 2) := by decide +kernel
theorem dX1_run_33 : decode cX1_run 33 = .ok (.iload 4, 2) := by decide +kernel
theorem dX1_run_35 : decode cX1_run 35 = .ok (.bipush 24, 2) := by decide +kernel
theorem dX1_run_37 : decode cX1_run 37 = .ok (.if_icmp .gt 46, 3) := by decide +kernel
theorem dX1_run_40 : decode cX1_run 40 = .ok (.aload_n 0, 1) := by decide +kernel
theorem dX1_run_41 : decode cX1_run 41 = .ok (.aload_n 1, 1) := by decide +kernel
theorem dX1_run_42 : decode cX1_run 42 = .ok (.aload_n 0, 1) := by decide +kernel
theorem dX1_run_43 : decode cX1_run 43 = .ok (.getfield 21, 3) := by decide +kernel
theorem dX1_run_46 : decode cX1_run 46 = .ok (.aload_n 0, 1) := by decide +kernel
theorem dX1_run_47 : decode cX1_run 47 = .ok (.getfield 21, 3) := by decide +kernel
theorem dX1_run_50 : decode cX1_run 50 = .ok (.invokevirtual 35, 3) := by decide +kernel
theorem dX1_run_53 : decode cX1_run 53 = .ok (.invokevirtual 41, 3) := by decide +kernel
theorem dX1_run_56 : decode cX1_run 56 = .ok (.istore 5, 2) := by decide +kernel
theorem dX1_run_58 : decode cX1_run 58 = .ok (.iload 5, 2) := by decide +kernel
theorem dX1_run_60 : decode cX1_run 60 = .ok (.ifCond .ne 4, 3) := by decide +kernel
theorem dX1_run_63 : decode cX1_run 63 = .ok (.return_, 1) := by decide +kernel
theorem dX1_run_64 : decode cX1_run 64 = .ok (.aload_n 0, 1) := by decide +kernel
theorem dX1_run_65 : decode cX1_run 65 = .ok (.iload 4, 2) := by decide +kernel
theorem dX1_run_67 : decode cX1_run 67 = .ok (.putfield 28, 3) := by decide +kernel
theorem dX1_run_70 : decode cX1_run 70 = .ok (.aload_n 0, 1) := by decide +kernel
theorem dX1_run_71 : decode cX1_run 71 = .ok (.aload_n 1, 1) := by decide +kernel
theorem dX1_run_72 : decode cX1_run 72 = .ok (.iload 5, 2) := by decide +kernel
theorem dX1_run_74 : decode cX1_run 74 = .ok (.invokevirtual 31, 3) := by decide +kernel
theorem dX1_run_77 : decode cX1_run 77 = .ok (.iinc 4 1, 3) := by decide +kernel
theorem dX1_run_80 : decode cX1_run 80 = .ok (.goto (-47), 3) := by decide +kernel
theorem dX1_run_83 : decode cX1_run 83 = .ok (.return_, 1) := by decide +kernel
theorem dX1_markable_0 : decode cX1_markable 0 = .ok (.iload_n 1, 1) := by decide +kernel
theorem dX1_markable_1 : decode cX1_markable 1 = .ok (.aload_n 0, 1) := by decide +kernel
theorem dX1_markable_2 : decode cX1_markable 2 = .ok (.getfield 21, 3) := by decide +kernel
theorem dX1_markable_5 : decode cX1_markable 5 = .ok (.iconst (-1), 1) := by decide +kernel
theorem dX1_markable_6 : decode cX1_markable 6 = .ok (.ixor, 1) := by decide +kernel
theorem dX1_markable_7 : decode cX1_markable 7 = .ok (.iand, 1) := by decide +kernel
theorem dX1_markable_8 : decode cX1_markable 8 = .ok (.aload_n 0, 1) := by decide +kernel
theorem dX1_markable_9 : decode cX1_markable 9 = .ok (.getfield 25, 3) := by decide +kernel
theorem dX1_markable_12 : decode cX1_markable 12 = .ok (.iconst (-1), 1) := by decide +kernel
theorem dX1_markable_13 : decode cX1_markable 13 = .ok (.ixor, 1) := by decide +kernel
theorem dX1_markable_14 : decode cX1_markable 14 = .ok (.iand, 1) := by decide +kernel
theorem dX1_markable_15 : decode cX1_markable 15 = .ok (.ireturn, 1) := by decide +kernel
set_option maxRecDepth 20000 in
theorem ggX1_markWithFields_X1_markable : GoodIn wsX1_markWithFields wsX1_markable := goodIn_r _ [6, 1, 7, 30, 31, 32, 33] (by decide +kernel) (by decide +kernel)
set_option maxRecDepth 20000 in
theorem gX1_markWithFields_X1_markable : GoodIn wsX1_markWithFields (wsV RX1 41 RX1 yX1_markable wsX1_markable) := goodIn_app (goodIn_of _ (by decide +kernel)) ggX1_markWithFields_X1_markable
set_option maxRecDepth 20000 in
theorem ggX1_markWithFields_X1_number : GoodIn wsX1_markWithFields wsX1_number := goodIn_r _ [11, 12, 13, 14, 15, 16, 17, 18, 19, 30, 31, 32, 33] (by decide +kernel) (by decide +kernel)
set_option maxRecDepth 20000 in
theorem gX1_markWithFields_X1_number : GoodIn wsX1_markWithFields (wsV RX1 45 RX1 yX1_number wsX1_number) := goodIn_app (goodIn_of _ (by decide +kernel)) ggX1_markWithFields_X1_number
set_option maxRecDepth 20000 in
theorem ggX1_markWithFields_X3_fieldTargets : GoodIn wsX1_markWithFields wsX3_fieldTargets := goodIn_r _ [24, 14, 15, 16, 17, 18, 19, 25, 26, 27, 23, 28, 29, 34, 35, 36, 37, 38, 39, 40, 41, 42] (by decide +kernel) (by decide +kernel)
set_option maxRecDepth 20000 in
theorem gX1_markWithFields_X3_fieldTargets : GoodIn wsX1_markWithFields (wsV RX1 49 RX3 yX3_fieldTargets wsX3_fieldTargets) := goodIn_app (goodIn_of _ (by decide +kernel)) ggX1_markWithFields_X3_fieldTargets
theorem dX1_markWithFields_0 : decode cX1_markWithFields 0 = .ok (.aload_n 0, 1) := by decide +kernel
theorem dX1_markWithFields_1 : decode cX1_markWithFields 1 = .ok (.iload_n 2, 1) := by decide +kernel
theorem dX1_markWithFields_2 : decode cX1_markWithFields 2 = .ok (.invokevirtual 41, 3) := by decide +kernel
theorem dX1_markWithFields_5 : decode cX1_markWithFields 5 = .ok (.istore_n 3, 1) := by decide +kernel
theorem dX1_markWithFields_6 : decode cX1_markWithFields 6 = .ok (.iconst 0, 1) := by decide +kernel
theorem dX1_markWithFields_7 : decode cX1_markWithFields 7 = .ok (.istore 4, 2) := by decide +kernel
theorem dX1_markWithFields_9 : decode cX1_markWithFields 9 = .ok (.iload 4, 2) := by decide +kernel
theorem dX1_markWithFields_11 : decode cX1_markWithFields 11 = .ok (.bipush 24, 2) := by decide +kernel
theorem dX1_markWithFields_13 : decode cX1_markWithFields 13 = .ok (.if_icmp .ge 38, 3) := by decide +kernel
theorem dX1_markWithFields_16 : decode cX1_markWithFields 16 = .ok (.iload_n 3, 1) := by decide +kernel
theorem dX1_markWithFields_17 : decode cX1_markWithFields 17 = .ok (.ifCond .eq 34, 3) := by decide +kernel
theorem dX1_markWithFields_20 : decode cX1_markWithFields 20 = .ok (.aload_n 0, 1) := by decide +kernel
theorem dX1_markWithFields_21 : decode cX1_markWithFields 21 = .ok (.iload_n 3, 1) := by decide +kernel
theorem dX1_markWithFields_22 : decode cX1_markWithFields 22 = .ok (.invokevirtual 45, 3) := by decide +kernel
theorem dX1_markWithFields_25 : decode cX1_markWithFields 25 = .ok (.aload_n 0, 1) := by decide +kernel
theorem dX1_markWithFields_26 : decode cX1_markWithFields 26 = .ok (.dup, 1) := by decide +kernel
theorem dX1_markWithFields_27 : decode cX1_markWithFields 27 = .ok (.getfield 21, 3) := by decide +kernel
theorem dX1_markWithFields_30 : decode cX1_markWithFields 30 = .ok (.iload_n 3, 1) := by decide +kernel
theorem dX1_markWithFields_31 : decode cX1_markWithFields 31 = .ok (.ior, 1) := by decide +kernel
theorem dX1_markWithFields_32 : decode cX1_markWithFields 32 = .ok (.putfield 21, 3) := by decide +kernel
theorem dX1_markWithFields_35 : decode cX1_markWithFields 35 = .ok (.aload_n 0, 1) := by decide +kernel
theorem dX1_markWithFields_36 : decode cX1_markWithFields 36 = .ok (.aload_n 1, 1) := by decide +kernel
theorem dX1_markWithFields_37 : decode cX1_markWithFields 37 = .ok (.iload_n 3, 1) := by decide +kernel
theorem dX1_markWithFields_38 : decode cX1_markWithFields 38 = .ok (.invokevirtual 49, 3) := by decide +kernel
theorem dX1_markWithFields_41 : decode cX1_markWithFields 41 = .ok (.invokevirtual 41, 3) := by decide +kernel
theorem dX1_markWithFields_44 : decode cX1_markWithFields 44 = .ok (.istore_n 3, 1) := by decide +kernel
theorem dX1_markWithFields_45 : decode cX1_markWithFields 45 = .ok (.iinc 4 1, 3) := by decide +kernel
theorem dX1_markWithFields_48 : decode cX1_markWithFields 48 = .ok (.goto (-39), 3) := by decide +kernel
theorem dX1_markWithFields_51 : decode cX1_markWithFields 51 = .ok (.return_, 1) := by decide +kernel
set_option maxRecDepth 20000 in
theorem ggX1_number_X4_contains : GoodIn wsX1_number wsX4_contains := goodIn_r _ [5, 6, 7, 4, 8] (by decide +kernel) (by decide +kernel)
set_option maxRecDepth 20000 in
theorem gX1_number_X4_contains_n52 : GoodIn wsX1_number (wsX4_contains) := ggX1_number_X4_contains
theorem dX1_number_0 : decode cX1_number 0 = .ok (.iconst 0, 1) := by decide +kernel
theorem dX1_number_1 : decode cX1_number 1 = .ok (.istore_n 2, 1) := by decide +kernel
theorem dX1_number_2 : decode cX1_number 2 = .ok (.iload_n 2, 1) := by decide +kernel
theorem dX1_number_3 : decode cX1_number 3 = .ok (.bipush 24, 2) := by decide +kernel
theorem dX1_number_5 : decode cX1_number 5 = .ok (.if_icmp .ge 27, 3) := by decide +kernel
theorem dX1_number_8 : decode cX1_number 8 = .ok (.iload_n 1, 1) := by decide +kernel
theorem dX1_number_9 : decode cX1_number 9 = .ok (.iload_n 2, 1) := by decide +kernel
theorem dX1_number_10 : decode cX1_number 10 = .ok (.invokestatic 52, 3) := by decide +kernel
theorem dX1_number_13 : decode cX1_number 13 = .ok (.ifCond .eq 13, 3) := by decide +kernel
theorem dX1_number_16 : decode cX1_number 16 = .ok (.aload_n 0, 1) := by decide +kernel
theorem dX1_number_17 : decode cX1_number 17 = .ok (.getfield 9, 3) := by decide +kernel
theorem dX1_number_20 : decode cX1_number 20 = .ok (.iload_n 2, 1) := by decide +kernel
theorem dX1_number_21 : decode cX1_number 21 = .ok (.aload_n 0, 1) := by decide +kernel
theorem dX1_number_22 : decode cX1_number 22 = .ok (.getfield 28, 3) := by decide +kernel
theorem dX1_number_25 : decode cX1_number 25 = .ok (.iastore, 1) := by decide +kernel
theorem dX1_number_26 : decode cX1_number 26 = .ok (.iinc 2 1, 3) := by decide +kernel
theorem dX1_number_29 : decode cX1_number 29 = .ok (.goto (-27), 3) := by decide +kernel
theorem dX1_number_32 : decode cX1_number 32 = .ok (.return_, 1) := by decide +kernel
theorem dX2_init_0 : decode cX2_init 0 = .ok (.aload_n 0, 1) := by decide +kernel
theorem dX2_init_1 : decode cX2_init 1 = .ok (.invokespecial 3, 3) := by decide +kernel
theorem dX2_init_4 : decode cX2_init 4 = .ok (.aload_n 0, 1) := by decide +kernel
theorem dX2_init_5 : decode cX2_init 5 = .ok (.bipush 20, 2) := by decide +kernel
theorem dX2_init_7 : decode cX2_init 7 = .ok (.newarray .int, 2) := by decide +kernel
theorem dX2_init_9 : decode cX2_init 9 = .ok (.putfield 9, 3) := by decide +kernel
theorem dX2_init_12 : decode cX2_init 12 = .ok (.return_, 1) := by decide +kernel
set_option maxRecDepth 20000 in
theorem ggX2_copyFrom_X4_copyRow : GoodIn wsX2_copyFrom wsX4_copyRow := goodIn_r _ [5, 6, 7, 8, 9, 10, 11, 12, 13] (by decide +kernel) (by decide +kernel)
set_option maxRecDepth 20000 in
theorem gX2_copyFrom_X4_copyRow_n15 : GoodIn wsX2_copyFrom (wsX4_copyRow) := ggX2_copyFrom_X4_copyRow
theorem dX2_copyFrom_0 : decode cX2_copyFrom 0 = .ok (.aload_n 1, 1) := by decide +kernel
theorem dX2_copyFrom_1 : decode cX2_copyFrom 1 = .ok (.getfield 9, 3) := by decide +kernel
theorem dX2_copyFrom_4 : decode cX2_copyFrom 4 = .ok (.aload_n 0, 1) := by decide +kernel
theorem dX2_copyFrom_5 : decode cX2_copyFrom 5 = .ok (.getfield 9, 3) := by decide +kernel
theorem dX2_copyFrom_8 : decode cX2_copyFrom 8 = .ok (.invokestatic 15, 3) := by decide +kernel
theorem dX2_copyFrom_11 : decode cX2_copyFrom 11 = .ok (.aload_n 0, 1) := by decide +kernel
theorem dX2_copyFrom_12 : decode cX2_copyFrom 12 = .ok (.aload_n 1, 1) := by decide +kernel
theorem dX2_copyFrom_13 : decode cX2_copyFrom 13 = .ok (.getfield 19, 3) := by decide +kernel
theorem dX2_copyFrom_16 : decode cX2_copyFrom 16 = .ok (.putfield 19, 3) := by decide +kernel
theorem dX2_copyFrom_19 : decode cX2_copyFrom 19 = .ok (.return_, 1) := by decide +kernel
set_option maxRecDepth 20000 in
theorem ggX2_issue_X2_removeOldest : GoodIn wsX2_issue wsX2_removeOldest := goodIn_r _ [7, 2, 8, 9, 10, 11, 1, 12, 13, 14, 15, 19, 20] (by decide +kernel) (by decide +kernel)
set_option maxRecDepth 20000 in
theorem gX2_issue_X2_removeOldest : GoodIn wsX2_issue (wsV RX2 23 RX2 yX2_removeOldest wsX2_removeOldest) := goodIn_app (goodIn_of _ (by decide +kernel)) ggX2_issue_X2_removeOldest
set_option maxRecDepth 20000 in
theorem ggX2_issue_X4_within : GoodIn wsX2_issue wsX4_within := goodIn_r _ [18] (by decide +kernel) (by decide +kernel)
set_option maxRecDepth 20000 in
theorem gX2_issue_X4_within_n27 : GoodIn wsX2_issue (wsX4_within) := ggX2_issue_X4_within
theorem dX2_issue_0 : decode cX2_issue 0 = .ok (.aload_n 0, 1) := by decide +kernel
theorem dX2_issue_1 : decode cX2_issue 1 = .ok (.getfield 19, 3) := by decide +kernel
theorem dX2_issue_4 : decode cX2_issue 4 = .ok (.bipush 20, 2) := by decide +kernel
theorem dX2_issue_6 : decode cX2_issue 6 = .ok (.if_icmp .lt 8, 3) := by decide +kernel
theorem dX2_issue_9 : decode cX2_issue 9 = .ok (.aload_n 0, 1) := by decide +kernel
theorem dX2_issue_10 : decode cX2_issue 10 = .ok (.invokevirtual 23, 3) := by decide +kernel
theorem dX2_issue_13 : decode cX2_issue 13 = .ok (.pop, 1) := by decide +kernel
theorem dX2_issue_14 : decode cX2_issue 14 = .ok (.aload_n 0, 1) := by decide +kernel
theorem dX2_issue_15 : decode cX2_issue 15 = .ok (.getfield 19, 3) := by decide +kernel
theorem dX2_issue_18 : decode cX2_issue 18 = .ok (.bipush 20, 2) := by decide +kernel
theorem dX2_issue_20 : decode cX2_issue 20 = .ok (.invokestatic 27, 3) := by decide +kernel
theorem dX2_issue_23 : decode cX2_issue 23 = .ok (.ifCond .eq 23, 3) := by decide +kernel
theorem dX2_issue_26 : decode cX2_issue 26 = .ok (.aload_n 0, 1) := by decide +kernel
theorem dX2_issue_27 : decode cX2_issue 27 = .ok (.getfield 9, 3) := by decide +kernel
theorem dX2_issue_30 : decode cX2_issue 30 = .ok (.aload_n 0, 1) := by decide +kernel
theorem dX2_issue_31 : decode cX2_issue 31 = .ok (.getfield 19, 3) := by decide +kernel
theorem dX2_issue_34 : decode cX2_issue 34 = .ok (.iload_n 1, 1) := by decide +kernel
theorem dX2_issue_35 : decode cX2_issue 35 = .ok (.iastore, 1) := by decide +kernel
theorem dX2_issue_36 : decode cX2_issue 36 = .ok (.aload_n 0, 1) := by decide +kernel
theorem dX2_issue_37 : decode cX2_issue 37 = .ok (.dup, 1) := by decide +kernel
theorem dX2_issue_38 : decode cX2_issue 38 = .ok (.getfield 19, 3) := by decide +kernel
theorem dX2_issue_41 : decode cX2_issue 41 = .ok (.iconst 1, 1) := by decide +kernel
theorem dX2_issue_42 : decode cX2_issue 42 = .ok (.iadd, 1) := by decide +kernel
theorem dX2_issue_43 : decode cX2_issue 43 = .ok (.putfield 19, 3) := by decide +kernel
theorem dX2_issue_46 : decode cX2_issue 46 = .ok (.return_, 1) := by decide +kernel
theorem dX2_removeOldest_0 : decode cX2_removeOldest 0 = .ok (.aload_n 0, 1) := by decide +kernel
theorem dX2_removeOldest_1 : decode cX2_removeOldest 1 = .ok (.getfield 9, 3) := by decide +kernel
theorem dX2_removeOldest_4 : decode cX2_removeOldest 4 = .ok (.iconst 0, 1) := by decide +kernel
theorem dX2_removeOldest_5 : decode cX2_removeOldest 5 = .ok (.iaload, 1) := by decide +kernel
theorem dX2_removeOldest_6 : decode cX2_removeOldest 6 = .ok (.istore_n 1, 1) := by decide +kernel
theorem dX2_removeOldest_7 : decode cX2_removeOldest 7 = .ok (.aload_n 0, 1) := by decide +kernel
theorem dX2_removeOldest_8 : decode cX2_removeOldest 8 = .ok (.getfield 9, 3) := by decide +kernel
theorem dX2_removeOldest_11 : decode cX2_removeOldest 11 = .ok (.iconst 1, 1) := by decide +kernel
theorem dX2_removeOldest_12 : decode cX2_removeOldest 12 = .ok (.aload_n 0, 1) := by decide +kernel
theorem dX2_removeOldest_13 : decode cX2_removeOldest 13 = .ok (.getfield 9, 3) := by decide +kernel
theorem dX2_removeOldest_16 : decode cX2_removeOldest 16 = .ok (.iconst 0, 1) := by decide +kernel
theorem dX2_removeOldest_17 : decode cX2_removeOldest 17 = .ok (.bipush 19, 2) := by decide +kernel
theorem dX2_removeOldest_19 : decode cX2_removeOldest 19 = .ok (.invokestatic 31, 3) := by decide +kernel
theorem dX2_removeOldest_22 : decode cX2_removeOldest 22 = .ok (.aload_n 0, 1) := by decide +kernel
theorem dX2_removeOldest_23 : decode cX2_removeOldest 23 = .ok (.aload_n 0, 1) := by decide +kernel
theorem dX2_removeOldest_24 : decode cX2_removeOldest 24 = .ok (.getfield 19, 3) := by decide +kernel
theorem dX2_removeOldest_27 : decode cX2_removeOldest 27 = .ok (.iconst 1, 1) := by decide +kernel
theorem dX2_removeOldest_28 : decode cX2_removeOldest 28 = .ok (.isub, 1) := by decide +kernel
theorem dX2_removeOldest_29 : decode cX2_removeOldest 29 = .ok (.iconst 0, 1) := by decide +kernel
theorem dX2_removeOldest_30 : decode cX2_removeOldest 30 = .ok (.invokestatic 37, 3) := by decide +kernel
theorem dX2_removeOldest_33 : decode cX2_removeOldest 33 = .ok (.putfield 19, 3) := by decide +kernel
theorem dX2_removeOldest_36 : decode cX2_removeOldest 36 = .ok (.iload_n 1, 1) := by decide +kernel
theorem dX2_removeOldest_37 : decode cX2_removeOldest 37 = .ok (.ireturn, 1) := by decide +kernel
set_option maxRecDepth 20000 in
theorem ggX3_init_X4_emptyRow : GoodIn wsX3_init wsX4_emptyRow := goodIn_r _ [16, 17, 18, 19, 20, 21, 22, 23, 24, 25] (by decide +kernel) (by decide +kernel)
set_option maxRecDepth 20000 in
theorem gX3_init_X4_emptyRow_n9 : GoodIn wsX3_init (wsX4_emptyRow) := ggX3_init_X4_emptyRow
set_option maxRecDepth 20000 in
theorem ggX3_init_X2_init : GoodIn wsX3_init wsX2_init := goodIn_r _ [27, 28, 2, 3, 21, 29, 39, 40] (by decide +kernel) (by decide +kernel)
set_option maxRecDepth 20000 in
theorem gX3_init_X2_init_n36 : GoodIn wsX3_init (wsX2_init) := ggX3_init_X2_init
theorem dX3_init_0 : decode cX3_init 0 = .ok (.aload_n 0, 1) := by decide +kernel
theorem dX3_init_1 : decode cX3_init 1 = .ok (.invokespecial 3, 3) := by decide +kernel
theorem dX3_init_4 : decode cX3_init 4 = .ok (.aload_n 0, 1) := by decide +kernel
theorem dX3_init_5 : decode cX3_init 5 = .ok (.bipush 24, 2) := by decide +kernel
theorem dX3_init_7 : decode cX3_init 7 = .ok (.invokestatic 9, 3) := by decide +kernel
theorem dX3_init_10 : decode cX3_init 10 = .ok (.putfield 13, 3) := by decide +kernel
theorem dX3_init_13 : decode cX3_init 13 = .ok (.aload_n 0, 1) := by decide +kernel
theorem dX3_init_14 : decode cX3_init 14 = .ok (.bipush 72, 2) := by decide +kernel
theorem dX3_init_16 : decode cX3_init 16 = .ok (.invokestatic 9, 3) := by decide +kernel
theorem dX3_init_19 : decode cX3_init 19 = .ok (.putfield 19, 3) := by decide +kernel
theorem dX3_init_22 : decode cX3_init 22 = .ok (.aload_n 0, 1) := by decide +kernel
theorem dX3_init_23 : decode cX3_init 23 = .ok (.sipush 144, 3) := by decide +kernel
theorem dX3_init_26 : decode cX3_init 26 = .ok (.invokestatic 9, 3) := by decide +kernel
theorem dX3_init_29 : decode cX3_init 29 = .ok (.putfield 22, 3) := by decide +kernel
theorem dX3_init_32 : decode cX3_init 32 = .ok (.aload_n 0, 1) := by decide +kernel
theorem dX3_init_33 : decode cX3_init 33 = .ok (.sipush 144, 3) := by decide +kernel
theorem dX3_init_36 : decode cX3_init 36 = .ok (.invokestatic 9, 3) := by decide +kernel
theorem dX3_init_39 : decode cX3_init 39 = .ok (.putfield 25, 3) := by decide +kernel
theorem dX3_init_42 : decode cX3_init 42 = .ok (.aload_n 0, 1) := by decide +kernel
theorem dX3_init_43 : decode cX3_init 43 = .ok (.bipush 24, 2) := by decide +kernel
theorem dX3_init_45 : decode cX3_init 45 = .ok (.invokestatic 9, 3) := by decide +kernel
theorem dX3_init_48 : decode cX3_init 48 = .ok (.putfield 28, 3) := by decide +kernel
theorem dX3_init_51 : decode cX3_init 51 = .ok (.aload_n 0, 1) := by decide +kernel
theorem dX3_init_52 : decode cX3_init 52 = .ok (.bipush 6, 2) := by decide +kernel
theorem dX3_init_54 : decode cX3_init 54 = .ok (.invokestatic 9, 3) := by decide +kernel
theorem dX3_init_57 : decode cX3_init 57 = .ok (.putfield 31, 3) := by decide +kernel
theorem dX3_init_60 : decode cX3_init 60 = .ok (.aload_n 0, 1) := by decide +kernel
theorem dX3_init_61 : decode cX3_init 61 = .ok (.new 34, 3) := by decide +kernel
theorem dX3_init_64 : decode cX3_init 64 = .ok (.dup, 1) := by decide +kernel
theorem dX3_init_65 : decode cX3_init 65 = .ok (.invokespecial 36, 3) := by decide +kernel
theorem dX3_init_68 : decode cX3_init 68 = .ok (.putfield 37, 3) := by decide +kernel
theorem dX3_init_71 : decode cX3_init 71 = .ok (.return_, 1) := by decide +kernel
set_option maxRecDepth 20000 in
theorem ggX3_copyFrom_X4_copyRow : GoodIn wsX3_copyFrom wsX4_copyRow := goodIn_r _ [12, 13, 14, 15, 16, 17, 18, 19, 20] (by decide +kernel) (by decide +kernel)
set_option maxRecDepth 20000 in
theorem gX3_copyFrom_X4_copyRow_n41 : GoodIn wsX3_copyFrom (wsX4_copyRow) := ggX3_copyFrom_X4_copyRow
set_option maxRecDepth 20000 in
theorem ggX3_copyFrom_X2_copyFrom : GoodIn wsX3_copyFrom wsX2_copyFrom := goodIn_r _ [25, 26, 27, 10, 11, 12, 13, 14, 15, 16, 17, 18, 19, 20, 37, 38] (by decide +kernel) (by decide +kernel)
set_option maxRecDepth 20000 in
theorem gX3_copyFrom_X2_copyFrom : GoodIn wsX3_copyFrom (wsV RX3 45 RX2 yX2_copyFrom wsX2_copyFrom) := goodIn_app (goodIn_of _ (by decide +kernel)) ggX3_copyFrom_X2_copyFrom
theorem dX3_copyFrom_0 : decode cX3_copyFrom 0 = .ok (.aload_n 1, 1) := by decide +kernel
theorem dX3_copyFrom_1 : decode cX3_copyFrom 1 = .ok (.getfield 13, 3) := by decide +kernel
theorem dX3_copyFrom_4 : decode cX3_copyFrom 4 = .ok (.aload_n 0, 1) := by decide +kernel
theorem dX3_copyFrom_5 : decode cX3_copyFrom 5 = .ok (.getfield 13, 3) := by decide +kernel
theorem dX3_copyFrom_8 : decode cX3_copyFrom 8 = .ok (.invokestatic 41, 3) := by decide +kernel
theorem dX3_copyFrom_11 : decode cX3_copyFrom 11 = .ok (.aload_n 1, 1) := by decide +kernel
theorem dX3_copyFrom_12 : decode cX3_copyFrom 12 = .ok (.getfield 19, 3) := by decide +kernel
theorem dX3_copyFrom_15 : decode cX3_copyFrom 15 = .ok (.aload_n 0, 1) := by decide +kernel
theorem dX3_copyFrom_16 : decode cX3_copyFrom 16 = .ok (.getfield 19, 3) := by decide +kernel
theorem dX3_copyFrom_19 : decode cX3_copyFrom 19 = .ok (.invokestatic 41, 3) := by decide +kernel
theorem dX3_copyFrom_22 : decode cX3_copyFrom 22 = .ok (.aload_n 1, 1) := by decide +kernel
theorem dX3_copyFrom_23 : decode cX3_copyFrom 23 = .ok (.getfield 22, 3) := by decide +kernel
theorem dX3_copyFrom_26 : decode cX3_copyFrom 26 = .ok (.aload_n 0, 1) := by decide +kernel
theorem dX3_copyFrom_27 : decode cX3_copyFrom 27 = .ok (.getfield 22, 3) := by decide +kernel
theorem dX3_copyFrom_30 : decode cX3_copyFrom 30 = .ok (.invokestatic 41, 3) := by decide +kernel
theorem dX3_copyFrom_33 : decode cX3_copyFrom 33 = .ok (.aload_n 1, 1) := by decide +kernel
theorem dX3_copyFrom_34 : decode cX3_copyFrom 34 = .ok (.getfield 25, 3) := by decide +kernel
theorem dX3_copyFrom_37 : decode cX3_copyFrom 37 = .ok (.aload_n 0, 1) := by decide +kernel
theorem dX3_copyFrom_38 : decode cX3_copyFrom 38 = .ok (.getfield 25, 3) := by decide +kernel
theorem dX3_copyFrom_41 : decode cX3_copyFrom 41 = .ok (.invokestatic 41, 3) := by decide +kernel
theorem dX3_copyFrom_44 : decode cX3_copyFrom 44 = .ok (.aload_n 1, 1) := by decide +kernel
theorem dX3_copyFrom_45 : decode cX3_copyFrom 45 = .ok (.getfield 28, 3) := by decide +kernel
theorem dX3_copyFrom_48 : decode cX3_copyFrom 48 = .ok (.aload_n 0, 1) := by decide +kernel
theorem dX3_copyFrom_49 : decode cX3_copyFrom 49 = .ok (.getfield 28, 3) := by decide +kernel
theorem dX3_copyFrom_52 : decode cX3_copyFrom 52 = .ok (.invokestatic 41, 3) := by decide +kernel
theorem dX3_copyFrom_55 : decode cX3_copyFrom 55 = .ok (.aload_n 1, 1) := by decide +kernel
theorem dX3_copyFrom_56 : decode cX3_copyFrom 56 = .ok (.getfield 31, 3) := by decide +kernel
theorem dX3_copyFrom_59 : decode cX3_copyFrom 59 = .ok (.aload_n 0, 1) := by decide +kernel
theorem dX3_copyFrom_60 : decode cX3_copyFrom 60 = .ok (.getfield 31, 3) := by decide +kernel
theorem dX3_copyFrom_63 : decode cX3_copyFrom 63 = .ok (.invokestatic 41, 3) := by decide +kernel
theorem dX3_copyFrom_66 : decode cX3_copyFrom 66 = .ok (.aload_n 0, 1) := by decide +kernel
theorem dX3_copyFrom_67 : decode cX3_copyFrom 67 = .ok (.getfield 37, 3) := by decide +kernel
theorem dX3_copyFrom_70 : decode cX3_copyFrom 70 = .ok (.aload_n 1, 1) := by decide +kernel
theorem dX3_copyFrom_71 : decode cX3_copyFrom 71 = .ok (.getfield 37, 3) := by decide +kernel
theorem dX3_copyFrom_74 : decode cX3_copyFrom 74 = .ok (.invokevirtual 45, 3) := by decide +kernel
theorem dX3_copyFrom_77 : decode cX3_copyFrom 77 = .ok (.aload_n 0, 1) := by decide +kernel
theorem dX3_copyFrom_78 : decode cX3_copyFrom 78 = .ok (.aload_n 1, 1) := by decide +kernel
theorem dX3_copyFrom_79 : decode cX3_copyFrom 79 = .ok (.getfield 49, 3) := by decide +kernel
theorem dX3_copyFrom_82 : decode cX3_copyFrom 82 = .ok (.putfield 49, 3) := by decide +kernel
theorem dX3_copyFrom_85 : decode cX3_copyFrom 85 = .ok (.aload_n 0, 1) := by decide +kernel
theorem dX3_copyFrom_86 : decode cX3_copyFrom 86 = .ok (.aload_n 1, 1) := by decide +kernel
theorem dX3_copyFrom_87 : decode cX3_copyFrom 87 = .ok (.getfield 53, 3) := by decide +kernel
theorem dX3_copyFrom_90 : decode cX3_copyFrom 90 = .ok (.putfield 53, 3) := by decide +kernel
theorem dX3_copyFrom_93 : decode cX3_copyFrom 93 = .ok (.return_, 1) := by decide +kernel
set_option maxRecDepth 20000 in
theorem ggX3_isAllocated_X4_within : GoodIn wsX3_isAllocated wsX4_within := goodIn_r _ [4] (by decide +kernel) (by decide +kernel)
set_option maxRecDepth 20000 in
theorem gX3_isAllocated_X4_within_n56 : GoodIn wsX3_isAllocated (wsX4_within) := ggX3_isAllocated_X4_within
theorem dX3_isAllocated_0 : decode cX3_isAllocated 0 = .ok (.iload_n 1, 1) := by decide +kernel
theorem dX3_isAllocated_1 : decode cX3_isAllocated 1 = .ok (.bipush 24, 2) := by decide +kernel
theorem dX3_isAllocated_3 : decode cX3_isAllocated 3 = .ok (.invokestatic 56, 3) := by decide +kernel
theorem dX3_isAllocated_6 : decode cX3_isAllocated 6 = .ok (.ifCond .eq 18, 3) := by decide +kernel
theorem dX3_isAllocated_9 : decode cX3_isAllocated 9 = .ok (.aload_n 0, 1) := by decide +kernel
theorem dX3_isAllocated_10 : decode cX3_isAllocated 10 = .ok (.getfield 13, 3) := by decide +kernel
theorem dX3_isAllocated_13 : decode cX3_isAllocated 13 = .ok (.iload_n 1, 1) := by decide +kernel
theorem dX3_isAllocated_14 : decode cX3_isAllocated 14 = .ok (.iaload, 1) := by decide +kernel
theorem dX3_isAllocated_15 : decode cX3_isAllocated 15 = .ok (.bipush (-9), 2) := by decide +kernel
theorem dX3_isAllocated_17 : decode cX3_isAllocated 17 = .ok (.if_icmp .eq 7, 3) := by decide +kernel
theorem dX3_isAllocated_20 : decode cX3_isAllocated 20 = .ok (.iconst 1, 1) := by decide +kernel
theorem dX3_isAllocated_21 : decode cX3_isAllocated 21 = .ok (.goto 4, 3) := by decide +kernel
theorem dX3_isAllocated_24 : decode cX3_isAllocated 24 = .ok (.iconst 0, 1) := by decide +kernel
theorem dX3_isAllocated_25 : decode cX3_isAllocated 25 = .ok (.ireturn, 1) := by decide +kernel
set_option maxRecDepth 20000 in
theorem ggX3_hasKind_X4_within : GoodIn wsX3_hasKind wsX4_within := goodIn_r _ [4] (by decide +kernel) (by decide +kernel)
set_option maxRecDepth 20000 in
theorem gX3_hasKind_X4_within_n56 : GoodIn wsX3_hasKind (wsX4_within) := ggX3_hasKind_X4_within
theorem dX3_hasKind_0 : decode cX3_hasKind 0 = .ok (.iload_n 1, 1) := by decide +kernel
theorem dX3_hasKind_1 : decode cX3_hasKind 1 = .ok (.bipush 24, 2) := by decide +kernel
theorem dX3_hasKind_3 : decode cX3_hasKind 3 = .ok (.invokestatic 56, 3) := by decide +kernel
theorem dX3_hasKind_6 : decode cX3_hasKind 6 = .ok (.ifCond .eq 17, 3) := by decide +kernel
theorem dX3_hasKind_9 : decode cX3_hasKind 9 = .ok (.aload_n 0, 1) := by decide +kernel
theorem dX3_hasKind_10 : decode cX3_hasKind 10 = .ok (.getfield 13, 3) := by decide +kernel
theorem dX3_hasKind_13 : decode cX3_hasKind 13 = .ok (.iload_n 1, 1) := by decide +kernel
theorem dX3_hasKind_14 : decode cX3_hasKind 14 = .ok (.iaload, 1) := by decide +kernel
theorem dX3_hasKind_15 : decode cX3_hasKind 15 = .ok (.iload_n 2, 1) := by decide +kernel
theorem dX3_hasKind_16 : decode cX3_hasKind 16 = .ok (.if_icmp .ne 7, 3) := by decide +kernel
theorem dX3_hasKind_19 : decode cX3_hasKind 19 = .ok (.iconst 1, 1) := by decide +kernel
theorem dX3_hasKind_20 : decode cX3_hasKind 20 = .ok (.goto 4, 3) := by decide +kernel
theorem dX3_hasKind_23 : decode cX3_hasKind 23 = .ok (.iconst 0, 1) := by decide +kernel
theorem dX3_hasKind_24 : decode cX3_hasKind 24 = .ok (.ireturn, 1) := by decide +kernel
set_option maxRecDepth 20000 in
theorem ggX3_isContent_X3_isAllocated : GoodIn wsX3_isContent wsX3_isAllocated := goodIn_r _ [5, 6, 7, 8, 9, 10, 11, 12, 13, 14, 15, 16, 17, 18] (by decide +kernel) (by decide +kernel)
set_option maxRecDepth 20000 in
theorem gX3_isContent_X3_isAllocated : GoodIn wsX3_isContent (wsV RX3 60 RX3 yX3_isAllocated wsX3_isAllocated) := goodIn_app (goodIn_of _ (by decide +kernel)) ggX3_isContent_X3_isAllocated
theorem dX3_isContent_0 : decode cX3_isContent 0 = .ok (.iload_n 1, 1) := by decide +kernel
theorem dX3_isContent_1 : decode cX3_isContent 1 = .ok (.bipush (-9), 2) := by decide +kernel
theorem dX3_isContent_3 : decode cX3_isContent 3 = .ok (.if_icmp .eq 11, 3) := by decide +kernel
theorem dX3_isContent_6 : decode cX3_isContent 6 = .ok (.aload_n 0, 1) := by decide +kernel
theorem dX3_isContent_7 : decode cX3_isContent 7 = .ok (.iload_n 1, 1) := by decide +kernel
theorem dX3_isContent_8 : decode cX3_isContent 8 = .ok (.invokevirtual 60, 3) := by decide +kernel
theorem dX3_isContent_11 : decode cX3_isContent 11 = .ok (.ifCond .eq 7, 3) := by decide +kernel
theorem dX3_isContent_14 : decode cX3_isContent 14 = .ok (.iconst 1, 1) := by decide +kernel
theorem dX3_isContent_15 : decode cX3_isContent 15 = .ok (.goto 4, 3) := by decide +kernel
theorem dX3_isContent_18 : decode cX3_isContent 18 = .ok (.iconst 0, 1) := by decide +kernel
theorem dX3_isContent_19 : decode cX3_isContent 19 = .ok (.ireturn, 1) := by decide +kernel
set_option maxRecDepth 20000 in
theorem ggX3_isTableAndKey_X3_hasKind : GoodIn wsX3_isTableAndKey wsX3_hasKind := goodIn_r _ [5, 6, 7, 8, 9, 14, 15, 16, 17, 18, 19, 20, 21, 22] (by decide +kernel) (by decide +kernel)
set_option maxRecDepth 20000 in
theorem gX3_isTableAndKey_X3_hasKind : GoodIn wsX3_isTableAndKey (wsV RX3 64 RX3 yX3_hasKind wsX3_hasKind) := goodIn_app (goodIn_of _ (by decide +kernel)) ggX3_isTableAndKey_X3_hasKind
set_option maxRecDepth 20000 in
theorem ggX3_isTableAndKey_X3_isAllocated : GoodIn wsX3_isTableAndKey wsX3_isAllocated := goodIn_r _ [13, 6, 7, 8, 9, 14, 15, 16, 17, 18, 19, 20, 21, 22] (by decide +kernel) (by decide +kernel)
set_option maxRecDepth 20000 in
theorem gX3_isTableAndKey_X3_isAllocated : GoodIn wsX3_isTableAndKey (wsV RX3 60 RX3 yX3_isAllocated wsX3_isAllocated) := goodIn_app (goodIn_of _ (by decide +kernel)) ggX3_isTableAndKey_X3_isAllocated
theorem dX3_isTableAndKey_0 : decode cX3_isTableAndKey 0 = .ok (.aload_n 0, 1) := by decide +kernel
theorem dX3_isTableAndKey_1 : decode cX3_isTableAndKey 1 = .ok (.iload_n 1, 1) := by decide +kernel
theorem dX3_isTableAndKey_2 : decode cX3_isTableAndKey 2 = .ok (.iconst 1, 1) := by decide +kernel
theorem dX3_isTableAndKey_3 : decode cX3_isTableAndKey 3 = .ok (.invokevirtual 64, 3) := by decide +kernel
theorem dX3_isTableAndKey_6 : decode cX3_isTableAndKey 6 = .ok (.ifCond .eq 15, 3) := by decide +kernel
theorem dX3_isTableAndKey_9 : decode cX3_isTableAndKey 9 = .ok (.aload_n 0, 1) := by decide +kernel
theorem dX3_isTableAndKey_10 : decode cX3_isTableAndKey 10 = .ok (.iload_n 2, 1) := by decide +kernel
theorem dX3_isTableAndKey_11 : decode cX3_isTableAndKey 11 = .ok (.invokevirtual 60, 3) := by decide +kernel
theorem dX3_isTableAndKey_14 : decode cX3_isTableAndKey 14 = .ok (.ifCond .eq 7, 3) := by decide +kernel
theorem dX3_isTableAndKey_17 : decode cX3_isTableAndKey 17 = .ok (.iconst 1, 1) := by decide +kernel
theorem dX3_isTableAndKey_18 : decode cX3_isTableAndKey 18 = .ok (.goto 4, 3) := by decide +kernel
theorem dX3_isTableAndKey_21 : decode cX3_isTableAndKey 21 = .ok (.iconst 0, 1) := by decide +kernel
theorem dX3_isTableAndKey_22 : decode cX3_isTableAndKey 22 = .ok (.ireturn, 1) := by decide +kernel
theorem dX3_smallestFree_0 : decode cX3_smallestFree 0 = .ok (.iconst 0, 1) := by decide +kernel
theorem dX3_smallestFree_1 : decode cX3_smallestFree 1 = .ok (.istore_n 1, 1) := by decide +kernel
theorem dX3_smallestFree_2 : decode cX3_smallestFree 2 = .ok (.iload_n 1, 1) := by decide +kernel
theorem dX3_smallestFree_3 : decode cX3_smallestFree 3 = .ok (.bipush 24, 2) := by decide +kernel
theorem dX3_smallestFree_5 : decode cX3_smallestFree 5 = .ok (.if_icmp .ge 22, 3) := by decide +kernel
theorem dX3_smallestFree_8 : decode cX3_smallestFree 8 = .ok (.aload_n 0, 1) := by decide +kernel
theorem dX3_smallestFree_9 : decode cX3_smallestFree 9 = .ok (.getfield 13, 3) := by decide +kernel
theorem dX3_smallestFree_12 : decode cX3_smallestFree 12 = .ok (.iload_n 1, 1) := by decide +kernel
theorem dX3_smallestFree_13 : decode cX3_smallestFree 13 = .ok (.iaload, 1) := by decide +kernel
theorem dX3_smallestFree_14 : decode cX3_smallestFree 14 = .ok (.bipush (-9), 2) := by decide +kernel
theorem dX3_smallestFree_16 : decode cX3_smallestFree 16 = .ok (.if_icmp .ne 5, 3) := by decide +kernel
theorem dX3_smallestFree_19 : decode cX3_smallestFree 19 = .ok (.iload_n 1, 1) := by decide +kernel
theorem dX3_smallestFree_20 : decode cX3_smallestFree 20 = .ok (.ireturn, 1) := by decide +kernel
theorem dX3_smallestFree_21 : decode cX3_smallestFree 21 = .ok (.iinc 1 1, 3) := by decide +kernel
theorem dX3_smallestFree_24 : decode cX3_smallestFree 24 = .ok (.goto (-22), 3) := by decide +kernel
theorem dX3_smallestFree_27 : decode cX3_smallestFree 27 = .ok (.bipush (-9), 2) := by decide +kernel
theorem dX3_smallestFree_29 : decode cX3_smallestFree 29 = .ok (.ireturn, 1) := by decide +kernel
set_option maxRecDepth 20000 in
theorem ggX3_occupy_X4_within : GoodIn wsX3_occupy wsX4_within := goodIn_r _ [5] (by decide +kernel) (by decide +kernel)
set_option maxRecDepth 20000 in
theorem gX3_occupy_X4_within_n56 : GoodIn wsX3_occupy (wsX4_within) := ggX3_occupy_X4_within
theorem dX3_occupy_0 : decode cX3_occupy 0 = .ok (.iload_n 1, 1) := by decide +kernel
theorem dX3_occupy_1 : decode cX3_occupy 1 = .ok (.bipush 24, 2) := by decide +kernel
theorem dX3_occupy_3 : decode cX3_occupy 3 = .ok (.invokestatic 56, 3) := by decide +kernel
theorem dX3_occupy_6 : decode cX3_occupy 6 = .ok (.ifCond .eq 17, 3) := by decide +kernel
theorem dX3_occupy_9 : decode cX3_occupy 9 = .ok (.aload_n 0, 1) := by decide +kernel
theorem dX3_occupy_10 : decode cX3_occupy 10 = .ok (.getfield 13, 3) := by decide +kernel
theorem dX3_occupy_13 : decode cX3_occupy 13 = .ok (.iload_n 1, 1) := by decide +kernel
theorem dX3_occupy_14 : decode cX3_occupy 14 = .ok (.iload_n 2, 1) := by decide +kernel
theorem dX3_occupy_15 : decode cX3_occupy 15 = .ok (.iastore, 1) := by decide +kernel
theorem dX3_occupy_16 : decode cX3_occupy 16 = .ok (.aload_n 0, 1) := by decide +kernel
theorem dX3_occupy_17 : decode cX3_occupy 17 = .ok (.getfield 28, 3) := by decide +kernel
theorem dX3_occupy_20 : decode cX3_occupy 20 = .ok (.iload_n 1, 1) := by decide +kernel
theorem dX3_occupy_21 : decode cX3_occupy 21 = .ok (.iload_n 3, 1) := by decide +kernel
theorem dX3_occupy_22 : decode cX3_occupy 22 = .ok (.iastore, 1) := by decide +kernel
theorem dX3_occupy_23 : decode cX3_occupy 23 = .ok (.return_, 1) := by decide +kernel
set_option maxRecDepth 20000 in
theorem ggX3_allocated_X4_setOf : GoodIn wsX3_allocated wsX4_setOf := goodIn_r _ [4] (by decide +kernel) (by decide +kernel)
set_option maxRecDepth 20000 in
theorem gX3_allocated_X4_setOf_n67 : GoodIn wsX3_allocated (wsX4_setOf) := ggX3_allocated_X4_setOf
theorem dX3_allocated_0 : decode cX3_allocated 0 = .ok (.iconst 0, 1) := by decide +kernel
theorem dX3_allocated_1 : decode cX3_allocated 1 = .ok (.istore_n 1, 1) := by decide +kernel
theorem dX3_allocated_2 : decode cX3_allocated 2 = .ok (.iconst 0, 1) := by decide +kernel
theorem dX3_allocated_3 : decode cX3_allocated 3 = .ok (.istore_n 2, 1) := by decide +kernel
theorem dX3_allocated_4 : decode cX3_allocated 4 = .ok (.iload_n 2, 1) := by decide +kernel
theorem dX3_allocated_5 : decode cX3_allocated 5 = .ok (.bipush 24, 2) := by decide +kernel
theorem dX3_allocated_7 : decode cX3_allocated 7 = .ok (.if_icmp .ge 27, 3) := by decide +kernel
theorem dX3_allocated_10 : decode cX3_allocated 10 = .ok (.aload_n 0, 1) := by decide +kernel
theorem dX3_allocated_11 : decode cX3_allocated 11 = .ok (.getfield 13, 3) := by decide +kernel
theorem dX3_allocated_14 : decode cX3_allocated 14 = .ok (.iload_n 2, 1) := by decide +kernel
theorem dX3_allocated_15 : decode cX3_allocated 15 = .ok (.iaload, 1) := by decide +kernel
theorem dX3_allocated_16 : decode cX3_allocated 16 = .ok (.bipush (-9), 2) := by decide +kernel
theorem dX3_allocated_18 : decode cX3_allocated 18 = .ok (.if_icmp .eq 10, 3) := by decide +kernel
theorem dX3_allocated_21 : decode cX3_allocated 21 = .ok (.iload_n 1, 1) := by decide +kernel
theorem dX3_allocated_22 : decode cX3_allocated 22 = .ok (.iload_n 2, 1) := by decide +kernel
theorem dX3_allocated_23 : decode cX3_allocated 23 = .ok (.invokestatic 67, 3) := by decide +kernel
theorem dX3_allocated_26 : decode cX3_allocated 26 = .ok (.ior, 1) := by decide +kernel
theorem dX3_allocated_27 : decode cX3_allocated 27 = .ok (.istore_n 1, 1) := by decide +kernel
theorem dX3_allocated_28 : decode cX3_allocated 28 = .ok (.iinc 2 1, 3) := by decide +kernel
theorem dX3_allocated_31 : decode cX3_allocated 31 = .ok (.goto (-27), 3) := by decide +kernel
theorem dX3_allocated_34 : decode cX3_allocated 34 = .ok (.iload_n 1, 1) := by decide +kernel
theorem dX3_allocated_35 : decode cX3_allocated 35 = .ok (.ireturn, 1) := by decide +kernel
set_option maxRecDepth 20000 in
theorem ggX3_rootObjects_X4_setOf : GoodIn wsX3_rootObjects wsX4_setOf := goodIn_r _ [4] (by decide +kernel) (by decide +kernel)
set_option maxRecDepth 20000 in
theorem gX3_rootObjects_X4_setOf_n67 : GoodIn wsX3_rootObjects (wsX4_setOf) := ggX3_rootObjects_X4_setOf
theorem dX3_rootObjects_0 : decode cX3_rootObjects 0 = .ok (.iconst 0, 1) := by decide +kernel
theorem dX3_rootObjects_1 : decode cX3_rootObjects 1 = .ok (.istore_n 1, 1) := by decide +kernel
theorem dX3_rootObjects_2 : decode cX3_rootObjects 2 = .ok (.iconst 0, 1) := by decide +kernel
theorem dX3_rootObjects_3 : decode cX3_rootObjects 3 = .ok (.istore_n 2, 1) := by decide +kernel
theorem dX3_rootObjects_4 : decode cX3_rootObjects 4 = .ok (.iload_n 2, 1) := by decide +kernel
theorem dX3_rootObjects_5 : decode cX3_rootObjects 5 = .ok (.bipush 6, 2) := by decide +kernel
theorem dX3_rootObjects_7 : decode cX3_rootObjects 7 = .ok (.if_icmp .ge 21, 3) := by decide +kernel
theorem dX3_rootObjects_10 : decode cX3_rootObjects 10 = .ok (.iload_n 1, 1) := by decide +kernel
theorem dX3_rootObjects_11 : decode cX3_rootObjects 11 = .ok (.aload_n 0, 1) := by decide +kernel
theorem dX3_rootObjects_12 : decode cX3_rootObjects 12 = .ok (.getfield 31, 3) := by decide +kernel
theorem dX3_rootObjects_15 : decode cX3_rootObjects 15 = .ok (.iload_n 2, 1) := by decide +kernel
theorem dX3_rootObjects_16 : decode cX3_rootObjects 16 = .ok (.iaload, 1) := by decide +kernel
theorem dX3_rootObjects_17 : decode cX3_rootObjects 17 = .ok (.invokestatic 67, 3) := by decide +kernel
theorem dX3_rootObjects_20 : decode cX3_rootObjects 20 = .ok (.ior, 1) := by decide +kernel
theorem dX3_rootObjects_21 : decode cX3_rootObjects 21 = .ok (.istore_n 1, 1) := by decide +kernel
theorem dX3_rootObjects_22 : decode cX3_rootObjects 22 = .ok (.iinc 2 1, 3) := by decide +kernel
theorem dX3_rootObjects_25 : decode cX3_rootObjects 25 = .ok (.goto (-21), 3) := by decide +kernel
theorem dX3_rootObjects_28 : decode cX3_rootObjects 28 = .ok (.iload_n 1, 1) := by decide +kernel
theorem dX3_rootObjects_29 : decode cX3_rootObjects 29 = .ok (.ireturn, 1) := by decide +kernel
set_option maxRecDepth 20000 in
theorem ggX3_fieldTargets_X4_contains : GoodIn wsX3_fieldTargets wsX4_contains := goodIn_r _ [3, 4, 5, 2, 6] (by decide +kernel) (by decide +kernel)
set_option maxRecDepth 20000 in
theorem gX3_fieldTargets_X4_contains_n71 : GoodIn wsX3_fieldTargets (wsX4_contains) := ggX3_fieldTargets_X4_contains
set_option maxRecDepth 20000 in
theorem ggX3_fieldTargets_X3_fieldTargetsOf : GoodIn wsX3_fieldTargets wsX3_fieldTargetsOf := goodIn_r _ [11, 12, 5, 2, 6, 13, 14, 15, 16, 17, 18, 19, 20, 21] (by decide +kernel) (by decide +kernel)
set_option maxRecDepth 20000 in
theorem gX3_fieldTargets_X3_fieldTargetsOf : GoodIn wsX3_fieldTargets (wsV RX3 74 RX3 yX3_fieldTargetsOf wsX3_fieldTargetsOf) := goodIn_app (goodIn_of _ (by decide +kernel)) ggX3_fieldTargets_X3_fieldTargetsOf
theorem dX3_fieldTargets_0 : decode cX3_fieldTargets 0 = .ok (.iconst 0, 1) := by decide +kernel
theorem dX3_fieldTargets_1 : decode cX3_fieldTargets 1 = .ok (.istore_n 2, 1) := by decide +kernel
theorem dX3_fieldTargets_2 : decode cX3_fieldTargets 2 = .ok (.iconst 0, 1) := by decide +kernel
theorem dX3_fieldTargets_3 : decode cX3_fieldTargets 3 = .ok (.istore_n 3, 1) := by decide +kernel
theorem dX3_fieldTargets_4 : decode cX3_fieldTargets 4 = .ok (.iload_n 3, 1) := by decide +kernel
theorem dX3_fieldTargets_5 : decode cX3_fieldTargets 5 = .ok (.bipush 24, 2) := by decide +kernel
theorem dX3_fieldTargets_7 : decode cX3_fieldTargets 7 = .ok (.if_icmp .ge 25, 3) := by decide +kernel
theorem dX3_fieldTargets_10 : decode cX3_fieldTargets 10 = .ok (.iload_n 1, 1) := by decide +kernel
theorem dX3_fieldTargets_11 : decode cX3_fieldTargets 11 = .ok (.iload_n 3, 1) := by decide +kernel
theorem dX3_fieldTargets_12 : decode cX3_fieldTargets 12 = .ok (.invokestatic 71, 3) := by decide +kernel
theorem dX3_fieldTargets_15 : decode cX3_fieldTargets 15 = .ok (.ifCond .eq 11, 3) := by decide +kernel
theorem dX3_fieldTargets_18 : decode cX3_fieldTargets 18 = .ok (.iload_n 2, 1) := by decide +kernel
theorem dX3_fieldTargets_19 : decode cX3_fieldTargets 19 = .ok (.aload_n 0, 1) := by decide +kernel
theorem dX3_fieldTargets_20 : decode cX3_fieldTargets 20 = .ok (.iload_n 3, 1) := by decide +kernel
theorem dX3_fieldTargets_21 : decode cX3_fieldTargets 21 = .ok (.invokevirtual 74, 3) := by decide +kernel
theorem dX3_fieldTargets_24 : decode cX3_fieldTargets 24 = .ok (.ior, 1) := by decide +kernel
theorem dX3_fieldTargets_25 : decode cX3_fieldTargets 25 = .ok (.istore_n 2, 1) := by decide +kernel
theorem dX3_fieldTargets_26 : decode cX3_fieldTargets 26 = .ok (.iinc 3 1, 3) := by decide +kernel
theorem dX3_fieldTargets_29 : decode cX3_fieldTargets 29 = .ok (.goto (-25), 3) := by decide +kernel
theorem dX3_fieldTargets_32 : decode cX3_fieldTargets 32 = .ok (.iload_n 2, 1) := by decide +kernel
theorem dX3_fieldTargets_33 : decode cX3_fieldTargets 33 = .ok (.ireturn, 1) := by decide +kernel
set_option maxRecDepth 20000 in
theorem ggX3_fieldTargetsOf_X4_setOf : GoodIn wsX3_fieldTargetsOf wsX4_setOf := goodIn_r _ [4] (by decide +kernel) (by decide +kernel)
set_option maxRecDepth 20000 in
theorem gX3_fieldTargetsOf_X4_setOf_n67 : GoodIn wsX3_fieldTargetsOf (wsX4_setOf) := ggX3_fieldTargetsOf_X4_setOf
theorem dX3_fieldTargetsOf_0 : decode cX3_fieldTargetsOf 0 = .ok (.iconst 0, 1) := by decide +kernel
theorem dX3_fieldTargetsOf_1 : decode cX3_fieldTargetsOf 1 = .ok (.istore_n 2, 1) := by decide +kernel
theorem dX3_fieldTargetsOf_2 : decode cX3_fieldTargetsOf 2 = .ok (.iload_n 1, 1) := by decide +kernel
theorem dX3_fieldTargetsOf_3 : decode cX3_fieldTargetsOf 3 = .ok (.iconst 3, 1) := by decide +kernel
theorem dX3_fieldTargetsOf_4 : decode cX3_fieldTargetsOf 4 = .ok (.imul, 1) := by decide +kernel
theorem dX3_fieldTargetsOf_5 : decode cX3_fieldTargetsOf 5 = .ok (.istore_n 3, 1) := by decide +kernel
theorem dX3_fieldTargetsOf_6 : decode cX3_fieldTargetsOf 6 = .ok (.iload_n 3, 1) := by decide +kernel
theorem dX3_fieldTargetsOf_7 : decode cX3_fieldTargetsOf 7 = .ok (.iload_n 1, 1) := by decide +kernel
theorem dX3_fieldTargetsOf_8 : decode cX3_fieldTargetsOf 8 = .ok (.iconst 1, 1) := by decide +kernel
theorem dX3_fieldTargetsOf_9 : decode cX3_fieldTargetsOf 9 = .ok (.iadd, 1) := by decide +kernel
theorem dX3_fieldTargetsOf_10 : decode cX3_fieldTargetsOf 10 = .ok (.iconst 3, 1) := by decide +kernel
theorem dX3_fieldTargetsOf_11 : decode cX3_fieldTargetsOf 11 = .ok (.imul, 1) := by decide +kernel
theorem dX3_fieldTargetsOf_12 : decode cX3_fieldTargetsOf 12 = .ok (.if_icmp .ge 21, 3) := by decide +kernel
theorem dX3_fieldTargetsOf_15 : decode cX3_fieldTargetsOf 15 = .ok (.iload_n 2, 1) := by decide +kernel
theorem dX3_fieldTargetsOf_16 : decode cX3_fieldTargetsOf 16 = .ok (.aload_n 0, 1) := by decide +kernel
theorem dX3_fieldTargetsOf_17 : decode cX3_fieldTargetsOf 17 = .ok (.getfield 19, 3) := by decide +kernel
theorem dX3_fieldTargetsOf_20 : decode cX3_fieldTargetsOf 20 = .ok (.iload_n 3, 1) := by decide +kernel
theorem dX3_fieldTargetsOf_21 : decode cX3_fieldTargetsOf 21 = .ok (.iaload, 1) := by decide +kernel
theorem dX3_fieldTargetsOf_22 : decode cX3_fieldTargetsOf 22 = .ok (.invokestatic 67, 3) := by decide +kernel
theorem dX3_fieldTargetsOf_25 : decode cX3_fieldTargetsOf 25 = .ok (.ior, 1) := by decide +kernel
theorem dX3_fieldTargetsOf_26 : decode cX3_fieldTargetsOf 26 = .ok (.istore_n 2, 1) := by decide +kernel
theorem dX3_fieldTargetsOf_27 : decode cX3_fieldTargetsOf 27 = .ok (.iinc 3 1, 3) := by decide +kernel
theorem dX3_fieldTargetsOf_30 : decode cX3_fieldTargetsOf 30 = .ok (.goto (-24), 3) := by decide +kernel
theorem dX3_fieldTargetsOf_33 : decode cX3_fieldTargetsOf 33 = .ok (.iload_n 2, 1) := by decide +kernel
theorem dX3_fieldTargetsOf_34 : decode cX3_fieldTargetsOf 34 = .ok (.ireturn, 1) := by decide +kernel
set_option maxRecDepth 20000 in
theorem ggX3_valuesOfEntries_X4_contains : GoodIn wsX3_valuesOfEntries wsX4_contains := goodIn_r _ [3, 4, 5, 2, 6] (by decide +kernel) (by decide +kernel)
set_option maxRecDepth 20000 in
theorem gX3_valuesOfEntries_X4_contains_n71 : GoodIn wsX3_valuesOfEntries (wsX4_contains) := ggX3_valuesOfEntries_X4_contains
set_option maxRecDepth 20000 in
theorem ggX3_valuesOfEntries_X3_valuesOfEntriesOf : GoodIn wsX3_valuesOfEntries wsX3_valuesOfEntriesOf := goodIn_r _ [11, 12, 13, 1, 2, 3, 4, 5, 6, 14, 15, 16, 17, 18, 19, 20, 21, 22] (by decide +kernel) (by decide +kernel)
set_option maxRecDepth 20000 in
theorem gX3_valuesOfEntries_X3_valuesOfEntriesOf : GoodIn wsX3_valuesOfEntries (wsV RX3 77 RX3 yX3_valuesOfEntriesOf wsX3_valuesOfEntriesOf) := goodIn_app (goodIn_of _ (by decide +kernel)) ggX3_valuesOfEntries_X3_valuesOfEntriesOf
theorem dX3_valuesOfEntries_0 : decode cX3_valuesOfEntries 0 = .ok (.iconst 0, 1) := by decide +kernel
theorem dX3_valuesOfEntries_1 : decode cX3_valuesOfEntries 1 = .ok (.istore_n 3, 1) := by decide +kernel
theorem dX3_valuesOfEntries_2 : decode cX3_valuesOfEntries 2 = .ok (.iconst 0, 1) := by decide +kernel
theorem dX3_valuesOfEntries_3 : decode cX3_valuesOfEntries 3 = .ok (.istore 4, 2) := by decide +kernel
theorem dX3_valuesOfEntries_5 : decode cX3_valuesOfEntries 5 = .ok (.iload 4, 2) := by decide +kernel
theorem dX3_valuesOfEntries_7 : decode cX3_valuesOfEntries 7 = .ok (.bipush 24, 2) := by decide +kernel
theorem dX3_valuesOfEntries_9 : decode cX3_valuesOfEntries 9 = .ok (.if_icmp .ge 28, 3) := by decide +kernel
theorem dX3_valuesOfEntries_12 : decode cX3_valuesOfEntries 12 = .ok (.iload_n 1, 1) := by decide +kernel
theorem dX3_valuesOfEntries_13 : decode cX3_valuesOfEntries 13 = .ok (.iload 4, 2) := by decide +kernel
theorem dX3_valuesOfEntries_15 : decode cX3_valuesOfEntries 15 = .ok (.invokestatic 71, 3) := by decide +kernel
theorem dX3_valuesOfEntries_18 : decode cX3_valuesOfEntries 18 = .ok (.ifCond .eq 13, 3) := by decide +kernel
theorem dX3_valuesOfEntries_21 : decode cX3_valuesOfEntries 21 = .ok (.iload_n 3, 1) := by decide +kernel
theorem dX3_valuesOfEntries_22 : decode cX3_valuesOfEntries 22 = .ok (.aload_n 0, 1) := by decide +kernel
theorem dX3_valuesOfEntries_23 : decode cX3_valuesOfEntries 23 = .ok (.iload 4, 2) := by decide +kernel
theorem dX3_valuesOfEntries_25 : decode cX3_valuesOfEntries 25 = .ok (.iload_n 2, 1) := by decide +kernel
theorem dX3_valuesOfEntries_26 : decode cX3_valuesOfEntries 26 = .ok (.invokevirtual 77, 3) := by decide +kernel
theorem dX3_valuesOfEntries_29 : decode cX3_valuesOfEntries 29 = .ok (.ior, 1) := by decide +kernel
theorem dX3_valuesOfEntries_30 : decode cX3_valuesOfEntries 30 = .ok (.istore_n 3, 1) := by decide +kernel
theorem dX3_valuesOfEntries_31 : decode cX3_valuesOfEntries 31 = .ok (.iinc 4 1, 3) := by decide +kernel
theorem dX3_valuesOfEntries_34 : decode cX3_valuesOfEntries 34 = .ok (.goto (-29), 3) := by decide +kernel
theorem dX3_valuesOfEntries_37 : decode cX3_valuesOfEntries 37 = .ok (.iload_n 3, 1) := by decide +kernel
theorem dX3_valuesOfEntries_38 : decode cX3_valuesOfEntries 38 = .ok (.ireturn, 1) := by decide +kernel
set_option maxRecDepth 20000 in
theorem ggX3_valuesOfEntriesOf_X4_contains : GoodIn wsX3_valuesOfEntriesOf wsX4_contains := goodIn_r _ [5, 6, 7, 4, 8] (by decide +kernel) (by decide +kernel)
set_option maxRecDepth 20000 in
theorem gX3_valuesOfEntriesOf_X4_contains_n71 : GoodIn wsX3_valuesOfEntriesOf (wsX4_contains) := ggX3_valuesOfEntriesOf_X4_contains
set_option maxRecDepth 20000 in
theorem ggX3_valuesOfEntriesOf_X4_setOf : GoodIn wsX3_valuesOfEntriesOf wsX4_setOf := goodIn_r _ [8] (by decide +kernel) (by decide +kernel)
set_option maxRecDepth 20000 in
theorem gX3_valuesOfEntriesOf_X4_setOf_n67 : GoodIn wsX3_valuesOfEntriesOf (wsX4_setOf) := ggX3_valuesOfEntriesOf_X4_setOf
theorem dX3_valuesOfEntriesOf_0 : decode cX3_valuesOfEntriesOf 0 = .ok (.iconst 0, 1) := by decide +kernel
theorem dX3_valuesOfEntriesOf_1 : decode cX3_valuesOfEntriesOf 1 = .ok (.istore_n 3, 1) := by decide +kernel
theorem dX3_valuesOfEntriesOf_2 : decode cX3_valuesOfEntriesOf 2 = .ok (.iload_n 1, 1) := by decide +kernel
theorem dX3_valuesOfEntriesOf_3 : decode cX3_valuesOfEntriesOf 3 = .ok (.bipush 6, 2) := by decide +kernel
theorem dX3_valuesOfEntriesOf_5 : decode cX3_valuesOfEntriesOf 5 = .ok (.imul, 1) := by decide +kernel
theorem dX3_valuesOfEntriesOf_6 : decode cX3_valuesOfEntriesOf 6 = .ok (.istore 4, 2) := by decide +kernel
theorem dX3_valuesOfEntriesOf_8 : decode cX3_valuesOfEntriesOf 8 = .ok (.iload 4, 2) := by decide +kernel
theorem dX3_valuesOfEntriesOf_10 : decode cX3_valuesOfEntriesOf 10 = .ok (.iload_n 1, 1) := by decide +kernel
theorem dX3_valuesOfEntriesOf_11 : decode cX3_valuesOfEntriesOf 11 = .ok (.iconst 1, 1) := by decide +kernel
theorem dX3_valuesOfEntriesOf_12 : decode cX3_valuesOfEntriesOf 12 = .ok (.iadd, 1) := by decide +kernel
theorem dX3_valuesOfEntriesOf_13 : decode cX3_valuesOfEntriesOf 13 = .ok (.bipush 6, 2) := by decide +kernel
theorem dX3_valuesOfEntriesOf_15 : decode cX3_valuesOfEntriesOf 15 = .ok (.imul, 1) := by decide +kernel
theorem dX3_valuesOfEntriesOf_16 : decode cX3_valuesOfEntriesOf 16 = .ok (.if_icmp .ge 36, 3) := by decide +kernel
theorem dX3_valuesOfEntriesOf_19 : decode cX3_valuesOfEntriesOf 19 = .ok (.iload_n 2, 1) := by decide +kernel
theorem dX3_valuesOfEntriesOf_20 : decode cX3_valuesOfEntriesOf 20 = .ok (.aload_n 0, 1) := by decide +kernel
theorem dX3_valuesOfEntriesOf_21 : decode cX3_valuesOfEntriesOf 21 = .ok (.getfield 22, 3) := by decide +kernel
theorem dX3_valuesOfEntriesOf_24 : decode cX3_valuesOfEntriesOf 24 = .ok (.iload 4, 2) := by decide +kernel
theorem dX3_valuesOfEntriesOf_26 : decode cX3_valuesOfEntriesOf 26 = .ok (.iaload, 1) := by decide +kernel
theorem dX3_valuesOfEntriesOf_27 : decode cX3_valuesOfEntriesOf 27 = .ok (.invokestatic 71, 3) := by decide +kernel
theorem dX3_valuesOfEntriesOf_30 : decode cX3_valuesOfEntriesOf 30 = .ok (.ifCond .eq 16, 3) := by decide +kernel
theorem dX3_valuesOfEntriesOf_33 : decode cX3_valuesOfEntriesOf 33 = .ok (.iload_n 3, 1) := by decide +kernel
theorem dX3_valuesOfEntriesOf_34 : decode cX3_valuesOfEntriesOf 34 = .ok (.aload_n 0, 1) := by decide +kernel
theorem dX3_valuesOfEntriesOf_35 : decode cX3_valuesOfEntriesOf 35 = .ok (.getfield 25, 3) := by decide +kernel
theorem dX3_valuesOfEntriesOf_38 : decode cX3_valuesOfEntriesOf 38 = .ok (.iload 4, 2) := by decide +kernel
theorem dX3_valuesOfEntriesOf_40 : decode cX3_valuesOfEntriesOf 40 = .ok (.iaload, 1) := by decide +kernel
theorem dX3_valuesOfEntriesOf_41 : decode cX3_valuesOfEntriesOf 41 = .ok (.invokestatic 67, 3) := by decide +kernel
theorem dX3_valuesOfEntriesOf_44 : decode cX3_valuesOfEntriesOf 44 = .ok (.ior, 1) := by decide +kernel
theorem dX3_valuesOfEntriesOf_45 : decode cX3_valuesOfEntriesOf 45 = .ok (.istore_n 3, 1) := by decide +kernel
theorem dX3_valuesOfEntriesOf_46 : decode cX3_valuesOfEntriesOf 46 = .ok (.iinc 4 1, 3) := by decide +kernel
theorem dX3_valuesOfEntriesOf_49 : decode cX3_valuesOfEntriesOf 49 = .ok (.goto (-41), 3) := by decide +kernel
theorem dX3_valuesOfEntriesOf_52 : decode cX3_valuesOfEntriesOf 52 = .ok (.iload_n 3, 1) := by decide +kernel
theorem dX3_valuesOfEntriesOf_53 : decode cX3_valuesOfEntriesOf 53 = .ok (.ireturn, 1) := by decide +kernel
set_option maxRecDepth 20000 in
theorem ggX3_tablesWithKey_X4_contains : GoodIn wsX3_tablesWithKey wsX4_contains := goodIn_r _ [3, 4, 5, 2, 6] (by decide +kernel) (by decide +kernel)
set_option maxRecDepth 20000 in
theorem gX3_tablesWithKey_X4_contains_n71 : GoodIn wsX3_tablesWithKey (wsX4_contains) := ggX3_tablesWithKey_X4_contains
set_option maxRecDepth 20000 in
theorem ggX3_tablesWithKey_X3_placeOfKey : GoodIn wsX3_tablesWithKey wsX3_placeOfKey := goodIn_r _ [11, 12, 13, 2, 14, 15, 16, 17, 18, 19, 20, 21, 22, 23] (by decide +kernel) (by decide +kernel)
set_option maxRecDepth 20000 in
theorem gX3_tablesWithKey_X3_placeOfKey : GoodIn wsX3_tablesWithKey (wsV RX3 81 RX3 yX3_placeOfKey wsX3_placeOfKey) := goodIn_app (goodIn_of _ (by decide +kernel)) ggX3_tablesWithKey_X3_placeOfKey
theorem dX3_tablesWithKey_0 : decode cX3_tablesWithKey 0 = .ok (.iconst 0, 1) := by decide +kernel
theorem dX3_tablesWithKey_1 : decode cX3_tablesWithKey 1 = .ok (.istore_n 3, 1) := by decide +kernel
theorem dX3_tablesWithKey_2 : decode cX3_tablesWithKey 2 = .ok (.iconst 0, 1) := by decide +kernel
theorem dX3_tablesWithKey_3 : decode cX3_tablesWithKey 3 = .ok (.istore 4, 2) := by decide +kernel
theorem dX3_tablesWithKey_5 : decode cX3_tablesWithKey 5 = .ok (.iload 4, 2) := by decide +kernel
theorem dX3_tablesWithKey_7 : decode cX3_tablesWithKey 7 = .ok (.bipush 24, 2) := by decide +kernel
theorem dX3_tablesWithKey_9 : decode cX3_tablesWithKey 9 = .ok (.if_icmp .ge 33, 3) := by decide +kernel
theorem dX3_tablesWithKey_12 : decode cX3_tablesWithKey 12 = .ok (.iload_n 1, 1) := by decide +kernel
theorem dX3_tablesWithKey_13 : decode cX3_tablesWithKey 13 = .ok (.iload 4, 2) := by decide +kernel
theorem dX3_tablesWithKey_15 : decode cX3_tablesWithKey 15 = .ok (.invokestatic 71, 3) := by decide +kernel
theorem dX3_tablesWithKey_18 : decode cX3_tablesWithKey 18 = .ok (.ifCond .eq 18, 3) := by decide +kernel
theorem dX3_tablesWithKey_21 : decode cX3_tablesWithKey 21 = .ok (.aload_n 0, 1) := by decide +kernel
theorem dX3_tablesWithKey_22 : decode cX3_tablesWithKey 22 = .ok (.iload 4, 2) := by decide +kernel
theorem dX3_tablesWithKey_24 : decode cX3_tablesWithKey 24 = .ok (.iload_n 2, 1) := by decide +kernel
theorem dX3_tablesWithKey_25 : decode cX3_tablesWithKey 25 = .ok (.invokevirtual 81, 3) := by decide +kernel
theorem dX3_tablesWithKey_28 : decode cX3_tablesWithKey 28 = .ok (.bipush (-9), 2) := by decide +kernel
theorem dX3_tablesWithKey_30 : decode cX3_tablesWithKey 30 = .ok (.if_icmp .eq 6, 3) := by decide +kernel
theorem dX3_tablesWithKey_33 : decode cX3_tablesWithKey 33 = .ok (.iinc 3 1, 3) := by decide +kernel
theorem dX3_tablesWithKey_36 : decode cX3_tablesWithKey 36 = .ok (.iinc 4 1, 3) := by decide +kernel
theorem dX3_tablesWithKey_39 : decode cX3_tablesWithKey 39 = .ok (.goto (-34), 3) := by decide +kernel
theorem dX3_tablesWithKey_42 : decode cX3_tablesWithKey 42 = .ok (.iload_n 3, 1) := by decide +kernel
theorem dX3_tablesWithKey_43 : decode cX3_tablesWithKey 43 = .ok (.ireturn, 1) := by decide +kernel
set_option maxRecDepth 20000 in
theorem ggX3_placeOfKey_X4_within : GoodIn wsX3_placeOfKey wsX4_within := goodIn_r _ [4] (by decide +kernel) (by decide +kernel)
set_option maxRecDepth 20000 in
theorem gX3_placeOfKey_X4_within_n56 : GoodIn wsX3_placeOfKey (wsX4_within) := ggX3_placeOfKey_X4_within
theorem dX3_placeOfKey_0 : decode cX3_placeOfKey 0 = .ok (.iload_n 1, 1) := by decide +kernel
theorem dX3_placeOfKey_1 : decode cX3_placeOfKey 1 = .ok (.bipush 24, 2) := by decide +kernel
theorem dX3_placeOfKey_3 : decode cX3_placeOfKey 3 = .ok (.invokestatic 56, 3) := by decide +kernel
theorem dX3_placeOfKey_6 : decode cX3_placeOfKey 6 = .ok (.ifCond .ne 6, 3) := by decide +kernel
theorem dX3_placeOfKey_9 : decode cX3_placeOfKey 9 = .ok (.bipush (-9), 2) := by decide +kernel
theorem dX3_placeOfKey_11 : decode cX3_placeOfKey 11 = .ok (.ireturn, 1) := by decide +kernel
theorem dX3_placeOfKey_12 : decode cX3_placeOfKey 12 = .ok (.iload_n 1, 1) := by decide +kernel
theorem dX3_placeOfKey_13 : decode cX3_placeOfKey 13 = .ok (.bipush 6, 2) := by decide +kernel
theorem dX3_placeOfKey_15 : decode cX3_placeOfKey 15 = .ok (.imul, 1) := by decide +kernel
theorem dX3_placeOfKey_16 : decode cX3_placeOfKey 16 = .ok (.istore_n 3, 1) := by decide +kernel
theorem dX3_placeOfKey_17 : decode cX3_placeOfKey 17 = .ok (.iload_n 3, 1) := by decide +kernel
theorem dX3_placeOfKey_18 : decode cX3_placeOfKey 18 = .ok (.iload_n 1, 1) := by decide +kernel
theorem dX3_placeOfKey_19 : decode cX3_placeOfKey 19 = .ok (.iconst 1, 1) := by decide +kernel
theorem dX3_placeOfKey_20 : decode cX3_placeOfKey 20 = .ok (.iadd, 1) := by decide +kernel
theorem dX3_placeOfKey_21 : decode cX3_placeOfKey 21 = .ok (.bipush 6, 2) := by decide +kernel
theorem dX3_placeOfKey_23 : decode cX3_placeOfKey 23 = .ok (.imul, 1) := by decide +kernel
theorem dX3_placeOfKey_24 : decode cX3_placeOfKey 24 = .ok (.if_icmp .ge 21, 3) := by decide +kernel
theorem dX3_placeOfKey_27 : decode cX3_placeOfKey 27 = .ok (.aload_n 0, 1) := by decide +kernel
theorem dX3_placeOfKey_28 : decode cX3_placeOfKey 28 = .ok (.getfield 22, 3) := by decide +kernel
theorem dX3_placeOfKey_31 : decode cX3_placeOfKey 31 = .ok (.iload_n 3, 1) := by decide +kernel
theorem dX3_placeOfKey_32 : decode cX3_placeOfKey 32 = .ok (.iaload, 1) := by decide +kernel
theorem dX3_placeOfKey_33 : decode cX3_placeOfKey 33 = .ok (.iload_n 2, 1) := by decide +kernel
theorem dX3_placeOfKey_34 : decode cX3_placeOfKey 34 = .ok (.if_icmp .ne 5, 3) := by decide +kernel
theorem dX3_placeOfKey_37 : decode cX3_placeOfKey 37 = .ok (.iload_n 3, 1) := by decide +kernel
theorem dX3_placeOfKey_38 : decode cX3_placeOfKey 38 = .ok (.ireturn, 1) := by decide +kernel
theorem dX3_placeOfKey_39 : decode cX3_placeOfKey 39 = .ok (.iinc 3 1, 3) := by decide +kernel
theorem dX3_placeOfKey_42 : decode cX3_placeOfKey 42 = .ok (.goto (-25), 3) := by decide +kernel
theorem dX3_placeOfKey_45 : decode cX3_placeOfKey 45 = .ok (.bipush (-9), 2) := by decide +kernel
theorem dX3_placeOfKey_47 : decode cX3_placeOfKey 47 = .ok (.ireturn, 1) := by decide +kernel
set_option maxRecDepth 20000 in
theorem ggX3_keepEntries_X4_within : GoodIn wsX3_keepEntries wsX4_within := goodIn_r _ [5] (by decide +kernel) (by decide +kernel)
set_option maxRecDepth 20000 in
theorem gX3_keepEntries_X4_within_n56 : GoodIn wsX3_keepEntries (wsX4_within) := ggX3_keepEntries_X4_within
set_option maxRecDepth 20000 in
theorem ggX3_keepEntries_X4_contains : GoodIn wsX3_keepEntries wsX4_contains := goodIn_r _ [7, 8, 9, 4, 10] (by decide +kernel) (by decide +kernel)
set_option maxRecDepth 20000 in
theorem gX3_keepEntries_X4_contains_n71 : GoodIn wsX3_keepEntries (wsX4_contains) := ggX3_keepEntries_X4_contains
theorem dX3_keepEntries_0 : decode cX3_keepEntries 0 = .ok (.iload_n 1, 1) := by decide +kernel
theorem dX3_keepEntries_1 : decode cX3_keepEntries 1 = .ok (.bipush 24, 2) := by decide +kernel
theorem dX3_keepEntries_3 : decode cX3_keepEntries 3 = .ok (.invokestatic 56, 3) := by decide +kernel
theorem dX3_keepEntries_6 : decode cX3_keepEntries 6 = .ok (.ifCond .ne 4, 3) := by decide +kernel
theorem dX3_keepEntries_9 : decode cX3_keepEntries 9 = .ok (.return_, 1) := by decide +kernel
theorem dX3_keepEntries_10 : decode cX3_keepEntries 10 = .ok (.iload_n 1, 1) := by decide +kernel
theorem dX3_keepEntries_11 : decode cX3_keepEntries 11 = .ok (.bipush 6, 2) := by decide +kernel
theorem dX3_keepEntries_13 : decode cX3_keepEntries 13 = .ok (.imul, 1) := by decide +kernel
theorem dX3_keepEntries_14 : decode cX3_keepEntries 14 = .ok (.istore_n 3, 1) := by decide +kernel
theorem dX3_keepEntries_15 : decode cX3_keepEntries 15 = .ok (.iload_n 1, 1) := by decide +kernel
theorem dX3_keepEntries_16 : decode cX3_keepEntries 16 = .ok (.bipush 6, 2) := by decide +kernel
theorem dX3_keepEntries_18 : decode cX3_keepEntries 18 = .ok (.imul, 1) := by decide +kernel
theorem dX3_keepEntries_19 : decode cX3_keepEntries 19 = .ok (.istore 4, 2) := by decide +kernel
theorem dX3_keepEntries_21 : decode cX3_keepEntries 21 = .ok (.iload 4, 2) := by decide +kernel
theorem dX3_keepEntries_23 : decode cX3_keepEntries 23 = .ok (.iload_n 1, 1) := by decide +kernel
theorem dX3_keepEntries_24 : decode cX3_keepEntries 24 = .ok (.iconst 1, 1) := by decide +kernel
theorem dX3_keepEntries_25 : decode cX3_keepEntries 25 = .ok (.iadd, 1) := by decide +kernel
theorem dX3_keepEntries_26 : decode cX3_keepEntries 26 = .ok (.bipush 6, 2) := by decide +kernel
theorem dX3_keepEntries_28 : decode cX3_keepEntries 28 = .ok (.imul, 1) := by decide +kernel
theorem dX3_keepEntries_29 : decode cX3_keepEntries 29 = .ok (.if_icmp .ge 73, 3) := by decide +kernel
theorem dX3_keepEntries_32 : decode cX3_keepEntries 32 = .ok (.aload_n 0, 1) := by decide +kernel
theorem dX3_keepEntries_33 : decode cX3_keepEntries 33 = .ok (.getfield 22, 3) := by decide +kernel
theorem dX3_keepEntries_36 : decode cX3_keepEntries 36 = .ok (.iload 4, 2) := by decide +kernel
theorem dX3_keepEntries_38 : decode cX3_keepEntries 38 = .ok (.iaload, 1) := by decide +kernel
theorem dX3_keepEntries_39 : decode cX3_keepEntries 39 = .ok (.istore 5, 2) := by decide +kernel
theorem dX3_keepEntries_41 : decode cX3_keepEntries 41 = .ok (.aload_n 0, 1) := by decide +kernel
theorem dX3_keepEntries_42 : decode cX3_keepEntries 42 = .ok (.getfield 25, 3) := by decide +kernel
theorem dX3_keepEntries_45 : decode cX3_keepEntries 45 = .ok (.iload 4, 2) := by decide +kernel
theorem dX3_keepEntries_47 : decode cX3_keepEntries 47 = .ok (.iaload, 1) := by decide +kernel
theorem dX3_keepEntries_48 : decode cX3_keepEntries 48 = .ok (.istore 6, 2) := by decide +kernel
theorem dX3_keepEntries_50 : decode cX3_keepEntries 50 = .ok (.aload_n 0, 1) := by decide +kernel
theorem dX3_keepEntries_51 : decode cX3_keepEntries 51 = .ok (.getfield 22, 3) := by decide +kernel
theorem dX3_keepEntries_54 : decode cX3_keepEntries 54 = .ok (.iload 4, 2) := by decide +kernel
theorem dX3_keepEntries_56 : decode cX3_keepEntries 56 = .ok (.bipush (-9), 2) := by decide +kernel
theorem dX3_keepEntries_58 : decode cX3_keepEntries 58 = .ok (.iastore, 1) := by decide +kernel
theorem dX3_keepEntries_59 : decode cX3_keepEntries 59 = .ok (.aload_n 0, 1) := by decide +kernel
theorem dX3_keepEntries_60 : decode cX3_keepEntries 60 = .ok (.getfield 25, 3) := by decide +kernel
theorem dX3_keepEntries_63 : decode cX3_keepEntries 63 = .ok (.iload 4, 2) := by decide +kernel
theorem dX3_keepEntries_65 : decode cX3_keepEntries 65 = .ok (.bipush (-9), 2) := by decide +kernel
theorem dX3_keepEntries_67 : decode cX3_keepEntries 67 = .ok (.iastore, 1) := by decide +kernel
theorem dX3_keepEntries_68 : decode cX3_keepEntries 68 = .ok (.iload_n 2, 1) := by decide +kernel
theorem dX3_keepEntries_69 : decode cX3_keepEntries 69 = .ok (.iload 5, 2) := by decide +kernel
theorem dX3_keepEntries_71 : decode cX3_keepEntries 71 = .ok (.invokestatic 71, 3) := by decide +kernel
theorem dX3_keepEntries_74 : decode cX3_keepEntries 74 = .ok (.ifCond .eq 22, 3) := by decide +kernel
theorem dX3_keepEntries_77 : decode cX3_keepEntries 77 = .ok (.aload_n 0, 1) := by decide +kernel
theorem dX3_keepEntries_78 : decode cX3_keepEntries 78 = .ok (.getfield 22, 3) := by decide +kernel
theorem dX3_keepEntries_81 : decode cX3_keepEntries 81 = .ok (.iload_n 3, 1) := by decide +kernel
theorem dX3_keepEntries_82 : decode cX3_keepEntries 82 = .ok (.iload 5, 2) := by decide +kernel
theorem dX3_keepEntries_84 : decode cX3_keepEntries 84 = .ok (.iastore, 1) := by decide +kernel
theorem dX3_keepEntries_85 : decode cX3_keepEntries 85 = .ok (.aload_n 0, 1) := by decide +kernel
theorem dX3_keepEntries_86 : decode cX3_keepEntries 86 = .ok (.getfield 25, 3) := by decide +kernel
theorem dX3_keepEntries_89 : decode cX3_keepEntries 89 = .ok (.iload_n 3, 1) := by decide +kernel
theorem dX3_keepEntries_90 : decode cX3_keepEntries 90 = .ok (.iload 6, 2) := by decide +kernel
theorem dX3_keepEntries_92 : decode cX3_keepEntries 92 = .ok (.iastore, 1) := by decide +kernel
theorem dX3_keepEntries_93 : decode cX3_keepEntries 93 = .ok (.iinc 3 1, 3) := by decide +kernel
theorem dX3_keepEntries_96 : decode cX3_keepEntries 96 = .ok (.iinc 4 1, 3) := by decide +kernel
theorem dX3_keepEntries_99 : decode cX3_keepEntries 99 = .ok (.goto (-78), 3) := by decide +kernel
theorem dX3_keepEntries_102 : decode cX3_keepEntries 102 = .ok (.return_, 1) := by decide +kernel
set_option maxRecDepth 20000 in
theorem ggX3_emptyWeakReferences_X4_contains : GoodIn wsX3_emptyWeakReferences wsX4_contains := goodIn_r _ [5, 6, 7, 4, 8] (by decide +kernel) (by decide +kernel)
set_option maxRecDepth 20000 in
theorem gX3_emptyWeakReferences_X4_contains_n71 : GoodIn wsX3_emptyWeakReferences (wsX4_contains) := ggX3_emptyWeakReferences_X4_contains
set_option maxRecDepth 20000 in
theorem ggX3_emptyWeakReferences_X2_issue : GoodIn wsX3_emptyWeakReferences wsX2_issue := goodIn_r _ [13, 14, 15, 16, 17, 18, 12, 19, 20, 21, 22, 23, 24, 25, 26, 27, 28, 4, 29, 39, 40] (by decide +kernel) (by decide +kernel)
set_option maxRecDepth 20000 in
theorem gX3_emptyWeakReferences_X2_issue : GoodIn wsX3_emptyWeakReferences (wsV RX3 84 RX2 yX2_issue wsX2_issue) := goodIn_app (goodIn_of _ (by decide +kernel)) ggX3_emptyWeakReferences_X2_issue
theorem dX3_emptyWeakReferences_0 : decode cX3_emptyWeakReferences 0 = .ok (.iconst 0, 1) := by decide +kernel
theorem dX3_emptyWeakReferences_1 : decode cX3_emptyWeakReferences 1 = .ok (.istore_n 3, 1) := by decide +kernel
theorem dX3_emptyWeakReferences_2 : decode cX3_emptyWeakReferences 2 = .ok (.iload_n 3, 1) := by decide +kernel
theorem dX3_emptyWeakReferences_3 : decode cX3_emptyWeakReferences 3 = .ok (.bipush 24, 2) := by decide +kernel
theorem dX3_emptyWeakReferences_5 : decode cX3_emptyWeakReferences 5 = .ok (.if_icmp .ge 77, 3) := by decide +kernel
theorem dX3_emptyWeakReferences_8 : decode cX3_emptyWeakReferences 8 = .ok (.aload_n 0, 1) := by decide +kernel
theorem dX3_emptyWeakReferences_9 : decode cX3_emptyWeakReferences 9 = .ok (.getfield 28, 3) := by decide +kernel
theorem dX3_emptyWeakReferences_12 : decode cX3_emptyWeakReferences 12 = .ok (.iload_n 3, 1) := by decide +kernel
theorem dX3_emptyWeakReferences_13 : decode cX3_emptyWeakReferences 13 = .ok (.iaload, 1) := by decide +kernel
theorem dX3_emptyWeakReferences_14 : decode cX3_emptyWeakReferences 14 = .ok (.bipush (-9), 2) := by decide +kernel
theorem dX3_emptyWeakReferences_16 : decode cX3_emptyWeakReferences 16 = .ok (.if_icmp .eq 20, 3) := by decide +kernel
theorem dX3_emptyWeakReferences_19 : decode cX3_emptyWeakReferences 19 = .ok (.iload_n 1, 1) := by decide +kernel
theorem dX3_emptyWeakReferences_20 : decode cX3_emptyWeakReferences 20 = .ok (.aload_n 0, 1) := by decide +kernel
theorem dX3_emptyWeakReferences_21 : decode cX3_emptyWeakReferences 21 = .ok (.getfield 28, 3) := by decide +kernel
theorem dX3_emptyWeakReferences_24 : decode cX3_emptyWeakReferences 24 = .ok (.iload_n 3, 1) := by decide +kernel
theorem dX3_emptyWeakReferences_25 : decode cX3_emptyWeakReferences 25 = .ok (.iaload, 1) := by decide +kernel
theorem dX3_emptyWeakReferences_26 : decode cX3_emptyWeakReferences 26 = .ok (.invokestatic 71, 3) := by decide +kernel
theorem dX3_emptyWeakReferences_29 : decode cX3_emptyWeakReferences 29 = .ok (.ifCond .ne 7, 3) := by decide +kernel
theorem dX3_emptyWeakReferences_32 : decode cX3_emptyWeakReferences 32 = .ok (.iconst 1, 1) := by decide +kernel
theorem dX3_emptyWeakReferences_33 : decode cX3_emptyWeakReferences 33 = .ok (.goto 4, 3) := by decide +kernel
theorem dX3_emptyWeakReferences_36 : decode cX3_emptyWeakReferences 36 = .ok (.iconst 0, 1) := by decide +kernel
theorem dX3_emptyWeakReferences_37 : decode cX3_emptyWeakReferences 37 = .ok (.istore 4, 2) := by decide +kernel
theorem dX3_emptyWeakReferences_39 : decode cX3_emptyWeakReferences 39 = .ok (.iload 4, 2) := by decide +kernel
theorem dX3_emptyWeakReferences_41 : decode cX3_emptyWeakReferences 41 = .ok (.ifCond .eq 35, 3) := by decide +kernel
theorem dX3_emptyWeakReferences_44 : decode cX3_emptyWeakReferences 44 = .ok (.iload_n 1, 1) := by decide +kernel
theorem dX3_emptyWeakReferences_45 : decode cX3_emptyWeakReferences 45 = .ok (.iload_n 3, 1) := by decide +kernel
theorem dX3_emptyWeakReferences_46 : decode cX3_emptyWeakReferences 46 = .ok (.invokestatic 71, 3) := by decide +kernel
theorem dX3_emptyWeakReferences_49 : decode cX3_emptyWeakReferences 49 = .ok (.ifCond .eq 27, 3) := by decide +kernel
theorem dX3_emptyWeakReferences_52 : decode cX3_emptyWeakReferences 52 = .ok (.aload_n 0, 1) := by decide +kernel
theorem dX3_emptyWeakReferences_53 : decode cX3_emptyWeakReferences 53 = .ok (.getfield 28, 3) := by decide +kernel
theorem dX3_emptyWeakReferences_56 : decode cX3_emptyWeakReferences 56 = .ok (.iload_n 3, 1) := by decide +kernel
theorem dX3_emptyWeakReferences_57 : decode cX3_emptyWeakReferences 57 = .ok (.bipush (-9), 2) := by decide +kernel
theorem dX3_emptyWeakReferences_59 : decode cX3_emptyWeakReferences 59 = .ok (.iastore, 1) := by decide +kernel
theorem dX3_emptyWeakReferences_60 : decode cX3_emptyWeakReferences 60 = .ok (.iload_n 2, 1) := by decide +kernel
theorem dX3_emptyWeakReferences_61 : decode cX3_emptyWeakReferences 61 = .ok (.ifCond .eq 15, 3) := by decide +kernel
theorem dX3_emptyWeakReferences_64 : decode cX3_emptyWeakReferences 64 = .ok (.aload_n 0, 1) := by decide +kernel
theorem dX3_emptyWeakReferences_65 : decode cX3_emptyWeakReferences 65 = .ok (.getfield 37, 3) := by decide +kernel
theorem dX3_emptyWeakReferences_68 : decode cX3_emptyWeakReferences 68 = .ok (.sipush 1000, 3) := by decide +kernel
theorem dX3_emptyWeakReferences_71 : decode cX3_emptyWeakReferences 71 = .ok (.iload_n 3, 1) := by decide +kernel
theorem dX3_emptyWeakReferences_72 : decode cX3_emptyWeakReferences 72 = .ok (.iadd, 1) := by decide +kernel
theorem dX3_emptyWeakReferences_73 : decode cX3_emptyWeakReferences 73 = .ok (.invokevirtual 84, 3) := by decide +kernel
theorem dX3_emptyWeakReferences_76 : decode cX3_emptyWeakReferences 76 = .ok (.iinc 3 1, 3) := by decide +kernel
theorem dX3_emptyWeakReferences_79 : decode cX3_emptyWeakReferences 79 = .ok (.goto (-77), 3) := by decide +kernel
theorem dX3_emptyWeakReferences_82 : decode cX3_emptyWeakReferences 82 = .ok (.return_, 1) := by decide +kernel
set_option maxRecDepth 20000 in
theorem ggX3_finalizeObjects_X4_contains : GoodIn wsX3_finalizeObjects wsX4_contains := goodIn_r _ [5, 6, 7, 4, 8] (by decide +kernel) (by decide +kernel)
set_option maxRecDepth 20000 in
theorem gX3_finalizeObjects_X4_contains_n71 : GoodIn wsX3_finalizeObjects (wsX4_contains) := ggX3_finalizeObjects_X4_contains
set_option maxRecDepth 20000 in
theorem ggX3_finalizeObjects_X2_issue : GoodIn wsX3_finalizeObjects wsX2_issue := goodIn_r _ [13, 14, 15, 16, 17, 18, 12, 19, 20, 21, 22, 23, 24, 25, 26, 27, 28, 4, 29, 39, 40] (by decide +kernel) (by decide +kernel)
set_option maxRecDepth 20000 in
theorem gX3_finalizeObjects_X2_issue : GoodIn wsX3_finalizeObjects (wsV RX3 84 RX2 yX2_issue wsX2_issue) := goodIn_app (goodIn_of _ (by decide +kernel)) ggX3_finalizeObjects_X2_issue
theorem dX3_finalizeObjects_0 : decode cX3_finalizeObjects 0 = .ok (.iconst 0, 1) := by decide +kernel
theorem dX3_finalizeObjects_1 : decode cX3_finalizeObjects 1 = .ok (.istore_n 2, 1) := by decide +kernel
theorem dX3_finalizeObjects_2 : decode cX3_finalizeObjects 2 = .ok (.iload_n 2, 1) := by decide +kernel
theorem dX3_finalizeObjects_3 : decode cX3_finalizeObjects 3 = .ok (.bipush 24, 2) := by decide +kernel
theorem dX3_finalizeObjects_5 : decode cX3_finalizeObjects 5 = .ok (.if_icmp .ge 29, 3) := by decide +kernel
theorem dX3_finalizeObjects_8 : decode cX3_finalizeObjects 8 = .ok (.iload_n 1, 1) := by decide +kernel
theorem dX3_finalizeObjects_9 : decode cX3_finalizeObjects 9 = .ok (.iload_n 2, 1) := by decide +kernel
theorem dX3_finalizeObjects_10 : decode cX3_finalizeObjects 10 = .ok (.invokestatic 71, 3) := by decide +kernel
theorem dX3_finalizeObjects_13 : decode cX3_finalizeObjects 13 = .ok (.ifCond .eq 15, 3) := by decide +kernel
theorem dX3_finalizeObjects_16 : decode cX3_finalizeObjects 16 = .ok (.aload_n 0, 1) := by decide +kernel
theorem dX3_finalizeObjects_17 : decode cX3_finalizeObjects 17 = .ok (.getfield 37, 3) := by decide +kernel
theorem dX3_finalizeObjects_20 : decode cX3_finalizeObjects 20 = .ok (.sipush 3000, 3) := by decide +kernel
theorem dX3_finalizeObjects_23 : decode cX3_finalizeObjects 23 = .ok (.iload_n 2, 1) := by decide +kernel
theorem dX3_finalizeObjects_24 : decode cX3_finalizeObjects 24 = .ok (.iadd, 1) := by decide +kernel
theorem dX3_finalizeObjects_25 : decode cX3_finalizeObjects 25 = .ok (.invokevirtual 84, 3) := by decide +kernel
theorem dX3_finalizeObjects_28 : decode cX3_finalizeObjects 28 = .ok (.iinc 2 1, 3) := by decide +kernel
theorem dX3_finalizeObjects_31 : decode cX3_finalizeObjects 31 = .ok (.goto (-29), 3) := by decide +kernel
theorem dX3_finalizeObjects_34 : decode cX3_finalizeObjects 34 = .ok (.aload_n 0, 1) := by decide +kernel
theorem dX3_finalizeObjects_35 : decode cX3_finalizeObjects 35 = .ok (.dup, 1) := by decide +kernel
theorem dX3_finalizeObjects_36 : decode cX3_finalizeObjects 36 = .ok (.getfield 49, 3) := by decide +kernel
theorem dX3_finalizeObjects_39 : decode cX3_finalizeObjects 39 = .ok (.iload_n 1, 1) := by decide +kernel
theorem dX3_finalizeObjects_40 : decode cX3_finalizeObjects 40 = .ok (.iconst (-1), 1) := by decide +kernel
theorem dX3_finalizeObjects_41 : decode cX3_finalizeObjects 41 = .ok (.ixor, 1) := by decide +kernel
theorem dX3_finalizeObjects_42 : decode cX3_finalizeObjects 42 = .ok (.iand, 1) := by decide +kernel
theorem dX3_finalizeObjects_43 : decode cX3_finalizeObjects 43 = .ok (.putfield 49, 3) := by decide +kernel
theorem dX3_finalizeObjects_46 : decode cX3_finalizeObjects 46 = .ok (.return_, 1) := by decide +kernel
set_option maxRecDepth 20000 in
theorem ggX3_removeEntriesWithoutKey_X4_contains : GoodIn wsX3_removeEntriesWithoutKey wsX4_contains := goodIn_r _ [3, 4, 5, 2, 6] (by decide +kernel) (by decide +kernel)
set_option maxRecDepth 20000 in
theorem gX3_removeEntriesWithoutKey_X4_contains_n71 : GoodIn wsX3_removeEntriesWithoutKey (wsX4_contains) := ggX3_removeEntriesWithoutKey_X4_contains
set_option maxRecDepth 20000 in
theorem ggX3_removeEntriesWithoutKey_X3_announceEntriesWithoutKey : GoodIn wsX3_removeEntriesWithoutKey wsX3_announceEntriesWithoutKey := goodIn_r _ [11, 12, 13, 1, 2, 3, 4, 5, 6, 14, 15, 16, 17, 18, 19, 20, 21, 22, 23, 24, 25, 26, 27, 28, 29, 30, 31, 32, 33, 34, 40, 41, 42, 43, 44, 45, 46, 47, 48, 49, 50] (by decide +kernel) (by decide +kernel)
set_option maxRecDepth 20000 in
theorem gX3_removeEntriesWithoutKey_X3_announceEntriesWithoutKey : GoodIn wsX3_removeEntriesWithoutKey (wsV RX3 88 RX3 yX3_announceEntriesWithoutKey wsX3_announceEntriesWithoutKey) := goodIn_app (goodIn_of _ (by decide +kernel)) ggX3_removeEntriesWithoutKey_X3_announceEntriesWithoutKey
set_option maxRecDepth 20000 in
theorem ggX3_removeEntriesWithoutKey_X3_keepEntries : GoodIn wsX3_removeEntriesWithoutKey wsX3_keepEntries := goodIn_r _ [38, 12, 39, 33, 2, 34, 1, 3, 4, 5, 6, 40, 41, 42, 43, 44, 45, 46, 47, 48] (by decide +kernel) (by decide +kernel)
set_option maxRecDepth 20000 in
theorem gX3_removeEntriesWithoutKey_X3_keepEntries : GoodIn wsX3_removeEntriesWithoutKey (wsV RX3 92 RX3 yX3_keepEntries wsX3_keepEntries) := goodIn_app (goodIn_of _ (by decide +kernel)) ggX3_removeEntriesWithoutKey_X3_keepEntries
theorem dX3_removeEntriesWithoutKey_0 : decode cX3_removeEntriesWithoutKey 0 = .ok (.iconst 0, 1) := by decide +kernel
theorem dX3_removeEntriesWithoutKey_1 : decode cX3_removeEntriesWithoutKey 1 = .ok (.istore_n 2, 1) := by decide +kernel
theorem dX3_removeEntriesWithoutKey_2 : decode cX3_removeEntriesWithoutKey 2 = .ok (.iload_n 2, 1) := by decide +kernel
theorem dX3_removeEntriesWithoutKey_3 : decode cX3_removeEntriesWithoutKey 3 = .ok (.bipush 24, 2) := by decide +kernel
theorem dX3_removeEntriesWithoutKey_5 : decode cX3_removeEntriesWithoutKey 5 = .ok (.if_icmp .ge 29, 3) := by decide +kernel
theorem dX3_removeEntriesWithoutKey_8 : decode cX3_removeEntriesWithoutKey 8 = .ok (.iload_n 1, 1) := by decide +kernel
theorem dX3_removeEntriesWithoutKey_9 : decode cX3_removeEntriesWithoutKey 9 = .ok (.iload_n 2, 1) := by decide +kernel
theorem dX3_removeEntriesWithoutKey_10 : decode cX3_removeEntriesWithoutKey 10 = .ok (.invokestatic 71, 3) := by decide +kernel
theorem dX3_removeEntriesWithoutKey_13 : decode cX3_removeEntriesWithoutKey 13 = .ok (.ifCond .eq 15, 3) := by decide +kernel
theorem dX3_removeEntriesWithoutKey_16 : decode cX3_removeEntriesWithoutKey 16 = .ok (.aload_n 0, 1) := by decide +kernel
theorem dX3_removeEntriesWithoutKey_17 : decode cX3_removeEntriesWithoutKey 17 = .ok (.iload_n 2, 1) := by decide +kernel
theorem dX3_removeEntriesWithoutKey_18 : decode cX3_removeEntriesWithoutKey 18 = .ok (.iload_n 1, 1) := by decide +kernel
theorem dX3_removeEntriesWithoutKey_19 : decode cX3_removeEntriesWithoutKey 19 = .ok (.invokevirtual 88, 3) := by decide +kernel
theorem dX3_removeEntriesWithoutKey_22 : decode cX3_removeEntriesWithoutKey 22 = .ok (.aload_n 0, 1) := by decide +kernel
theorem dX3_removeEntriesWithoutKey_23 : decode cX3_removeEntriesWithoutKey 23 = .ok (.iload_n 2, 1) := by decide +kernel
theorem dX3_removeEntriesWithoutKey_24 : decode cX3_removeEntriesWithoutKey 24 = .ok (.iload_n 1, 1) := by decide +kernel
theorem dX3_removeEntriesWithoutKey_25 : decode cX3_removeEntriesWithoutKey 25 = .ok (.invokevirtual 92, 3) := by decide +kernel
theorem dX3_removeEntriesWithoutKey_28 : decode cX3_removeEntriesWithoutKey 28 = .ok (.iinc 2 1, 3) := by decide +kernel
theorem dX3_removeEntriesWithoutKey_31 : decode cX3_removeEntriesWithoutKey 31 = .ok (.goto (-29), 3) := by decide +kernel
theorem dX3_removeEntriesWithoutKey_34 : decode cX3_removeEntriesWithoutKey 34 = .ok (.return_, 1) := by decide +kernel
set_option maxRecDepth 20000 in
theorem ggX3_announceEntriesWithoutKey_X4_contains : GoodIn wsX3_announceEntriesWithoutKey wsX4_contains := goodIn_r _ [5, 6, 7, 4, 8] (by decide +kernel) (by decide +kernel)
set_option maxRecDepth 20000 in
theorem gX3_announceEntriesWithoutKey_X4_contains_n71 : GoodIn wsX3_announceEntriesWithoutKey (wsX4_contains) := ggX3_announceEntriesWithoutKey_X4_contains
set_option maxRecDepth 20000 in
theorem ggX3_announceEntriesWithoutKey_X2_issue : GoodIn wsX3_announceEntriesWithoutKey wsX2_issue := goodIn_r _ [13, 14, 15, 16, 17, 18, 12, 19, 20, 21, 22, 23, 24, 25, 26, 27, 28, 4, 29, 39, 40] (by decide +kernel) (by decide +kernel)
set_option maxRecDepth 20000 in
theorem gX3_announceEntriesWithoutKey_X2_issue : GoodIn wsX3_announceEntriesWithoutKey (wsV RX3 84 RX2 yX2_issue wsX2_issue) := goodIn_app (goodIn_of _ (by decide +kernel)) ggX3_announceEntriesWithoutKey_X2_issue
theorem dX3_announceEntriesWithoutKey_0 : decode cX3_announceEntriesWithoutKey 0 = .ok (.iload_n 1, 1) := by decide +kernel
theorem dX3_announceEntriesWithoutKey_1 : decode cX3_announceEntriesWithoutKey 1 = .ok (.bipush 6, 2) := by decide +kernel
theorem dX3_announceEntriesWithoutKey_3 : decode cX3_announceEntriesWithoutKey 3 = .ok (.imul, 1) := by decide +kernel
theorem dX3_announceEntriesWithoutKey_4 : decode cX3_announceEntriesWithoutKey 4 = .ok (.istore_n 3, 1) := by decide +kernel
theorem dX3_announceEntriesWithoutKey_5 : decode cX3_announceEntriesWithoutKey 5 = .ok (.iload_n 3, 1) := by decide +kernel
theorem dX3_announceEntriesWithoutKey_6 : decode cX3_announceEntriesWithoutKey 6 = .ok (.iload_n 1, 1) := by decide +kernel
theorem dX3_announceEntriesWithoutKey_7 : decode cX3_announceEntriesWithoutKey 7 = .ok (.iconst 1, 1) := by decide +kernel
theorem dX3_announceEntriesWithoutKey_8 : decode cX3_announceEntriesWithoutKey 8 = .ok (.iadd, 1) := by decide +kernel
theorem dX3_announceEntriesWithoutKey_9 : decode cX3_announceEntriesWithoutKey 9 = .ok (.bipush 6, 2) := by decide +kernel
theorem dX3_announceEntriesWithoutKey_11 : decode cX3_announceEntriesWithoutKey 11 = .ok (.imul, 1) := by decide +kernel
theorem dX3_announceEntriesWithoutKey_12 : decode cX3_announceEntriesWithoutKey 12 = .ok (.if_icmp .ge 55, 3) := by decide +kernel
theorem dX3_announceEntriesWithoutKey_15 : decode cX3_announceEntriesWithoutKey 15 = .ok (.aload_n 0, 1) := by decide +kernel
theorem dX3_announceEntriesWithoutKey_16 : decode cX3_announceEntriesWithoutKey 16 = .ok (.getfield 22, 3) := by decide +kernel
theorem dX3_announceEntriesWithoutKey_19 : decode cX3_announceEntriesWithoutKey 19 = .ok (.iload_n 3, 1) := by decide +kernel
theorem dX3_announceEntriesWithoutKey_20 : decode cX3_announceEntriesWithoutKey 20 = .ok (.iaload, 1) := by decide +kernel
theorem dX3_announceEntriesWithoutKey_21 : decode cX3_announceEntriesWithoutKey 21 = .ok (.bipush (-9), 2) := by decide +kernel
theorem dX3_announceEntriesWithoutKey_23 : decode cX3_announceEntriesWithoutKey 23 = .ok (.if_icmp .eq 38, 3) := by decide +kernel
theorem dX3_announceEntriesWithoutKey_26 : decode cX3_announceEntriesWithoutKey 26 = .ok (.iload_n 2, 1) := by decide +kernel
theorem dX3_announceEntriesWithoutKey_27 : decode cX3_announceEntriesWithoutKey 27 = .ok (.aload_n 0, 1) := by decide +kernel
theorem dX3_announceEntriesWithoutKey_28 : decode cX3_announceEntriesWithoutKey 28 = .ok (.getfield 22, 3) := by decide +kernel
theorem dX3_announceEntriesWithoutKey_31 : decode cX3_announceEntriesWithoutKey 31 = .ok (.iload_n 3, 1) := by decide +kernel
theorem dX3_announceEntriesWithoutKey_32 : decode cX3_announceEntriesWithoutKey 32 = .ok (.iaload, 1) := by decide +kernel
theorem dX3_announceEntriesWithoutKey_33 : decode cX3_announceEntriesWithoutKey 33 = .ok (.invokestatic 71, 3) := by decide +kernel
theorem dX3_announceEntriesWithoutKey_36 : decode cX3_announceEntriesWithoutKey 36 = .ok (.ifCond .ne 25, 3) := by decide +kernel
theorem dX3_announceEntriesWithoutKey_39 : decode cX3_announceEntriesWithoutKey 39 = .ok (.aload_n 0, 1) := by decide +kernel
theorem dX3_announceEntriesWithoutKey_40 : decode cX3_announceEntriesWithoutKey 40 = .ok (.getfield 37, 3) := by decide +kernel
theorem dX3_announceEntriesWithoutKey_43 : decode cX3_announceEntriesWithoutKey 43 = .ok (.sipush 2000, 3) := by decide +kernel
theorem dX3_announceEntriesWithoutKey_46 : decode cX3_announceEntriesWithoutKey 46 = .ok (.bipush 32, 2) := by decide +kernel
theorem dX3_announceEntriesWithoutKey_48 : decode cX3_announceEntriesWithoutKey 48 = .ok (.iload_n 1, 1) := by decide +kernel
theorem dX3_announceEntriesWithoutKey_49 : decode cX3_announceEntriesWithoutKey 49 = .ok (.imul, 1) := by decide +kernel
theorem dX3_announceEntriesWithoutKey_50 : decode cX3_announceEntriesWithoutKey 50 = .ok (.iadd, 1) := by decide +kernel
theorem dX3_announceEntriesWithoutKey_51 : decode cX3_announceEntriesWithoutKey 51 = .ok (.aload_n 0, 1) := by decide +kernel
theorem dX3_announceEntriesWithoutKey_52 : decode cX3_announceEntriesWithoutKey 52 = .ok (.getfield 22, 3) := by decide +kernel
theorem dX3_announceEntriesWithoutKey_55 : decode cX3_announceEntriesWithoutKey 55 = .ok (.iload_n 3, 1) := by decide +kernel
theorem dX3_announceEntriesWithoutKey_56 : decode cX3_announceEntriesWithoutKey 56 = .ok (.iaload, 1) := by decide +kernel
theorem dX3_announceEntriesWithoutKey_57 : decode cX3_announceEntriesWithoutKey 57 = .ok (.iadd, 1) := by decide +kernel
theorem dX3_announceEntriesWithoutKey_58 : decode cX3_announceEntriesWithoutKey 58 = .ok (.invokevirtual 84, 3) := by decide +kernel
theorem dX3_announceEntriesWithoutKey_61 : decode cX3_announceEntriesWithoutKey 61 = .ok (.iinc 3 1, 3) := by decide +kernel
theorem dX3_announceEntriesWithoutKey_64 : decode cX3_announceEntriesWithoutKey 64 = .ok (.goto (-59), 3) := by decide +kernel
theorem dX3_announceEntriesWithoutKey_67 : decode cX3_announceEntriesWithoutKey 67 = .ok (.return_, 1) := by decide +kernel
set_option maxRecDepth 20000 in
theorem ggX3_free_X4_contains : GoodIn wsX3_free wsX4_contains := goodIn_r _ [7, 8, 9, 6, 10] (by decide +kernel) (by decide +kernel)
set_option maxRecDepth 20000 in
theorem gX3_free_X4_contains_n71 : GoodIn wsX3_free (wsX4_contains) := ggX3_free_X4_contains
set_option maxRecDepth 20000 in
theorem ggX3_free_J7_fill_fda19 : GoodIn wsX3_free wsJ7_fill_fda19 := goodIn_r _ [14, 15, 16, 13, 17] (by decide +kernel) (by decide +kernel)
set_option maxRecDepth 20000 in
theorem gX3_free_J7_fill_fda19 : GoodIn wsX3_free (va_wsS RX3 95 yJ7_fill_fda19 wsJ7_fill_fda19) := goodIn_app (goodIn_of _ (by decide +kernel)) ggX3_free_J7_fill_fda19
set_option maxRecDepth 20000 in
theorem ggX3_free_X3_keepEntries : GoodIn wsX3_free wsX3_keepEntries := goodIn_r _ [22, 23, 24, 25, 6, 26, 5, 7, 8, 9, 10, 27, 28, 29, 30, 31, 32, 33, 34, 35] (by decide +kernel) (by decide +kernel)
set_option maxRecDepth 20000 in
theorem gX3_free_X3_keepEntries : GoodIn wsX3_free (wsV RX3 92 RX3 yX3_keepEntries wsX3_keepEntries) := goodIn_app (goodIn_of _ (by decide +kernel)) ggX3_free_X3_keepEntries
theorem dX3_free_0 : decode cX3_free 0 = .ok (.iconst 0, 1) := by decide +kernel
theorem dX3_free_1 : decode cX3_free 1 = .ok (.istore_n 2, 1) := by decide +kernel
theorem dX3_free_2 : decode cX3_free 2 = .ok (.iload_n 2, 1) := by decide +kernel
theorem dX3_free_3 : decode cX3_free 3 = .ok (.bipush 24, 2) := by decide +kernel
theorem dX3_free_5 : decode cX3_free 5 = .ok (.if_icmp .ge 56, 3) := by decide +kernel
theorem dX3_free_8 : decode cX3_free 8 = .ok (.iload_n 1, 1) := by decide +kernel
theorem dX3_free_9 : decode cX3_free 9 = .ok (.iload_n 2, 1) := by decide +kernel
theorem dX3_free_10 : decode cX3_free 10 = .ok (.invokestatic 71, 3) := by decide +kernel
theorem dX3_free_13 : decode cX3_free 13 = .ok (.ifCond .eq 42, 3) := by decide +kernel
theorem dX3_free_16 : decode cX3_free 16 = .ok (.aload_n 0, 1) := by decide +kernel
theorem dX3_free_17 : decode cX3_free 17 = .ok (.getfield 13, 3) := by decide +kernel
theorem dX3_free_20 : decode cX3_free 20 = .ok (.iload_n 2, 1) := by decide +kernel
theorem dX3_free_21 : decode cX3_free 21 = .ok (.bipush (-9), 2) := by decide +kernel
theorem dX3_free_23 : decode cX3_free 23 = .ok (.iastore, 1) := by decide +kernel
theorem dX3_free_24 : decode cX3_free 24 = .ok (.aload_n 0, 1) := by decide +kernel
theorem dX3_free_25 : decode cX3_free 25 = .ok (.getfield 28, 3) := by decide +kernel
theorem dX3_free_28 : decode cX3_free 28 = .ok (.iload_n 2, 1) := by decide +kernel
theorem dX3_free_29 : decode cX3_free 29 = .ok (.bipush (-9), 2) := by decide +kernel
theorem dX3_free_31 : decode cX3_free 31 = .ok (.iastore, 1) := by decide +kernel
theorem dX3_free_32 : decode cX3_free 32 = .ok (.aload_n 0, 1) := by decide +kernel
theorem dX3_free_33 : decode cX3_free 33 = .ok (.getfield 19, 3) := by decide +kernel
theorem dX3_free_36 : decode cX3_free 36 = .ok (.iload_n 2, 1) := by decide +kernel
theorem dX3_free_37 : decode cX3_free 37 = .ok (.iconst 3, 1) := by decide +kernel
theorem dX3_free_38 : decode cX3_free 38 = .ok (.imul, 1) := by decide +kernel
theorem dX3_free_39 : decode cX3_free 39 = .ok (.iload_n 2, 1) := by decide +kernel
theorem dX3_free_40 : decode cX3_free 40 = .ok (.iconst 1, 1) := by decide +kernel
theorem dX3_free_41 : decode cX3_free 41 = .ok (.iadd, 1) := by decide +kernel
theorem dX3_free_42 : decode cX3_free 42 = .ok (.iconst 3, 1) := by decide +kernel
theorem dX3_free_43 : decode cX3_free 43 = .ok (.imul, 1) := by decide +kernel
theorem dX3_free_44 : decode cX3_free 44 = .ok (.bipush (-9), 2) := by decide +kernel
theorem dX3_free_46 : decode cX3_free 46 = .ok (.invokestatic 95, 3) := by decide +kernel
theorem dX3_free_49 : decode cX3_free 49 = .ok (.aload_n 0, 1) := by decide +kernel
theorem dX3_free_50 : decode cX3_free 50 = .ok (.iload_n 2, 1) := by decide +kernel
theorem dX3_free_51 : decode cX3_free 51 = .ok (.iconst 0, 1) := by decide +kernel
theorem dX3_free_52 : decode cX3_free 52 = .ok (.invokevirtual 92, 3) := by decide +kernel
theorem dX3_free_55 : decode cX3_free 55 = .ok (.iinc 2 1, 3) := by decide +kernel
theorem dX3_free_58 : decode cX3_free 58 = .ok (.goto (-56), 3) := by decide +kernel
theorem dX3_free_61 : decode cX3_free 61 = .ok (.aload_n 0, 1) := by decide +kernel
theorem dX3_free_62 : decode cX3_free 62 = .ok (.dup, 1) := by decide +kernel
theorem dX3_free_63 : decode cX3_free 63 = .ok (.getfield 49, 3) := by decide +kernel
theorem dX3_free_66 : decode cX3_free 66 = .ok (.iload_n 1, 1) := by decide +kernel
theorem dX3_free_67 : decode cX3_free 67 = .ok (.iconst (-1), 1) := by decide +kernel
theorem dX3_free_68 : decode cX3_free 68 = .ok (.ixor, 1) := by decide +kernel
theorem dX3_free_69 : decode cX3_free 69 = .ok (.iand, 1) := by decide +kernel
theorem dX3_free_70 : decode cX3_free 70 = .ok (.putfield 49, 3) := by decide +kernel
theorem dX3_free_73 : decode cX3_free 73 = .ok (.return_, 1) := by decide +kernel
set_option maxRecDepth 20000 in
theorem ggX4_init_X3_init : GoodIn wsX4_init wsX3_init := goodIn_r _ [18, 19, 2, 3, 20, 21, 22, 23, 24, 25, 26, 27, 28, 29, 30, 31, 32, 33, 34, 35, 36, 37, 38, 39, 40, 41, 42, 43, 44, 45, 55, 56, 57, 58, 59, 60, 61, 62, 63, 75, 76] (by decide +kernel) (by decide +kernel)
set_option maxRecDepth 20000 in
theorem gX4_init_X3_init_n9 : GoodIn wsX4_init (wsX3_init) := ggX4_init_X3_init
set_option maxRecDepth 20000 in
theorem ggX4_init_X0_init : GoodIn wsX4_init wsX0_init := goodIn_r _ [47, 48, 2, 3, 49, 50, 68, 69, 70] (by decide +kernel) (by decide +kernel)
set_option maxRecDepth 20000 in
theorem gX4_init_X0_init_n18 : GoodIn wsX4_init (wsX0_init) := ggX4_init_X0_init
set_option maxRecDepth 20000 in
theorem ggX4_init_X1_init : GoodIn wsX4_init wsX1_init := goodIn_r _ [52, 53, 2, 3, 37, 54, 71, 72, 73, 74] (by decide +kernel) (by decide +kernel)
set_option maxRecDepth 20000 in
theorem gX4_init_X1_init_n29 : GoodIn wsX4_init (wsX1_init) := ggX4_init_X1_init
theorem dX4_init_0 : decode cX4_init 0 = .ok (.aload_n 0, 1) := by decide +kernel
theorem dX4_init_1 : decode cX4_init 1 = .ok (.invokespecial 1, 3) := by decide +kernel
theorem dX4_init_4 : decode cX4_init 4 = .ok (.aload_n 0, 1) := by decide +kernel
theorem dX4_init_5 : decode cX4_init 5 = .ok (.new 7, 3) := by decide +kernel
theorem dX4_init_8 : decode cX4_init 8 = .ok (.dup, 1) := by decide +kernel
theorem dX4_init_9 : decode cX4_init 9 = .ok (.invokespecial 9, 3) := by decide +kernel
theorem dX4_init_12 : decode cX4_init 12 = .ok (.putfield 10, 3) := by decide +kernel
theorem dX4_init_15 : decode cX4_init 15 = .ok (.aload_n 0, 1) := by decide +kernel
theorem dX4_init_16 : decode cX4_init 16 = .ok (.new 16, 3) := by decide +kernel
theorem dX4_init_19 : decode cX4_init 19 = .ok (.dup, 1) := by decide +kernel
theorem dX4_init_20 : decode cX4_init 20 = .ok (.invokespecial 18, 3) := by decide +kernel
theorem dX4_init_23 : decode cX4_init 23 = .ok (.putfield 19, 3) := by decide +kernel
theorem dX4_init_26 : decode cX4_init 26 = .ok (.aload_n 0, 1) := by decide +kernel
theorem dX4_init_27 : decode cX4_init 27 = .ok (.iconst 2, 1) := by decide +kernel
theorem dX4_init_28 : decode cX4_init 28 = .ok (.anewarray 7, 3) := by decide +kernel
theorem dX4_init_31 : decode cX4_init 31 = .ok (.putfield 23, 3) := by decide +kernel
theorem dX4_init_34 : decode cX4_init 34 = .ok (.aload_n 0, 1) := by decide +kernel
theorem dX4_init_35 : decode cX4_init 35 = .ok (.new 27, 3) := by decide +kernel
theorem dX4_init_38 : decode cX4_init 38 = .ok (.dup, 1) := by decide +kernel
theorem dX4_init_39 : decode cX4_init 39 = .ok (.invokespecial 29, 3) := by decide +kernel
theorem dX4_init_42 : decode cX4_init 42 = .ok (.putfield 30, 3) := by decide +kernel
theorem dX4_init_45 : decode cX4_init 45 = .ok (.return_, 1) := by decide +kernel
set_option maxRecDepth 20000 in
theorem ggX4_allocate_X4_occupyNext : GoodIn wsX4_allocate wsX4_occupyNext := goodIn_r _ [5, 6, 7, 8, 9, 10, 11, 12, 13, 14, 15, 16, 17, 18, 19, 20, 21, 22, 23, 24, 25, 26, 27, 28, 29, 30, 31, 32, 33, 34, 35, 36, 37, 38, 39, 40, 41, 42, 4, 43, 44, 45, 46, 47, 48, 49, 50, 51, 52, 53, 54, 55, 56, 57, 58, 59, 60, 61, 62, 63, 64, 65, 66, 67, 68, 69, 70, 71, 72, 73, 74, 75, 76, 77, 78, 79, 80, 81, 82, 83, 84, 85, 86, 87, 88, 89, 90, 91, 92, 93, 94, 95, 96, 97] (by decide +kernel) (by decide +kernel)
set_option maxRecDepth 20000 in
theorem gX4_allocate_X4_occupyNext : GoodIn wsX4_allocate (wsV RX4 34 RX4 yX4_occupyNext wsX4_occupyNext) := goodIn_app (goodIn_of _ (by decide +kernel)) ggX4_allocate_X4_occupyNext
theorem dX4_allocate_0 : decode cX4_allocate 0 = .ok (.aload_n 0, 1) := by decide +kernel
theorem dX4_allocate_1 : decode cX4_allocate 1 = .ok (.iconst 0, 1) := by decide +kernel
theorem dX4_allocate_2 : decode cX4_allocate 2 = .ok (.bipush (-9), 2) := by decide +kernel
theorem dX4_allocate_4 : decode cX4_allocate 4 = .ok (.invokevirtual 34, 3) := by decide +kernel
theorem dX4_allocate_7 : decode cX4_allocate 7 = .ok (.ireturn, 1) := by decide +kernel
set_option maxRecDepth 20000 in
theorem ggX4_allocateTable_X4_occupyNext : GoodIn wsX4_allocateTable wsX4_occupyNext := goodIn_r _ [5, 6, 7, 8, 9, 10, 11, 12, 13, 14, 15, 16, 17, 18, 19, 20, 21, 22, 23, 24, 25, 26, 27, 28, 29, 30, 31, 32, 33, 34, 35, 36, 37, 38, 39, 40, 41, 42, 4, 43, 44, 45, 46, 47, 48, 49, 50, 51, 52, 53, 54, 55, 56, 57, 58, 59, 60, 61, 62, 63, 64, 65, 66, 67, 68, 69, 70, 71, 72, 73, 74, 75, 76, 77, 78, 79, 80, 81, 82, 83, 84, 85, 86, 87, 88, 89, 90, 91, 92, 93, 94, 95, 96, 97] (by decide +kernel) (by decide +kernel)
set_option maxRecDepth 20000 in
theorem gX4_allocateTable_X4_occupyNext : GoodIn wsX4_allocateTable (wsV RX4 34 RX4 yX4_occupyNext wsX4_occupyNext) := goodIn_app (goodIn_of _ (by decide +kernel)) ggX4_allocateTable_X4_occupyNext
theorem dX4_allocateTable_0 : decode cX4_allocateTable 0 = .ok (.aload_n 0, 1) := by decide +kernel
theorem dX4_allocateTable_1 : decode cX4_allocateTable 1 = .ok (.iconst 1, 1) := by decide +kernel
theorem dX4_allocateTable_2 : decode cX4_allocateTable 2 = .ok (.bipush (-9), 2) := by decide +kernel
theorem dX4_allocateTable_4 : decode cX4_allocateTable 4 = .ok (.invokevirtual 34, 3) := by decide +kernel
theorem dX4_allocateTable_7 : decode cX4_allocateTable 7 = .ok (.ireturn, 1) := by decide +kernel
set_option maxRecDepth 20000 in
theorem ggX4_allocateWeak_X3_isAllocated : GoodIn wsX4_allocateWeak wsX3_isAllocated := goodIn_r _ [6, 7, 8, 9, 10, 88, 89, 90, 91, 92, 93, 94, 95, 96] (by decide +kernel) (by decide +kernel)
set_option maxRecDepth 20000 in
theorem gX4_allocateWeak_X3_isAllocated : GoodIn wsX4_allocateWeak (wsV RX4 38 RX3 yX3_isAllocated wsX3_isAllocated) := goodIn_app (goodIn_of _ (by decide +kernel)) ggX4_allocateWeak_X3_isAllocated
set_option maxRecDepth 20000 in
theorem ggX4_allocateWeak_X4_occupyNext : GoodIn wsX4_allocateWeak wsX4_occupyNext := goodIn_r _ [14, 1, 15, 16, 17, 18, 5, 19, 7, 20, 21, 22, 23, 24, 25, 26, 27, 28, 29, 30, 31, 32, 33, 34, 35, 36, 37, 38, 39, 40, 41, 42, 43, 44, 45, 46, 47, 48, 9, 49, 50, 51, 52, 53, 54, 55, 56, 57, 58, 59, 60, 61, 62, 63, 64, 65, 66, 67, 68, 69, 70, 71, 72, 73, 74, 75, 76, 77, 78, 79, 80, 81, 82, 83, 8, 10, 84, 85, 86, 87, 88, 89, 90, 91, 92, 93, 94, 95, 96, 97, 98, 99, 100, 101] (by decide +kernel) (by decide +kernel)
set_option maxRecDepth 20000 in
theorem gX4_allocateWeak_X4_occupyNext : GoodIn wsX4_allocateWeak (wsV RX4 34 RX4 yX4_occupyNext wsX4_occupyNext) := goodIn_app (goodIn_of _ (by decide +kernel)) ggX4_allocateWeak_X4_occupyNext
theorem dX4_allocateWeak_0 : decode cX4_allocateWeak 0 = .ok (.aload_n 0, 1) := by decide +kernel
theorem dX4_allocateWeak_1 : decode cX4_allocateWeak 1 = .ok (.getfield 10, 3) := by decide +kernel
theorem dX4_allocateWeak_4 : decode cX4_allocateWeak 4 = .ok (.iload_n 1, 1) := by decide +kernel
theorem dX4_allocateWeak_5 : decode cX4_allocateWeak 5 = .ok (.invokevirtual 38, 3) := by decide +kernel
theorem dX4_allocateWeak_8 : decode cX4_allocateWeak 8 = .ok (.ifCond .ne 5, 3) := by decide +kernel
theorem dX4_allocateWeak_11 : decode cX4_allocateWeak 11 = .ok (.iconst (-1), 1) := by decide +kernel
theorem dX4_allocateWeak_12 : decode cX4_allocateWeak 12 = .ok (.ireturn, 1) := by decide +kernel
theorem dX4_allocateWeak_13 : decode cX4_allocateWeak 13 = .ok (.aload_n 0, 1) := by decide +kernel
theorem dX4_allocateWeak_14 : decode cX4_allocateWeak 14 = .ok (.iconst 2, 1) := by decide +kernel
theorem dX4_allocateWeak_15 : decode cX4_allocateWeak 15 = .ok (.iload_n 1, 1) := by decide +kernel
theorem dX4_allocateWeak_16 : decode cX4_allocateWeak 16 = .ok (.invokevirtual 34, 3) := by decide +kernel
theorem dX4_allocateWeak_19 : decode cX4_allocateWeak 19 = .ok (.ireturn, 1) := by decide +kernel
set_option maxRecDepth 20000 in
theorem ggX4_occupyNext_X3_smallestFree : GoodIn wsX4_occupyNext wsX3_smallestFree := goodIn_r _ [7, 8, 80, 81, 82, 83, 84, 85, 86, 87, 88] (by decide +kernel) (by decide +kernel)
set_option maxRecDepth 20000 in
theorem gX4_occupyNext_X3_smallestFree : GoodIn wsX4_occupyNext (wsV RX4 42 RX3 yX3_smallestFree wsX3_smallestFree) := goodIn_app (goodIn_of _ (by decide +kernel)) ggX4_occupyNext_X3_smallestFree
set_option maxRecDepth 20000 in
theorem ggX4_occupyNext_X0_push : GoodIn wsX4_occupyNext wsX0_push := goodIn_r _ [13, 14, 15, 16, 17, 6, 18, 19, 20, 21, 22, 23, 24, 25, 26, 27, 8, 28, 29, 30, 31, 32, 33, 34, 35, 36, 37, 38, 39, 40, 41, 42, 43, 44, 45, 46, 47, 48, 49, 50, 51, 52, 53, 54, 55, 56, 57, 58, 59, 60, 61, 62, 63, 64, 65, 66, 67, 68, 69, 89, 90, 91, 80, 81, 82, 83, 84, 85, 86, 87, 88, 92, 93] (by decide +kernel) (by decide +kernel)
set_option maxRecDepth 20000 in
theorem gX4_occupyNext_X0_push : GoodIn wsX4_occupyNext (wsV RX4 46 RX0 yX0_push wsX0_push) := goodIn_app (goodIn_of _ (by decide +kernel)) ggX4_occupyNext_X0_push
set_option maxRecDepth 20000 in
theorem ggX4_occupyNext_X3_occupy : GoodIn wsX4_occupyNext wsX3_occupy := goodIn_r _ [73, 8, 31, 74, 38, 75, 80, 81, 82, 83, 84, 85, 86, 87, 88] (by decide +kernel) (by decide +kernel)
set_option maxRecDepth 20000 in
theorem gX4_occupyNext_X3_occupy : GoodIn wsX4_occupyNext (wsV RX4 50 RX3 yX3_occupy wsX3_occupy) := goodIn_app (goodIn_of _ (by decide +kernel)) ggX4_occupyNext_X3_occupy
theorem dX4_occupyNext_0 : decode cX4_occupyNext 0 = .ok (.aload_n 0, 1) := by decide +kernel
theorem dX4_occupyNext_1 : decode cX4_occupyNext 1 = .ok (.getfield 10, 3) := by decide +kernel
theorem dX4_occupyNext_4 : decode cX4_occupyNext 4 = .ok (.invokevirtual 42, 3) := by decide +kernel
theorem dX4_occupyNext_7 : decode cX4_occupyNext 7 = .ok (.istore_n 3, 1) := by decide +kernel
theorem dX4_occupyNext_8 : decode cX4_occupyNext 8 = .ok (.iload_n 3, 1) := by decide +kernel
theorem dX4_occupyNext_9 : decode cX4_occupyNext 9 = .ok (.bipush (-9), 2) := by decide +kernel
theorem dX4_occupyNext_11 : decode cX4_occupyNext 11 = .ok (.if_icmp .ne 6, 3) := by decide +kernel
theorem dX4_occupyNext_14 : decode cX4_occupyNext 14 = .ok (.bipush (-3), 2) := by decide +kernel
theorem dX4_occupyNext_16 : decode cX4_occupyNext 16 = .ok (.ireturn, 1) := by decide +kernel
theorem dX4_occupyNext_17 : decode cX4_occupyNext 17 = .ok (.aload_n 0, 1) := by decide +kernel
theorem dX4_occupyNext_18 : decode cX4_occupyNext 18 = .ok (.getfield 19, 3) := by decide +kernel
theorem dX4_occupyNext_21 : decode cX4_occupyNext 21 = .ok (.aload_n 0, 1) := by decide +kernel
theorem dX4_occupyNext_22 : decode cX4_occupyNext 22 = .ok (.getfield 10, 3) := by decide +kernel
theorem dX4_occupyNext_25 : decode cX4_occupyNext 25 = .ok (.invokevirtual 46, 3) := by decide +kernel
theorem dX4_occupyNext_28 : decode cX4_occupyNext 28 = .ok (.aload_n 0, 1) := by decide +kernel
theorem dX4_occupyNext_29 : decode cX4_occupyNext 29 = .ok (.getfield 10, 3) := by decide +kernel
theorem dX4_occupyNext_32 : decode cX4_occupyNext 32 = .ok (.iload_n 3, 1) := by decide +kernel
theorem dX4_occupyNext_33 : decode cX4_occupyNext 33 = .ok (.iload_n 1, 1) := by decide +kernel
theorem dX4_occupyNext_34 : decode cX4_occupyNext 34 = .ok (.iload_n 2, 1) := by decide +kernel
theorem dX4_occupyNext_35 : decode cX4_occupyNext 35 = .ok (.invokevirtual 50, 3) := by decide +kernel
theorem dX4_occupyNext_38 : decode cX4_occupyNext 38 = .ok (.iload_n 3, 1) := by decide +kernel
theorem dX4_occupyNext_39 : decode cX4_occupyNext 39 = .ok (.ireturn, 1) := by decide +kernel
set_option maxRecDepth 20000 in
theorem ggX4_kind_X4_within : GoodIn wsX4_kind wsX4_within := goodIn_r _ [6] (by decide +kernel) (by decide +kernel)
set_option maxRecDepth 20000 in
theorem gX4_kind_X4_within : GoodIn wsX4_kind (va_wsS RX4 54 yX4_within wsX4_within) := goodIn_app (goodIn_of _ (by decide +kernel)) ggX4_kind_X4_within
theorem dX4_kind_0 : decode cX4_kind 0 = .ok (.iload_n 1, 1) := by decide +kernel
theorem dX4_kind_1 : decode cX4_kind 1 = .ok (.bipush 24, 2) := by decide +kernel
theorem dX4_kind_3 : decode cX4_kind 3 = .ok (.invokestatic 54, 3) := by decide +kernel
theorem dX4_kind_6 : decode cX4_kind 6 = .ok (.ifCond .eq 15, 3) := by decide +kernel
theorem dX4_kind_9 : decode cX4_kind 9 = .ok (.aload_n 0, 1) := by decide +kernel
theorem dX4_kind_10 : decode cX4_kind 10 = .ok (.getfield 10, 3) := by decide +kernel
theorem dX4_kind_13 : decode cX4_kind 13 = .ok (.getfield 58, 3) := by decide +kernel
theorem dX4_kind_16 : decode cX4_kind 16 = .ok (.iload_n 1, 1) := by decide +kernel
theorem dX4_kind_17 : decode cX4_kind 17 = .ok (.iaload, 1) := by decide +kernel
theorem dX4_kind_18 : decode cX4_kind 18 = .ok (.goto 5, 3) := by decide +kernel
theorem dX4_kind_21 : decode cX4_kind 21 = .ok (.bipush (-9), 2) := by decide +kernel
theorem dX4_kind_23 : decode cX4_kind 23 = .ok (.ireturn, 1) := by decide +kernel
set_option maxRecDepth 20000 in
theorem ggX4_setField_X3_hasKind : GoodIn wsX4_setField wsX3_hasKind := goodIn_r _ [8, 9, 10, 11, 12, 86, 87, 88, 89, 90, 91, 92, 93, 94] (by decide +kernel) (by decide +kernel)
set_option maxRecDepth 20000 in
theorem gX4_setField_X3_hasKind : GoodIn wsX4_setField (wsV RX4 62 RX3 yX3_hasKind wsX3_hasKind) := goodIn_app (goodIn_of _ (by decide +kernel)) ggX4_setField_X3_hasKind
set_option maxRecDepth 20000 in
theorem ggX4_setField_X4_within : GoodIn wsX4_setField wsX4_within := goodIn_r _ [12] (by decide +kernel) (by decide +kernel)
set_option maxRecDepth 20000 in
theorem gX4_setField_X4_within : GoodIn wsX4_setField (va_wsS RX4 54 yX4_within wsX4_within) := goodIn_app (goodIn_of _ (by decide +kernel)) ggX4_setField_X4_within
set_option maxRecDepth 20000 in
theorem ggX4_setField_X3_isContent : GoodIn wsX4_setField wsX3_isContent := goodIn_r _ [17, 18, 19, 20, 7, 21, 9, 10, 11, 12, 86, 87, 88, 89, 90, 91, 92, 93, 94] (by decide +kernel) (by decide +kernel)
set_option maxRecDepth 20000 in
theorem gX4_setField_X3_isContent : GoodIn wsX4_setField (wsV RX4 65 RX3 yX3_isContent wsX3_isContent) := goodIn_app (goodIn_of _ (by decide +kernel)) ggX4_setField_X3_isContent
set_option maxRecDepth 20000 in
theorem ggX4_setField_X0_push : GoodIn wsX4_setField wsX0_push := goodIn_r _ [26, 27, 28, 29, 30, 7, 31, 32, 33, 34, 35, 36, 37, 38, 39, 40, 9, 41, 42, 43, 44, 45, 46, 47, 48, 49, 50, 11, 51, 52, 53, 54, 55, 56, 57, 58, 59, 60, 61, 62, 63, 64, 65, 66, 67, 68, 69, 70, 71, 72, 73, 74, 75, 76, 77, 78, 79, 80, 81, 95, 96, 97, 86, 87, 88, 89, 90, 91, 92, 93, 94, 98, 99] (by decide +kernel) (by decide +kernel)
set_option maxRecDepth 20000 in
theorem gX4_setField_X0_push : GoodIn wsX4_setField (wsV RX4 46 RX0 yX0_push wsX0_push) := goodIn_app (goodIn_of _ (by decide +kernel)) ggX4_setField_X0_push
theorem dX4_setField_0 : decode cX4_setField 0 = .ok (.aload_n 0, 1) := by decide +kernel
theorem dX4_setField_1 : decode cX4_setField 1 = .ok (.getfield 10, 3) := by decide +kernel
theorem dX4_setField_4 : decode cX4_setField 4 = .ok (.iload_n 1, 1) := by decide +kernel
theorem dX4_setField_5 : decode cX4_setField 5 = .ok (.iconst 0, 1) := by decide +kernel
theorem dX4_setField_6 : decode cX4_setField 6 = .ok (.invokevirtual 62, 3) := by decide +kernel
theorem dX4_setField_9 : decode cX4_setField 9 = .ok (.ifCond .eq 22, 3) := by decide +kernel
theorem dX4_setField_12 : decode cX4_setField 12 = .ok (.iload_n 2, 1) := by decide +kernel
theorem dX4_setField_13 : decode cX4_setField 13 = .ok (.iconst 3, 1) := by decide +kernel
theorem dX4_setField_14 : decode cX4_setField 14 = .ok (.invokestatic 54, 3) := by decide +kernel
theorem dX4_setField_17 : decode cX4_setField 17 = .ok (.ifCond .eq 14, 3) := by decide +kernel
theorem dX4_setField_20 : decode cX4_setField 20 = .ok (.aload_n 0, 1) := by decide +kernel
theorem dX4_setField_21 : decode cX4_setField 21 = .ok (.getfield 10, 3) := by decide +kernel
theorem dX4_setField_24 : decode cX4_setField 24 = .ok (.iload_n 3, 1) := by decide +kernel
theorem dX4_setField_25 : decode cX4_setField 25 = .ok (.invokevirtual 65, 3) := by decide +kernel
theorem dX4_setField_28 : decode cX4_setField 28 = .ok (.ifCond .ne 5, 3) := by decide +kernel
theorem dX4_setField_31 : decode cX4_setField 31 = .ok (.iconst (-1), 1) := by decide +kernel
theorem dX4_setField_32 : decode cX4_setField 32 = .ok (.ireturn, 1) := by decide +kernel
theorem dX4_setField_33 : decode cX4_setField 33 = .ok (.iload_n 1, 1) := by decide +kernel
theorem dX4_setField_34 : decode cX4_setField 34 = .ok (.iconst 3, 1) := by decide +kernel
theorem dX4_setField_35 : decode cX4_setField 35 = .ok (.imul, 1) := by decide +kernel
theorem dX4_setField_36 : decode cX4_setField 36 = .ok (.iload_n 2, 1) := by decide +kernel
theorem dX4_setField_37 : decode cX4_setField 37 = .ok (.iadd, 1) := by decide +kernel
theorem dX4_setField_38 : decode cX4_setField 38 = .ok (.istore 4, 2) := by decide +kernel
theorem dX4_setField_40 : decode cX4_setField 40 = .ok (.aload_n 0, 1) := by decide +kernel
theorem dX4_setField_41 : decode cX4_setField 41 = .ok (.getfield 10, 3) := by decide +kernel
theorem dX4_setField_44 : decode cX4_setField 44 = .ok (.getfield 68, 3) := by decide +kernel
theorem dX4_setField_47 : decode cX4_setField 47 = .ok (.iload 4, 2) := by decide +kernel
theorem dX4_setField_49 : decode cX4_setField 49 = .ok (.iaload, 1) := by decide +kernel
theorem dX4_setField_50 : decode cX4_setField 50 = .ok (.istore 5, 2) := by decide +kernel
theorem dX4_setField_52 : decode cX4_setField 52 = .ok (.iload 5, 2) := by decide +kernel
theorem dX4_setField_54 : decode cX4_setField 54 = .ok (.iload_n 3, 1) := by decide +kernel
theorem dX4_setField_55 : decode cX4_setField 55 = .ok (.if_icmp .ne 6, 3) := by decide +kernel
theorem dX4_setField_58 : decode cX4_setField 58 = .ok (.bipush (-2), 2) := by decide +kernel
theorem dX4_setField_60 : decode cX4_setField 60 = .ok (.ireturn, 1) := by decide +kernel
theorem dX4_setField_61 : decode cX4_setField 61 = .ok (.aload_n 0, 1) := by decide +kernel
theorem dX4_setField_62 : decode cX4_setField 62 = .ok (.getfield 19, 3) := by decide +kernel
theorem dX4_setField_65 : decode cX4_setField 65 = .ok (.aload_n 0, 1) := by decide +kernel
theorem dX4_setField_66 : decode cX4_setField 66 = .ok (.getfield 10, 3) := by decide +kernel
theorem dX4_setField_69 : decode cX4_setField 69 = .ok (.invokevirtual 46, 3) := by decide +kernel
theorem dX4_setField_72 : decode cX4_setField 72 = .ok (.aload_n 0, 1) := by decide +kernel
theorem dX4_setField_73 : decode cX4_setField 73 = .ok (.getfield 10, 3) := by decide +kernel
theorem dX4_setField_76 : decode cX4_setField 76 = .ok (.getfield 68, 3) := by decide +kernel
theorem dX4_setField_79 : decode cX4_setField 79 = .ok (.iload 4, 2) := by decide +kernel
theorem dX4_setField_81 : decode cX4_setField 81 = .ok (.iload_n 3, 1) := by decide +kernel
theorem dX4_setField_82 : decode cX4_setField 82 = .ok (.iastore, 1) := by decide +kernel
theorem dX4_setField_83 : decode cX4_setField 83 = .ok (.iload 5, 2) := by decide +kernel
theorem dX4_setField_85 : decode cX4_setField 85 = .ok (.ireturn, 1) := by decide +kernel
set_option maxRecDepth 20000 in
theorem ggX4_field_X3_hasKind : GoodIn wsX4_field wsX3_hasKind := goodIn_r _ [7, 8, 9, 10, 11, 17, 18, 19, 20, 21, 22, 23, 24, 25] (by decide +kernel) (by decide +kernel)
set_option maxRecDepth 20000 in
theorem gX4_field_X3_hasKind : GoodIn wsX4_field (wsV RX4 62 RX3 yX3_hasKind wsX3_hasKind) := goodIn_app (goodIn_of _ (by decide +kernel)) ggX4_field_X3_hasKind
set_option maxRecDepth 20000 in
theorem ggX4_field_X4_within : GoodIn wsX4_field wsX4_within := goodIn_r _ [11] (by decide +kernel) (by decide +kernel)
set_option maxRecDepth 20000 in
theorem gX4_field_X4_within : GoodIn wsX4_field (va_wsS RX4 54 yX4_within wsX4_within) := goodIn_app (goodIn_of _ (by decide +kernel)) ggX4_field_X4_within
theorem dX4_field_0 : decode cX4_field 0 = .ok (.aload_n 0, 1) := by decide +kernel
theorem dX4_field_1 : decode cX4_field 1 = .ok (.getfield 10, 3) := by decide +kernel
theorem dX4_field_4 : decode cX4_field 4 = .ok (.iload_n 1, 1) := by decide +kernel
theorem dX4_field_5 : decode cX4_field 5 = .ok (.iconst 0, 1) := by decide +kernel
theorem dX4_field_6 : decode cX4_field 6 = .ok (.invokevirtual 62, 3) := by decide +kernel
theorem dX4_field_9 : decode cX4_field 9 = .ok (.ifCond .eq 11, 3) := by decide +kernel
theorem dX4_field_12 : decode cX4_field 12 = .ok (.iload_n 2, 1) := by decide +kernel
theorem dX4_field_13 : decode cX4_field 13 = .ok (.iconst 3, 1) := by decide +kernel
theorem dX4_field_14 : decode cX4_field 14 = .ok (.invokestatic 54, 3) := by decide +kernel
theorem dX4_field_17 : decode cX4_field 17 = .ok (.ifCond .ne 5, 3) := by decide +kernel
theorem dX4_field_20 : decode cX4_field 20 = .ok (.iconst (-1), 1) := by decide +kernel
theorem dX4_field_21 : decode cX4_field 21 = .ok (.ireturn, 1) := by decide +kernel
theorem dX4_field_22 : decode cX4_field 22 = .ok (.aload_n 0, 1) := by decide +kernel
theorem dX4_field_23 : decode cX4_field 23 = .ok (.getfield 10, 3) := by decide +kernel
theorem dX4_field_26 : decode cX4_field 26 = .ok (.getfield 68, 3) := by decide +kernel
theorem dX4_field_29 : decode cX4_field 29 = .ok (.iload_n 1, 1) := by decide +kernel
theorem dX4_field_30 : decode cX4_field 30 = .ok (.iconst 3, 1) := by decide +kernel
theorem dX4_field_31 : decode cX4_field 31 = .ok (.imul, 1) := by decide +kernel
theorem dX4_field_32 : decode cX4_field 32 = .ok (.iload_n 2, 1) := by decide +kernel
theorem dX4_field_33 : decode cX4_field 33 = .ok (.iadd, 1) := by decide +kernel
theorem dX4_field_34 : decode cX4_field 34 = .ok (.iaload, 1) := by decide +kernel
theorem dX4_field_35 : decode cX4_field 35 = .ok (.ireturn, 1) := by decide +kernel
set_option maxRecDepth 20000 in
theorem ggX4_setRoot_X4_within : GoodIn wsX4_setRoot wsX4_within := goodIn_r _ [7] (by decide +kernel) (by decide +kernel)
set_option maxRecDepth 20000 in
theorem gX4_setRoot_X4_within : GoodIn wsX4_setRoot (va_wsS RX4 54 yX4_within wsX4_within) := goodIn_app (goodIn_of _ (by decide +kernel)) ggX4_setRoot_X4_within
set_option maxRecDepth 20000 in
theorem ggX4_setRoot_X3_isContent : GoodIn wsX4_setRoot wsX3_isContent := goodIn_r _ [12, 13, 14, 15, 11, 16, 17, 5, 6, 7, 82, 83, 84, 85, 86, 87, 88, 89, 90] (by decide +kernel) (by decide +kernel)
set_option maxRecDepth 20000 in
theorem gX4_setRoot_X3_isContent : GoodIn wsX4_setRoot (wsV RX4 65 RX3 yX3_isContent wsX3_isContent) := goodIn_app (goodIn_of _ (by decide +kernel)) ggX4_setRoot_X3_isContent
set_option maxRecDepth 20000 in
theorem ggX4_setRoot_X0_push : GoodIn wsX4_setRoot wsX0_push := goodIn_r _ [22, 23, 24, 25, 26, 11, 27, 28, 29, 30, 31, 32, 33, 34, 35, 36, 17, 37, 38, 39, 40, 41, 42, 43, 44, 45, 46, 6, 47, 48, 49, 50, 51, 52, 53, 54, 55, 56, 57, 58, 59, 60, 61, 62, 63, 64, 65, 66, 67, 68, 69, 70, 71, 72, 73, 74, 75, 76, 77, 91, 92, 93, 82, 83, 84, 85, 86, 87, 88, 89, 90, 94, 95] (by decide +kernel) (by decide +kernel)
set_option maxRecDepth 20000 in
theorem gX4_setRoot_X0_push : GoodIn wsX4_setRoot (wsV RX4 46 RX0 yX0_push wsX0_push) := goodIn_app (goodIn_of _ (by decide +kernel)) ggX4_setRoot_X0_push
theorem dX4_setRoot_0 : decode cX4_setRoot 0 = .ok (.iload_n 1, 1) := by decide +kernel
theorem dX4_setRoot_1 : decode cX4_setRoot 1 = .ok (.bipush 6, 2) := by decide +kernel
theorem dX4_setRoot_3 : decode cX4_setRoot 3 = .ok (.invokestatic 54, 3) := by decide +kernel
theorem dX4_setRoot_6 : decode cX4_setRoot 6 = .ok (.ifCond .eq 14, 3) := by decide +kernel
theorem dX4_setRoot_9 : decode cX4_setRoot 9 = .ok (.aload_n 0, 1) := by decide +kernel
theorem dX4_setRoot_10 : decode cX4_setRoot 10 = .ok (.getfield 10, 3) := by decide +kernel
theorem dX4_setRoot_13 : decode cX4_setRoot 13 = .ok (.iload_n 2, 1) := by decide +kernel
theorem dX4_setRoot_14 : decode cX4_setRoot 14 = .ok (.invokevirtual 65, 3) := by decide +kernel
theorem dX4_setRoot_17 : decode cX4_setRoot 17 = .ok (.ifCond .ne 5, 3) := by decide +kernel
theorem dX4_setRoot_20 : decode cX4_setRoot 20 = .ok (.iconst (-1), 1) := by decide +kernel
theorem dX4_setRoot_21 : decode cX4_setRoot 21 = .ok (.ireturn, 1) := by decide +kernel
theorem dX4_setRoot_22 : decode cX4_setRoot 22 = .ok (.aload_n 0, 1) := by decide +kernel
theorem dX4_setRoot_23 : decode cX4_setRoot 23 = .ok (.getfield 10, 3) := by decide +kernel
theorem dX4_setRoot_26 : decode cX4_setRoot 26 = .ok (.getfield 71, 3) := by decide +kernel
theorem dX4_setRoot_29 : decode cX4_setRoot 29 = .ok (.iload_n 1, 1) := by decide +kernel
theorem dX4_setRoot_30 : decode cX4_setRoot 30 = .ok (.iaload, 1) := by decide +kernel
theorem dX4_setRoot_31 : decode cX4_setRoot 31 = .ok (.istore_n 3, 1) := by decide +kernel
theorem dX4_setRoot_32 : decode cX4_setRoot 32 = .ok (.iload_n 3, 1) := by decide +kernel
theorem dX4_setRoot_33 : decode cX4_setRoot 33 = .ok (.iload_n 2, 1) := by decide +kernel
theorem dX4_setRoot_34 : decode cX4_setRoot 34 = .ok (.if_icmp .ne 6, 3) := by decide +kernel
theorem dX4_setRoot_37 : decode cX4_setRoot 37 = .ok (.bipush (-2), 2) := by decide +kernel
theorem dX4_setRoot_39 : decode cX4_setRoot 39 = .ok (.ireturn, 1) := by decide +kernel
theorem dX4_setRoot_40 : decode cX4_setRoot 40 = .ok (.aload_n 0, 1) := by decide +kernel
theorem dX4_setRoot_41 : decode cX4_setRoot 41 = .ok (.getfield 19, 3) := by decide +kernel
theorem dX4_setRoot_44 : decode cX4_setRoot 44 = .ok (.aload_n 0, 1) := by decide +kernel
theorem dX4_setRoot_45 : decode cX4_setRoot 45 = .ok (.getfield 10, 3) := by decide +kernel
theorem dX4_setRoot_48 : decode cX4_setRoot 48 = .ok (.invokevirtual 46, 3) := by decide +kernel
theorem dX4_setRoot_51 : decode cX4_setRoot 51 = .ok (.aload_n 0, 1) := by decide +kernel
theorem dX4_setRoot_52 : decode cX4_setRoot 52 = .ok (.getfield 10, 3) := by decide +kernel
theorem dX4_setRoot_55 : decode cX4_setRoot 55 = .ok (.getfield 71, 3) := by decide +kernel
theorem dX4_setRoot_58 : decode cX4_setRoot 58 = .ok (.iload_n 1, 1) := by decide +kernel
theorem dX4_setRoot_59 : decode cX4_setRoot 59 = .ok (.iload_n 2, 1) := by decide +kernel
theorem dX4_setRoot_60 : decode cX4_setRoot 60 = .ok (.iastore, 1) := by decide +kernel
theorem dX4_setRoot_61 : decode cX4_setRoot 61 = .ok (.iload_n 3, 1) := by decide +kernel
theorem dX4_setRoot_62 : decode cX4_setRoot 62 = .ok (.ireturn, 1) := by decide +kernel
set_option maxRecDepth 20000 in
theorem ggX4_root_X4_within : GoodIn wsX4_root wsX4_within := goodIn_r _ [6] (by decide +kernel) (by decide +kernel)
set_option maxRecDepth 20000 in
theorem gX4_root_X4_within : GoodIn wsX4_root (va_wsS RX4 54 yX4_within wsX4_within) := goodIn_app (goodIn_of _ (by decide +kernel)) ggX4_root_X4_within
theorem dX4_root_0 : decode cX4_root 0 = .ok (.iload_n 1, 1) := by decide +kernel
theorem dX4_root_1 : decode cX4_root 1 = .ok (.bipush 6, 2) := by decide +kernel
theorem dX4_root_3 : decode cX4_root 3 = .ok (.invokestatic 54, 3) := by decide +kernel
theorem dX4_root_6 : decode cX4_root 6 = .ok (.ifCond .eq 15, 3) := by decide +kernel
theorem dX4_root_9 : decode cX4_root 9 = .ok (.aload_n 0, 1) := by decide +kernel
theorem dX4_root_10 : decode cX4_root 10 = .ok (.getfield 10, 3) := by decide +kernel
theorem dX4_root_13 : decode cX4_root 13 = .ok (.getfield 71, 3) := by decide +kernel
theorem dX4_root_16 : decode cX4_root 16 = .ok (.iload_n 1, 1) := by decide +kernel
theorem dX4_root_17 : decode cX4_root 17 = .ok (.iaload, 1) := by decide +kernel
theorem dX4_root_18 : decode cX4_root 18 = .ok (.goto 4, 3) := by decide +kernel
theorem dX4_root_21 : decode cX4_root 21 = .ok (.iconst (-1), 1) := by decide +kernel
theorem dX4_root_22 : decode cX4_root 22 = .ok (.ireturn, 1) := by decide +kernel
set_option maxRecDepth 20000 in
theorem ggX4_target_X3_hasKind : GoodIn wsX4_target wsX3_hasKind := goodIn_r _ [7, 8, 9, 10, 11, 16, 17, 18, 19, 20, 21, 22, 23, 24] (by decide +kernel) (by decide +kernel)
set_option maxRecDepth 20000 in
theorem gX4_target_X3_hasKind : GoodIn wsX4_target (wsV RX4 62 RX3 yX3_hasKind wsX3_hasKind) := goodIn_app (goodIn_of _ (by decide +kernel)) ggX4_target_X3_hasKind
theorem dX4_target_0 : decode cX4_target 0 = .ok (.aload_n 0, 1) := by decide +kernel
theorem dX4_target_1 : decode cX4_target 1 = .ok (.getfield 10, 3) := by decide +kernel
theorem dX4_target_4 : decode cX4_target 4 = .ok (.iload_n 1, 1) := by decide +kernel
theorem dX4_target_5 : decode cX4_target 5 = .ok (.iconst 2, 1) := by decide +kernel
theorem dX4_target_6 : decode cX4_target 6 = .ok (.invokevirtual 62, 3) := by decide +kernel
theorem dX4_target_9 : decode cX4_target 9 = .ok (.ifCond .eq 15, 3) := by decide +kernel
theorem dX4_target_12 : decode cX4_target 12 = .ok (.aload_n 0, 1) := by decide +kernel
theorem dX4_target_13 : decode cX4_target 13 = .ok (.getfield 10, 3) := by decide +kernel
theorem dX4_target_16 : decode cX4_target 16 = .ok (.getfield 74, 3) := by decide +kernel
theorem dX4_target_19 : decode cX4_target 19 = .ok (.iload_n 1, 1) := by decide +kernel
theorem dX4_target_20 : decode cX4_target 20 = .ok (.iaload, 1) := by decide +kernel
theorem dX4_target_21 : decode cX4_target 21 = .ok (.goto 4, 3) := by decide +kernel
theorem dX4_target_24 : decode cX4_target 24 = .ok (.iconst (-1), 1) := by decide +kernel
theorem dX4_target_25 : decode cX4_target 25 = .ok (.ireturn, 1) := by decide +kernel
set_option maxRecDepth 20000 in
theorem ggX4_setFinalizable_X3_isAllocated : GoodIn wsX4_setFinalizable wsX3_isAllocated := goodIn_r _ [8, 9, 10, 11, 12, 90, 91, 92, 93, 94, 95, 96, 97, 98] (by decide +kernel) (by decide +kernel)
set_option maxRecDepth 20000 in
theorem gX4_setFinalizable_X3_isAllocated : GoodIn wsX4_setFinalizable (wsV RX4 38 RX3 yX3_isAllocated wsX3_isAllocated) := goodIn_app (goodIn_of _ (by decide +kernel)) ggX4_setFinalizable_X3_isAllocated
set_option maxRecDepth 20000 in
theorem ggX4_setFinalizable_X4_contains : GoodIn wsX4_setFinalizable wsX4_contains := goodIn_r _ [15, 16, 17, 11, 18] (by decide +kernel) (by decide +kernel)
set_option maxRecDepth 20000 in
theorem gX4_setFinalizable_X4_contains : GoodIn wsX4_setFinalizable (va_wsS RX4 81 yX4_contains wsX4_contains) := goodIn_app (goodIn_of _ (by decide +kernel)) ggX4_setFinalizable_X4_contains
set_option maxRecDepth 20000 in
theorem ggX4_setFinalizable_X0_push : GoodIn wsX4_setFinalizable wsX0_push := goodIn_r _ [23, 24, 25, 26, 27, 7, 28, 29, 30, 31, 32, 33, 34, 35, 36, 37, 9, 38, 39, 40, 41, 42, 43, 44, 45, 46, 47, 11, 48, 49, 50, 51, 52, 53, 54, 55, 56, 57, 58, 59, 60, 61, 62, 63, 64, 65, 66, 67, 68, 69, 70, 71, 72, 73, 74, 75, 76, 77, 78, 99, 100, 101, 90, 91, 92, 93, 94, 95, 96, 97, 98, 102, 103] (by decide +kernel) (by decide +kernel)
set_option maxRecDepth 20000 in
theorem gX4_setFinalizable_X0_push : GoodIn wsX4_setFinalizable (wsV RX4 46 RX0 yX0_push wsX0_push) := goodIn_app (goodIn_of _ (by decide +kernel)) ggX4_setFinalizable_X0_push
set_option maxRecDepth 20000 in
theorem ggX4_setFinalizable_X4_setOf : GoodIn wsX4_setFinalizable wsX4_setOf := goodIn_r _ [18] (by decide +kernel) (by decide +kernel)
set_option maxRecDepth 20000 in
theorem gX4_setFinalizable_X4_setOf : GoodIn wsX4_setFinalizable (va_wsS RX4 84 yX4_setOf wsX4_setOf) := goodIn_app (goodIn_of _ (by decide +kernel)) ggX4_setFinalizable_X4_setOf
set_option maxRecDepth 20000 in
theorem ggX4_setFinalizable_J6_bitCount_0f7a4 : GoodIn wsX4_setFinalizable wsJ6_bitCount_0f7a4 := goodIn_r _ [82, 83, 84, 85] (by decide +kernel) (by decide +kernel)
set_option maxRecDepth 20000 in
theorem gX4_setFinalizable_J6_bitCount_0f7a4 : GoodIn wsX4_setFinalizable (va_wsS RX4 88 yJ6_bitCount_0f7a4 wsJ6_bitCount_0f7a4) := goodIn_app (goodIn_of _ (by decide +kernel)) ggX4_setFinalizable_J6_bitCount_0f7a4
theorem dX4_setFinalizable_0 : decode cX4_setFinalizable 0 = .ok (.aload_n 0, 1) := by decide +kernel
theorem dX4_setFinalizable_1 : decode cX4_setFinalizable 1 = .ok (.getfield 10, 3) := by decide +kernel
theorem dX4_setFinalizable_4 : decode cX4_setFinalizable 4 = .ok (.iload_n 1, 1) := by decide +kernel
theorem dX4_setFinalizable_5 : decode cX4_setFinalizable 5 = .ok (.invokevirtual 38, 3) := by decide +kernel
theorem dX4_setFinalizable_8 : decode cX4_setFinalizable 8 = .ok (.ifCond .eq 12, 3) := by decide +kernel
theorem dX4_setFinalizable_11 : decode cX4_setFinalizable 11 = .ok (.iload_n 2, 1) := by decide +kernel
theorem dX4_setFinalizable_12 : decode cX4_setFinalizable 12 = .ok (.ifCond .eq 10, 3) := by decide +kernel
theorem dX4_setFinalizable_15 : decode cX4_setFinalizable 15 = .ok (.iload_n 2, 1) := by decide +kernel
theorem dX4_setFinalizable_16 : decode cX4_setFinalizable 16 = .ok (.iconst 1, 1) := by decide +kernel
theorem dX4_setFinalizable_17 : decode cX4_setFinalizable 17 = .ok (.if_icmp .eq 5, 3) := by decide +kernel
theorem dX4_setFinalizable_20 : decode cX4_setFinalizable 20 = .ok (.iconst (-1), 1) := by decide +kernel
theorem dX4_setFinalizable_21 : decode cX4_setFinalizable 21 = .ok (.ireturn, 1) := by decide +kernel
theorem dX4_setFinalizable_22 : decode cX4_setFinalizable 22 = .ok (.aload_n 0, 1) := by decide +kernel
theorem dX4_setFinalizable_23 : decode cX4_setFinalizable 23 = .ok (.getfield 10, 3) := by decide +kernel
theorem dX4_setFinalizable_26 : decode cX4_setFinalizable 26 = .ok (.getfield 77, 3) := by decide +kernel
theorem dX4_setFinalizable_29 : decode cX4_setFinalizable 29 = .ok (.iload_n 1, 1) := by decide +kernel
theorem dX4_setFinalizable_30 : decode cX4_setFinalizable 30 = .ok (.invokestatic 81, 3) := by decide +kernel
theorem dX4_setFinalizable_33 : decode cX4_setFinalizable 33 = .ok (.iload_n 2, 1) := by decide +kernel
theorem dX4_setFinalizable_34 : decode cX4_setFinalizable 34 = .ok (.iconst 1, 1) := by decide +kernel
theorem dX4_setFinalizable_35 : decode cX4_setFinalizable 35 = .ok (.if_icmp .ne 7, 3) := by decide +kernel
theorem dX4_setFinalizable_38 : decode cX4_setFinalizable 38 = .ok (.iconst 1, 1) := by decide +kernel
theorem dX4_setFinalizable_39 : decode cX4_setFinalizable 39 = .ok (.goto 4, 3) := by decide +kernel
theorem dX4_setFinalizable_42 : decode cX4_setFinalizable 42 = .ok (.iconst 0, 1) := by decide +kernel
theorem dX4_setFinalizable_43 : decode cX4_setFinalizable 43 = .ok (.if_icmp .ne 6, 3) := by decide +kernel
theorem dX4_setFinalizable_46 : decode cX4_setFinalizable 46 = .ok (.bipush (-2), 2) := by decide +kernel
theorem dX4_setFinalizable_48 : decode cX4_setFinalizable 48 = .ok (.ireturn, 1) := by decide +kernel
theorem dX4_setFinalizable_49 : decode cX4_setFinalizable 49 = .ok (.aload_n 0, 1) := by decide +kernel
theorem dX4_setFinalizable_50 : decode cX4_setFinalizable 50 = .ok (.getfield 19, 3) := by decide +kernel
theorem dX4_setFinalizable_53 : decode cX4_setFinalizable 53 = .ok (.aload_n 0, 1) := by decide +kernel
theorem dX4_setFinalizable_54 : decode cX4_setFinalizable 54 = .ok (.getfield 10, 3) := by decide +kernel
theorem dX4_setFinalizable_57 : decode cX4_setFinalizable 57 = .ok (.invokevirtual 46, 3) := by decide +kernel
theorem dX4_setFinalizable_60 : decode cX4_setFinalizable 60 = .ok (.aload_n 0, 1) := by decide +kernel
theorem dX4_setFinalizable_61 : decode cX4_setFinalizable 61 = .ok (.getfield 10, 3) := by decide +kernel
theorem dX4_setFinalizable_64 : decode cX4_setFinalizable 64 = .ok (.dup, 1) := by decide +kernel
theorem dX4_setFinalizable_65 : decode cX4_setFinalizable 65 = .ok (.getfield 77, 3) := by decide +kernel
theorem dX4_setFinalizable_68 : decode cX4_setFinalizable 68 = .ok (.iload_n 1, 1) := by decide +kernel
theorem dX4_setFinalizable_69 : decode cX4_setFinalizable 69 = .ok (.invokestatic 84, 3) := by decide +kernel
theorem dX4_setFinalizable_72 : decode cX4_setFinalizable 72 = .ok (.ixor, 1) := by decide +kernel
theorem dX4_setFinalizable_73 : decode cX4_setFinalizable 73 = .ok (.putfield 77, 3) := by decide +kernel
theorem dX4_setFinalizable_76 : decode cX4_setFinalizable 76 = .ok (.aload_n 0, 1) := by decide +kernel
theorem dX4_setFinalizable_77 : decode cX4_setFinalizable 77 = .ok (.getfield 10, 3) := by decide +kernel
theorem dX4_setFinalizable_80 : decode cX4_setFinalizable 80 = .ok (.getfield 77, 3) := by decide +kernel
theorem dX4_setFinalizable_83 : decode cX4_setFinalizable 83 = .ok (.invokestatic 88, 3) := by decide +kernel
theorem dX4_setFinalizable_86 : decode cX4_setFinalizable 86 = .ok (.ireturn, 1) := by decide +kernel
set_option maxRecDepth 20000 in
theorem ggX4_put_X3_isTableAndKey : GoodIn wsX4_put wsX3_isTableAndKey := goodIn_r _ [9, 10, 11, 12, 8, 13, 14, 15, 16, 17, 18, 19, 20, 21, 91, 92, 93, 94, 95, 96, 97, 98, 99] (by decide +kernel) (by decide +kernel)
set_option maxRecDepth 20000 in
theorem gX4_put_X3_isTableAndKey : GoodIn wsX4_put (wsV RX4 93 RX3 yX3_isTableAndKey wsX3_isTableAndKey) := goodIn_app (goodIn_of _ (by decide +kernel)) ggX4_put_X3_isTableAndKey
set_option maxRecDepth 20000 in
theorem ggX4_put_X3_isAllocated : GoodIn wsX4_put wsX3_isAllocated := goodIn_r _ [21, 14, 15, 16, 17, 91, 92, 93, 94, 95, 96, 97, 98, 99] (by decide +kernel) (by decide +kernel)
set_option maxRecDepth 20000 in
theorem gX4_put_X3_isAllocated : GoodIn wsX4_put (wsV RX4 38 RX3 yX3_isAllocated wsX3_isAllocated) := goodIn_app (goodIn_of _ (by decide +kernel)) ggX4_put_X3_isAllocated
set_option maxRecDepth 20000 in
theorem ggX4_put_X3_placeOfKey : GoodIn wsX4_put wsX3_placeOfKey := goodIn_r _ [26, 27, 15, 16, 17, 91, 92, 93, 94, 95, 96, 97, 98, 99] (by decide +kernel) (by decide +kernel)
set_option maxRecDepth 20000 in
theorem gX4_put_X3_placeOfKey : GoodIn wsX4_put (wsV RX4 96 RX3 yX3_placeOfKey wsX3_placeOfKey) := goodIn_app (goodIn_of _ (by decide +kernel)) ggX4_put_X3_placeOfKey
set_option maxRecDepth 20000 in
theorem ggX4_put_X0_push : GoodIn wsX4_put wsX0_push := goodIn_r _ [32, 33, 34, 35, 36, 8, 37, 38, 39, 40, 41, 42, 43, 44, 45, 46, 14, 47, 27, 48, 49, 50, 51, 52, 53, 54, 55, 16, 56, 57, 58, 59, 60, 61, 62, 63, 64, 65, 66, 67, 68, 69, 70, 71, 72, 73, 74, 75, 76, 77, 78, 79, 80, 81, 82, 83, 84, 85, 86, 100, 101, 102, 91, 92, 93, 94, 95, 96, 97, 98, 99, 103, 104] (by decide +kernel) (by decide +kernel)
set_option maxRecDepth 20000 in
theorem gX4_put_X0_push : GoodIn wsX4_put (wsV RX4 46 RX0 yX0_push wsX0_push) := goodIn_app (goodIn_of _ (by decide +kernel)) ggX4_put_X0_push
theorem dX4_put_0 : decode cX4_put 0 = .ok (.aload_n 0, 1) := by decide +kernel
theorem dX4_put_1 : decode cX4_put 1 = .ok (.getfield 10, 3) := by decide +kernel
theorem dX4_put_4 : decode cX4_put 4 = .ok (.iload_n 1, 1) := by decide +kernel
theorem dX4_put_5 : decode cX4_put 5 = .ok (.iload_n 2, 1) := by decide +kernel
theorem dX4_put_6 : decode cX4_put 6 = .ok (.invokevirtual 93, 3) := by decide +kernel
theorem dX4_put_9 : decode cX4_put 9 = .ok (.ifCond .eq 14, 3) := by decide +kernel
theorem dX4_put_12 : decode cX4_put 12 = .ok (.aload_n 0, 1) := by decide +kernel
theorem dX4_put_13 : decode cX4_put 13 = .ok (.getfield 10, 3) := by decide +kernel
theorem dX4_put_16 : decode cX4_put 16 = .ok (.iload_n 3, 1) := by decide +kernel
theorem dX4_put_17 : decode cX4_put 17 = .ok (.invokevirtual 38, 3) := by decide +kernel
theorem dX4_put_20 : decode cX4_put 20 = .ok (.ifCond .ne 5, 3) := by decide +kernel
theorem dX4_put_23 : decode cX4_put 23 = .ok (.iconst (-1), 1) := by decide +kernel
theorem dX4_put_24 : decode cX4_put 24 = .ok (.ireturn, 1) := by decide +kernel
theorem dX4_put_25 : decode cX4_put 25 = .ok (.aload_n 0, 1) := by decide +kernel
theorem dX4_put_26 : decode cX4_put 26 = .ok (.getfield 10, 3) := by decide +kernel
theorem dX4_put_29 : decode cX4_put 29 = .ok (.iload_n 1, 1) := by decide +kernel
theorem dX4_put_30 : decode cX4_put 30 = .ok (.iload_n 2, 1) := by decide +kernel
theorem dX4_put_31 : decode cX4_put 31 = .ok (.invokevirtual 96, 3) := by decide +kernel
theorem dX4_put_34 : decode cX4_put 34 = .ok (.istore 4, 2) := by decide +kernel
theorem dX4_put_36 : decode cX4_put 36 = .ok (.iload 4, 2) := by decide +kernel
theorem dX4_put_38 : decode cX4_put 38 = .ok (.bipush (-9), 2) := by decide +kernel
theorem dX4_put_40 : decode cX4_put 40 = .ok (.if_icmp .ne 15, 3) := by decide +kernel
theorem dX4_put_43 : decode cX4_put 43 = .ok (.aload_n 0, 1) := by decide +kernel
theorem dX4_put_44 : decode cX4_put 44 = .ok (.getfield 10, 3) := by decide +kernel
theorem dX4_put_47 : decode cX4_put 47 = .ok (.iload_n 1, 1) := by decide +kernel
theorem dX4_put_48 : decode cX4_put 48 = .ok (.bipush (-9), 2) := by decide +kernel
theorem dX4_put_50 : decode cX4_put 50 = .ok (.invokevirtual 96, 3) := by decide +kernel
theorem dX4_put_53 : decode cX4_put 53 = .ok (.istore 4, 2) := by decide +kernel
theorem dX4_put_55 : decode cX4_put 55 = .ok (.iload 4, 2) := by decide +kernel
theorem dX4_put_57 : decode cX4_put 57 = .ok (.bipush (-9), 2) := by decide +kernel
theorem dX4_put_59 : decode cX4_put 59 = .ok (.if_icmp .ne 6, 3) := by decide +kernel
theorem dX4_put_62 : decode cX4_put 62 = .ok (.bipush (-3), 2) := by decide +kernel
theorem dX4_put_64 : decode cX4_put 64 = .ok (.ireturn, 1) := by decide +kernel
theorem dX4_put_65 : decode cX4_put 65 = .ok (.aload_n 0, 1) := by decide +kernel
theorem dX4_put_66 : decode cX4_put 66 = .ok (.getfield 19, 3) := by decide +kernel
theorem dX4_put_69 : decode cX4_put 69 = .ok (.aload_n 0, 1) := by decide +kernel
theorem dX4_put_70 : decode cX4_put 70 = .ok (.getfield 10, 3) := by decide +kernel
theorem dX4_put_73 : decode cX4_put 73 = .ok (.invokevirtual 46, 3) := by decide +kernel
theorem dX4_put_76 : decode cX4_put 76 = .ok (.aload_n 0, 1) := by decide +kernel
theorem dX4_put_77 : decode cX4_put 77 = .ok (.getfield 10, 3) := by decide +kernel
theorem dX4_put_80 : decode cX4_put 80 = .ok (.getfield 99, 3) := by decide +kernel
theorem dX4_put_83 : decode cX4_put 83 = .ok (.iload 4, 2) := by decide +kernel
theorem dX4_put_85 : decode cX4_put 85 = .ok (.iaload, 1) := by decide +kernel
theorem dX4_put_86 : decode cX4_put 86 = .ok (.istore 5, 2) := by decide +kernel
theorem dX4_put_88 : decode cX4_put 88 = .ok (.aload_n 0, 1) := by decide +kernel
theorem dX4_put_89 : decode cX4_put 89 = .ok (.getfield 10, 3) := by decide +kernel
theorem dX4_put_92 : decode cX4_put 92 = .ok (.getfield 102, 3) := by decide +kernel
theorem dX4_put_95 : decode cX4_put 95 = .ok (.iload 4, 2) := by decide +kernel
theorem dX4_put_97 : decode cX4_put 97 = .ok (.iload_n 2, 1) := by decide +kernel
theorem dX4_put_98 : decode cX4_put 98 = .ok (.iastore, 1) := by decide +kernel
theorem dX4_put_99 : decode cX4_put 99 = .ok (.aload_n 0, 1) := by decide +kernel
theorem dX4_put_100 : decode cX4_put 100 = .ok (.getfield 10, 3) := by decide +kernel
theorem dX4_put_103 : decode cX4_put 103 = .ok (.getfield 99, 3) := by decide +kernel
theorem dX4_put_106 : decode cX4_put 106 = .ok (.iload 4, 2) := by decide +kernel
theorem dX4_put_108 : decode cX4_put 108 = .ok (.iload_n 3, 1) := by decide +kernel
theorem dX4_put_109 : decode cX4_put 109 = .ok (.iastore, 1) := by decide +kernel
theorem dX4_put_110 : decode cX4_put 110 = .ok (.iload 5, 2) := by decide +kernel
theorem dX4_put_112 : decode cX4_put 112 = .ok (.ireturn, 1) := by decide +kernel
set_option maxRecDepth 20000 in
theorem ggX4_get_X3_isTableAndKey : GoodIn wsX4_get wsX3_isTableAndKey := goodIn_r _ [7, 8, 9, 10, 6, 11, 12, 13, 14, 15, 16, 17, 18, 19, 29, 30, 31, 32, 33, 34, 35, 36, 37] (by decide +kernel) (by decide +kernel)
set_option maxRecDepth 20000 in
theorem gX4_get_X3_isTableAndKey : GoodIn wsX4_get (wsV RX4 93 RX3 yX3_isTableAndKey wsX3_isTableAndKey) := goodIn_app (goodIn_of _ (by decide +kernel)) ggX4_get_X3_isTableAndKey
set_option maxRecDepth 20000 in
theorem ggX4_get_X3_placeOfKey : GoodIn wsX4_get wsX3_placeOfKey := goodIn_r _ [23, 24, 13, 14, 15, 29, 30, 31, 32, 33, 34, 35, 36, 37] (by decide +kernel) (by decide +kernel)
set_option maxRecDepth 20000 in
theorem gX4_get_X3_placeOfKey : GoodIn wsX4_get (wsV RX4 96 RX3 yX3_placeOfKey wsX3_placeOfKey) := goodIn_app (goodIn_of _ (by decide +kernel)) ggX4_get_X3_placeOfKey
theorem dX4_get_0 : decode cX4_get 0 = .ok (.aload_n 0, 1) := by decide +kernel
theorem dX4_get_1 : decode cX4_get 1 = .ok (.getfield 10, 3) := by decide +kernel
theorem dX4_get_4 : decode cX4_get 4 = .ok (.iload_n 1, 1) := by decide +kernel
theorem dX4_get_5 : decode cX4_get 5 = .ok (.iload_n 2, 1) := by decide +kernel
theorem dX4_get_6 : decode cX4_get 6 = .ok (.invokevirtual 93, 3) := by decide +kernel
theorem dX4_get_9 : decode cX4_get 9 = .ok (.ifCond .ne 5, 3) := by decide +kernel
theorem dX4_get_12 : decode cX4_get 12 = .ok (.iconst (-1), 1) := by decide +kernel
theorem dX4_get_13 : decode cX4_get 13 = .ok (.ireturn, 1) := by decide +kernel
theorem dX4_get_14 : decode cX4_get 14 = .ok (.aload_n 0, 1) := by decide +kernel
theorem dX4_get_15 : decode cX4_get 15 = .ok (.getfield 10, 3) := by decide +kernel
theorem dX4_get_18 : decode cX4_get 18 = .ok (.iload_n 1, 1) := by decide +kernel
theorem dX4_get_19 : decode cX4_get 19 = .ok (.iload_n 2, 1) := by decide +kernel
theorem dX4_get_20 : decode cX4_get 20 = .ok (.invokevirtual 96, 3) := by decide +kernel
theorem dX4_get_23 : decode cX4_get 23 = .ok (.istore_n 3, 1) := by decide +kernel
theorem dX4_get_24 : decode cX4_get 24 = .ok (.iload_n 3, 1) := by decide +kernel
theorem dX4_get_25 : decode cX4_get 25 = .ok (.bipush (-9), 2) := by decide +kernel
theorem dX4_get_27 : decode cX4_get 27 = .ok (.if_icmp .ne 8, 3) := by decide +kernel
theorem dX4_get_30 : decode cX4_get 30 = .ok (.bipush (-9), 2) := by decide +kernel
theorem dX4_get_32 : decode cX4_get 32 = .ok (.goto 12, 3) := by decide +kernel
theorem dX4_get_35 : decode cX4_get 35 = .ok (.aload_n 0, 1) := by decide +kernel
theorem dX4_get_36 : decode cX4_get 36 = .ok (.getfield 10, 3) := by decide +kernel
theorem dX4_get_39 : decode cX4_get 39 = .ok (.getfield 99, 3) := by decide +kernel
theorem dX4_get_42 : decode cX4_get 42 = .ok (.iload_n 3, 1) := by decide +kernel
theorem dX4_get_43 : decode cX4_get 43 = .ok (.iaload, 1) := by decide +kernel
theorem dX4_get_44 : decode cX4_get 44 = .ok (.ireturn, 1) := by decide +kernel
set_option maxRecDepth 20000 in
theorem ggX4_removeEntry_X3_isTableAndKey : GoodIn wsX4_removeEntry wsX3_isTableAndKey := goodIn_r _ [8, 9, 10, 11, 7, 12, 13, 14, 15, 16, 17, 18, 19, 20, 98, 99, 100, 101, 102, 103, 104, 105, 106] (by decide +kernel) (by decide +kernel)
set_option maxRecDepth 20000 in
theorem gX4_removeEntry_X3_isTableAndKey : GoodIn wsX4_removeEntry (wsV RX4 93 RX3 yX3_isTableAndKey wsX3_isTableAndKey) := goodIn_app (goodIn_of _ (by decide +kernel)) ggX4_removeEntry_X3_isTableAndKey
set_option maxRecDepth 20000 in
theorem ggX4_removeEntry_X3_placeOfKey : GoodIn wsX4_removeEntry wsX3_placeOfKey := goodIn_r _ [24, 25, 14, 15, 16, 98, 99, 100, 101, 102, 103, 104, 105, 106] (by decide +kernel) (by decide +kernel)
set_option maxRecDepth 20000 in
theorem gX4_removeEntry_X3_placeOfKey : GoodIn wsX4_removeEntry (wsV RX4 96 RX3 yX3_placeOfKey wsX3_placeOfKey) := goodIn_app (goodIn_of _ (by decide +kernel)) ggX4_removeEntry_X3_placeOfKey
set_option maxRecDepth 20000 in
theorem ggX4_removeEntry_X0_push : GoodIn wsX4_removeEntry wsX0_push := goodIn_r _ [30, 31, 32, 33, 34, 7, 35, 36, 37, 38, 39, 40, 41, 42, 43, 44, 13, 45, 25, 46, 47, 48, 49, 50, 51, 52, 53, 15, 54, 55, 56, 57, 58, 59, 60, 61, 62, 63, 64, 65, 66, 67, 68, 69, 70, 71, 72, 73, 74, 75, 76, 77, 78, 79, 80, 81, 82, 83, 84, 107, 108, 109, 98, 99, 100, 101, 102, 103, 104, 105, 106, 110, 111] (by decide +kernel) (by decide +kernel)
set_option maxRecDepth 20000 in
theorem gX4_removeEntry_X0_push : GoodIn wsX4_removeEntry (wsV RX4 46 RX0 yX0_push wsX0_push) := goodIn_app (goodIn_of _ (by decide +kernel)) ggX4_removeEntry_X0_push
set_option maxRecDepth 20000 in
theorem ggX4_removeEntry_X4_setOf : GoodIn wsX4_removeEntry wsX4_setOf := goodIn_r _ [87] (by decide +kernel) (by decide +kernel)
set_option maxRecDepth 20000 in
theorem gX4_removeEntry_X4_setOf : GoodIn wsX4_removeEntry (va_wsS RX4 84 yX4_setOf wsX4_setOf) := goodIn_app (goodIn_of _ (by decide +kernel)) ggX4_removeEntry_X4_setOf
set_option maxRecDepth 20000 in
theorem ggX4_removeEntry_X3_keepEntries : GoodIn wsX4_removeEntry wsX3_keepEntries := goodIn_r _ [91, 25, 46, 14, 15, 16, 92, 93, 85, 86, 87, 98, 99, 100, 101, 102, 103, 104, 105, 106] (by decide +kernel) (by decide +kernel)
set_option maxRecDepth 20000 in
theorem gX4_removeEntry_X3_keepEntries : GoodIn wsX4_removeEntry (wsV RX4 105 RX3 yX3_keepEntries wsX3_keepEntries) := goodIn_app (goodIn_of _ (by decide +kernel)) ggX4_removeEntry_X3_keepEntries
theorem dX4_removeEntry_0 : decode cX4_removeEntry 0 = .ok (.aload_n 0, 1) := by decide +kernel
theorem dX4_removeEntry_1 : decode cX4_removeEntry 1 = .ok (.getfield 10, 3) := by decide +kernel
theorem dX4_removeEntry_4 : decode cX4_removeEntry 4 = .ok (.iload_n 1, 1) := by decide +kernel
theorem dX4_removeEntry_5 : decode cX4_removeEntry 5 = .ok (.iload_n 2, 1) := by decide +kernel
theorem dX4_removeEntry_6 : decode cX4_removeEntry 6 = .ok (.invokevirtual 93, 3) := by decide +kernel
theorem dX4_removeEntry_9 : decode cX4_removeEntry 9 = .ok (.ifCond .ne 5, 3) := by decide +kernel
theorem dX4_removeEntry_12 : decode cX4_removeEntry 12 = .ok (.iconst (-1), 1) := by decide +kernel
theorem dX4_removeEntry_13 : decode cX4_removeEntry 13 = .ok (.ireturn, 1) := by decide +kernel
theorem dX4_removeEntry_14 : decode cX4_removeEntry 14 = .ok (.aload_n 0, 1) := by decide +kernel
theorem dX4_removeEntry_15 : decode cX4_removeEntry 15 = .ok (.getfield 10, 3) := by decide +kernel
theorem dX4_removeEntry_18 : decode cX4_removeEntry 18 = .ok (.iload_n 1, 1) := by decide +kernel
theorem dX4_removeEntry_19 : decode cX4_removeEntry 19 = .ok (.iload_n 2, 1) := by decide +kernel
theorem dX4_removeEntry_20 : decode cX4_removeEntry 20 = .ok (.invokevirtual 96, 3) := by decide +kernel
theorem dX4_removeEntry_23 : decode cX4_removeEntry 23 = .ok (.istore_n 3, 1) := by decide +kernel
theorem dX4_removeEntry_24 : decode cX4_removeEntry 24 = .ok (.iload_n 3, 1) := by decide +kernel
theorem dX4_removeEntry_25 : decode cX4_removeEntry 25 = .ok (.bipush (-9), 2) := by decide +kernel
theorem dX4_removeEntry_27 : decode cX4_removeEntry 27 = .ok (.if_icmp .ne 6, 3) := by decide +kernel
theorem dX4_removeEntry_30 : decode cX4_removeEntry 30 = .ok (.bipush (-2), 2) := by decide +kernel
theorem dX4_removeEntry_32 : decode cX4_removeEntry 32 = .ok (.ireturn, 1) := by decide +kernel
theorem dX4_removeEntry_33 : decode cX4_removeEntry 33 = .ok (.aload_n 0, 1) := by decide +kernel
theorem dX4_removeEntry_34 : decode cX4_removeEntry 34 = .ok (.getfield 19, 3) := by decide +kernel
theorem dX4_removeEntry_37 : decode cX4_removeEntry 37 = .ok (.aload_n 0, 1) := by decide +kernel
theorem dX4_removeEntry_38 : decode cX4_removeEntry 38 = .ok (.getfield 10, 3) := by decide +kernel
theorem dX4_removeEntry_41 : decode cX4_removeEntry 41 = .ok (.invokevirtual 46, 3) := by decide +kernel
theorem dX4_removeEntry_44 : decode cX4_removeEntry 44 = .ok (.aload_n 0, 1) := by decide +kernel
theorem dX4_removeEntry_45 : decode cX4_removeEntry 45 = .ok (.getfield 10, 3) := by decide +kernel
theorem dX4_removeEntry_48 : decode cX4_removeEntry 48 = .ok (.getfield 99, 3) := by decide +kernel
theorem dX4_removeEntry_51 : decode cX4_removeEntry 51 = .ok (.iload_n 3, 1) := by decide +kernel
theorem dX4_removeEntry_52 : decode cX4_removeEntry 52 = .ok (.iaload, 1) := by decide +kernel
theorem dX4_removeEntry_53 : decode cX4_removeEntry 53 = .ok (.istore 4, 2) := by decide +kernel
theorem dX4_removeEntry_55 : decode cX4_removeEntry 55 = .ok (.aload_n 0, 1) := by decide +kernel
theorem dX4_removeEntry_56 : decode cX4_removeEntry 56 = .ok (.getfield 10, 3) := by decide +kernel
theorem dX4_removeEntry_59 : decode cX4_removeEntry 59 = .ok (.iload_n 1, 1) := by decide +kernel
theorem dX4_removeEntry_60 : decode cX4_removeEntry 60 = .ok (.iload_n 2, 1) := by decide +kernel
theorem dX4_removeEntry_61 : decode cX4_removeEntry 61 = .ok (.invokestatic 84, 3) := by decide +kernel
theorem dX4_removeEntry_64 : decode cX4_removeEntry 64 = .ok (.iconst (-1), 1) := by decide +kernel
theorem dX4_removeEntry_65 : decode cX4_removeEntry 65 = .ok (.ixor, 1) := by decide +kernel
theorem dX4_removeEntry_66 : decode cX4_removeEntry 66 = .ok (.invokevirtual 105, 3) := by decide +kernel
theorem dX4_removeEntry_69 : decode cX4_removeEntry 69 = .ok (.iload 4, 2) := by decide +kernel
theorem dX4_removeEntry_71 : decode cX4_removeEntry 71 = .ok (.ireturn, 1) := by decide +kernel
set_option maxRecDepth 20000 in
theorem ggX4_entryCount_X3_hasKind : GoodIn wsX4_entryCount wsX3_hasKind := goodIn_r _ [6, 7, 8, 9, 10, 20, 21, 22, 23, 24, 25, 26, 27, 28] (by decide +kernel) (by decide +kernel)
set_option maxRecDepth 20000 in
theorem gX4_entryCount_X3_hasKind : GoodIn wsX4_entryCount (wsV RX4 62 RX3 yX3_hasKind wsX3_hasKind) := goodIn_app (goodIn_of _ (by decide +kernel)) ggX4_entryCount_X3_hasKind
set_option maxRecDepth 20000 in
theorem ggX4_entryCount_X3_placeOfKey : GoodIn wsX4_entryCount wsX3_placeOfKey := goodIn_r _ [14, 15, 8, 9, 10, 20, 21, 22, 23, 24, 25, 26, 27, 28] (by decide +kernel) (by decide +kernel)
set_option maxRecDepth 20000 in
theorem gX4_entryCount_X3_placeOfKey : GoodIn wsX4_entryCount (wsV RX4 96 RX3 yX3_placeOfKey wsX3_placeOfKey) := goodIn_app (goodIn_of _ (by decide +kernel)) ggX4_entryCount_X3_placeOfKey
theorem dX4_entryCount_0 : decode cX4_entryCount 0 = .ok (.aload_n 0, 1) := by decide +kernel
theorem dX4_entryCount_1 : decode cX4_entryCount 1 = .ok (.getfield 10, 3) := by decide +kernel
theorem dX4_entryCount_4 : decode cX4_entryCount 4 = .ok (.iload_n 1, 1) := by decide +kernel
theorem dX4_entryCount_5 : decode cX4_entryCount 5 = .ok (.iconst 1, 1) := by decide +kernel
theorem dX4_entryCount_6 : decode cX4_entryCount 6 = .ok (.invokevirtual 62, 3) := by decide +kernel
theorem dX4_entryCount_9 : decode cX4_entryCount 9 = .ok (.ifCond .ne 5, 3) := by decide +kernel
theorem dX4_entryCount_12 : decode cX4_entryCount 12 = .ok (.iconst (-1), 1) := by decide +kernel
theorem dX4_entryCount_13 : decode cX4_entryCount 13 = .ok (.ireturn, 1) := by decide +kernel
theorem dX4_entryCount_14 : decode cX4_entryCount 14 = .ok (.aload_n 0, 1) := by decide +kernel
theorem dX4_entryCount_15 : decode cX4_entryCount 15 = .ok (.getfield 10, 3) := by decide +kernel
theorem dX4_entryCount_18 : decode cX4_entryCount 18 = .ok (.iload_n 1, 1) := by decide +kernel
theorem dX4_entryCount_19 : decode cX4_entryCount 19 = .ok (.bipush (-9), 2) := by decide +kernel
theorem dX4_entryCount_21 : decode cX4_entryCount 21 = .ok (.invokevirtual 96, 3) := by decide +kernel
theorem dX4_entryCount_24 : decode cX4_entryCount 24 = .ok (.istore_n 2, 1) := by decide +kernel
theorem dX4_entryCount_25 : decode cX4_entryCount 25 = .ok (.iload_n 2, 1) := by decide +kernel
theorem dX4_entryCount_26 : decode cX4_entryCount 26 = .ok (.bipush (-9), 2) := by decide +kernel
theorem dX4_entryCount_28 : decode cX4_entryCount 28 = .ok (.if_icmp .ne 8, 3) := by decide +kernel
theorem dX4_entryCount_31 : decode cX4_entryCount 31 = .ok (.bipush 6, 2) := by decide +kernel
theorem dX4_entryCount_33 : decode cX4_entryCount 33 = .ok (.goto 9, 3) := by decide +kernel
theorem dX4_entryCount_36 : decode cX4_entryCount 36 = .ok (.iload_n 2, 1) := by decide +kernel
theorem dX4_entryCount_37 : decode cX4_entryCount 37 = .ok (.iload_n 1, 1) := by decide +kernel
theorem dX4_entryCount_38 : decode cX4_entryCount 38 = .ok (.bipush 6, 2) := by decide +kernel
theorem dX4_entryCount_40 : decode cX4_entryCount 40 = .ok (.imul, 1) := by decide +kernel
theorem dX4_entryCount_41 : decode cX4_entryCount 41 = .ok (.isub, 1) := by decide +kernel
theorem dX4_entryCount_42 : decode cX4_entryCount 42 = .ok (.ireturn, 1) := by decide +kernel
set_option maxRecDepth 20000 in
theorem ggX4_entryKey_X3_hasKind : GoodIn wsX4_entryKey wsX3_hasKind := goodIn_r _ [7, 8, 9, 10, 11, 16, 17, 18, 19, 20, 21, 22, 23, 24] (by decide +kernel) (by decide +kernel)
set_option maxRecDepth 20000 in
theorem gX4_entryKey_X3_hasKind : GoodIn wsX4_entryKey (wsV RX4 62 RX3 yX3_hasKind wsX3_hasKind) := goodIn_app (goodIn_of _ (by decide +kernel)) ggX4_entryKey_X3_hasKind
theorem dX4_entryKey_0 : decode cX4_entryKey 0 = .ok (.aload_n 0, 1) := by decide +kernel
theorem dX4_entryKey_1 : decode cX4_entryKey 1 = .ok (.getfield 10, 3) := by decide +kernel
theorem dX4_entryKey_4 : decode cX4_entryKey 4 = .ok (.iload_n 1, 1) := by decide +kernel
theorem dX4_entryKey_5 : decode cX4_entryKey 5 = .ok (.iconst 1, 1) := by decide +kernel
theorem dX4_entryKey_6 : decode cX4_entryKey 6 = .ok (.invokevirtual 62, 3) := by decide +kernel
theorem dX4_entryKey_9 : decode cX4_entryKey 9 = .ok (.ifCond .eq 7, 3) := by decide +kernel
theorem dX4_entryKey_12 : decode cX4_entryKey 12 = .ok (.iload_n 2, 1) := by decide +kernel
theorem dX4_entryKey_13 : decode cX4_entryKey 13 = .ok (.ifCond .ge 5, 3) := by decide +kernel
theorem dX4_entryKey_16 : decode cX4_entryKey 16 = .ok (.iconst (-1), 1) := by decide +kernel
theorem dX4_entryKey_17 : decode cX4_entryKey 17 = .ok (.ireturn, 1) := by decide +kernel
theorem dX4_entryKey_18 : decode cX4_entryKey 18 = .ok (.iload_n 2, 1) := by decide +kernel
theorem dX4_entryKey_19 : decode cX4_entryKey 19 = .ok (.bipush 6, 2) := by decide +kernel
theorem dX4_entryKey_21 : decode cX4_entryKey 21 = .ok (.if_icmp .ge 20, 3) := by decide +kernel
theorem dX4_entryKey_24 : decode cX4_entryKey 24 = .ok (.aload_n 0, 1) := by decide +kernel
theorem dX4_entryKey_25 : decode cX4_entryKey 25 = .ok (.getfield 10, 3) := by decide +kernel
theorem dX4_entryKey_28 : decode cX4_entryKey 28 = .ok (.getfield 102, 3) := by decide +kernel
theorem dX4_entryKey_31 : decode cX4_entryKey 31 = .ok (.iload_n 1, 1) := by decide +kernel
theorem dX4_entryKey_32 : decode cX4_entryKey 32 = .ok (.bipush 6, 2) := by decide +kernel
theorem dX4_entryKey_34 : decode cX4_entryKey 34 = .ok (.imul, 1) := by decide +kernel
theorem dX4_entryKey_35 : decode cX4_entryKey 35 = .ok (.iload_n 2, 1) := by decide +kernel
theorem dX4_entryKey_36 : decode cX4_entryKey 36 = .ok (.iadd, 1) := by decide +kernel
theorem dX4_entryKey_37 : decode cX4_entryKey 37 = .ok (.iaload, 1) := by decide +kernel
theorem dX4_entryKey_38 : decode cX4_entryKey 38 = .ok (.goto 5, 3) := by decide +kernel
theorem dX4_entryKey_41 : decode cX4_entryKey 41 = .ok (.bipush (-9), 2) := by decide +kernel
theorem dX4_entryKey_43 : decode cX4_entryKey 43 = .ok (.ireturn, 1) := by decide +kernel
set_option maxRecDepth 20000 in
theorem ggX4_collect_X0_push : GoodIn wsX4_collect wsX0_push := goodIn_r _ [12, 13, 14, 15, 16, 17, 18, 19, 20, 21, 22, 23, 24, 25, 26, 27, 28, 29, 30, 31, 32, 33, 34, 35, 36, 37, 38, 39, 40, 41, 42, 43, 44, 45, 46, 47, 48, 49, 50, 51, 52, 53, 54, 55, 56, 57, 58, 59, 60, 61, 62, 63, 64, 65, 66, 67, 68, 69, 70, 196, 197, 198, 187, 188, 189, 190, 191, 192, 193, 194, 195, 199, 200] (by decide +kernel) (by decide +kernel)
set_option maxRecDepth 20000 in
theorem gX4_collect_X0_push : GoodIn wsX4_collect (wsV RX4 46 RX0 yX0_push wsX0_push) := goodIn_app (goodIn_of _ (by decide +kernel)) ggX4_collect_X0_push
set_option maxRecDepth 20000 in
theorem ggX4_collect_X4_markFromRoots : GoodIn wsX4_collect wsX4_markFromRoots := goodIn_r _ [74, 3, 2, 75, 76, 77, 17, 78, 33, 79, 39, 80, 81, 82, 83, 84, 85, 86, 87, 88, 89, 90, 46, 47, 48, 91, 92, 93, 94, 95, 96, 97, 98, 99, 100, 101, 102, 103, 104, 105, 106, 107, 108, 109, 110, 111, 112, 113, 29, 114, 115, 116, 117, 118, 119, 120, 121, 30, 31, 179, 180, 181, 182, 187, 188, 189, 190, 191, 192, 193, 194, 195, 183, 184, 185, 186] (by decide +kernel) (by decide +kernel)
set_option maxRecDepth 20000 in
theorem gX4_collect_X4_markFromRoots : GoodIn wsX4_collect (wsV RX4 109 RX4 yX4_markFromRoots wsX4_markFromRoots) := goodIn_app (goodIn_of _ (by decide +kernel)) ggX4_collect_X4_markFromRoots
set_option maxRecDepth 20000 in
theorem ggX4_collect_X3_emptyWeakReferences : GoodIn wsX4_collect wsX3_emptyWeakReferences := goodIn_r _ [125, 32, 37, 103, 39, 104, 105, 79, 80, 126, 127, 128, 36, 129, 70, 52, 130, 131, 132, 133, 134, 63, 64, 65, 135, 42, 21, 43, 136, 137, 187, 188, 189, 190, 191, 192, 193, 194, 195, 199, 200] (by decide +kernel) (by decide +kernel)
set_option maxRecDepth 20000 in
theorem gX4_collect_X3_emptyWeakReferences : GoodIn wsX4_collect (wsV RX4 121 RX3 yX3_emptyWeakReferences wsX3_emptyWeakReferences) := goodIn_app (goodIn_of _ (by decide +kernel)) ggX4_collect_X3_emptyWeakReferences
set_option maxRecDepth 20000 in
theorem ggX4_collect_X3_finalizeObjects : GoodIn wsX4_collect wsX3_finalizeObjects := goodIn_r _ [141, 37, 57, 103, 39, 104, 105, 79, 80, 126, 127, 128, 36, 129, 70, 52, 130, 131, 132, 133, 134, 63, 64, 65, 135, 42, 21, 43, 136, 137, 187, 188, 189, 190, 191, 192, 193, 194, 195, 199, 200] (by decide +kernel) (by decide +kernel)
set_option maxRecDepth 20000 in
theorem gX4_collect_X3_finalizeObjects : GoodIn wsX4_collect (wsV RX4 125 RX3 yX3_finalizeObjects wsX3_finalizeObjects) := goodIn_app (goodIn_of _ (by decide +kernel)) ggX4_collect_X3_finalizeObjects
set_option maxRecDepth 20000 in
theorem ggX4_collect_X4_markFromRootsAnd : GoodIn wsX4_collect wsX4_markFromRootsAnd := goodIn_r _ [145, 3, 2, 75, 76, 77, 17, 78, 33, 79, 39, 80, 81, 82, 83, 84, 85, 86, 87, 88, 89, 90, 46, 47, 48, 91, 92, 93, 94, 95, 96, 97, 98, 99, 100, 101, 102, 103, 104, 105, 106, 107, 108, 109, 110, 111, 112, 113, 29, 114, 115, 116, 117, 118, 119, 120, 121, 30, 31, 179, 180, 181, 182, 187, 188, 189, 190, 191, 192, 193, 194, 195, 183, 184, 185, 186] (by decide +kernel) (by decide +kernel)
set_option maxRecDepth 20000 in
theorem gX4_collect_X4_markFromRootsAnd : GoodIn wsX4_collect (wsV RX4 129 RX4 yX4_markFromRootsAnd wsX4_markFromRootsAnd) := goodIn_app (goodIn_of _ (by decide +kernel)) ggX4_collect_X4_markFromRootsAnd
set_option maxRecDepth 20000 in
theorem ggX4_collect_X3_removeEntriesWithoutKey : GoodIn wsX4_collect wsX3_removeEntriesWithoutKey := goodIn_r _ [149, 103, 39, 104, 105, 79, 80, 150, 151, 152, 17, 153, 30, 37, 126, 127, 128, 36, 129, 70, 52, 130, 131, 132, 133, 134, 63, 64, 65, 135, 42, 21, 43, 136, 137, 154, 155, 156, 157, 31, 187, 188, 189, 190, 191, 192, 193, 194, 195, 199, 200] (by decide +kernel) (by decide +kernel)
set_option maxRecDepth 20000 in
theorem gX4_collect_X3_removeEntriesWithoutKey : GoodIn wsX4_collect (wsV RX4 132 RX3 yX3_removeEntriesWithoutKey wsX3_removeEntriesWithoutKey) := goodIn_app (goodIn_of _ (by decide +kernel)) ggX4_collect_X3_removeEntriesWithoutKey
set_option maxRecDepth 20000 in
theorem ggX4_collect_X3_allocated : GoodIn wsX4_collect wsX3_allocated := goodIn_r _ [161, 28, 79, 39, 80, 187, 188, 189, 190, 191, 192, 193, 194, 195] (by decide +kernel) (by decide +kernel)
set_option maxRecDepth 20000 in
theorem gX4_collect_X3_allocated : GoodIn wsX4_collect (wsV RX4 135 RX3 yX3_allocated wsX3_allocated) := goodIn_app (goodIn_of _ (by decide +kernel)) ggX4_collect_X3_allocated
set_option maxRecDepth 20000 in
theorem ggX4_collect_X3_free : GoodIn wsX4_collect wsX3_free := goodIn_r _ [165, 28, 32, 29, 57, 103, 39, 104, 105, 79, 80, 166, 167, 47, 168, 169, 170, 171, 154, 155, 156, 17, 157, 30, 31, 136, 137, 187, 188, 189, 190, 191, 192, 193, 194, 195] (by decide +kernel) (by decide +kernel)
set_option maxRecDepth 20000 in
theorem gX4_collect_X3_free : GoodIn wsX4_collect (wsV RX4 138 RX3 yX3_free wsX3_free) := goodIn_app (goodIn_of _ (by decide +kernel)) ggX4_collect_X3_free
set_option maxRecDepth 20000 in
theorem ggX4_collect_J6_bitCount_0f7a4 : GoodIn wsX4_collect wsJ6_bitCount_0f7a4 := goodIn_r _ [175, 176, 177, 178] (by decide +kernel) (by decide +kernel)
set_option maxRecDepth 20000 in
theorem gX4_collect_J6_bitCount_0f7a4 : GoodIn wsX4_collect (va_wsS RX4 88 yJ6_bitCount_0f7a4 wsJ6_bitCount_0f7a4) := goodIn_app (goodIn_of _ (by decide +kernel)) ggX4_collect_J6_bitCount_0f7a4
theorem dX4_collect_0 : decode cX4_collect 0 = .ok (.aload_n 0, 1) := by decide +kernel
theorem dX4_collect_1 : decode cX4_collect 1 = .ok (.getfield 19, 3) := by decide +kernel
theorem dX4_collect_4 : decode cX4_collect 4 = .ok (.aload_n 0, 1) := by decide +kernel
theorem dX4_collect_5 : decode cX4_collect 5 = .ok (.getfield 10, 3) := by decide +kernel
theorem dX4_collect_8 : decode cX4_collect 8 = .ok (.invokevirtual 46, 3) := by decide +kernel
theorem dX4_collect_11 : decode cX4_collect 11 = .ok (.aload_n 0, 1) := by decide +kernel
theorem dX4_collect_12 : decode cX4_collect 12 = .ok (.invokevirtual 109, 3) := by decide +kernel
theorem dX4_collect_15 : decode cX4_collect 15 = .ok (.aload_n 0, 1) := by decide +kernel
theorem dX4_collect_16 : decode cX4_collect 16 = .ok (.getfield 10, 3) := by decide +kernel
theorem dX4_collect_19 : decode cX4_collect 19 = .ok (.aload_n 0, 1) := by decide +kernel
theorem dX4_collect_20 : decode cX4_collect 20 = .ok (.getfield 30, 3) := by decide +kernel
theorem dX4_collect_23 : decode cX4_collect 23 = .ok (.getfield 112, 3) := by decide +kernel
theorem dX4_collect_26 : decode cX4_collect 26 = .ok (.putfield 115, 3) := by decide +kernel
theorem dX4_collect_29 : decode cX4_collect 29 = .ok (.aload_n 0, 1) := by decide +kernel
theorem dX4_collect_30 : decode cX4_collect 30 = .ok (.getfield 10, 3) := by decide +kernel
theorem dX4_collect_33 : decode cX4_collect 33 = .ok (.aload_n 0, 1) := by decide +kernel
theorem dX4_collect_34 : decode cX4_collect 34 = .ok (.getfield 30, 3) := by decide +kernel
theorem dX4_collect_37 : decode cX4_collect 37 = .ok (.getfield 118, 3) := by decide +kernel
theorem dX4_collect_40 : decode cX4_collect 40 = .ok (.iconst 1, 1) := by decide +kernel
theorem dX4_collect_41 : decode cX4_collect 41 = .ok (.invokevirtual 121, 3) := by decide +kernel
theorem dX4_collect_44 : decode cX4_collect 44 = .ok (.aload_n 0, 1) := by decide +kernel
theorem dX4_collect_45 : decode cX4_collect 45 = .ok (.getfield 10, 3) := by decide +kernel
theorem dX4_collect_48 : decode cX4_collect 48 = .ok (.getfield 77, 3) := by decide +kernel
theorem dX4_collect_51 : decode cX4_collect 51 = .ok (.aload_n 0, 1) := by decide +kernel
theorem dX4_collect_52 : decode cX4_collect 52 = .ok (.getfield 30, 3) := by decide +kernel
theorem dX4_collect_55 : decode cX4_collect 55 = .ok (.getfield 118, 3) := by decide +kernel
theorem dX4_collect_58 : decode cX4_collect 58 = .ok (.iconst (-1), 1) := by decide +kernel
theorem dX4_collect_59 : decode cX4_collect 59 = .ok (.ixor, 1) := by decide +kernel
theorem dX4_collect_60 : decode cX4_collect 60 = .ok (.iand, 1) := by decide +kernel
theorem dX4_collect_61 : decode cX4_collect 61 = .ok (.istore_n 1, 1) := by decide +kernel
theorem dX4_collect_62 : decode cX4_collect 62 = .ok (.aload_n 0, 1) := by decide +kernel
theorem dX4_collect_63 : decode cX4_collect 63 = .ok (.getfield 10, 3) := by decide +kernel
theorem dX4_collect_66 : decode cX4_collect 66 = .ok (.iload_n 1, 1) := by decide +kernel
theorem dX4_collect_67 : decode cX4_collect 67 = .ok (.invokevirtual 125, 3) := by decide +kernel
theorem dX4_collect_70 : decode cX4_collect 70 = .ok (.aload_n 0, 1) := by decide +kernel
theorem dX4_collect_71 : decode cX4_collect 71 = .ok (.iload_n 1, 1) := by decide +kernel
theorem dX4_collect_72 : decode cX4_collect 72 = .ok (.invokevirtual 129, 3) := by decide +kernel
theorem dX4_collect_75 : decode cX4_collect 75 = .ok (.aload_n 0, 1) := by decide +kernel
theorem dX4_collect_76 : decode cX4_collect 76 = .ok (.getfield 10, 3) := by decide +kernel
theorem dX4_collect_79 : decode cX4_collect 79 = .ok (.aload_n 0, 1) := by decide +kernel
theorem dX4_collect_80 : decode cX4_collect 80 = .ok (.getfield 30, 3) := by decide +kernel
theorem dX4_collect_83 : decode cX4_collect 83 = .ok (.getfield 118, 3) := by decide +kernel
theorem dX4_collect_86 : decode cX4_collect 86 = .ok (.invokevirtual 132, 3) := by decide +kernel
theorem dX4_collect_89 : decode cX4_collect 89 = .ok (.aload_n 0, 1) := by decide +kernel
theorem dX4_collect_90 : decode cX4_collect 90 = .ok (.getfield 10, 3) := by decide +kernel
theorem dX4_collect_93 : decode cX4_collect 93 = .ok (.aload_n 0, 1) := by decide +kernel
theorem dX4_collect_94 : decode cX4_collect 94 = .ok (.getfield 30, 3) := by decide +kernel
theorem dX4_collect_97 : decode cX4_collect 97 = .ok (.getfield 118, 3) := by decide +kernel
theorem dX4_collect_100 : decode cX4_collect 100 = .ok (.iconst 0, 1) := by decide +kernel
theorem dX4_collect_101 : decode cX4_collect 101 = .ok (.invokevirtual 121, 3) := by decide +kernel
theorem dX4_collect_104 : decode cX4_collect 104 = .ok (.aload_n 0, 1) := by decide +kernel
theorem dX4_collect_105 : decode cX4_collect 105 = .ok (.getfield 10, 3) := by decide +kernel
theorem dX4_collect_108 : decode cX4_collect 108 = .ok (.invokevirtual 135, 3) := by decide +kernel
theorem dX4_collect_111 : decode cX4_collect 111 = .ok (.aload_n 0, 1) := by decide +kernel
theorem dX4_collect_112 : decode cX4_collect 112 = .ok (.getfield 30, 3) := by decide +kernel
theorem dX4_collect_115 : decode cX4_collect 115 = .ok (.getfield 118, 3) := by decide +kernel
theorem dX4_collect_118 : decode cX4_collect 118 = .ok (.iconst (-1), 1) := by decide +kernel
theorem dX4_collect_119 : decode cX4_collect 119 = .ok (.ixor, 1) := by decide +kernel
theorem dX4_collect_120 : decode cX4_collect 120 = .ok (.iand, 1) := by decide +kernel
theorem dX4_collect_121 : decode cX4_collect 121 = .ok (.istore_n 2, 1) := by decide +kernel
theorem dX4_collect_122 : decode cX4_collect 122 = .ok (.aload_n 0, 1) := by decide +kernel
theorem dX4_collect_123 : decode cX4_collect 123 = .ok (.getfield 10, 3) := by decide +kernel
theorem dX4_collect_126 : decode cX4_collect 126 = .ok (.iload_n 2, 1) := by decide +kernel
theorem dX4_collect_127 : decode cX4_collect 127 = .ok (.invokevirtual 138, 3) := by decide +kernel
theorem dX4_collect_130 : decode cX4_collect 130 = .ok (.iload_n 2, 1) := by decide +kernel
theorem dX4_collect_131 : decode cX4_collect 131 = .ok (.invokestatic 88, 3) := by decide +kernel
theorem dX4_collect_134 : decode cX4_collect 134 = .ok (.ireturn, 1) := by decide +kernel
theorem dX4_lastRounds_0 : decode cX4_lastRounds 0 = .ok (.aload_n 0, 1) := by decide +kernel
theorem dX4_lastRounds_1 : decode cX4_lastRounds 1 = .ok (.getfield 10, 3) := by decide +kernel
theorem dX4_lastRounds_4 : decode cX4_lastRounds 4 = .ok (.getfield 115, 3) := by decide +kernel
theorem dX4_lastRounds_7 : decode cX4_lastRounds 7 = .ok (.ireturn, 1) := by decide +kernel
set_option maxRecDepth 20000 in
theorem ggX4_pollNotice_X0_push : GoodIn wsX4_pollNotice wsX0_push := goodIn_r _ [9, 10, 11, 12, 13, 14, 15, 16, 17, 18, 19, 20, 21, 22, 23, 24, 25, 26, 27, 28, 29, 30, 31, 32, 33, 34, 35, 36, 37, 38, 39, 40, 41, 42, 43, 44, 45, 46, 47, 48, 49, 50, 51, 52, 53, 54, 55, 56, 57, 58, 59, 60, 61, 62, 63, 64, 65, 66, 67, 89, 90, 91, 78, 79, 80, 81, 82, 83, 84, 85, 86, 87, 88] (by decide +kernel) (by decide +kernel)
set_option maxRecDepth 20000 in
theorem gX4_pollNotice_X0_push : GoodIn wsX4_pollNotice (wsV RX4 46 RX0 yX0_push wsX0_push) := goodIn_app (goodIn_of _ (by decide +kernel)) ggX4_pollNotice_X0_push
set_option maxRecDepth 20000 in
theorem ggX4_pollNotice_X2_removeOldest : GoodIn wsX4_pollNotice wsX2_removeOldest := goodIn_r _ [71, 49, 72, 60, 61, 62, 67, 73, 39, 18, 40, 87, 88] (by decide +kernel) (by decide +kernel)
set_option maxRecDepth 20000 in
theorem gX4_pollNotice_X2_removeOldest : GoodIn wsX4_pollNotice (wsV RX4 150 RX2 yX2_removeOldest wsX2_removeOldest) := goodIn_app (goodIn_of _ (by decide +kernel)) ggX4_pollNotice_X2_removeOldest
theorem dX4_pollNotice_0 : decode cX4_pollNotice 0 = .ok (.aload_n 0, 1) := by decide +kernel
theorem dX4_pollNotice_1 : decode cX4_pollNotice 1 = .ok (.getfield 10, 3) := by decide +kernel
theorem dX4_pollNotice_4 : decode cX4_pollNotice 4 = .ok (.getfield 141, 3) := by decide +kernel
theorem dX4_pollNotice_7 : decode cX4_pollNotice 7 = .ok (.getfield 145, 3) := by decide +kernel
theorem dX4_pollNotice_10 : decode cX4_pollNotice 10 = .ok (.ifCond .ne 6, 3) := by decide +kernel
theorem dX4_pollNotice_13 : decode cX4_pollNotice 13 = .ok (.bipush (-2), 2) := by decide +kernel
theorem dX4_pollNotice_15 : decode cX4_pollNotice 15 = .ok (.ireturn, 1) := by decide +kernel
theorem dX4_pollNotice_16 : decode cX4_pollNotice 16 = .ok (.aload_n 0, 1) := by decide +kernel
theorem dX4_pollNotice_17 : decode cX4_pollNotice 17 = .ok (.getfield 19, 3) := by decide +kernel
theorem dX4_pollNotice_20 : decode cX4_pollNotice 20 = .ok (.aload_n 0, 1) := by decide +kernel
theorem dX4_pollNotice_21 : decode cX4_pollNotice 21 = .ok (.getfield 10, 3) := by decide +kernel
theorem dX4_pollNotice_24 : decode cX4_pollNotice 24 = .ok (.invokevirtual 46, 3) := by decide +kernel
theorem dX4_pollNotice_27 : decode cX4_pollNotice 27 = .ok (.aload_n 0, 1) := by decide +kernel
theorem dX4_pollNotice_28 : decode cX4_pollNotice 28 = .ok (.getfield 10, 3) := by decide +kernel
theorem dX4_pollNotice_31 : decode cX4_pollNotice 31 = .ok (.getfield 141, 3) := by decide +kernel
theorem dX4_pollNotice_34 : decode cX4_pollNotice 34 = .ok (.invokevirtual 150, 3) := by decide +kernel
theorem dX4_pollNotice_37 : decode cX4_pollNotice 37 = .ok (.ireturn, 1) := by decide +kernel
theorem dX4_noticeCount_0 : decode cX4_noticeCount 0 = .ok (.aload_n 0, 1) := by decide +kernel
theorem dX4_noticeCount_1 : decode cX4_noticeCount 1 = .ok (.getfield 10, 3) := by decide +kernel
theorem dX4_noticeCount_4 : decode cX4_noticeCount 4 = .ok (.getfield 141, 3) := by decide +kernel
theorem dX4_noticeCount_7 : decode cX4_noticeCount 7 = .ok (.getfield 145, 3) := by decide +kernel
theorem dX4_noticeCount_10 : decode cX4_noticeCount 10 = .ok (.ireturn, 1) := by decide +kernel
set_option maxRecDepth 20000 in
theorem ggX4_objectCount_X3_allocated : GoodIn wsX4_objectCount wsX3_allocated := goodIn_r _ [6, 7, 8, 9, 10, 22, 23, 24, 25, 26, 27, 28, 29, 30] (by decide +kernel) (by decide +kernel)
set_option maxRecDepth 20000 in
theorem gX4_objectCount_X3_allocated : GoodIn wsX4_objectCount (wsV RX4 135 RX3 yX3_allocated wsX3_allocated) := goodIn_app (goodIn_of _ (by decide +kernel)) ggX4_objectCount_X3_allocated
set_option maxRecDepth 20000 in
theorem ggX4_objectCount_J6_bitCount_0f7a4 : GoodIn wsX4_objectCount wsJ6_bitCount_0f7a4 := goodIn_r _ [14, 15, 16, 17] (by decide +kernel) (by decide +kernel)
set_option maxRecDepth 20000 in
theorem gX4_objectCount_J6_bitCount_0f7a4 : GoodIn wsX4_objectCount (va_wsS RX4 88 yJ6_bitCount_0f7a4 wsJ6_bitCount_0f7a4) := goodIn_app (goodIn_of _ (by decide +kernel)) ggX4_objectCount_J6_bitCount_0f7a4
theorem dX4_objectCount_0 : decode cX4_objectCount 0 = .ok (.aload_n 0, 1) := by decide +kernel
theorem dX4_objectCount_1 : decode cX4_objectCount 1 = .ok (.getfield 10, 3) := by decide +kernel
theorem dX4_objectCount_4 : decode cX4_objectCount 4 = .ok (.invokevirtual 135, 3) := by decide +kernel
theorem dX4_objectCount_7 : decode cX4_objectCount 7 = .ok (.invokestatic 88, 3) := by decide +kernel
theorem dX4_objectCount_10 : decode cX4_objectCount 10 = .ok (.ireturn, 1) := by decide +kernel
set_option maxRecDepth 20000 in
theorem ggX4_reachableCount_X4_markFromRoots : GoodIn wsX4_reachableCount wsX4_markFromRoots := goodIn_r _ [7, 1, 8, 9, 10, 11, 12, 13, 14, 15, 6, 16, 17, 18, 19, 20, 21, 22, 23, 24, 25, 26, 27, 28, 29, 30, 31, 32, 33, 34, 35, 36, 37, 38, 39, 40, 41, 42, 43, 44, 45, 46, 47, 48, 49, 50, 51, 52, 53, 54, 55, 56, 57, 58, 59, 60, 61, 62, 63, 71, 72, 73, 74, 79, 80, 81, 82, 83, 84, 85, 86, 87, 75, 76, 77, 78] (by decide +kernel) (by decide +kernel)
set_option maxRecDepth 20000 in
theorem gX4_reachableCount_X4_markFromRoots : GoodIn wsX4_reachableCount (wsV RX4 109 RX4 yX4_markFromRoots wsX4_markFromRoots) := goodIn_app (goodIn_of _ (by decide +kernel)) ggX4_reachableCount_X4_markFromRoots
set_option maxRecDepth 20000 in
theorem ggX4_reachableCount_J6_bitCount_0f7a4 : GoodIn wsX4_reachableCount wsJ6_bitCount_0f7a4 := goodIn_r _ [67, 68, 69, 70] (by decide +kernel) (by decide +kernel)
set_option maxRecDepth 20000 in
theorem gX4_reachableCount_J6_bitCount_0f7a4 : GoodIn wsX4_reachableCount (va_wsS RX4 88 yJ6_bitCount_0f7a4 wsJ6_bitCount_0f7a4) := goodIn_app (goodIn_of _ (by decide +kernel)) ggX4_reachableCount_J6_bitCount_0f7a4
theorem dX4_reachableCount_0 : decode cX4_reachableCount 0 = .ok (.aload_n 0, 1) := by decide +kernel
theorem dX4_reachableCount_1 : decode cX4_reachableCount 1 = .ok (.invokevirtual 109, 3) := by decide +kernel
theorem dX4_reachableCount_4 : decode cX4_reachableCount 4 = .ok (.aload_n 0, 1) := by decide +kernel
theorem dX4_reachableCount_5 : decode cX4_reachableCount 5 = .ok (.getfield 30, 3) := by decide +kernel
theorem dX4_reachableCount_8 : decode cX4_reachableCount 8 = .ok (.getfield 118, 3) := by decide +kernel
theorem dX4_reachableCount_11 : decode cX4_reachableCount 11 = .ok (.invokestatic 88, 3) := by decide +kernel
theorem dX4_reachableCount_14 : decode cX4_reachableCount 14 = .ok (.ireturn, 1) := by decide +kernel
set_option maxRecDepth 20000 in
theorem ggX4_markRound_X3_isAllocated : GoodIn wsX4_markRound wsX3_isAllocated := goodIn_r _ [8, 9, 10, 11, 12, 79, 80, 81, 82, 83, 84, 85, 86, 87] (by decide +kernel) (by decide +kernel)
set_option maxRecDepth 20000 in
theorem gX4_markRound_X3_isAllocated : GoodIn wsX4_markRound (wsV RX4 38 RX3 yX3_isAllocated wsX3_isAllocated) := goodIn_app (goodIn_of _ (by decide +kernel)) ggX4_markRound_X3_isAllocated
set_option maxRecDepth 20000 in
theorem ggX4_markRound_X4_markFromRoots : GoodIn wsX4_markRound wsX4_markFromRoots := goodIn_r _ [16, 2, 1, 17, 18, 19, 7, 20, 21, 22, 11, 23, 24, 25, 26, 27, 28, 29, 30, 31, 32, 33, 34, 35, 36, 37, 38, 39, 40, 41, 42, 43, 44, 45, 46, 47, 48, 49, 50, 51, 52, 53, 54, 55, 56, 57, 58, 59, 60, 61, 62, 63, 64, 65, 66, 67, 68, 69, 70, 71, 72, 73, 74, 79, 80, 81, 82, 83, 84, 85, 86, 87, 75, 76, 77, 78] (by decide +kernel) (by decide +kernel)
set_option maxRecDepth 20000 in
theorem gX4_markRound_X4_markFromRoots : GoodIn wsX4_markRound (wsV RX4 109 RX4 yX4_markFromRoots wsX4_markFromRoots) := goodIn_app (goodIn_of _ (by decide +kernel)) ggX4_markRound_X4_markFromRoots
theorem dX4_markRound_0 : decode cX4_markRound 0 = .ok (.aload_n 0, 1) := by decide +kernel
theorem dX4_markRound_1 : decode cX4_markRound 1 = .ok (.getfield 10, 3) := by decide +kernel
theorem dX4_markRound_4 : decode cX4_markRound 4 = .ok (.iload_n 1, 1) := by decide +kernel
theorem dX4_markRound_5 : decode cX4_markRound 5 = .ok (.invokevirtual 38, 3) := by decide +kernel
theorem dX4_markRound_8 : decode cX4_markRound 8 = .ok (.ifCond .ne 5, 3) := by decide +kernel
theorem dX4_markRound_11 : decode cX4_markRound 11 = .ok (.iconst (-1), 1) := by decide +kernel
theorem dX4_markRound_12 : decode cX4_markRound 12 = .ok (.ireturn, 1) := by decide +kernel
theorem dX4_markRound_13 : decode cX4_markRound 13 = .ok (.aload_n 0, 1) := by decide +kernel
theorem dX4_markRound_14 : decode cX4_markRound 14 = .ok (.invokevirtual 109, 3) := by decide +kernel
theorem dX4_markRound_17 : decode cX4_markRound 17 = .ok (.aload_n 0, 1) := by decide +kernel
theorem dX4_markRound_18 : decode cX4_markRound 18 = .ok (.getfield 30, 3) := by decide +kernel
theorem dX4_markRound_21 : decode cX4_markRound 21 = .ok (.getfield 153, 3) := by decide +kernel
theorem dX4_markRound_24 : decode cX4_markRound 24 = .ok (.iload_n 1, 1) := by decide +kernel
theorem dX4_markRound_25 : decode cX4_markRound 25 = .ok (.iaload, 1) := by decide +kernel
theorem dX4_markRound_26 : decode cX4_markRound 26 = .ok (.ireturn, 1) := by decide +kernel
set_option maxRecDepth 20000 in
theorem ggX4_wouldFree_X4_markFromRootsAnd : GoodIn wsX4_wouldFree wsX4_markFromRootsAnd := goodIn_r _ [9, 3, 1, 10, 11, 12, 13, 14, 15, 16, 8, 17, 18, 19, 20, 21, 22, 23, 24, 25, 26, 27, 28, 29, 30, 31, 32, 33, 34, 35, 36, 37, 38, 39, 40, 41, 42, 43, 44, 45, 46, 47, 48, 49, 50, 51, 52, 53, 54, 55, 56, 57, 58, 59, 60, 61, 62, 63, 64, 77, 78, 79, 80, 81, 82, 83, 84, 85, 86, 87, 88, 89, 90, 91, 92, 93] (by decide +kernel) (by decide +kernel)
set_option maxRecDepth 20000 in
theorem gX4_wouldFree_X4_markFromRootsAnd : GoodIn wsX4_wouldFree (wsV RX4 129 RX4 yX4_markFromRootsAnd wsX4_markFromRootsAnd) := goodIn_app (goodIn_of _ (by decide +kernel)) ggX4_wouldFree_X4_markFromRootsAnd
set_option maxRecDepth 20000 in
theorem ggX4_wouldFree_X3_allocated : GoodIn wsX4_wouldFree wsX3_allocated := goodIn_r _ [68, 69, 16, 8, 17, 81, 82, 83, 84, 85, 86, 87, 88, 89] (by decide +kernel) (by decide +kernel)
set_option maxRecDepth 20000 in
theorem gX4_wouldFree_X3_allocated : GoodIn wsX4_wouldFree (wsV RX4 135 RX3 yX3_allocated wsX3_allocated) := goodIn_app (goodIn_of _ (by decide +kernel)) ggX4_wouldFree_X3_allocated
set_option maxRecDepth 20000 in
theorem ggX4_wouldFree_J6_bitCount_0f7a4 : GoodIn wsX4_wouldFree wsJ6_bitCount_0f7a4 := goodIn_r _ [73, 74, 75, 76] (by decide +kernel) (by decide +kernel)
set_option maxRecDepth 20000 in
theorem gX4_wouldFree_J6_bitCount_0f7a4 : GoodIn wsX4_wouldFree (va_wsS RX4 88 yJ6_bitCount_0f7a4 wsJ6_bitCount_0f7a4) := goodIn_app (goodIn_of _ (by decide +kernel)) ggX4_wouldFree_J6_bitCount_0f7a4
theorem dX4_wouldFree_0 : decode cX4_wouldFree 0 = .ok (.aload_n 0, 1) := by decide +kernel
theorem dX4_wouldFree_1 : decode cX4_wouldFree 1 = .ok (.aload_n 0, 1) := by decide +kernel
theorem dX4_wouldFree_2 : decode cX4_wouldFree 2 = .ok (.getfield 10, 3) := by decide +kernel
theorem dX4_wouldFree_5 : decode cX4_wouldFree 5 = .ok (.getfield 77, 3) := by decide +kernel
theorem dX4_wouldFree_8 : decode cX4_wouldFree 8 = .ok (.invokevirtual 129, 3) := by decide +kernel
theorem dX4_wouldFree_11 : decode cX4_wouldFree 11 = .ok (.aload_n 0, 1) := by decide +kernel
theorem dX4_wouldFree_12 : decode cX4_wouldFree 12 = .ok (.getfield 10, 3) := by decide +kernel
theorem dX4_wouldFree_15 : decode cX4_wouldFree 15 = .ok (.invokevirtual 135, 3) := by decide +kernel
theorem dX4_wouldFree_18 : decode cX4_wouldFree 18 = .ok (.aload_n 0, 1) := by decide +kernel
theorem dX4_wouldFree_19 : decode cX4_wouldFree 19 = .ok (.getfield 30, 3) := by decide +kernel
theorem dX4_wouldFree_22 : decode cX4_wouldFree 22 = .ok (.getfield 118, 3) := by decide +kernel
theorem dX4_wouldFree_25 : decode cX4_wouldFree 25 = .ok (.iconst (-1), 1) := by decide +kernel
theorem dX4_wouldFree_26 : decode cX4_wouldFree 26 = .ok (.ixor, 1) := by decide +kernel
theorem dX4_wouldFree_27 : decode cX4_wouldFree 27 = .ok (.iand, 1) := by decide +kernel
theorem dX4_wouldFree_28 : decode cX4_wouldFree 28 = .ok (.invokestatic 88, 3) := by decide +kernel
theorem dX4_wouldFree_31 : decode cX4_wouldFree 31 = .ok (.ireturn, 1) := by decide +kernel
set_option maxRecDepth 20000 in
theorem ggX4_retainedSize_X3_isAllocated : GoodIn wsX4_retainedSize wsX3_isAllocated := goodIn_r _ [8, 9, 10, 11, 12, 86, 87, 88, 89, 90, 91, 92, 93, 94] (by decide +kernel) (by decide +kernel)
set_option maxRecDepth 20000 in
theorem gX4_retainedSize_X3_isAllocated : GoodIn wsX4_retainedSize (wsV RX4 38 RX3 yX3_isAllocated wsX3_isAllocated) := goodIn_app (goodIn_of _ (by decide +kernel)) ggX4_retainedSize_X3_isAllocated
set_option maxRecDepth 20000 in
theorem ggX4_retainedSize_X4_markFromRoots : GoodIn wsX4_retainedSize wsX4_markFromRoots := goodIn_r _ [16, 2, 1, 17, 18, 19, 7, 20, 21, 22, 11, 23, 24, 25, 26, 27, 28, 29, 30, 31, 32, 33, 34, 35, 36, 37, 38, 39, 40, 41, 42, 43, 44, 45, 46, 47, 48, 49, 50, 51, 52, 53, 54, 55, 56, 57, 58, 59, 60, 61, 62, 63, 64, 65, 66, 67, 68, 69, 70, 78, 79, 80, 81, 86, 87, 88, 89, 90, 91, 92, 93, 94, 82, 83, 84, 85] (by decide +kernel) (by decide +kernel)
set_option maxRecDepth 20000 in
theorem gX4_retainedSize_X4_markFromRoots : GoodIn wsX4_retainedSize (wsV RX4 109 RX4 yX4_markFromRoots wsX4_markFromRoots) := goodIn_app (goodIn_of _ (by decide +kernel)) ggX4_retainedSize_X4_markFromRoots
set_option maxRecDepth 20000 in
theorem ggX4_retainedSize_X3_rootObjects : GoodIn wsX4_retainedSize wsX3_rootObjects := goodIn_r _ [20, 21, 22, 11, 23, 86, 87, 88, 89, 90, 91, 92, 93, 94] (by decide +kernel) (by decide +kernel)
set_option maxRecDepth 20000 in
theorem gX4_retainedSize_X3_rootObjects : GoodIn wsX4_retainedSize (wsV RX4 156 RX3 yX3_rootObjects wsX3_rootObjects) := goodIn_app (goodIn_of _ (by decide +kernel)) ggX4_retainedSize_X3_rootObjects
set_option maxRecDepth 20000 in
theorem ggX4_retainedSize_X4_setOf : GoodIn wsX4_retainedSize wsX4_setOf := goodIn_r _ [23] (by decide +kernel) (by decide +kernel)
set_option maxRecDepth 20000 in
theorem gX4_retainedSize_X4_setOf : GoodIn wsX4_retainedSize (va_wsS RX4 84 yX4_setOf wsX4_setOf) := goodIn_app (goodIn_of _ (by decide +kernel)) ggX4_retainedSize_X4_setOf
set_option maxRecDepth 20000 in
theorem ggX4_retainedSize_X1_run : GoodIn wsX4_retainedSize wsX1_run := goodIn_r _ [28, 29, 30, 31, 32, 33, 34, 35, 36, 37, 38, 39, 27, 40, 41, 42, 43, 44, 45, 46, 47, 48, 49, 11, 50, 51, 22, 23, 52, 53, 54, 7, 55, 56, 57, 58, 59, 60, 61, 62, 63, 64, 65, 66, 67, 68, 69, 70, 82, 83, 84, 85, 86, 87, 88, 89, 90, 91, 92, 93, 94] (by decide +kernel) (by decide +kernel)
set_option maxRecDepth 20000 in
theorem gX4_retainedSize_X1_run : GoodIn wsX4_retainedSize (wsV RX4 159 RX1 yX1_run wsX1_run) := goodIn_app (goodIn_of _ (by decide +kernel)) ggX4_retainedSize_X1_run
set_option maxRecDepth 20000 in
theorem ggX4_retainedSize_J6_bitCount_0f7a4 : GoodIn wsX4_retainedSize wsJ6_bitCount_0f7a4 := goodIn_r _ [74, 75, 76, 77] (by decide +kernel) (by decide +kernel)
set_option maxRecDepth 20000 in
theorem gX4_retainedSize_J6_bitCount_0f7a4 : GoodIn wsX4_retainedSize (va_wsS RX4 88 yJ6_bitCount_0f7a4 wsJ6_bitCount_0f7a4) := goodIn_app (goodIn_of _ (by decide +kernel)) ggX4_retainedSize_J6_bitCount_0f7a4
theorem dX4_retainedSize_0 : decode cX4_retainedSize 0 = .ok (.aload_n 0, 1) := by decide +kernel
theorem dX4_retainedSize_1 : decode cX4_retainedSize 1 = .ok (.getfield 10, 3) := by decide +kernel
theorem dX4_retainedSize_4 : decode cX4_retainedSize 4 = .ok (.iload_n 1, 1) := by decide +kernel
theorem dX4_retainedSize_5 : decode cX4_retainedSize 5 = .ok (.invokevirtual 38, 3) := by decide +kernel
theorem dX4_retainedSize_8 : decode cX4_retainedSize 8 = .ok (.ifCond .ne 5, 3) := by decide +kernel
theorem dX4_retainedSize_11 : decode cX4_retainedSize 11 = .ok (.iconst (-1), 1) := by decide +kernel
theorem dX4_retainedSize_12 : decode cX4_retainedSize 12 = .ok (.ireturn, 1) := by decide +kernel
theorem dX4_retainedSize_13 : decode cX4_retainedSize 13 = .ok (.aload_n 0, 1) := by decide +kernel
theorem dX4_retainedSize_14 : decode cX4_retainedSize 14 = .ok (.invokevirtual 109, 3) := by decide +kernel
theorem dX4_retainedSize_17 : decode cX4_retainedSize 17 = .ok (.aload_n 0, 1) := by decide +kernel
theorem dX4_retainedSize_18 : decode cX4_retainedSize 18 = .ok (.getfield 30, 3) := by decide +kernel
theorem dX4_retainedSize_21 : decode cX4_retainedSize 21 = .ok (.getfield 118, 3) := by decide +kernel
theorem dX4_retainedSize_24 : decode cX4_retainedSize 24 = .ok (.istore_n 2, 1) := by decide +kernel
theorem dX4_retainedSize_25 : decode cX4_retainedSize 25 = .ok (.aload_n 0, 1) := by decide +kernel
theorem dX4_retainedSize_26 : decode cX4_retainedSize 26 = .ok (.getfield 30, 3) := by decide +kernel
theorem dX4_retainedSize_29 : decode cX4_retainedSize 29 = .ok (.aload_n 0, 1) := by decide +kernel
theorem dX4_retainedSize_30 : decode cX4_retainedSize 30 = .ok (.getfield 10, 3) := by decide +kernel
theorem dX4_retainedSize_33 : decode cX4_retainedSize 33 = .ok (.aload_n 0, 1) := by decide +kernel
theorem dX4_retainedSize_34 : decode cX4_retainedSize 34 = .ok (.getfield 10, 3) := by decide +kernel
theorem dX4_retainedSize_37 : decode cX4_retainedSize 37 = .ok (.invokevirtual 156, 3) := by decide +kernel
theorem dX4_retainedSize_40 : decode cX4_retainedSize 40 = .ok (.iload_n 1, 1) := by decide +kernel
theorem dX4_retainedSize_41 : decode cX4_retainedSize 41 = .ok (.invokestatic 84, 3) := by decide +kernel
theorem dX4_retainedSize_44 : decode cX4_retainedSize 44 = .ok (.invokevirtual 159, 3) := by decide +kernel
theorem dX4_retainedSize_47 : decode cX4_retainedSize 47 = .ok (.iload_n 2, 1) := by decide +kernel
theorem dX4_retainedSize_48 : decode cX4_retainedSize 48 = .ok (.aload_n 0, 1) := by decide +kernel
theorem dX4_retainedSize_49 : decode cX4_retainedSize 49 = .ok (.getfield 30, 3) := by decide +kernel
theorem dX4_retainedSize_52 : decode cX4_retainedSize 52 = .ok (.getfield 118, 3) := by decide +kernel
theorem dX4_retainedSize_55 : decode cX4_retainedSize 55 = .ok (.iconst (-1), 1) := by decide +kernel
theorem dX4_retainedSize_56 : decode cX4_retainedSize 56 = .ok (.ixor, 1) := by decide +kernel
theorem dX4_retainedSize_57 : decode cX4_retainedSize 57 = .ok (.iand, 1) := by decide +kernel
theorem dX4_retainedSize_58 : decode cX4_retainedSize 58 = .ok (.invokestatic 88, 3) := by decide +kernel
theorem dX4_retainedSize_61 : decode cX4_retainedSize 61 = .ok (.ireturn, 1) := by decide +kernel
set_option maxRecDepth 20000 in
theorem ggX4_waitingEntries_X3_isAllocated : GoodIn wsX4_waitingEntries wsX3_isAllocated := goodIn_r _ [8, 9, 10, 11, 12, 88, 89, 90, 91, 92, 93, 94, 95, 96] (by decide +kernel) (by decide +kernel)
set_option maxRecDepth 20000 in
theorem gX4_waitingEntries_X3_isAllocated : GoodIn wsX4_waitingEntries (wsV RX4 38 RX3 yX3_isAllocated wsX3_isAllocated) := goodIn_app (goodIn_of _ (by decide +kernel)) ggX4_waitingEntries_X3_isAllocated
set_option maxRecDepth 20000 in
theorem ggX4_waitingEntries_X4_markFromRoots : GoodIn wsX4_waitingEntries wsX4_markFromRoots := goodIn_r _ [16, 2, 1, 17, 18, 19, 7, 20, 21, 22, 11, 23, 24, 25, 26, 27, 28, 29, 30, 31, 32, 33, 34, 35, 36, 37, 38, 39, 40, 41, 42, 43, 44, 45, 46, 47, 48, 49, 50, 51, 52, 53, 54, 55, 56, 57, 58, 59, 60, 61, 62, 63, 64, 65, 66, 67, 68, 69, 70, 80, 81, 82, 83, 88, 89, 90, 91, 92, 93, 94, 95, 96, 84, 85, 86, 87] (by decide +kernel) (by decide +kernel)
set_option maxRecDepth 20000 in
theorem gX4_waitingEntries_X4_markFromRoots : GoodIn wsX4_waitingEntries (wsV RX4 109 RX4 yX4_markFromRoots wsX4_markFromRoots) := goodIn_app (goodIn_of _ (by decide +kernel)) ggX4_waitingEntries_X4_markFromRoots
set_option maxRecDepth 20000 in
theorem ggX4_waitingEntries_X4_contains : GoodIn wsX4_waitingEntries wsX4_contains := goodIn_r _ [50, 51, 22, 11, 23] (by decide +kernel) (by decide +kernel)
set_option maxRecDepth 20000 in
theorem gX4_waitingEntries_X4_contains : GoodIn wsX4_waitingEntries (va_wsS RX4 81 yX4_contains wsX4_contains) := goodIn_app (goodIn_of _ (by decide +kernel)) ggX4_waitingEntries_X4_contains
set_option maxRecDepth 20000 in
theorem ggX4_waitingEntries_X3_tablesWithKey : GoodIn wsX4_waitingEntries wsX3_tablesWithKey := goodIn_r _ [75, 49, 11, 50, 51, 22, 23, 76, 77, 78, 7, 79, 69, 10, 12, 88, 89, 90, 91, 92, 93, 94, 95, 96] (by decide +kernel) (by decide +kernel)
set_option maxRecDepth 20000 in
theorem gX4_waitingEntries_X3_tablesWithKey : GoodIn wsX4_waitingEntries (wsV RX4 163 RX3 yX3_tablesWithKey wsX3_tablesWithKey) := goodIn_app (goodIn_of _ (by decide +kernel)) ggX4_waitingEntries_X3_tablesWithKey
theorem dX4_waitingEntries_0 : decode cX4_waitingEntries 0 = .ok (.aload_n 0, 1) := by decide +kernel
theorem dX4_waitingEntries_1 : decode cX4_waitingEntries 1 = .ok (.getfield 10, 3) := by decide +kernel
theorem dX4_waitingEntries_4 : decode cX4_waitingEntries 4 = .ok (.iload_n 1, 1) := by decide +kernel
theorem dX4_waitingEntries_5 : decode cX4_waitingEntries 5 = .ok (.invokevirtual 38, 3) := by decide +kernel
theorem dX4_waitingEntries_8 : decode cX4_waitingEntries 8 = .ok (.ifCond .ne 5, 3) := by decide +kernel
theorem dX4_waitingEntries_11 : decode cX4_waitingEntries 11 = .ok (.iconst (-1), 1) := by decide +kernel
theorem dX4_waitingEntries_12 : decode cX4_waitingEntries 12 = .ok (.ireturn, 1) := by decide +kernel
theorem dX4_waitingEntries_13 : decode cX4_waitingEntries 13 = .ok (.aload_n 0, 1) := by decide +kernel
theorem dX4_waitingEntries_14 : decode cX4_waitingEntries 14 = .ok (.invokevirtual 109, 3) := by decide +kernel
theorem dX4_waitingEntries_17 : decode cX4_waitingEntries 17 = .ok (.aload_n 0, 1) := by decide +kernel
theorem dX4_waitingEntries_18 : decode cX4_waitingEntries 18 = .ok (.getfield 30, 3) := by decide +kernel
theorem dX4_waitingEntries_21 : decode cX4_waitingEntries 21 = .ok (.getfield 118, 3) := by decide +kernel
theorem dX4_waitingEntries_24 : decode cX4_waitingEntries 24 = .ok (.iload_n 1, 1) := by decide +kernel
theorem dX4_waitingEntries_25 : decode cX4_waitingEntries 25 = .ok (.invokestatic 81, 3) := by decide +kernel
theorem dX4_waitingEntries_28 : decode cX4_waitingEntries 28 = .ok (.ifCond .eq 7, 3) := by decide +kernel
theorem dX4_waitingEntries_31 : decode cX4_waitingEntries 31 = .ok (.iconst 0, 1) := by decide +kernel
theorem dX4_waitingEntries_32 : decode cX4_waitingEntries 32 = .ok (.goto 18, 3) := by decide +kernel
theorem dX4_waitingEntries_35 : decode cX4_waitingEntries 35 = .ok (.aload_n 0, 1) := by decide +kernel
theorem dX4_waitingEntries_36 : decode cX4_waitingEntries 36 = .ok (.getfield 10, 3) := by decide +kernel
theorem dX4_waitingEntries_39 : decode cX4_waitingEntries 39 = .ok (.aload_n 0, 1) := by decide +kernel
theorem dX4_waitingEntries_40 : decode cX4_waitingEntries 40 = .ok (.getfield 30, 3) := by decide +kernel
theorem dX4_waitingEntries_43 : decode cX4_waitingEntries 43 = .ok (.getfield 118, 3) := by decide +kernel
theorem dX4_waitingEntries_46 : decode cX4_waitingEntries 46 = .ok (.iload_n 1, 1) := by decide +kernel
theorem dX4_waitingEntries_47 : decode cX4_waitingEntries 47 = .ok (.invokevirtual 163, 3) := by decide +kernel
theorem dX4_waitingEntries_50 : decode cX4_waitingEntries 50 = .ok (.ireturn, 1) := by decide +kernel
set_option maxRecDepth 20000 in
theorem ggX4_referenceCount_X3_isAllocated : GoodIn wsX4_referenceCount wsX3_isAllocated := goodIn_r _ [11, 12, 13, 14, 15, 23, 24, 25, 26, 27, 28, 29, 30, 31] (by decide +kernel) (by decide +kernel)
set_option maxRecDepth 20000 in
theorem gX4_referenceCount_X3_isAllocated : GoodIn wsX4_referenceCount (wsV RX4 38 RX3 yX3_isAllocated wsX3_isAllocated) := goodIn_app (goodIn_of _ (by decide +kernel)) ggX4_referenceCount_X3_isAllocated
set_option maxRecDepth 20000 in
theorem ggX4_referenceCount_X4_occurrences : GoodIn wsX4_referenceCount wsX4_occurrences := goodIn_r _ [18] (by decide +kernel) (by decide +kernel)
set_option maxRecDepth 20000 in
theorem gX4_referenceCount_X4_occurrences : GoodIn wsX4_referenceCount (va_wsS RX4 166 yX4_occurrences wsX4_occurrences) := goodIn_app (goodIn_of _ (by decide +kernel)) ggX4_referenceCount_X4_occurrences
theorem dX4_referenceCount_0 : decode cX4_referenceCount 0 = .ok (.aload_n 0, 1) := by decide +kernel
theorem dX4_referenceCount_1 : decode cX4_referenceCount 1 = .ok (.getfield 10, 3) := by decide +kernel
theorem dX4_referenceCount_4 : decode cX4_referenceCount 4 = .ok (.iload_n 1, 1) := by decide +kernel
theorem dX4_referenceCount_5 : decode cX4_referenceCount 5 = .ok (.invokevirtual 38, 3) := by decide +kernel
theorem dX4_referenceCount_8 : decode cX4_referenceCount 8 = .ok (.ifCond .ne 5, 3) := by decide +kernel
theorem dX4_referenceCount_11 : decode cX4_referenceCount 11 = .ok (.iconst (-1), 1) := by decide +kernel
theorem dX4_referenceCount_12 : decode cX4_referenceCount 12 = .ok (.ireturn, 1) := by decide +kernel
theorem dX4_referenceCount_13 : decode cX4_referenceCount 13 = .ok (.aload_n 0, 1) := by decide +kernel
theorem dX4_referenceCount_14 : decode cX4_referenceCount 14 = .ok (.getfield 10, 3) := by decide +kernel
theorem dX4_referenceCount_17 : decode cX4_referenceCount 17 = .ok (.getfield 71, 3) := by decide +kernel
theorem dX4_referenceCount_20 : decode cX4_referenceCount 20 = .ok (.iload_n 1, 1) := by decide +kernel
theorem dX4_referenceCount_21 : decode cX4_referenceCount 21 = .ok (.invokestatic 166, 3) := by decide +kernel
theorem dX4_referenceCount_24 : decode cX4_referenceCount 24 = .ok (.aload_n 0, 1) := by decide +kernel
theorem dX4_referenceCount_25 : decode cX4_referenceCount 25 = .ok (.getfield 10, 3) := by decide +kernel
theorem dX4_referenceCount_28 : decode cX4_referenceCount 28 = .ok (.getfield 68, 3) := by decide +kernel
theorem dX4_referenceCount_31 : decode cX4_referenceCount 31 = .ok (.iload_n 1, 1) := by decide +kernel
theorem dX4_referenceCount_32 : decode cX4_referenceCount 32 = .ok (.invokestatic 166, 3) := by decide +kernel
theorem dX4_referenceCount_35 : decode cX4_referenceCount 35 = .ok (.iadd, 1) := by decide +kernel
theorem dX4_referenceCount_36 : decode cX4_referenceCount 36 = .ok (.aload_n 0, 1) := by decide +kernel
theorem dX4_referenceCount_37 : decode cX4_referenceCount 37 = .ok (.getfield 10, 3) := by decide +kernel
theorem dX4_referenceCount_40 : decode cX4_referenceCount 40 = .ok (.getfield 102, 3) := by decide +kernel
theorem dX4_referenceCount_43 : decode cX4_referenceCount 43 = .ok (.iload_n 1, 1) := by decide +kernel
theorem dX4_referenceCount_44 : decode cX4_referenceCount 44 = .ok (.invokestatic 166, 3) := by decide +kernel
theorem dX4_referenceCount_47 : decode cX4_referenceCount 47 = .ok (.iadd, 1) := by decide +kernel
theorem dX4_referenceCount_48 : decode cX4_referenceCount 48 = .ok (.aload_n 0, 1) := by decide +kernel
theorem dX4_referenceCount_49 : decode cX4_referenceCount 49 = .ok (.getfield 10, 3) := by decide +kernel
theorem dX4_referenceCount_52 : decode cX4_referenceCount 52 = .ok (.getfield 99, 3) := by decide +kernel
theorem dX4_referenceCount_55 : decode cX4_referenceCount 55 = .ok (.iload_n 1, 1) := by decide +kernel
theorem dX4_referenceCount_56 : decode cX4_referenceCount 56 = .ok (.invokestatic 166, 3) := by decide +kernel
theorem dX4_referenceCount_59 : decode cX4_referenceCount 59 = .ok (.iadd, 1) := by decide +kernel
theorem dX4_referenceCount_60 : decode cX4_referenceCount 60 = .ok (.aload_n 0, 1) := by decide +kernel
theorem dX4_referenceCount_61 : decode cX4_referenceCount 61 = .ok (.getfield 10, 3) := by decide +kernel
theorem dX4_referenceCount_64 : decode cX4_referenceCount 64 = .ok (.getfield 74, 3) := by decide +kernel
theorem dX4_referenceCount_67 : decode cX4_referenceCount 67 = .ok (.iload_n 1, 1) := by decide +kernel
theorem dX4_referenceCount_68 : decode cX4_referenceCount 68 = .ok (.invokestatic 166, 3) := by decide +kernel
theorem dX4_referenceCount_71 : decode cX4_referenceCount 71 = .ok (.iadd, 1) := by decide +kernel
theorem dX4_referenceCount_72 : decode cX4_referenceCount 72 = .ok (.ireturn, 1) := by decide +kernel
set_option maxRecDepth 20000 in
theorem ggX4_markFromRoots_X3_rootObjects : GoodIn wsX4_markFromRoots wsX3_rootObjects := goodIn_r _ [7, 8, 9, 10, 11, 63, 64, 65, 66, 67, 68, 69, 70, 71] (by decide +kernel) (by decide +kernel)
set_option maxRecDepth 20000 in
theorem gX4_markFromRoots_X3_rootObjects : GoodIn wsX4_markFromRoots (wsV RX4 156 RX3 yX3_rootObjects wsX3_rootObjects) := goodIn_app (goodIn_of _ (by decide +kernel)) ggX4_markFromRoots_X3_rootObjects
set_option maxRecDepth 20000 in
theorem ggX4_markFromRoots_X1_run : GoodIn wsX4_markFromRoots wsX1_run := goodIn_r _ [16, 17, 18, 19, 20, 21, 22, 23, 24, 25, 26, 27, 15, 28, 29, 30, 31, 32, 33, 34, 35, 36, 37, 10, 38, 39, 9, 11, 40, 41, 42, 6, 43, 44, 45, 46, 47, 48, 49, 50, 51, 52, 53, 54, 55, 56, 57, 58, 72, 73, 74, 75, 63, 64, 65, 66, 67, 68, 69, 70, 71] (by decide +kernel) (by decide +kernel)
set_option maxRecDepth 20000 in
theorem gX4_markFromRoots_X1_run : GoodIn wsX4_markFromRoots (wsV RX4 159 RX1 yX1_run wsX1_run) := goodIn_app (goodIn_of _ (by decide +kernel)) ggX4_markFromRoots_X1_run
theorem dX4_markFromRoots_0 : decode cX4_markFromRoots 0 = .ok (.aload_n 0, 1) := by decide +kernel
theorem dX4_markFromRoots_1 : decode cX4_markFromRoots 1 = .ok (.getfield 30, 3) := by decide +kernel
theorem dX4_markFromRoots_4 : decode cX4_markFromRoots 4 = .ok (.aload_n 0, 1) := by decide +kernel
theorem dX4_markFromRoots_5 : decode cX4_markFromRoots 5 = .ok (.getfield 10, 3) := by decide +kernel
theorem dX4_markFromRoots_8 : decode cX4_markFromRoots 8 = .ok (.aload_n 0, 1) := by decide +kernel
theorem dX4_markFromRoots_9 : decode cX4_markFromRoots 9 = .ok (.getfield 10, 3) := by decide +kernel
theorem dX4_markFromRoots_12 : decode cX4_markFromRoots 12 = .ok (.invokevirtual 156, 3) := by decide +kernel
theorem dX4_markFromRoots_15 : decode cX4_markFromRoots 15 = .ok (.iconst 0, 1) := by decide +kernel
theorem dX4_markFromRoots_16 : decode cX4_markFromRoots 16 = .ok (.invokevirtual 159, 3) := by decide +kernel
theorem dX4_markFromRoots_19 : decode cX4_markFromRoots 19 = .ok (.return_, 1) := by decide +kernel
set_option maxRecDepth 20000 in
theorem ggX4_markFromRootsAnd_X3_rootObjects : GoodIn wsX4_markFromRootsAnd wsX3_rootObjects := goodIn_r _ [7, 8, 9, 10, 11, 63, 64, 65, 66, 67, 68, 69, 70, 71] (by decide +kernel) (by decide +kernel)
set_option maxRecDepth 20000 in
theorem gX4_markFromRootsAnd_X3_rootObjects : GoodIn wsX4_markFromRootsAnd (wsV RX4 156 RX3 yX3_rootObjects wsX3_rootObjects) := goodIn_app (goodIn_of _ (by decide +kernel)) ggX4_markFromRootsAnd_X3_rootObjects
set_option maxRecDepth 20000 in
theorem ggX4_markFromRootsAnd_X1_run : GoodIn wsX4_markFromRootsAnd wsX1_run := goodIn_r _ [16, 17, 18, 19, 20, 21, 22, 23, 24, 25, 26, 27, 15, 28, 29, 30, 31, 32, 33, 34, 35, 36, 37, 10, 38, 39, 9, 11, 40, 41, 42, 6, 43, 44, 45, 46, 47, 48, 49, 50, 51, 52, 53, 54, 55, 56, 57, 58, 72, 73, 74, 75, 63, 64, 65, 66, 67, 68, 69, 70, 71] (by decide +kernel) (by decide +kernel)
set_option maxRecDepth 20000 in
theorem gX4_markFromRootsAnd_X1_run : GoodIn wsX4_markFromRootsAnd (wsV RX4 159 RX1 yX1_run wsX1_run) := goodIn_app (goodIn_of _ (by decide +kernel)) ggX4_markFromRootsAnd_X1_run
theorem dX4_markFromRootsAnd_0 : decode cX4_markFromRootsAnd 0 = .ok (.aload_n 0, 1) := by decide +kernel
theorem dX4_markFromRootsAnd_1 : decode cX4_markFromRootsAnd 1 = .ok (.getfield 30, 3) := by decide +kernel
theorem dX4_markFromRootsAnd_4 : decode cX4_markFromRootsAnd 4 = .ok (.aload_n 0, 1) := by decide +kernel
theorem dX4_markFromRootsAnd_5 : decode cX4_markFromRootsAnd 5 = .ok (.getfield 10, 3) := by decide +kernel
theorem dX4_markFromRootsAnd_8 : decode cX4_markFromRootsAnd 8 = .ok (.aload_n 0, 1) := by decide +kernel
theorem dX4_markFromRootsAnd_9 : decode cX4_markFromRootsAnd 9 = .ok (.getfield 10, 3) := by decide +kernel
theorem dX4_markFromRootsAnd_12 : decode cX4_markFromRootsAnd 12 = .ok (.invokevirtual 156, 3) := by decide +kernel
theorem dX4_markFromRootsAnd_15 : decode cX4_markFromRootsAnd 15 = .ok (.iload_n 1, 1) := by decide +kernel
theorem dX4_markFromRootsAnd_16 : decode cX4_markFromRootsAnd 16 = .ok (.ior, 1) := by decide +kernel
theorem dX4_markFromRootsAnd_17 : decode cX4_markFromRootsAnd 17 = .ok (.iconst 0, 1) := by decide +kernel
theorem dX4_markFromRootsAnd_18 : decode cX4_markFromRootsAnd 18 = .ok (.invokevirtual 159, 3) := by decide +kernel
theorem dX4_markFromRootsAnd_21 : decode cX4_markFromRootsAnd 21 = .ok (.return_, 1) := by decide +kernel
set_option maxRecDepth 20000 in
theorem ggX4_undo_X0_popInto : GoodIn wsX4_undo wsX0_popInto := goodIn_r _ [8, 9, 10, 11, 12, 13, 14, 15, 16, 17, 18, 19, 20, 21, 22, 23, 24, 25, 26, 27, 28, 29, 30, 31, 32, 33, 34, 35, 36, 37, 38, 39, 40, 41, 42, 43, 48, 49, 50, 51, 52, 53, 54, 55, 56, 57, 58, 59, 60, 61] (by decide +kernel) (by decide +kernel)
set_option maxRecDepth 20000 in
theorem gX4_undo_X0_popInto : GoodIn wsX4_undo (wsV RX4 170 RX0 yX0_popInto wsX0_popInto) := goodIn_app (goodIn_of _ (by decide +kernel)) ggX4_undo_X0_popInto
theorem dX4_undo_0 : decode cX4_undo 0 = .ok (.aload_n 0, 1) := by decide +kernel
theorem dX4_undo_1 : decode cX4_undo 1 = .ok (.getfield 19, 3) := by decide +kernel
theorem dX4_undo_4 : decode cX4_undo 4 = .ok (.aload_n 0, 1) := by decide +kernel
theorem dX4_undo_5 : decode cX4_undo 5 = .ok (.getfield 10, 3) := by decide +kernel
theorem dX4_undo_8 : decode cX4_undo 8 = .ok (.invokevirtual 170, 3) := by decide +kernel
theorem dX4_undo_11 : decode cX4_undo 11 = .ok (.ifCond .ne 6, 3) := by decide +kernel
theorem dX4_undo_14 : decode cX4_undo 14 = .ok (.bipush (-2), 2) := by decide +kernel
theorem dX4_undo_16 : decode cX4_undo 16 = .ok (.ireturn, 1) := by decide +kernel
theorem dX4_undo_17 : decode cX4_undo 17 = .ok (.aload_n 0, 1) := by decide +kernel
theorem dX4_undo_18 : decode cX4_undo 18 = .ok (.getfield 19, 3) := by decide +kernel
theorem dX4_undo_21 : decode cX4_undo 21 = .ok (.getfield 174, 3) := by decide +kernel
theorem dX4_undo_24 : decode cX4_undo 24 = .ok (.ireturn, 1) := by decide +kernel
theorem dX4_undoDepth_0 : decode cX4_undoDepth 0 = .ok (.aload_n 0, 1) := by decide +kernel
theorem dX4_undoDepth_1 : decode cX4_undoDepth 1 = .ok (.getfield 19, 3) := by decide +kernel
theorem dX4_undoDepth_4 : decode cX4_undoDepth 4 = .ok (.getfield 174, 3) := by decide +kernel
theorem dX4_undoDepth_7 : decode cX4_undoDepth 7 = .ok (.ireturn, 1) := by decide +kernel
set_option maxRecDepth 20000 in
theorem ggX4_save_X4_within : GoodIn wsX4_save wsX4_within := goodIn_r _ [9] (by decide +kernel) (by decide +kernel)
set_option maxRecDepth 20000 in
theorem gX4_save_X4_within : GoodIn wsX4_save (va_wsS RX4 54 yX4_within wsX4_within) := goodIn_app (goodIn_of _ (by decide +kernel)) ggX4_save_X4_within
set_option maxRecDepth 20000 in
theorem ggX4_save_X3_init : GoodIn wsX4_save wsX3_init := goodIn_r _ [11, 12, 13, 14, 15, 16, 17, 18, 19, 20, 21, 22, 23, 24, 25, 8, 26, 27, 28, 29, 30, 31, 32, 33, 34, 35, 36, 37, 38, 39, 77, 78, 79, 80, 81, 82, 83, 84, 85, 86, 87] (by decide +kernel) (by decide +kernel)
set_option maxRecDepth 20000 in
theorem gX4_save_X3_init_n9 : GoodIn wsX4_save (wsX3_init) := ggX4_save_X3_init
set_option maxRecDepth 20000 in
theorem ggX4_save_X3_copyFrom : GoodIn wsX4_save wsX3_copyFrom := goodIn_r _ [43, 15, 16, 17, 18, 19, 20, 24, 44, 45, 46, 8, 47, 48, 49, 29, 50, 51, 52, 53, 54, 55, 56, 57, 23, 58, 39, 59, 77, 78, 79, 80, 81, 82, 83, 84, 85, 86, 87] (by decide +kernel) (by decide +kernel)
set_option maxRecDepth 20000 in
theorem gX4_save_X3_copyFrom : GoodIn wsX4_save (wsV RX4 177 RX3 yX3_copyFrom wsX3_copyFrom) := goodIn_app (goodIn_of _ (by decide +kernel)) ggX4_save_X3_copyFrom
set_option maxRecDepth 20000 in
theorem ggX4_save_X3_allocated : GoodIn wsX4_save wsX3_allocated := goodIn_r _ [63, 15, 64, 8, 65, 77, 78, 79, 80, 81, 82, 83, 84, 85] (by decide +kernel) (by decide +kernel)
set_option maxRecDepth 20000 in
theorem gX4_save_X3_allocated : GoodIn wsX4_save (wsV RX4 135 RX3 yX3_allocated wsX3_allocated) := goodIn_app (goodIn_of _ (by decide +kernel)) ggX4_save_X3_allocated
set_option maxRecDepth 20000 in
theorem ggX4_save_J6_bitCount_0f7a4 : GoodIn wsX4_save wsJ6_bitCount_0f7a4 := goodIn_r _ [69, 70, 71, 72] (by decide +kernel) (by decide +kernel)
set_option maxRecDepth 20000 in
theorem gX4_save_J6_bitCount_0f7a4 : GoodIn wsX4_save (va_wsS RX4 88 yJ6_bitCount_0f7a4 wsJ6_bitCount_0f7a4) := goodIn_app (goodIn_of _ (by decide +kernel)) ggX4_save_J6_bitCount_0f7a4
theorem dX4_save_0 : decode cX4_save 0 = .ok (.iload_n 1, 1) := by decide +kernel
theorem dX4_save_1 : decode cX4_save 1 = .ok (.iconst 2, 1) := by decide +kernel
theorem dX4_save_2 : decode cX4_save 2 = .ok (.invokestatic 54, 3) := by decide +kernel
theorem dX4_save_5 : decode cX4_save 5 = .ok (.ifCond .ne 5, 3) := by decide +kernel
theorem dX4_save_8 : decode cX4_save 8 = .ok (.iconst (-1), 1) := by decide +kernel
theorem dX4_save_9 : decode cX4_save 9 = .ok (.ireturn, 1) := by decide +kernel
theorem dX4_save_10 : decode cX4_save 10 = .ok (.aload_n 0, 1) := by decide +kernel
theorem dX4_save_11 : decode cX4_save 11 = .ok (.getfield 23, 3) := by decide +kernel
theorem dX4_save_14 : decode cX4_save 14 = .ok (.iload_n 1, 1) := by decide +kernel
theorem dX4_save_15 : decode cX4_save 15 = .ok (.aaload, 1) := by decide +kernel
theorem dX4_save_16 : decode cX4_save 16 = .ok (.ifnonnull 16, 3) := by decide +kernel
theorem dX4_save_19 : decode cX4_save 19 = .ok (.aload_n 0, 1) := by decide +kernel
theorem dX4_save_20 : decode cX4_save 20 = .ok (.getfield 23, 3) := by decide +kernel
theorem dX4_save_23 : decode cX4_save 23 = .ok (.iload_n 1, 1) := by decide +kernel
theorem dX4_save_24 : decode cX4_save 24 = .ok (.new 7, 3) := by decide +kernel
theorem dX4_save_27 : decode cX4_save 27 = .ok (.dup, 1) := by decide +kernel
theorem dX4_save_28 : decode cX4_save 28 = .ok (.invokespecial 9, 3) := by decide +kernel
theorem dX4_save_31 : decode cX4_save 31 = .ok (.aastore, 1) := by decide +kernel
theorem dX4_save_32 : decode cX4_save 32 = .ok (.aload_n 0, 1) := by decide +kernel
theorem dX4_save_33 : decode cX4_save 33 = .ok (.getfield 23, 3) := by decide +kernel
theorem dX4_save_36 : decode cX4_save 36 = .ok (.iload_n 1, 1) := by decide +kernel
theorem dX4_save_37 : decode cX4_save 37 = .ok (.aaload, 1) := by decide +kernel
theorem dX4_save_38 : decode cX4_save 38 = .ok (.aload_n 0, 1) := by decide +kernel
theorem dX4_save_39 : decode cX4_save 39 = .ok (.getfield 10, 3) := by decide +kernel
theorem dX4_save_42 : decode cX4_save 42 = .ok (.invokevirtual 177, 3) := by decide +kernel
theorem dX4_save_45 : decode cX4_save 45 = .ok (.aload_n 0, 1) := by decide +kernel
theorem dX4_save_46 : decode cX4_save 46 = .ok (.getfield 10, 3) := by decide +kernel
theorem dX4_save_49 : decode cX4_save 49 = .ok (.invokevirtual 135, 3) := by decide +kernel
theorem dX4_save_52 : decode cX4_save 52 = .ok (.invokestatic 88, 3) := by decide +kernel
theorem dX4_save_55 : decode cX4_save 55 = .ok (.ireturn, 1) := by decide +kernel
set_option maxRecDepth 20000 in
theorem ggX4_restore_X4_within : GoodIn wsX4_restore wsX4_within := goodIn_r _ [7] (by decide +kernel) (by decide +kernel)
set_option maxRecDepth 20000 in
theorem gX4_restore_X4_within : GoodIn wsX4_restore (va_wsS RX4 54 yX4_within wsX4_within) := goodIn_app (goodIn_of _ (by decide +kernel)) ggX4_restore_X4_within
set_option maxRecDepth 20000 in
theorem ggX4_restore_X3_copyFrom : GoodIn wsX4_restore wsX3_copyFrom := goodIn_r _ [12, 13, 14, 15, 16, 17, 18, 19, 20, 21, 22, 6, 23, 24, 25, 26, 27, 28, 29, 30, 31, 32, 33, 34, 35, 36, 37, 38, 62, 63, 64, 65, 66, 67, 68, 69, 70, 71, 72] (by decide +kernel) (by decide +kernel)
set_option maxRecDepth 20000 in
theorem gX4_restore_X3_copyFrom : GoodIn wsX4_restore (wsV RX4 177 RX3 yX3_copyFrom wsX3_copyFrom) := goodIn_app (goodIn_of _ (by decide +kernel)) ggX4_restore_X3_copyFrom
set_option maxRecDepth 20000 in
theorem ggX4_restore_X0_forget : GoodIn wsX4_restore wsX0_forget := goodIn_r _ [43, 44, 73, 74, 75] (by decide +kernel) (by decide +kernel)
set_option maxRecDepth 20000 in
theorem gX4_restore_X0_forget : GoodIn wsX4_restore (wsV RX4 180 RX0 yX0_forget wsX0_forget) := goodIn_app (goodIn_of _ (by decide +kernel)) ggX4_restore_X0_forget
set_option maxRecDepth 20000 in
theorem ggX4_restore_X3_allocated : GoodIn wsX4_restore wsX3_allocated := goodIn_r _ [48, 13, 49, 6, 50, 62, 63, 64, 65, 66, 67, 68, 69, 70] (by decide +kernel) (by decide +kernel)
set_option maxRecDepth 20000 in
theorem gX4_restore_X3_allocated : GoodIn wsX4_restore (wsV RX4 135 RX3 yX3_allocated wsX3_allocated) := goodIn_app (goodIn_of _ (by decide +kernel)) ggX4_restore_X3_allocated
set_option maxRecDepth 20000 in
theorem ggX4_restore_J6_bitCount_0f7a4 : GoodIn wsX4_restore wsJ6_bitCount_0f7a4 := goodIn_r _ [54, 55, 56, 57] (by decide +kernel) (by decide +kernel)
set_option maxRecDepth 20000 in
theorem gX4_restore_J6_bitCount_0f7a4 : GoodIn wsX4_restore (va_wsS RX4 88 yJ6_bitCount_0f7a4 wsJ6_bitCount_0f7a4) := goodIn_app (goodIn_of _ (by decide +kernel)) ggX4_restore_J6_bitCount_0f7a4
theorem dX4_restore_0 : decode cX4_restore 0 = .ok (.iload_n 1, 1) := by decide +kernel
theorem dX4_restore_1 : decode cX4_restore 1 = .ok (.iconst 2, 1) := by decide +kernel
theorem dX4_restore_2 : decode cX4_restore 2 = .ok (.invokestatic 54, 3) := by decide +kernel
theorem dX4_restore_5 : decode cX4_restore 5 = .ok (.ifCond .ne 5, 3) := by decide +kernel
theorem dX4_restore_8 : decode cX4_restore 8 = .ok (.iconst (-1), 1) := by decide +kernel
theorem dX4_restore_9 : decode cX4_restore 9 = .ok (.ireturn, 1) := by decide +kernel
theorem dX4_restore_10 : decode cX4_restore 10 = .ok (.aload_n 0, 1) := by decide +kernel
theorem dX4_restore_11 : decode cX4_restore 11 = .ok (.getfield 23, 3) := by decide +kernel
theorem dX4_restore_14 : decode cX4_restore 14 = .ok (.iload_n 1, 1) := by decide +kernel
theorem dX4_restore_15 : decode cX4_restore 15 = .ok (.aaload, 1) := by decide +kernel
theorem dX4_restore_16 : decode cX4_restore 16 = .ok (.ifnonnull 6, 3) := by decide +kernel
theorem dX4_restore_19 : decode cX4_restore 19 = .ok (.bipush (-2), 2) := by decide +kernel
theorem dX4_restore_21 : decode cX4_restore 21 = .ok (.ireturn, 1) := by decide +kernel
theorem dX4_restore_22 : decode cX4_restore 22 = .ok (.aload_n 0, 1) := by decide +kernel
theorem dX4_restore_23 : decode cX4_restore 23 = .ok (.getfield 10, 3) := by decide +kernel
theorem dX4_restore_26 : decode cX4_restore 26 = .ok (.aload_n 0, 1) := by decide +kernel
theorem dX4_restore_27 : decode cX4_restore 27 = .ok (.getfield 23, 3) := by decide +kernel
theorem dX4_restore_30 : decode cX4_restore 30 = .ok (.iload_n 1, 1) := by decide +kernel
theorem dX4_restore_31 : decode cX4_restore 31 = .ok (.aaload, 1) := by decide +kernel
theorem dX4_restore_32 : decode cX4_restore 32 = .ok (.invokevirtual 177, 3) := by decide +kernel
theorem dX4_restore_35 : decode cX4_restore 35 = .ok (.aload_n 0, 1) := by decide +kernel
theorem dX4_restore_36 : decode cX4_restore 36 = .ok (.getfield 19, 3) := by decide +kernel
theorem dX4_restore_39 : decode cX4_restore 39 = .ok (.invokevirtual 180, 3) := by decide +kernel
theorem dX4_restore_42 : decode cX4_restore 42 = .ok (.aload_n 0, 1) := by decide +kernel
theorem dX4_restore_43 : decode cX4_restore 43 = .ok (.getfield 10, 3) := by decide +kernel
theorem dX4_restore_46 : decode cX4_restore 46 = .ok (.invokevirtual 135, 3) := by decide +kernel
theorem dX4_restore_49 : decode cX4_restore 49 = .ok (.invokestatic 88, 3) := by decide +kernel
theorem dX4_restore_52 : decode cX4_restore 52 = .ok (.ireturn, 1) := by decide +kernel
theorem dX4_within_0 : decode cX4_within 0 = .ok (.iload_n 0, 1) := by decide +kernel
theorem dX4_within_1 : decode cX4_within 1 = .ok (.ifCond .lt 12, 3) := by decide +kernel
theorem dX4_within_4 : decode cX4_within 4 = .ok (.iload_n 0, 1) := by decide +kernel
theorem dX4_within_5 : decode cX4_within 5 = .ok (.iload_n 1, 1) := by decide +kernel
theorem dX4_within_6 : decode cX4_within 6 = .ok (.if_icmp .ge 7, 3) := by decide +kernel
theorem dX4_within_9 : decode cX4_within 9 = .ok (.iconst 1, 1) := by decide +kernel
theorem dX4_within_10 : decode cX4_within 10 = .ok (.goto 4, 3) := by decide +kernel
theorem dX4_within_13 : decode cX4_within 13 = .ok (.iconst 0, 1) := by decide +kernel
theorem dX4_within_14 : decode cX4_within 14 = .ok (.ireturn, 1) := by decide +kernel
theorem dX4_setOf_0 : decode cX4_setOf 0 = .ok (.iload_n 0, 1) := by decide +kernel
theorem dX4_setOf_1 : decode cX4_setOf 1 = .ok (.ifCond .lt 15, 3) := by decide +kernel
theorem dX4_setOf_4 : decode cX4_setOf 4 = .ok (.iload_n 0, 1) := by decide +kernel
theorem dX4_setOf_5 : decode cX4_setOf 5 = .ok (.bipush 24, 2) := by decide +kernel
theorem dX4_setOf_7 : decode cX4_setOf 7 = .ok (.if_icmp .ge 9, 3) := by decide +kernel
theorem dX4_setOf_10 : decode cX4_setOf 10 = .ok (.iconst 1, 1) := by decide +kernel
theorem dX4_setOf_11 : decode cX4_setOf 11 = .ok (.iload_n 0, 1) := by decide +kernel
theorem dX4_setOf_12 : decode cX4_setOf 12 = .ok (.ishl, 1) := by decide +kernel
theorem dX4_setOf_13 : decode cX4_setOf 13 = .ok (.goto 4, 3) := by decide +kernel
theorem dX4_setOf_16 : decode cX4_setOf 16 = .ok (.iconst 0, 1) := by decide +kernel
theorem dX4_setOf_17 : decode cX4_setOf 17 = .ok (.ireturn, 1) := by decide +kernel
set_option maxRecDepth 20000 in
theorem ggX4_contains_X4_setOf : GoodIn wsX4_contains wsX4_setOf := goodIn_r _ [4] (by decide +kernel) (by decide +kernel)
set_option maxRecDepth 20000 in
theorem gX4_contains_X4_setOf : GoodIn wsX4_contains (va_wsS RX4 84 yX4_setOf wsX4_setOf) := goodIn_app (goodIn_of _ (by decide +kernel)) ggX4_contains_X4_setOf
theorem dX4_contains_0 : decode cX4_contains 0 = .ok (.iload_n 0, 1) := by decide +kernel
theorem dX4_contains_1 : decode cX4_contains 1 = .ok (.iload_n 1, 1) := by decide +kernel
theorem dX4_contains_2 : decode cX4_contains 2 = .ok (.invokestatic 84, 3) := by decide +kernel
theorem dX4_contains_5 : decode cX4_contains 5 = .ok (.iand, 1) := by decide +kernel
theorem dX4_contains_6 : decode cX4_contains 6 = .ok (.ifCond .eq 7, 3) := by decide +kernel
theorem dX4_contains_9 : decode cX4_contains 9 = .ok (.iconst 1, 1) := by decide +kernel
theorem dX4_contains_10 : decode cX4_contains 10 = .ok (.goto 4, 3) := by decide +kernel
theorem dX4_contains_13 : decode cX4_contains 13 = .ok (.iconst 0, 1) := by decide +kernel
theorem dX4_contains_14 : decode cX4_contains 14 = .ok (.ireturn, 1) := by decide +kernel
set_option maxRecDepth 20000 in
theorem ggX4_emptyRow_J7_fill_53178 : GoodIn wsX4_emptyRow wsJ7_fill_53178 := goodIn_r _ [9] (by decide +kernel) (by decide +kernel)
set_option maxRecDepth 20000 in
theorem gX4_emptyRow_J7_fill_53178 : GoodIn wsX4_emptyRow (va_wsS RX4 188 yJ7_fill_53178 wsJ7_fill_53178) := goodIn_app (goodIn_of _ (by decide +kernel)) ggX4_emptyRow_J7_fill_53178
theorem dX4_emptyRow_0 : decode cX4_emptyRow 0 = .ok (.iload_n 0, 1) := by decide +kernel
theorem dX4_emptyRow_1 : decode cX4_emptyRow 1 = .ok (.iconst 0, 1) := by decide +kernel
theorem dX4_emptyRow_2 : decode cX4_emptyRow 2 = .ok (.invokestatic 183, 3) := by decide +kernel
theorem dX4_emptyRow_5 : decode cX4_emptyRow 5 = .ok (.newarray .int, 2) := by decide +kernel
theorem dX4_emptyRow_7 : decode cX4_emptyRow 7 = .ok (.astore_n 1, 1) := by decide +kernel
theorem dX4_emptyRow_8 : decode cX4_emptyRow 8 = .ok (.aload_n 1, 1) := by decide +kernel
theorem dX4_emptyRow_9 : decode cX4_emptyRow 9 = .ok (.bipush (-9), 2) := by decide +kernel
theorem dX4_emptyRow_11 : decode cX4_emptyRow 11 = .ok (.invokestatic 188, 3) := by decide +kernel
theorem dX4_emptyRow_14 : decode cX4_emptyRow 14 = .ok (.aload_n 1, 1) := by decide +kernel
theorem dX4_emptyRow_15 : decode cX4_emptyRow 15 = .ok (.areturn, 1) := by decide +kernel
theorem dX4_copyRow_0 : decode cX4_copyRow 0 = .ok (.aload_n 0, 1) := by decide +kernel
theorem dX4_copyRow_1 : decode cX4_copyRow 1 = .ok (.iconst 0, 1) := by decide +kernel
theorem dX4_copyRow_2 : decode cX4_copyRow 2 = .ok (.aload_n 1, 1) := by decide +kernel
theorem dX4_copyRow_3 : decode cX4_copyRow 3 = .ok (.iconst 0, 1) := by decide +kernel
theorem dX4_copyRow_4 : decode cX4_copyRow 4 = .ok (.aload_n 0, 1) := by decide +kernel
theorem dX4_copyRow_5 : decode cX4_copyRow 5 = .ok (.arraylength, 1) := by decide +kernel
theorem dX4_copyRow_6 : decode cX4_copyRow 6 = .ok (.aload_n 1, 1) := by decide +kernel
theorem dX4_copyRow_7 : decode cX4_copyRow 7 = .ok (.arraylength, 1) := by decide +kernel
theorem dX4_copyRow_8 : decode cX4_copyRow 8 = .ok (.invokestatic 194, 3) := by decide +kernel
theorem dX4_copyRow_11 : decode cX4_copyRow 11 = .ok (.invokestatic 197, 3) := by decide +kernel
theorem dX4_copyRow_14 : decode cX4_copyRow 14 = .ok (.return_, 1) := by decide +kernel
theorem dX4_occurrences_0 : decode cX4_occurrences 0 = .ok (.iconst 0, 1) := by decide +kernel
theorem dX4_occurrences_1 : decode cX4_occurrences 1 = .ok (.istore_n 2, 1) := by decide +kernel
theorem dX4_occurrences_2 : decode cX4_occurrences 2 = .ok (.iconst 0, 1) := by decide +kernel
theorem dX4_occurrences_3 : decode cX4_occurrences 3 = .ok (.istore_n 3, 1) := by decide +kernel
theorem dX4_occurrences_4 : decode cX4_occurrences 4 = .ok (.iload_n 3, 1) := by decide +kernel
theorem dX4_occurrences_5 : decode cX4_occurrences 5 = .ok (.aload_n 0, 1) := by decide +kernel
theorem dX4_occurrences_6 : decode cX4_occurrences 6 = .ok (.arraylength, 1) := by decide +kernel
theorem dX4_occurrences_7 : decode cX4_occurrences 7 = .ok (.if_icmp .ge 19, 3) := by decide +kernel
theorem dX4_occurrences_10 : decode cX4_occurrences 10 = .ok (.aload_n 0, 1) := by decide +kernel
theorem dX4_occurrences_11 : decode cX4_occurrences 11 = .ok (.iload_n 3, 1) := by decide +kernel
theorem dX4_occurrences_12 : decode cX4_occurrences 12 = .ok (.iaload, 1) := by decide +kernel
theorem dX4_occurrences_13 : decode cX4_occurrences 13 = .ok (.iload_n 1, 1) := by decide +kernel
theorem dX4_occurrences_14 : decode cX4_occurrences 14 = .ok (.if_icmp .ne 6, 3) := by decide +kernel
theorem dX4_occurrences_17 : decode cX4_occurrences 17 = .ok (.iinc 2 1, 3) := by decide +kernel
theorem dX4_occurrences_20 : decode cX4_occurrences 20 = .ok (.iinc 3 1, 3) := by decide +kernel
theorem dX4_occurrences_23 : decode cX4_occurrences 23 = .ok (.goto (-19), 3) := by decide +kernel
theorem dX4_occurrences_26 : decode cX4_occurrences 26 = .ok (.iload_n 2, 1) := by decide +kernel
theorem dX4_occurrences_27 : decode cX4_occurrences 27 = .ok (.ireturn, 1) := by decide +kernel
end
section
theorem dX5_init_0 : decode cX5_init 0 = .ok (.aload_n 0, 1) := by decide +kernel
theorem dX5_init_1 : decode cX5_init 1 = .ok (.invokespecial 1, 3) := by decide +kernel
theorem dX5_init_4 : decode cX5_init 4 = .ok (.aload_n 0, 1) := by decide +kernel
theorem dX5_init_5 : decode cX5_init 5 = .ok (.sipush 3880, 3) := by decide +kernel
theorem dX5_init_8 : decode cX5_init 8 = .ok (.newarray .int, 2) := by decide +kernel
theorem dX5_init_10 : decode cX5_init 10 = .ok (.putfield 7, 3) := by decide +kernel
theorem dX5_init_13 : decode cX5_init 13 = .ok (.aload_n 0, 1) := by decide +kernel
theorem dX5_init_14 : decode cX5_init 14 = .ok (.iconst 2, 1) := by decide +kernel
theorem dX5_init_15 : decode cX5_init 15 = .ok (.newarray .boolean, 2) := by decide +kernel
theorem dX5_init_17 : decode cX5_init 17 = .ok (.putfield 13, 3) := by decide +kernel
theorem dX5_init_20 : decode cX5_init 20 = .ok (.aload_n 0, 1) := by decide +kernel
theorem dX5_init_21 : decode cX5_init 21 = .ok (.bipush 24, 2) := by decide +kernel
theorem dX5_init_23 : decode cX5_init 23 = .ok (.newarray .int, 2) := by decide +kernel
theorem dX5_init_25 : decode cX5_init 25 = .ok (.putfield 17, 3) := by decide +kernel
theorem dX5_init_28 : decode cX5_init 28 = .ok (.aload_n 0, 1) := by decide +kernel
theorem dX5_init_29 : decode cX5_init 29 = .ok (.bipush 24, 2) := by decide +kernel
theorem dX5_init_31 : decode cX5_init 31 = .ok (.newarray .boolean, 2) := by decide +kernel
theorem dX5_init_33 : decode cX5_init 33 = .ok (.putfield 20, 3) := by decide +kernel
theorem dX5_init_36 : decode cX5_init 36 = .ok (.iconst 0, 1) := by decide +kernel
theorem dX5_init_37 : decode cX5_init 37 = .ok (.istore_n 1, 1) := by decide +kernel
theorem dX5_init_38 : decode cX5_init 38 = .ok (.iload_n 1, 1) := by decide +kernel
theorem dX5_init_39 : decode cX5_init 39 = .ok (.bipush 24, 2) := by decide +kernel
theorem dX5_init_41 : decode cX5_init 41 = .ok (.if_icmp .ge 22, 3) := by decide +kernel
theorem dX5_init_44 : decode cX5_init 44 = .ok (.aload_n 0, 1) := by decide +kernel
theorem dX5_init_45 : decode cX5_init 45 = .ok (.getfield 7, 3) := by decide +kernel
theorem dX5_init_48 : decode cX5_init 48 = .ok (.bipush 15, 2) := by decide +kernel
theorem dX5_init_50 : decode cX5_init 50 = .ok (.iload_n 1, 1) := by decide +kernel
theorem dX5_init_51 : decode cX5_init 51 = .ok (.imul, 1) := by decide +kernel
theorem dX5_init_52 : decode cX5_init 52 = .ok (.iconst 0, 1) := by decide +kernel
theorem dX5_init_53 : decode cX5_init 53 = .ok (.iadd, 1) := by decide +kernel
theorem dX5_init_54 : decode cX5_init 54 = .ok (.bipush (-9), 2) := by decide +kernel
theorem dX5_init_56 : decode cX5_init 56 = .ok (.iastore, 1) := by decide +kernel
theorem dX5_init_57 : decode cX5_init 57 = .ok (.iinc 1 1, 3) := by decide +kernel
theorem dX5_init_60 : decode cX5_init 60 = .ok (.goto (-22), 3) := by decide +kernel
theorem dX5_init_63 : decode cX5_init 63 = .ok (.iconst 0, 1) := by decide +kernel
theorem dX5_init_64 : decode cX5_init 64 = .ok (.istore_n 1, 1) := by decide +kernel
theorem dX5_init_65 : decode cX5_init 65 = .ok (.iload_n 1, 1) := by decide +kernel
theorem dX5_init_66 : decode cX5_init 66 = .ok (.bipush 6, 2) := by decide +kernel
theorem dX5_init_68 : decode cX5_init 68 = .ok (.if_icmp .ge 21, 3) := by decide +kernel
theorem dX5_init_71 : decode cX5_init 71 = .ok (.aload_n 0, 1) := by decide +kernel
theorem dX5_init_72 : decode cX5_init 72 = .ok (.getfield 7, 3) := by decide +kernel
theorem dX5_init_75 : decode cX5_init 75 = .ok (.sipush 360, 3) := by decide +kernel
theorem dX5_init_78 : decode cX5_init 78 = .ok (.iload_n 1, 1) := by decide +kernel
theorem dX5_init_79 : decode cX5_init 79 = .ok (.iadd, 1) := by decide +kernel
theorem dX5_init_80 : decode cX5_init 80 = .ok (.bipush (-9), 2) := by decide +kernel
theorem dX5_init_82 : decode cX5_init 82 = .ok (.iastore, 1) := by decide +kernel
theorem dX5_init_83 : decode cX5_init 83 = .ok (.iinc 1 1, 3) := by decide +kernel
theorem dX5_init_86 : decode cX5_init 86 = .ok (.goto (-21), 3) := by decide +kernel
theorem dX5_init_89 : decode cX5_init 89 = .ok (.return_, 1) := by decide +kernel
theorem dX5_within_0 : decode cX5_within 0 = .ok (.iload_n 0, 1) := by decide +kernel
theorem dX5_within_1 : decode cX5_within 1 = .ok (.iload_n 1, 1) := by decide +kernel
theorem dX5_within_2 : decode cX5_within 2 = .ok (.if_icmp .lt 12, 3) := by decide +kernel
theorem dX5_within_5 : decode cX5_within 5 = .ok (.iload_n 0, 1) := by decide +kernel
theorem dX5_within_6 : decode cX5_within 6 = .ok (.iload_n 2, 1) := by decide +kernel
theorem dX5_within_7 : decode cX5_within 7 = .ok (.if_icmp .gt 7, 3) := by decide +kernel
theorem dX5_within_10 : decode cX5_within 10 = .ok (.iconst 1, 1) := by decide +kernel
theorem dX5_within_11 : decode cX5_within 11 = .ok (.goto 4, 3) := by decide +kernel
theorem dX5_within_14 : decode cX5_within 14 = .ok (.iconst 0, 1) := by decide +kernel
theorem dX5_within_15 : decode cX5_within 15 = .ok (.ireturn, 1) := by decide +kernel
theorem dX5_copyState_0 : decode cX5_copyState 0 = .ok (.iconst 0, 1) := by decide +kernel
theorem dX5_copyState_1 : decode cX5_copyState 1 = .ok (.istore_n 3, 1) := by decide +kernel
theorem dX5_copyState_2 : decode cX5_copyState 2 = .ok (.iload_n 3, 1) := by decide +kernel
theorem dX5_copyState_3 : decode cX5_copyState 3 = .ok (.sipush 388, 3) := by decide +kernel
theorem dX5_copyState_6 : decode cX5_copyState 6 = .ok (.if_icmp .ge 33, 3) := by decide +kernel
theorem dX5_copyState_9 : decode cX5_copyState 9 = .ok (.aload_n 0, 1) := by decide +kernel
theorem dX5_copyState_10 : decode cX5_copyState 10 = .ok (.getfield 7, 3) := by decide +kernel
theorem dX5_copyState_13 : decode cX5_copyState 13 = .ok (.sipush 388, 3) := by decide +kernel
theorem dX5_copyState_16 : decode cX5_copyState 16 = .ok (.iload_n 2, 1) := by decide +kernel
theorem dX5_copyState_17 : decode cX5_copyState 17 = .ok (.imul, 1) := by decide +kernel
theorem dX5_copyState_18 : decode cX5_copyState 18 = .ok (.iload_n 3, 1) := by decide +kernel
theorem dX5_copyState_19 : decode cX5_copyState 19 = .ok (.iadd, 1) := by decide +kernel
theorem dX5_copyState_20 : decode cX5_copyState 20 = .ok (.aload_n 0, 1) := by decide +kernel
theorem dX5_copyState_21 : decode cX5_copyState 21 = .ok (.getfield 7, 3) := by decide +kernel
theorem dX5_copyState_24 : decode cX5_copyState 24 = .ok (.sipush 388, 3) := by decide +kernel
theorem dX5_copyState_27 : decode cX5_copyState 27 = .ok (.iload_n 1, 1) := by decide +kernel
theorem dX5_copyState_28 : decode cX5_copyState 28 = .ok (.imul, 1) := by decide +kernel
theorem dX5_copyState_29 : decode cX5_copyState 29 = .ok (.iload_n 3, 1) := by decide +kernel
theorem dX5_copyState_30 : decode cX5_copyState 30 = .ok (.iadd, 1) := by decide +kernel
theorem dX5_copyState_31 : decode cX5_copyState 31 = .ok (.iaload, 1) := by decide +kernel
theorem dX5_copyState_32 : decode cX5_copyState 32 = .ok (.iastore, 1) := by decide +kernel
theorem dX5_copyState_33 : decode cX5_copyState 33 = .ok (.iinc 3 1, 3) := by decide +kernel
theorem dX5_copyState_36 : decode cX5_copyState 36 = .ok (.goto (-34), 3) := by decide +kernel
theorem dX5_copyState_39 : decode cX5_copyState 39 = .ok (.return_, 1) := by decide +kernel
set_option maxRecDepth 20000 in
theorem ggX5_saveState_X5_copyState : GoodIn wsX5_saveState wsX5_copyState := goodIn_r _ [6, 7, 8, 9, 10, 11, 12] (by decide +kernel) (by decide +kernel)
set_option maxRecDepth 20000 in
theorem gX5_saveState_X5_copyState : GoodIn wsX5_saveState (wsV RX5 27 RX5 yX5_copyState wsX5_copyState) := goodIn_app (goodIn_of _ (by decide +kernel)) ggX5_saveState_X5_copyState
theorem dX5_saveState_0 : decode cX5_saveState 0 = .ok (.aload_n 0, 1) := by decide +kernel
theorem dX5_saveState_1 : decode cX5_saveState 1 = .ok (.getfield 23, 3) := by decide +kernel
theorem dX5_saveState_4 : decode cX5_saveState 4 = .ok (.bipush 6, 2) := by decide +kernel
theorem dX5_saveState_6 : decode cX5_saveState 6 = .ok (.if_icmp .ne 35, 3) := by decide +kernel
theorem dX5_saveState_9 : decode cX5_saveState 9 = .ok (.iconst 2, 1) := by decide +kernel
theorem dX5_saveState_10 : decode cX5_saveState 10 = .ok (.istore_n 1, 1) := by decide +kernel
theorem dX5_saveState_11 : decode cX5_saveState 11 = .ok (.iload_n 1, 1) := by decide +kernel
theorem dX5_saveState_12 : decode cX5_saveState 12 = .ok (.bipush 7, 2) := by decide +kernel
theorem dX5_saveState_14 : decode cX5_saveState 14 = .ok (.if_icmp .ge 17, 3) := by decide +kernel
theorem dX5_saveState_17 : decode cX5_saveState 17 = .ok (.aload_n 0, 1) := by decide +kernel
theorem dX5_saveState_18 : decode cX5_saveState 18 = .ok (.iload_n 1, 1) := by decide +kernel
theorem dX5_saveState_19 : decode cX5_saveState 19 = .ok (.iconst 1, 1) := by decide +kernel
theorem dX5_saveState_20 : decode cX5_saveState 20 = .ok (.iadd, 1) := by decide +kernel
theorem dX5_saveState_21 : decode cX5_saveState 21 = .ok (.iload_n 1, 1) := by decide +kernel
theorem dX5_saveState_22 : decode cX5_saveState 22 = .ok (.invokevirtual 27, 3) := by decide +kernel
theorem dX5_saveState_25 : decode cX5_saveState 25 = .ok (.iinc 1 1, 3) := by decide +kernel
theorem dX5_saveState_28 : decode cX5_saveState 28 = .ok (.goto (-17), 3) := by decide +kernel
theorem dX5_saveState_31 : decode cX5_saveState 31 = .ok (.aload_n 0, 1) := by decide +kernel
theorem dX5_saveState_32 : decode cX5_saveState 32 = .ok (.dup, 1) := by decide +kernel
theorem dX5_saveState_33 : decode cX5_saveState 33 = .ok (.getfield 23, 3) := by decide +kernel
theorem dX5_saveState_36 : decode cX5_saveState 36 = .ok (.iconst 1, 1) := by decide +kernel
theorem dX5_saveState_37 : decode cX5_saveState 37 = .ok (.isub, 1) := by decide +kernel
theorem dX5_saveState_38 : decode cX5_saveState 38 = .ok (.putfield 23, 3) := by decide +kernel
theorem dX5_saveState_41 : decode cX5_saveState 41 = .ok (.aload_n 0, 1) := by decide +kernel
theorem dX5_saveState_42 : decode cX5_saveState 42 = .ok (.iconst 0, 1) := by decide +kernel
theorem dX5_saveState_43 : decode cX5_saveState 43 = .ok (.iconst 2, 1) := by decide +kernel
theorem dX5_saveState_44 : decode cX5_saveState 44 = .ok (.aload_n 0, 1) := by decide +kernel
theorem dX5_saveState_45 : decode cX5_saveState 45 = .ok (.getfield 23, 3) := by decide +kernel
theorem dX5_saveState_48 : decode cX5_saveState 48 = .ok (.iadd, 1) := by decide +kernel
theorem dX5_saveState_49 : decode cX5_saveState 49 = .ok (.invokevirtual 27, 3) := by decide +kernel
theorem dX5_saveState_52 : decode cX5_saveState 52 = .ok (.aload_n 0, 1) := by decide +kernel
theorem dX5_saveState_53 : decode cX5_saveState 53 = .ok (.dup, 1) := by decide +kernel
theorem dX5_saveState_54 : decode cX5_saveState 54 = .ok (.getfield 23, 3) := by decide +kernel
theorem dX5_saveState_57 : decode cX5_saveState 57 = .ok (.iconst 1, 1) := by decide +kernel
theorem dX5_saveState_58 : decode cX5_saveState 58 = .ok (.iadd, 1) := by decide +kernel
theorem dX5_saveState_59 : decode cX5_saveState 59 = .ok (.putfield 23, 3) := by decide +kernel
theorem dX5_saveState_62 : decode cX5_saveState 62 = .ok (.return_, 1) := by decide +kernel
set_option maxRecDepth 20000 in
theorem ggX5_undo_X5_copyState : GoodIn wsX5_undo wsX5_copyState := goodIn_r _ [6, 7, 8, 9, 10, 11, 12] (by decide +kernel) (by decide +kernel)
set_option maxRecDepth 20000 in
theorem gX5_undo_X5_copyState : GoodIn wsX5_undo (wsV RX5 27 RX5 yX5_copyState wsX5_copyState) := goodIn_app (goodIn_of _ (by decide +kernel)) ggX5_undo_X5_copyState
theorem dX5_undo_0 : decode cX5_undo 0 = .ok (.aload_n 0, 1) := by decide +kernel
theorem dX5_undo_1 : decode cX5_undo 1 = .ok (.getfield 23, 3) := by decide +kernel
theorem dX5_undo_4 : decode cX5_undo 4 = .ok (.ifCond .ne 6, 3) := by decide +kernel
theorem dX5_undo_7 : decode cX5_undo 7 = .ok (.bipush (-2), 2) := by decide +kernel
theorem dX5_undo_9 : decode cX5_undo 9 = .ok (.ireturn, 1) := by decide +kernel
theorem dX5_undo_10 : decode cX5_undo 10 = .ok (.aload_n 0, 1) := by decide +kernel
theorem dX5_undo_11 : decode cX5_undo 11 = .ok (.dup, 1) := by decide +kernel
theorem dX5_undo_12 : decode cX5_undo 12 = .ok (.getfield 23, 3) := by decide +kernel
theorem dX5_undo_15 : decode cX5_undo 15 = .ok (.iconst 1, 1) := by decide +kernel
theorem dX5_undo_16 : decode cX5_undo 16 = .ok (.isub, 1) := by decide +kernel
theorem dX5_undo_17 : decode cX5_undo 17 = .ok (.putfield 23, 3) := by decide +kernel
theorem dX5_undo_20 : decode cX5_undo 20 = .ok (.aload_n 0, 1) := by decide +kernel
theorem dX5_undo_21 : decode cX5_undo 21 = .ok (.iconst 2, 1) := by decide +kernel
theorem dX5_undo_22 : decode cX5_undo 22 = .ok (.aload_n 0, 1) := by decide +kernel
theorem dX5_undo_23 : decode cX5_undo 23 = .ok (.getfield 23, 3) := by decide +kernel
theorem dX5_undo_26 : decode cX5_undo 26 = .ok (.iadd, 1) := by decide +kernel
theorem dX5_undo_27 : decode cX5_undo 27 = .ok (.iconst 0, 1) := by decide +kernel
theorem dX5_undo_28 : decode cX5_undo 28 = .ok (.invokevirtual 27, 3) := by decide +kernel
theorem dX5_undo_31 : decode cX5_undo 31 = .ok (.aload_n 0, 1) := by decide +kernel
theorem dX5_undo_32 : decode cX5_undo 32 = .ok (.getfield 23, 3) := by decide +kernel
theorem dX5_undo_35 : decode cX5_undo 35 = .ok (.ireturn, 1) := by decide +kernel
theorem dX5_undoDepth_0 : decode cX5_undoDepth 0 = .ok (.aload_n 0, 1) := by decide +kernel
theorem dX5_undoDepth_1 : decode cX5_undoDepth 1 = .ok (.getfield 23, 3) := by decide +kernel
theorem dX5_undoDepth_4 : decode cX5_undoDepth 4 = .ok (.ireturn, 1) := by decide +kernel
set_option maxRecDepth 20000 in
theorem ggX5_save_X5_within : GoodIn wsX5_save wsX5_within := goodIn_r _ [5] (by decide +kernel) (by decide +kernel)
set_option maxRecDepth 20000 in
theorem gX5_save_X5_within : GoodIn wsX5_save (va_wsS RX5 31 yX5_within wsX5_within) := goodIn_app (goodIn_of _ (by decide +kernel)) ggX5_save_X5_within
set_option maxRecDepth 20000 in
theorem ggX5_save_X5_copyState : GoodIn wsX5_save wsX5_copyState := goodIn_r _ [9, 10, 23, 24, 25, 26, 27] (by decide +kernel) (by decide +kernel)
set_option maxRecDepth 20000 in
theorem gX5_save_X5_copyState : GoodIn wsX5_save (wsV RX5 27 RX5 yX5_copyState wsX5_copyState) := goodIn_app (goodIn_of _ (by decide +kernel)) ggX5_save_X5_copyState
set_option maxRecDepth 20000 in
theorem ggX5_save_X5_objectCount : GoodIn wsX5_save wsX5_objectCount := goodIn_r _ [14, 15, 16, 17, 4, 18, 2, 3, 5, 19, 20, 21, 22, 10, 23, 24, 25, 26, 27] (by decide +kernel) (by decide +kernel)
set_option maxRecDepth 20000 in
theorem gX5_save_X5_objectCount : GoodIn wsX5_save (wsV RX5 35 RX5 yX5_objectCount wsX5_objectCount) := goodIn_app (goodIn_of _ (by decide +kernel)) ggX5_save_X5_objectCount
theorem dX5_save_0 : decode cX5_save 0 = .ok (.iload_n 1, 1) := by decide +kernel
theorem dX5_save_1 : decode cX5_save 1 = .ok (.iconst 0, 1) := by decide +kernel
theorem dX5_save_2 : decode cX5_save 2 = .ok (.iconst 1, 1) := by decide +kernel
theorem dX5_save_3 : decode cX5_save 3 = .ok (.invokestatic 31, 3) := by decide +kernel
theorem dX5_save_6 : decode cX5_save 6 = .ok (.ifCond .ne 5, 3) := by decide +kernel
theorem dX5_save_9 : decode cX5_save 9 = .ok (.iconst (-1), 1) := by decide +kernel
theorem dX5_save_10 : decode cX5_save 10 = .ok (.ireturn, 1) := by decide +kernel
theorem dX5_save_11 : decode cX5_save 11 = .ok (.aload_n 0, 1) := by decide +kernel
theorem dX5_save_12 : decode cX5_save 12 = .ok (.iconst 0, 1) := by decide +kernel
theorem dX5_save_13 : decode cX5_save 13 = .ok (.bipush 8, 2) := by decide +kernel
theorem dX5_save_15 : decode cX5_save 15 = .ok (.iload_n 1, 1) := by decide +kernel
theorem dX5_save_16 : decode cX5_save 16 = .ok (.iadd, 1) := by decide +kernel
theorem dX5_save_17 : decode cX5_save 17 = .ok (.invokevirtual 27, 3) := by decide +kernel
theorem dX5_save_20 : decode cX5_save 20 = .ok (.aload_n 0, 1) := by decide +kernel
theorem dX5_save_21 : decode cX5_save 21 = .ok (.getfield 13, 3) := by decide +kernel
theorem dX5_save_24 : decode cX5_save 24 = .ok (.iload_n 1, 1) := by decide +kernel
theorem dX5_save_25 : decode cX5_save 25 = .ok (.iconst 1, 1) := by decide +kernel
theorem dX5_save_26 : decode cX5_save 26 = .ok (.bastore, 1) := by decide +kernel
theorem dX5_save_27 : decode cX5_save 27 = .ok (.aload_n 0, 1) := by decide +kernel
theorem dX5_save_28 : decode cX5_save 28 = .ok (.invokevirtual 35, 3) := by decide +kernel
theorem dX5_save_31 : decode cX5_save 31 = .ok (.ireturn, 1) := by decide +kernel
set_option maxRecDepth 20000 in
theorem ggX5_restore_X5_within : GoodIn wsX5_restore wsX5_within := goodIn_r _ [6] (by decide +kernel) (by decide +kernel)
set_option maxRecDepth 20000 in
theorem gX5_restore_X5_within : GoodIn wsX5_restore (va_wsS RX5 31 yX5_within wsX5_within) := goodIn_app (goodIn_of _ (by decide +kernel)) ggX5_restore_X5_within
set_option maxRecDepth 20000 in
theorem ggX5_restore_X5_copyState : GoodIn wsX5_restore wsX5_copyState := goodIn_r _ [10, 11, 24, 25, 26, 27, 28] (by decide +kernel) (by decide +kernel)
set_option maxRecDepth 20000 in
theorem gX5_restore_X5_copyState : GoodIn wsX5_restore (wsV RX5 27 RX5 yX5_copyState wsX5_copyState) := goodIn_app (goodIn_of _ (by decide +kernel)) ggX5_restore_X5_copyState
set_option maxRecDepth 20000 in
theorem ggX5_restore_X5_objectCount : GoodIn wsX5_restore wsX5_objectCount := goodIn_r _ [15, 16, 17, 18, 5, 19, 3, 4, 6, 20, 21, 22, 23, 11, 24, 25, 26, 27, 28] (by decide +kernel) (by decide +kernel)
set_option maxRecDepth 20000 in
theorem gX5_restore_X5_objectCount : GoodIn wsX5_restore (wsV RX5 35 RX5 yX5_objectCount wsX5_objectCount) := goodIn_app (goodIn_of _ (by decide +kernel)) ggX5_restore_X5_objectCount
theorem dX5_restore_0 : decode cX5_restore 0 = .ok (.iload_n 1, 1) := by decide +kernel
theorem dX5_restore_1 : decode cX5_restore 1 = .ok (.iconst 0, 1) := by decide +kernel
theorem dX5_restore_2 : decode cX5_restore 2 = .ok (.iconst 1, 1) := by decide +kernel
theorem dX5_restore_3 : decode cX5_restore 3 = .ok (.invokestatic 31, 3) := by decide +kernel
theorem dX5_restore_6 : decode cX5_restore 6 = .ok (.ifCond .ne 5, 3) := by decide +kernel
theorem dX5_restore_9 : decode cX5_restore 9 = .ok (.iconst (-1), 1) := by decide +kernel
theorem dX5_restore_10 : decode cX5_restore 10 = .ok (.ireturn, 1) := by decide +kernel
theorem dX5_restore_11 : decode cX5_restore 11 = .ok (.aload_n 0, 1) := by decide +kernel
theorem dX5_restore_12 : decode cX5_restore 12 = .ok (.getfield 13, 3) := by decide +kernel
theorem dX5_restore_15 : decode cX5_restore 15 = .ok (.iload_n 1, 1) := by decide +kernel
theorem dX5_restore_16 : decode cX5_restore 16 = .ok (.baload, 1) := by decide +kernel
theorem dX5_restore_17 : decode cX5_restore 17 = .ok (.ifCond .ne 6, 3) := by decide +kernel
theorem dX5_restore_20 : decode cX5_restore 20 = .ok (.bipush (-2), 2) := by decide +kernel
theorem dX5_restore_22 : decode cX5_restore 22 = .ok (.ireturn, 1) := by decide +kernel
theorem dX5_restore_23 : decode cX5_restore 23 = .ok (.aload_n 0, 1) := by decide +kernel
theorem dX5_restore_24 : decode cX5_restore 24 = .ok (.bipush 8, 2) := by decide +kernel
theorem dX5_restore_26 : decode cX5_restore 26 = .ok (.iload_n 1, 1) := by decide +kernel
theorem dX5_restore_27 : decode cX5_restore 27 = .ok (.iadd, 1) := by decide +kernel
theorem dX5_restore_28 : decode cX5_restore 28 = .ok (.iconst 0, 1) := by decide +kernel
theorem dX5_restore_29 : decode cX5_restore 29 = .ok (.invokevirtual 27, 3) := by decide +kernel
theorem dX5_restore_32 : decode cX5_restore 32 = .ok (.aload_n 0, 1) := by decide +kernel
theorem dX5_restore_33 : decode cX5_restore 33 = .ok (.iconst 0, 1) := by decide +kernel
theorem dX5_restore_34 : decode cX5_restore 34 = .ok (.putfield 23, 3) := by decide +kernel
theorem dX5_restore_37 : decode cX5_restore 37 = .ok (.aload_n 0, 1) := by decide +kernel
theorem dX5_restore_38 : decode cX5_restore 38 = .ok (.invokevirtual 35, 3) := by decide +kernel
theorem dX5_restore_41 : decode cX5_restore 41 = .ok (.ireturn, 1) := by decide +kernel
theorem dX5_part_0 : decode cX5_part 0 = .ok (.aload_n 0, 1) := by decide +kernel
theorem dX5_part_1 : decode cX5_part 1 = .ok (.getfield 7, 3) := by decide +kernel
theorem dX5_part_4 : decode cX5_part 4 = .ok (.bipush 15, 2) := by decide +kernel
theorem dX5_part_6 : decode cX5_part 6 = .ok (.iload_n 1, 1) := by decide +kernel
theorem dX5_part_7 : decode cX5_part 7 = .ok (.imul, 1) := by decide +kernel
theorem dX5_part_8 : decode cX5_part 8 = .ok (.iload_n 2, 1) := by decide +kernel
theorem dX5_part_9 : decode cX5_part 9 = .ok (.iadd, 1) := by decide +kernel
theorem dX5_part_10 : decode cX5_part 10 = .ok (.iaload, 1) := by decide +kernel
theorem dX5_part_11 : decode cX5_part 11 = .ok (.ireturn, 1) := by decide +kernel
set_option maxRecDepth 20000 in
theorem ggX5_isAllocated_X5_within : GoodIn wsX5_isAllocated wsX5_within := goodIn_r _ [4] (by decide +kernel) (by decide +kernel)
set_option maxRecDepth 20000 in
theorem gX5_isAllocated_X5_within : GoodIn wsX5_isAllocated (va_wsS RX5 31 yX5_within wsX5_within) := goodIn_app (goodIn_of _ (by decide +kernel)) ggX5_isAllocated_X5_within
set_option maxRecDepth 20000 in
theorem ggX5_isAllocated_X5_part : GoodIn wsX5_isAllocated wsX5_part := goodIn_r _ [8, 9, 10, 11, 12, 13, 14] (by decide +kernel) (by decide +kernel)
set_option maxRecDepth 20000 in
theorem gX5_isAllocated_X5_part : GoodIn wsX5_isAllocated (wsV RX5 39 RX5 yX5_part wsX5_part) := goodIn_app (goodIn_of _ (by decide +kernel)) ggX5_isAllocated_X5_part
theorem dX5_isAllocated_0 : decode cX5_isAllocated 0 = .ok (.iload_n 1, 1) := by decide +kernel
theorem dX5_isAllocated_1 : decode cX5_isAllocated 1 = .ok (.iconst 0, 1) := by decide +kernel
theorem dX5_isAllocated_2 : decode cX5_isAllocated 2 = .ok (.bipush 23, 2) := by decide +kernel
theorem dX5_isAllocated_4 : decode cX5_isAllocated 4 = .ok (.invokestatic 31, 3) := by decide +kernel
theorem dX5_isAllocated_7 : decode cX5_isAllocated 7 = .ok (.ifCond .eq 18, 3) := by decide +kernel
theorem dX5_isAllocated_10 : decode cX5_isAllocated 10 = .ok (.aload_n 0, 1) := by decide +kernel
theorem dX5_isAllocated_11 : decode cX5_isAllocated 11 = .ok (.iload_n 1, 1) := by decide +kernel
theorem dX5_isAllocated_12 : decode cX5_isAllocated 12 = .ok (.iconst 0, 1) := by decide +kernel
theorem dX5_isAllocated_13 : decode cX5_isAllocated 13 = .ok (.invokevirtual 39, 3) := by decide +kernel
theorem dX5_isAllocated_16 : decode cX5_isAllocated 16 = .ok (.bipush (-9), 2) := by decide +kernel
theorem dX5_isAllocated_18 : decode cX5_isAllocated 18 = .ok (.if_icmp .eq 7, 3) := by decide +kernel
theorem dX5_isAllocated_21 : decode cX5_isAllocated 21 = .ok (.iconst 1, 1) := by decide +kernel
theorem dX5_isAllocated_22 : decode cX5_isAllocated 22 = .ok (.goto 4, 3) := by decide +kernel
theorem dX5_isAllocated_25 : decode cX5_isAllocated 25 = .ok (.iconst 0, 1) := by decide +kernel
theorem dX5_isAllocated_26 : decode cX5_isAllocated 26 = .ok (.ireturn, 1) := by decide +kernel
set_option maxRecDepth 20000 in
theorem ggX5_isKind_X5_isAllocated : GoodIn wsX5_isKind wsX5_isAllocated := goodIn_r _ [5, 6, 7, 4, 8, 9, 10, 11, 12, 13, 14, 15, 16, 17, 18] (by decide +kernel) (by decide +kernel)
set_option maxRecDepth 20000 in
theorem gX5_isKind_X5_isAllocated : GoodIn wsX5_isKind (wsV RX5 43 RX5 yX5_isAllocated wsX5_isAllocated) := goodIn_app (goodIn_of _ (by decide +kernel)) ggX5_isKind_X5_isAllocated
set_option maxRecDepth 20000 in
theorem ggX5_isKind_X5_part : GoodIn wsX5_isKind wsX5_part := goodIn_r _ [12, 13, 14, 15, 16, 17, 18] (by decide +kernel) (by decide +kernel)
set_option maxRecDepth 20000 in
theorem gX5_isKind_X5_part : GoodIn wsX5_isKind (wsV RX5 39 RX5 yX5_part wsX5_part) := goodIn_app (goodIn_of _ (by decide +kernel)) ggX5_isKind_X5_part
theorem dX5_isKind_0 : decode cX5_isKind 0 = .ok (.aload_n 0, 1) := by decide +kernel
theorem dX5_isKind_1 : decode cX5_isKind 1 = .ok (.iload_n 1, 1) := by decide +kernel
theorem dX5_isKind_2 : decode cX5_isKind 2 = .ok (.invokevirtual 43, 3) := by decide +kernel
theorem dX5_isKind_5 : decode cX5_isKind 5 = .ok (.ifCond .eq 17, 3) := by decide +kernel
theorem dX5_isKind_8 : decode cX5_isKind 8 = .ok (.aload_n 0, 1) := by decide +kernel
theorem dX5_isKind_9 : decode cX5_isKind 9 = .ok (.iload_n 1, 1) := by decide +kernel
theorem dX5_isKind_10 : decode cX5_isKind 10 = .ok (.iconst 0, 1) := by decide +kernel
theorem dX5_isKind_11 : decode cX5_isKind 11 = .ok (.invokevirtual 39, 3) := by decide +kernel
theorem dX5_isKind_14 : decode cX5_isKind 14 = .ok (.iload_n 2, 1) := by decide +kernel
theorem dX5_isKind_15 : decode cX5_isKind 15 = .ok (.if_icmp .ne 7, 3) := by decide +kernel
theorem dX5_isKind_18 : decode cX5_isKind 18 = .ok (.iconst 1, 1) := by decide +kernel
theorem dX5_isKind_19 : decode cX5_isKind 19 = .ok (.goto 4, 3) := by decide +kernel
theorem dX5_isKind_22 : decode cX5_isKind 22 = .ok (.iconst 0, 1) := by decide +kernel
theorem dX5_isKind_23 : decode cX5_isKind 23 = .ok (.ireturn, 1) := by decide +kernel
set_option maxRecDepth 20000 in
theorem ggX5_make_X5_isAllocated : GoodIn wsX5_make wsX5_isAllocated := goodIn_r _ [6, 7, 8, 5, 9, 10, 11, 12, 13, 1, 23, 24, 25, 26, 27] (by decide +kernel) (by decide +kernel)
set_option maxRecDepth 20000 in
theorem gX5_make_X5_isAllocated : GoodIn wsX5_make (wsV RX5 43 RX5 yX5_isAllocated wsX5_isAllocated) := goodIn_app (goodIn_of _ (by decide +kernel)) ggX5_make_X5_isAllocated
set_option maxRecDepth 20000 in
theorem ggX5_make_X5_saveState : GoodIn wsX5_make wsX5_saveState := goodIn_r _ [17, 18, 19, 20, 21, 5, 22, 1, 23, 24, 25, 26, 27] (by decide +kernel) (by decide +kernel)
set_option maxRecDepth 20000 in
theorem gX5_make_X5_saveState : GoodIn wsX5_make (wsV RX5 47 RX5 yX5_saveState wsX5_saveState) := goodIn_app (goodIn_of _ (by decide +kernel)) ggX5_make_X5_saveState
theorem dX5_make_0 : decode cX5_make 0 = .ok (.iconst 0, 1) := by decide +kernel
theorem dX5_make_1 : decode cX5_make 1 = .ok (.istore_n 3, 1) := by decide +kernel
theorem dX5_make_2 : decode cX5_make 2 = .ok (.iload_n 3, 1) := by decide +kernel
theorem dX5_make_3 : decode cX5_make 3 = .ok (.bipush 24, 2) := by decide +kernel
theorem dX5_make_5 : decode cX5_make 5 = .ok (.if_icmp .ge 17, 3) := by decide +kernel
theorem dX5_make_8 : decode cX5_make 8 = .ok (.aload_n 0, 1) := by decide +kernel
theorem dX5_make_9 : decode cX5_make 9 = .ok (.iload_n 3, 1) := by decide +kernel
theorem dX5_make_10 : decode cX5_make 10 = .ok (.invokevirtual 43, 3) := by decide +kernel
theorem dX5_make_13 : decode cX5_make 13 = .ok (.ifCond .eq 9, 3) := by decide +kernel
theorem dX5_make_16 : decode cX5_make 16 = .ok (.iinc 3 1, 3) := by decide +kernel
theorem dX5_make_19 : decode cX5_make 19 = .ok (.goto (-17), 3) := by decide +kernel
theorem dX5_make_22 : decode cX5_make 22 = .ok (.iload_n 3, 1) := by decide +kernel
theorem dX5_make_23 : decode cX5_make 23 = .ok (.bipush 24, 2) := by decide +kernel
theorem dX5_make_25 : decode cX5_make 25 = .ok (.if_icmp .ne 6, 3) := by decide +kernel
theorem dX5_make_28 : decode cX5_make 28 = .ok (.bipush (-3), 2) := by decide +kernel
theorem dX5_make_30 : decode cX5_make 30 = .ok (.ireturn, 1) := by decide +kernel
theorem dX5_make_31 : decode cX5_make 31 = .ok (.aload_n 0, 1) := by decide +kernel
theorem dX5_make_32 : decode cX5_make 32 = .ok (.invokevirtual 47, 3) := by decide +kernel
theorem dX5_make_35 : decode cX5_make 35 = .ok (.iconst 0, 1) := by decide +kernel
theorem dX5_make_36 : decode cX5_make 36 = .ok (.istore 4, 2) := by decide +kernel
theorem dX5_make_38 : decode cX5_make 38 = .ok (.iload 4, 2) := by decide +kernel
theorem dX5_make_40 : decode cX5_make 40 = .ok (.bipush 15, 2) := by decide +kernel
theorem dX5_make_42 : decode cX5_make 42 = .ok (.if_icmp .ge 33, 3) := by decide +kernel
theorem dX5_make_45 : decode cX5_make 45 = .ok (.aload_n 0, 1) := by decide +kernel
theorem dX5_make_46 : decode cX5_make 46 = .ok (.getfield 7, 3) := by decide +kernel
theorem dX5_make_49 : decode cX5_make 49 = .ok (.bipush 15, 2) := by decide +kernel
theorem dX5_make_51 : decode cX5_make 51 = .ok (.iload_n 3, 1) := by decide +kernel
theorem dX5_make_52 : decode cX5_make 52 = .ok (.imul, 1) := by decide +kernel
theorem dX5_make_53 : decode cX5_make 53 = .ok (.iload 4, 2) := by decide +kernel
theorem dX5_make_55 : decode cX5_make 55 = .ok (.iadd, 1) := by decide +kernel
theorem dX5_make_56 : decode cX5_make 56 = .ok (.iload 4, 2) := by decide +kernel
theorem dX5_make_58 : decode cX5_make 58 = .ok (.iconst 3, 1) := by decide +kernel
theorem dX5_make_59 : decode cX5_make 59 = .ok (.if_icmp .ge 7, 3) := by decide +kernel
theorem dX5_make_62 : decode cX5_make 62 = .ok (.iconst 0, 1) := by decide +kernel
theorem dX5_make_63 : decode cX5_make 63 = .ok (.goto 5, 3) := by decide +kernel
theorem dX5_make_66 : decode cX5_make 66 = .ok (.bipush (-9), 2) := by decide +kernel
theorem dX5_make_68 : decode cX5_make 68 = .ok (.iastore, 1) := by decide +kernel
theorem dX5_make_69 : decode cX5_make 69 = .ok (.iinc 4 1, 3) := by decide +kernel
theorem dX5_make_72 : decode cX5_make 72 = .ok (.goto (-34), 3) := by decide +kernel
theorem dX5_make_75 : decode cX5_make 75 = .ok (.aload_n 0, 1) := by decide +kernel
theorem dX5_make_76 : decode cX5_make 76 = .ok (.getfield 7, 3) := by decide +kernel
theorem dX5_make_79 : decode cX5_make 79 = .ok (.bipush 15, 2) := by decide +kernel
theorem dX5_make_81 : decode cX5_make 81 = .ok (.iload_n 3, 1) := by decide +kernel
theorem dX5_make_82 : decode cX5_make 82 = .ok (.imul, 1) := by decide +kernel
theorem dX5_make_83 : decode cX5_make 83 = .ok (.iconst 0, 1) := by decide +kernel
theorem dX5_make_84 : decode cX5_make 84 = .ok (.iadd, 1) := by decide +kernel
theorem dX5_make_85 : decode cX5_make 85 = .ok (.iload_n 1, 1) := by decide +kernel
theorem dX5_make_86 : decode cX5_make 86 = .ok (.iastore, 1) := by decide +kernel
theorem dX5_make_87 : decode cX5_make 87 = .ok (.aload_n 0, 1) := by decide +kernel
theorem dX5_make_88 : decode cX5_make 88 = .ok (.getfield 7, 3) := by decide +kernel
theorem dX5_make_91 : decode cX5_make 91 = .ok (.bipush 15, 2) := by decide +kernel
theorem dX5_make_93 : decode cX5_make 93 = .ok (.iload_n 3, 1) := by decide +kernel
theorem dX5_make_94 : decode cX5_make 94 = .ok (.imul, 1) := by decide +kernel
theorem dX5_make_95 : decode cX5_make 95 = .ok (.iconst 3, 1) := by decide +kernel
theorem dX5_make_96 : decode cX5_make 96 = .ok (.iadd, 1) := by decide +kernel
theorem dX5_make_97 : decode cX5_make 97 = .ok (.iload_n 2, 1) := by decide +kernel
theorem dX5_make_98 : decode cX5_make 98 = .ok (.iastore, 1) := by decide +kernel
theorem dX5_make_99 : decode cX5_make 99 = .ok (.iload_n 3, 1) := by decide +kernel
theorem dX5_make_100 : decode cX5_make 100 = .ok (.ireturn, 1) := by decide +kernel
set_option maxRecDepth 20000 in
theorem ggX5_allocate_X5_make : GoodIn wsX5_allocate wsX5_make := goodIn_r _ [5, 6, 7, 8, 9, 4, 10, 11, 12, 13, 14, 15, 16, 17, 18, 19, 20, 21, 22, 23, 24, 25, 26, 27, 28, 29, 30, 31] (by decide +kernel) (by decide +kernel)
set_option maxRecDepth 20000 in
theorem gX5_allocate_X5_make : GoodIn wsX5_allocate (wsV RX5 50 RX5 yX5_make wsX5_make) := goodIn_app (goodIn_of _ (by decide +kernel)) ggX5_allocate_X5_make
theorem dX5_allocate_0 : decode cX5_allocate 0 = .ok (.aload_n 0, 1) := by decide +kernel
theorem dX5_allocate_1 : decode cX5_allocate 1 = .ok (.iconst 0, 1) := by decide +kernel
theorem dX5_allocate_2 : decode cX5_allocate 2 = .ok (.bipush (-9), 2) := by decide +kernel
theorem dX5_allocate_4 : decode cX5_allocate 4 = .ok (.invokevirtual 50, 3) := by decide +kernel
theorem dX5_allocate_7 : decode cX5_allocate 7 = .ok (.ireturn, 1) := by decide +kernel
set_option maxRecDepth 20000 in
theorem ggX5_allocateTable_X5_make : GoodIn wsX5_allocateTable wsX5_make := goodIn_r _ [5, 6, 7, 8, 9, 4, 10, 11, 12, 13, 14, 15, 16, 17, 18, 19, 20, 21, 22, 23, 24, 25, 26, 27, 28, 29, 30, 31] (by decide +kernel) (by decide +kernel)
set_option maxRecDepth 20000 in
theorem gX5_allocateTable_X5_make : GoodIn wsX5_allocateTable (wsV RX5 50 RX5 yX5_make wsX5_make) := goodIn_app (goodIn_of _ (by decide +kernel)) ggX5_allocateTable_X5_make
theorem dX5_allocateTable_0 : decode cX5_allocateTable 0 = .ok (.aload_n 0, 1) := by decide +kernel
theorem dX5_allocateTable_1 : decode cX5_allocateTable 1 = .ok (.iconst 1, 1) := by decide +kernel
theorem dX5_allocateTable_2 : decode cX5_allocateTable 2 = .ok (.bipush (-9), 2) := by decide +kernel
theorem dX5_allocateTable_4 : decode cX5_allocateTable 4 = .ok (.invokevirtual 50, 3) := by decide +kernel
theorem dX5_allocateTable_7 : decode cX5_allocateTable 7 = .ok (.ireturn, 1) := by decide +kernel
set_option maxRecDepth 20000 in
theorem ggX5_allocateWeak_X5_isAllocated : GoodIn wsX5_allocateWeak wsX5_isAllocated := goodIn_r _ [5, 6, 7, 4, 8, 9, 10, 11, 12, 13, 27, 28, 29, 30, 31] (by decide +kernel) (by decide +kernel)
set_option maxRecDepth 20000 in
theorem gX5_allocateWeak_X5_isAllocated : GoodIn wsX5_allocateWeak (wsV RX5 43 RX5 yX5_isAllocated wsX5_isAllocated) := goodIn_app (goodIn_of _ (by decide +kernel)) ggX5_allocateWeak_X5_isAllocated
set_option maxRecDepth 20000 in
theorem ggX5_allocateWeak_X5_make : GoodIn wsX5_allocateWeak wsX5_make := goodIn_r _ [17, 13, 1, 2, 3, 4, 5, 6, 7, 8, 9, 10, 11, 12, 18, 19, 20, 21, 22, 23, 24, 25, 26, 27, 28, 29, 30, 31] (by decide +kernel) (by decide +kernel)
set_option maxRecDepth 20000 in
theorem gX5_allocateWeak_X5_make : GoodIn wsX5_allocateWeak (wsV RX5 50 RX5 yX5_make wsX5_make) := goodIn_app (goodIn_of _ (by decide +kernel)) ggX5_allocateWeak_X5_make
theorem dX5_allocateWeak_0 : decode cX5_allocateWeak 0 = .ok (.aload_n 0, 1) := by decide +kernel
theorem dX5_allocateWeak_1 : decode cX5_allocateWeak 1 = .ok (.iload_n 1, 1) := by decide +kernel
theorem dX5_allocateWeak_2 : decode cX5_allocateWeak 2 = .ok (.invokevirtual 43, 3) := by decide +kernel
theorem dX5_allocateWeak_5 : decode cX5_allocateWeak 5 = .ok (.ifCond .eq 12, 3) := by decide +kernel
theorem dX5_allocateWeak_8 : decode cX5_allocateWeak 8 = .ok (.aload_n 0, 1) := by decide +kernel
theorem dX5_allocateWeak_9 : decode cX5_allocateWeak 9 = .ok (.iconst 2, 1) := by decide +kernel
theorem dX5_allocateWeak_10 : decode cX5_allocateWeak 10 = .ok (.iload_n 1, 1) := by decide +kernel
theorem dX5_allocateWeak_11 : decode cX5_allocateWeak 11 = .ok (.invokevirtual 50, 3) := by decide +kernel
theorem dX5_allocateWeak_14 : decode cX5_allocateWeak 14 = .ok (.goto 4, 3) := by decide +kernel
theorem dX5_allocateWeak_17 : decode cX5_allocateWeak 17 = .ok (.iconst (-1), 1) := by decide +kernel
theorem dX5_allocateWeak_18 : decode cX5_allocateWeak 18 = .ok (.ireturn, 1) := by decide +kernel
set_option maxRecDepth 20000 in
theorem ggX5_kind_X5_isAllocated : GoodIn wsX5_kind wsX5_isAllocated := goodIn_r _ [5, 6, 7, 4, 8, 9, 10, 11, 12, 13, 14, 15, 16, 17, 18] (by decide +kernel) (by decide +kernel)
set_option maxRecDepth 20000 in
theorem gX5_kind_X5_isAllocated : GoodIn wsX5_kind (wsV RX5 43 RX5 yX5_isAllocated wsX5_isAllocated) := goodIn_app (goodIn_of _ (by decide +kernel)) ggX5_kind_X5_isAllocated
set_option maxRecDepth 20000 in
theorem ggX5_kind_X5_part : GoodIn wsX5_kind wsX5_part := goodIn_r _ [12, 13, 14, 15, 16, 17, 18] (by decide +kernel) (by decide +kernel)
set_option maxRecDepth 20000 in
theorem gX5_kind_X5_part : GoodIn wsX5_kind (wsV RX5 39 RX5 yX5_part wsX5_part) := goodIn_app (goodIn_of _ (by decide +kernel)) ggX5_kind_X5_part
theorem dX5_kind_0 : decode cX5_kind 0 = .ok (.aload_n 0, 1) := by decide +kernel
theorem dX5_kind_1 : decode cX5_kind 1 = .ok (.iload_n 1, 1) := by decide +kernel
theorem dX5_kind_2 : decode cX5_kind 2 = .ok (.invokevirtual 43, 3) := by decide +kernel
theorem dX5_kind_5 : decode cX5_kind 5 = .ok (.ifCond .eq 12, 3) := by decide +kernel
theorem dX5_kind_8 : decode cX5_kind 8 = .ok (.aload_n 0, 1) := by decide +kernel
theorem dX5_kind_9 : decode cX5_kind 9 = .ok (.iload_n 1, 1) := by decide +kernel
theorem dX5_kind_10 : decode cX5_kind 10 = .ok (.iconst 0, 1) := by decide +kernel
theorem dX5_kind_11 : decode cX5_kind 11 = .ok (.invokevirtual 39, 3) := by decide +kernel
theorem dX5_kind_14 : decode cX5_kind 14 = .ok (.goto 5, 3) := by decide +kernel
theorem dX5_kind_17 : decode cX5_kind 17 = .ok (.bipush (-9), 2) := by decide +kernel
theorem dX5_kind_19 : decode cX5_kind 19 = .ok (.ireturn, 1) := by decide +kernel
set_option maxRecDepth 20000 in
theorem ggX5_change_X5_saveState : GoodIn wsX5_change wsX5_saveState := goodIn_r _ [6, 7, 8, 9, 10, 5, 11, 1, 12, 13, 14, 15, 16] (by decide +kernel) (by decide +kernel)
set_option maxRecDepth 20000 in
theorem gX5_change_X5_saveState : GoodIn wsX5_change (wsV RX5 47 RX5 yX5_saveState wsX5_saveState) := goodIn_app (goodIn_of _ (by decide +kernel)) ggX5_change_X5_saveState
theorem dX5_change_0 : decode cX5_change 0 = .ok (.aload_n 0, 1) := by decide +kernel
theorem dX5_change_1 : decode cX5_change 1 = .ok (.getfield 7, 3) := by decide +kernel
theorem dX5_change_4 : decode cX5_change 4 = .ok (.iload_n 1, 1) := by decide +kernel
theorem dX5_change_5 : decode cX5_change 5 = .ok (.iaload, 1) := by decide +kernel
theorem dX5_change_6 : decode cX5_change 6 = .ok (.istore_n 3, 1) := by decide +kernel
theorem dX5_change_7 : decode cX5_change 7 = .ok (.iload_n 3, 1) := by decide +kernel
theorem dX5_change_8 : decode cX5_change 8 = .ok (.iload_n 2, 1) := by decide +kernel
theorem dX5_change_9 : decode cX5_change 9 = .ok (.if_icmp .ne 6, 3) := by decide +kernel
theorem dX5_change_12 : decode cX5_change 12 = .ok (.bipush (-2), 2) := by decide +kernel
theorem dX5_change_14 : decode cX5_change 14 = .ok (.ireturn, 1) := by decide +kernel
theorem dX5_change_15 : decode cX5_change 15 = .ok (.aload_n 0, 1) := by decide +kernel
theorem dX5_change_16 : decode cX5_change 16 = .ok (.invokevirtual 47, 3) := by decide +kernel
theorem dX5_change_19 : decode cX5_change 19 = .ok (.aload_n 0, 1) := by decide +kernel
theorem dX5_change_20 : decode cX5_change 20 = .ok (.getfield 7, 3) := by decide +kernel
theorem dX5_change_23 : decode cX5_change 23 = .ok (.iload_n 1, 1) := by decide +kernel
theorem dX5_change_24 : decode cX5_change 24 = .ok (.iload_n 2, 1) := by decide +kernel
theorem dX5_change_25 : decode cX5_change 25 = .ok (.iastore, 1) := by decide +kernel
theorem dX5_change_26 : decode cX5_change 26 = .ok (.iload_n 3, 1) := by decide +kernel
theorem dX5_change_27 : decode cX5_change 27 = .ok (.ireturn, 1) := by decide +kernel
set_option maxRecDepth 20000 in
theorem ggX5_setField_X5_isKind : GoodIn wsX5_setField wsX5_isKind := goodIn_r _ [5, 6, 7, 8, 4, 9, 10, 11, 12, 13, 14, 15, 16, 17, 31, 32, 33, 34, 35] (by decide +kernel) (by decide +kernel)
set_option maxRecDepth 20000 in
theorem gX5_setField_X5_isKind : GoodIn wsX5_setField (wsV RX5 53 RX5 yX5_isKind wsX5_isKind) := goodIn_app (goodIn_of _ (by decide +kernel)) ggX5_setField_X5_isKind
set_option maxRecDepth 20000 in
theorem ggX5_setField_X5_within : GoodIn wsX5_setField wsX5_within := goodIn_r _ [12] (by decide +kernel) (by decide +kernel)
set_option maxRecDepth 20000 in
theorem gX5_setField_X5_within : GoodIn wsX5_setField (va_wsS RX5 31 yX5_within wsX5_within) := goodIn_app (goodIn_of _ (by decide +kernel)) ggX5_setField_X5_within
set_option maxRecDepth 20000 in
theorem ggX5_setField_X5_isAllocated : GoodIn wsX5_setField wsX5_isAllocated := goodIn_r _ [9, 10, 11, 4, 12, 13, 14, 15, 16, 17, 31, 32, 33, 34, 35] (by decide +kernel) (by decide +kernel)
set_option maxRecDepth 20000 in
theorem gX5_setField_X5_isAllocated : GoodIn wsX5_setField (wsV RX5 43 RX5 yX5_isAllocated wsX5_isAllocated) := goodIn_app (goodIn_of _ (by decide +kernel)) ggX5_setField_X5_isAllocated
set_option maxRecDepth 20000 in
theorem ggX5_setField_X5_change : GoodIn wsX5_setField wsX5_change := goodIn_r _ [21, 17, 22, 23, 24, 4, 25, 26, 27, 28, 29, 30, 31, 32, 33, 34, 35] (by decide +kernel) (by decide +kernel)
set_option maxRecDepth 20000 in
theorem gX5_setField_X5_change : GoodIn wsX5_setField (wsV RX5 57 RX5 yX5_change wsX5_change) := goodIn_app (goodIn_of _ (by decide +kernel)) ggX5_setField_X5_change
theorem dX5_setField_0 : decode cX5_setField 0 = .ok (.aload_n 0, 1) := by decide +kernel
theorem dX5_setField_1 : decode cX5_setField 1 = .ok (.iload_n 1, 1) := by decide +kernel
theorem dX5_setField_2 : decode cX5_setField 2 = .ok (.iconst 0, 1) := by decide +kernel
theorem dX5_setField_3 : decode cX5_setField 3 = .ok (.invokevirtual 53, 3) := by decide +kernel
theorem dX5_setField_6 : decode cX5_setField 6 = .ok (.ifCond .eq 26, 3) := by decide +kernel
theorem dX5_setField_9 : decode cX5_setField 9 = .ok (.iload_n 2, 1) := by decide +kernel
theorem dX5_setField_10 : decode cX5_setField 10 = .ok (.iconst 0, 1) := by decide +kernel
theorem dX5_setField_11 : decode cX5_setField 11 = .ok (.iconst 2, 1) := by decide +kernel
theorem dX5_setField_12 : decode cX5_setField 12 = .ok (.invokestatic 31, 3) := by decide +kernel
theorem dX5_setField_15 : decode cX5_setField 15 = .ok (.ifCond .eq 17, 3) := by decide +kernel
theorem dX5_setField_18 : decode cX5_setField 18 = .ok (.iload_n 3, 1) := by decide +kernel
theorem dX5_setField_19 : decode cX5_setField 19 = .ok (.bipush (-9), 2) := by decide +kernel
theorem dX5_setField_21 : decode cX5_setField 21 = .ok (.if_icmp .eq 13, 3) := by decide +kernel
theorem dX5_setField_24 : decode cX5_setField 24 = .ok (.aload_n 0, 1) := by decide +kernel
theorem dX5_setField_25 : decode cX5_setField 25 = .ok (.iload_n 3, 1) := by decide +kernel
theorem dX5_setField_26 : decode cX5_setField 26 = .ok (.invokevirtual 43, 3) := by decide +kernel
theorem dX5_setField_29 : decode cX5_setField 29 = .ok (.ifCond .ne 5, 3) := by decide +kernel
theorem dX5_setField_32 : decode cX5_setField 32 = .ok (.iconst (-1), 1) := by decide +kernel
theorem dX5_setField_33 : decode cX5_setField 33 = .ok (.ireturn, 1) := by decide +kernel
theorem dX5_setField_34 : decode cX5_setField 34 = .ok (.aload_n 0, 1) := by decide +kernel
theorem dX5_setField_35 : decode cX5_setField 35 = .ok (.bipush 15, 2) := by decide +kernel
theorem dX5_setField_37 : decode cX5_setField 37 = .ok (.iload_n 1, 1) := by decide +kernel
theorem dX5_setField_38 : decode cX5_setField 38 = .ok (.imul, 1) := by decide +kernel
theorem dX5_setField_39 : decode cX5_setField 39 = .ok (.iconst 3, 1) := by decide +kernel
theorem dX5_setField_40 : decode cX5_setField 40 = .ok (.iadd, 1) := by decide +kernel
theorem dX5_setField_41 : decode cX5_setField 41 = .ok (.iload_n 2, 1) := by decide +kernel
theorem dX5_setField_42 : decode cX5_setField 42 = .ok (.iadd, 1) := by decide +kernel
theorem dX5_setField_43 : decode cX5_setField 43 = .ok (.iload_n 3, 1) := by decide +kernel
theorem dX5_setField_44 : decode cX5_setField 44 = .ok (.invokevirtual 57, 3) := by decide +kernel
theorem dX5_setField_47 : decode cX5_setField 47 = .ok (.ireturn, 1) := by decide +kernel
set_option maxRecDepth 20000 in
theorem ggX5_field_X5_isKind : GoodIn wsX5_field wsX5_isKind := goodIn_r _ [5, 6, 7, 8, 4, 9, 10, 11, 12, 13, 14, 15, 16, 17, 18, 19, 20, 21, 22] (by decide +kernel) (by decide +kernel)
set_option maxRecDepth 20000 in
theorem gX5_field_X5_isKind : GoodIn wsX5_field (wsV RX5 53 RX5 yX5_isKind wsX5_isKind) := goodIn_app (goodIn_of _ (by decide +kernel)) ggX5_field_X5_isKind
set_option maxRecDepth 20000 in
theorem ggX5_field_X5_within : GoodIn wsX5_field wsX5_within := goodIn_r _ [12] (by decide +kernel) (by decide +kernel)
set_option maxRecDepth 20000 in
theorem gX5_field_X5_within : GoodIn wsX5_field (va_wsS RX5 31 yX5_within wsX5_within) := goodIn_app (goodIn_of _ (by decide +kernel)) ggX5_field_X5_within
set_option maxRecDepth 20000 in
theorem ggX5_field_X5_part : GoodIn wsX5_field wsX5_part := goodIn_r _ [16, 17, 18, 19, 20, 21, 22] (by decide +kernel) (by decide +kernel)
set_option maxRecDepth 20000 in
theorem gX5_field_X5_part : GoodIn wsX5_field (wsV RX5 39 RX5 yX5_part wsX5_part) := goodIn_app (goodIn_of _ (by decide +kernel)) ggX5_field_X5_part
theorem dX5_field_0 : decode cX5_field 0 = .ok (.aload_n 0, 1) := by decide +kernel
theorem dX5_field_1 : decode cX5_field 1 = .ok (.iload_n 1, 1) := by decide +kernel
theorem dX5_field_2 : decode cX5_field 2 = .ok (.iconst 0, 1) := by decide +kernel
theorem dX5_field_3 : decode cX5_field 3 = .ok (.invokevirtual 53, 3) := by decide +kernel
theorem dX5_field_6 : decode cX5_field 6 = .ok (.ifCond .eq 23, 3) := by decide +kernel
theorem dX5_field_9 : decode cX5_field 9 = .ok (.iload_n 2, 1) := by decide +kernel
theorem dX5_field_10 : decode cX5_field 10 = .ok (.iconst 0, 1) := by decide +kernel
theorem dX5_field_11 : decode cX5_field 11 = .ok (.iconst 2, 1) := by decide +kernel
theorem dX5_field_12 : decode cX5_field 12 = .ok (.invokestatic 31, 3) := by decide +kernel
theorem dX5_field_15 : decode cX5_field 15 = .ok (.ifCond .eq 14, 3) := by decide +kernel
theorem dX5_field_18 : decode cX5_field 18 = .ok (.aload_n 0, 1) := by decide +kernel
theorem dX5_field_19 : decode cX5_field 19 = .ok (.iload_n 1, 1) := by decide +kernel
theorem dX5_field_20 : decode cX5_field 20 = .ok (.iconst 3, 1) := by decide +kernel
theorem dX5_field_21 : decode cX5_field 21 = .ok (.iload_n 2, 1) := by decide +kernel
theorem dX5_field_22 : decode cX5_field 22 = .ok (.iadd, 1) := by decide +kernel
theorem dX5_field_23 : decode cX5_field 23 = .ok (.invokevirtual 39, 3) := by decide +kernel
theorem dX5_field_26 : decode cX5_field 26 = .ok (.goto 4, 3) := by decide +kernel
theorem dX5_field_29 : decode cX5_field 29 = .ok (.iconst (-1), 1) := by decide +kernel
theorem dX5_field_30 : decode cX5_field 30 = .ok (.ireturn, 1) := by decide +kernel
set_option maxRecDepth 20000 in
theorem ggX5_setRoot_X5_within : GoodIn wsX5_setRoot wsX5_within := goodIn_r _ [4] (by decide +kernel) (by decide +kernel)
set_option maxRecDepth 20000 in
theorem gX5_setRoot_X5_within : GoodIn wsX5_setRoot (va_wsS RX5 31 yX5_within wsX5_within) := goodIn_app (goodIn_of _ (by decide +kernel)) ggX5_setRoot_X5_within
set_option maxRecDepth 20000 in
theorem ggX5_setRoot_X5_isAllocated : GoodIn wsX5_setRoot wsX5_isAllocated := goodIn_r _ [8, 1, 2, 3, 4, 9, 10, 11, 12, 13, 27, 28, 29, 30, 31] (by decide +kernel) (by decide +kernel)
set_option maxRecDepth 20000 in
theorem gX5_setRoot_X5_isAllocated : GoodIn wsX5_setRoot (wsV RX5 43 RX5 yX5_isAllocated wsX5_isAllocated) := goodIn_app (goodIn_of _ (by decide +kernel)) ggX5_setRoot_X5_isAllocated
set_option maxRecDepth 20000 in
theorem ggX5_setRoot_X5_change : GoodIn wsX5_setRoot wsX5_change := goodIn_r _ [17, 13, 18, 19, 20, 3, 21, 22, 23, 24, 25, 26, 27, 28, 29, 30, 31] (by decide +kernel) (by decide +kernel)
set_option maxRecDepth 20000 in
theorem gX5_setRoot_X5_change : GoodIn wsX5_setRoot (wsV RX5 57 RX5 yX5_change wsX5_change) := goodIn_app (goodIn_of _ (by decide +kernel)) ggX5_setRoot_X5_change
theorem dX5_setRoot_0 : decode cX5_setRoot 0 = .ok (.iload_n 1, 1) := by decide +kernel
theorem dX5_setRoot_1 : decode cX5_setRoot 1 = .ok (.iconst 0, 1) := by decide +kernel
theorem dX5_setRoot_2 : decode cX5_setRoot 2 = .ok (.iconst 5, 1) := by decide +kernel
theorem dX5_setRoot_3 : decode cX5_setRoot 3 = .ok (.invokestatic 31, 3) := by decide +kernel
theorem dX5_setRoot_6 : decode cX5_setRoot 6 = .ok (.ifCond .eq 17, 3) := by decide +kernel
theorem dX5_setRoot_9 : decode cX5_setRoot 9 = .ok (.iload_n 2, 1) := by decide +kernel
theorem dX5_setRoot_10 : decode cX5_setRoot 10 = .ok (.bipush (-9), 2) := by decide +kernel
theorem dX5_setRoot_12 : decode cX5_setRoot 12 = .ok (.if_icmp .eq 13, 3) := by decide +kernel
theorem dX5_setRoot_15 : decode cX5_setRoot 15 = .ok (.aload_n 0, 1) := by decide +kernel
theorem dX5_setRoot_16 : decode cX5_setRoot 16 = .ok (.iload_n 2, 1) := by decide +kernel
theorem dX5_setRoot_17 : decode cX5_setRoot 17 = .ok (.invokevirtual 43, 3) := by decide +kernel
theorem dX5_setRoot_20 : decode cX5_setRoot 20 = .ok (.ifCond .ne 5, 3) := by decide +kernel
theorem dX5_setRoot_23 : decode cX5_setRoot 23 = .ok (.iconst (-1), 1) := by decide +kernel
theorem dX5_setRoot_24 : decode cX5_setRoot 24 = .ok (.ireturn, 1) := by decide +kernel
theorem dX5_setRoot_25 : decode cX5_setRoot 25 = .ok (.aload_n 0, 1) := by decide +kernel
theorem dX5_setRoot_26 : decode cX5_setRoot 26 = .ok (.sipush 360, 3) := by decide +kernel
theorem dX5_setRoot_29 : decode cX5_setRoot 29 = .ok (.iload_n 1, 1) := by decide +kernel
theorem dX5_setRoot_30 : decode cX5_setRoot 30 = .ok (.iadd, 1) := by decide +kernel
theorem dX5_setRoot_31 : decode cX5_setRoot 31 = .ok (.iload_n 2, 1) := by decide +kernel
theorem dX5_setRoot_32 : decode cX5_setRoot 32 = .ok (.invokevirtual 57, 3) := by decide +kernel
theorem dX5_setRoot_35 : decode cX5_setRoot 35 = .ok (.ireturn, 1) := by decide +kernel
set_option maxRecDepth 20000 in
theorem ggX5_root_X5_within : GoodIn wsX5_root wsX5_within := goodIn_r _ [5] (by decide +kernel) (by decide +kernel)
set_option maxRecDepth 20000 in
theorem gX5_root_X5_within : GoodIn wsX5_root (va_wsS RX5 31 yX5_within wsX5_within) := goodIn_app (goodIn_of _ (by decide +kernel)) ggX5_root_X5_within
theorem dX5_root_0 : decode cX5_root 0 = .ok (.iload_n 1, 1) := by decide +kernel
theorem dX5_root_1 : decode cX5_root 1 = .ok (.iconst 0, 1) := by decide +kernel
theorem dX5_root_2 : decode cX5_root 2 = .ok (.iconst 5, 1) := by decide +kernel
theorem dX5_root_3 : decode cX5_root 3 = .ok (.invokestatic 31, 3) := by decide +kernel
theorem dX5_root_6 : decode cX5_root 6 = .ok (.ifCond .eq 16, 3) := by decide +kernel
theorem dX5_root_9 : decode cX5_root 9 = .ok (.aload_n 0, 1) := by decide +kernel
theorem dX5_root_10 : decode cX5_root 10 = .ok (.getfield 7, 3) := by decide +kernel
theorem dX5_root_13 : decode cX5_root 13 = .ok (.sipush 360, 3) := by decide +kernel
theorem dX5_root_16 : decode cX5_root 16 = .ok (.iload_n 1, 1) := by decide +kernel
theorem dX5_root_17 : decode cX5_root 17 = .ok (.iadd, 1) := by decide +kernel
theorem dX5_root_18 : decode cX5_root 18 = .ok (.iaload, 1) := by decide +kernel
theorem dX5_root_19 : decode cX5_root 19 = .ok (.goto 4, 3) := by decide +kernel
theorem dX5_root_22 : decode cX5_root 22 = .ok (.iconst (-1), 1) := by decide +kernel
theorem dX5_root_23 : decode cX5_root 23 = .ok (.ireturn, 1) := by decide +kernel
set_option maxRecDepth 20000 in
theorem ggX5_target_X5_isKind : GoodIn wsX5_target wsX5_isKind := goodIn_r _ [5, 6, 7, 8, 4, 9, 10, 11, 12, 13, 14, 15, 16, 17, 18, 19, 20, 21, 22] (by decide +kernel) (by decide +kernel)
set_option maxRecDepth 20000 in
theorem gX5_target_X5_isKind : GoodIn wsX5_target (wsV RX5 53 RX5 yX5_isKind wsX5_isKind) := goodIn_app (goodIn_of _ (by decide +kernel)) ggX5_target_X5_isKind
set_option maxRecDepth 20000 in
theorem ggX5_target_X5_part : GoodIn wsX5_target wsX5_part := goodIn_r _ [16, 17, 18, 19, 20, 21, 22] (by decide +kernel) (by decide +kernel)
set_option maxRecDepth 20000 in
theorem gX5_target_X5_part : GoodIn wsX5_target (wsV RX5 39 RX5 yX5_part wsX5_part) := goodIn_app (goodIn_of _ (by decide +kernel)) ggX5_target_X5_part
theorem dX5_target_0 : decode cX5_target 0 = .ok (.aload_n 0, 1) := by decide +kernel
theorem dX5_target_1 : decode cX5_target 1 = .ok (.iload_n 1, 1) := by decide +kernel
theorem dX5_target_2 : decode cX5_target 2 = .ok (.iconst 2, 1) := by decide +kernel
theorem dX5_target_3 : decode cX5_target 3 = .ok (.invokevirtual 53, 3) := by decide +kernel
theorem dX5_target_6 : decode cX5_target 6 = .ok (.ifCond .eq 12, 3) := by decide +kernel
theorem dX5_target_9 : decode cX5_target 9 = .ok (.aload_n 0, 1) := by decide +kernel
theorem dX5_target_10 : decode cX5_target 10 = .ok (.iload_n 1, 1) := by decide +kernel
theorem dX5_target_11 : decode cX5_target 11 = .ok (.iconst 3, 1) := by decide +kernel
theorem dX5_target_12 : decode cX5_target 12 = .ok (.invokevirtual 39, 3) := by decide +kernel
theorem dX5_target_15 : decode cX5_target 15 = .ok (.goto 4, 3) := by decide +kernel
theorem dX5_target_18 : decode cX5_target 18 = .ok (.iconst (-1), 1) := by decide +kernel
theorem dX5_target_19 : decode cX5_target 19 = .ok (.ireturn, 1) := by decide +kernel
set_option maxRecDepth 20000 in
theorem ggX5_setFinalizable_X5_isAllocated : GoodIn wsX5_setFinalizable wsX5_isAllocated := goodIn_r _ [6, 7, 8, 5, 9, 10, 11, 12, 13, 1, 23, 24, 25, 26, 27] (by decide +kernel) (by decide +kernel)
set_option maxRecDepth 20000 in
theorem gX5_setFinalizable_X5_isAllocated : GoodIn wsX5_setFinalizable (wsV RX5 43 RX5 yX5_isAllocated wsX5_isAllocated) := goodIn_app (goodIn_of _ (by decide +kernel)) ggX5_setFinalizable_X5_isAllocated
set_option maxRecDepth 20000 in
theorem ggX5_setFinalizable_X5_within : GoodIn wsX5_setFinalizable wsX5_within := goodIn_r _ [9] (by decide +kernel) (by decide +kernel)
set_option maxRecDepth 20000 in
theorem gX5_setFinalizable_X5_within : GoodIn wsX5_setFinalizable (va_wsS RX5 31 yX5_within wsX5_within) := goodIn_app (goodIn_of _ (by decide +kernel)) ggX5_setFinalizable_X5_within
set_option maxRecDepth 20000 in
theorem ggX5_setFinalizable_X5_part : GoodIn wsX5_setFinalizable wsX5_part := goodIn_r _ [13, 1, 23, 24, 25, 26, 27] (by decide +kernel) (by decide +kernel)
set_option maxRecDepth 20000 in
theorem gX5_setFinalizable_X5_part : GoodIn wsX5_setFinalizable (wsV RX5 39 RX5 yX5_part wsX5_part) := goodIn_app (goodIn_of _ (by decide +kernel)) ggX5_setFinalizable_X5_part
set_option maxRecDepth 20000 in
theorem ggX5_setFinalizable_X5_saveState : GoodIn wsX5_setFinalizable wsX5_saveState := goodIn_r _ [17, 18, 19, 20, 21, 5, 22, 1, 23, 24, 25, 26, 27] (by decide +kernel) (by decide +kernel)
set_option maxRecDepth 20000 in
theorem gX5_setFinalizable_X5_saveState : GoodIn wsX5_setFinalizable (wsV RX5 47 RX5 yX5_saveState wsX5_saveState) := goodIn_app (goodIn_of _ (by decide +kernel)) ggX5_setFinalizable_X5_saveState
theorem dX5_setFinalizable_0 : decode cX5_setFinalizable 0 = .ok (.aload_n 0, 1) := by decide +kernel
theorem dX5_setFinalizable_1 : decode cX5_setFinalizable 1 = .ok (.iload_n 1, 1) := by decide +kernel
theorem dX5_setFinalizable_2 : decode cX5_setFinalizable 2 = .ok (.invokevirtual 43, 3) := by decide +kernel
theorem dX5_setFinalizable_5 : decode cX5_setFinalizable 5 = .ok (.ifCond .eq 12, 3) := by decide +kernel
theorem dX5_setFinalizable_8 : decode cX5_setFinalizable 8 = .ok (.iload_n 2, 1) := by decide +kernel
theorem dX5_setFinalizable_9 : decode cX5_setFinalizable 9 = .ok (.iconst 0, 1) := by decide +kernel
theorem dX5_setFinalizable_10 : decode cX5_setFinalizable 10 = .ok (.iconst 1, 1) := by decide +kernel
theorem dX5_setFinalizable_11 : decode cX5_setFinalizable 11 = .ok (.invokestatic 31, 3) := by decide +kernel
theorem dX5_setFinalizable_14 : decode cX5_setFinalizable 14 = .ok (.ifCond .ne 5, 3) := by decide +kernel
theorem dX5_setFinalizable_17 : decode cX5_setFinalizable 17 = .ok (.iconst (-1), 1) := by decide +kernel
theorem dX5_setFinalizable_18 : decode cX5_setFinalizable 18 = .ok (.ireturn, 1) := by decide +kernel
theorem dX5_setFinalizable_19 : decode cX5_setFinalizable 19 = .ok (.aload_n 0, 1) := by decide +kernel
theorem dX5_setFinalizable_20 : decode cX5_setFinalizable 20 = .ok (.iload_n 1, 1) := by decide +kernel
theorem dX5_setFinalizable_21 : decode cX5_setFinalizable 21 = .ok (.iconst 1, 1) := by decide +kernel
theorem dX5_setFinalizable_22 : decode cX5_setFinalizable 22 = .ok (.invokevirtual 39, 3) := by decide +kernel
theorem dX5_setFinalizable_25 : decode cX5_setFinalizable 25 = .ok (.iload_n 2, 1) := by decide +kernel
theorem dX5_setFinalizable_26 : decode cX5_setFinalizable 26 = .ok (.if_icmp .ne 6, 3) := by decide +kernel
theorem dX5_setFinalizable_29 : decode cX5_setFinalizable 29 = .ok (.bipush (-2), 2) := by decide +kernel
theorem dX5_setFinalizable_31 : decode cX5_setFinalizable 31 = .ok (.ireturn, 1) := by decide +kernel
theorem dX5_setFinalizable_32 : decode cX5_setFinalizable 32 = .ok (.aload_n 0, 1) := by decide +kernel
theorem dX5_setFinalizable_33 : decode cX5_setFinalizable 33 = .ok (.invokevirtual 47, 3) := by decide +kernel
theorem dX5_setFinalizable_36 : decode cX5_setFinalizable 36 = .ok (.aload_n 0, 1) := by decide +kernel
theorem dX5_setFinalizable_37 : decode cX5_setFinalizable 37 = .ok (.getfield 7, 3) := by decide +kernel
theorem dX5_setFinalizable_40 : decode cX5_setFinalizable 40 = .ok (.bipush 15, 2) := by decide +kernel
theorem dX5_setFinalizable_42 : decode cX5_setFinalizable 42 = .ok (.iload_n 1, 1) := by decide +kernel
theorem dX5_setFinalizable_43 : decode cX5_setFinalizable 43 = .ok (.imul, 1) := by decide +kernel
theorem dX5_setFinalizable_44 : decode cX5_setFinalizable 44 = .ok (.iconst 1, 1) := by decide +kernel
theorem dX5_setFinalizable_45 : decode cX5_setFinalizable 45 = .ok (.iadd, 1) := by decide +kernel
theorem dX5_setFinalizable_46 : decode cX5_setFinalizable 46 = .ok (.iload_n 2, 1) := by decide +kernel
theorem dX5_setFinalizable_47 : decode cX5_setFinalizable 47 = .ok (.iastore, 1) := by decide +kernel
theorem dX5_setFinalizable_48 : decode cX5_setFinalizable 48 = .ok (.iconst 0, 1) := by decide +kernel
theorem dX5_setFinalizable_49 : decode cX5_setFinalizable 49 = .ok (.istore_n 3, 1) := by decide +kernel
theorem dX5_setFinalizable_50 : decode cX5_setFinalizable 50 = .ok (.iconst 0, 1) := by decide +kernel
theorem dX5_setFinalizable_51 : decode cX5_setFinalizable 51 = .ok (.istore 4, 2) := by decide +kernel
theorem dX5_setFinalizable_53 : decode cX5_setFinalizable 53 = .ok (.iload 4, 2) := by decide +kernel
theorem dX5_setFinalizable_55 : decode cX5_setFinalizable 55 = .ok (.bipush 24, 2) := by decide +kernel
theorem dX5_setFinalizable_57 : decode cX5_setFinalizable 57 = .ok (.if_icmp .ge 32, 3) := by decide +kernel
theorem dX5_setFinalizable_60 : decode cX5_setFinalizable 60 = .ok (.iload_n 3, 1) := by decide +kernel
theorem dX5_setFinalizable_61 : decode cX5_setFinalizable 61 = .ok (.aload_n 0, 1) := by decide +kernel
theorem dX5_setFinalizable_62 : decode cX5_setFinalizable 62 = .ok (.iload 4, 2) := by decide +kernel
theorem dX5_setFinalizable_64 : decode cX5_setFinalizable 64 = .ok (.invokevirtual 43, 3) := by decide +kernel
theorem dX5_setFinalizable_67 : decode cX5_setFinalizable 67 = .ok (.ifCond .eq 13, 3) := by decide +kernel
theorem dX5_setFinalizable_70 : decode cX5_setFinalizable 70 = .ok (.aload_n 0, 1) := by decide +kernel
theorem dX5_setFinalizable_71 : decode cX5_setFinalizable 71 = .ok (.iload 4, 2) := by decide +kernel
theorem dX5_setFinalizable_73 : decode cX5_setFinalizable 73 = .ok (.iconst 1, 1) := by decide +kernel
theorem dX5_setFinalizable_74 : decode cX5_setFinalizable 74 = .ok (.invokevirtual 39, 3) := by decide +kernel
theorem dX5_setFinalizable_77 : decode cX5_setFinalizable 77 = .ok (.goto 4, 3) := by decide +kernel
theorem dX5_setFinalizable_80 : decode cX5_setFinalizable 80 = .ok (.iconst 0, 1) := by decide +kernel
theorem dX5_setFinalizable_81 : decode cX5_setFinalizable 81 = .ok (.iadd, 1) := by decide +kernel
theorem dX5_setFinalizable_82 : decode cX5_setFinalizable 82 = .ok (.istore_n 3, 1) := by decide +kernel
theorem dX5_setFinalizable_83 : decode cX5_setFinalizable 83 = .ok (.iinc 4 1, 3) := by decide +kernel
theorem dX5_setFinalizable_86 : decode cX5_setFinalizable 86 = .ok (.goto (-33), 3) := by decide +kernel
theorem dX5_setFinalizable_89 : decode cX5_setFinalizable 89 = .ok (.iload_n 3, 1) := by decide +kernel
theorem dX5_setFinalizable_90 : decode cX5_setFinalizable 90 = .ok (.ireturn, 1) := by decide +kernel
set_option maxRecDepth 20000 in
theorem ggX5_placeOf_X5_part : GoodIn wsX5_placeOf wsX5_part := goodIn_r _ [5, 6, 7, 8, 9, 10, 11] (by decide +kernel) (by decide +kernel)
set_option maxRecDepth 20000 in
theorem gX5_placeOf_X5_part : GoodIn wsX5_placeOf (wsV RX5 39 RX5 yX5_part wsX5_part) := goodIn_app (goodIn_of _ (by decide +kernel)) ggX5_placeOf_X5_part
theorem dX5_placeOf_0 : decode cX5_placeOf 0 = .ok (.iconst 0, 1) := by decide +kernel
theorem dX5_placeOf_1 : decode cX5_placeOf 1 = .ok (.istore_n 3, 1) := by decide +kernel
theorem dX5_placeOf_2 : decode cX5_placeOf 2 = .ok (.iload_n 3, 1) := by decide +kernel
theorem dX5_placeOf_3 : decode cX5_placeOf 3 = .ok (.aload_n 0, 1) := by decide +kernel
theorem dX5_placeOf_4 : decode cX5_placeOf 4 = .ok (.iload_n 1, 1) := by decide +kernel
theorem dX5_placeOf_5 : decode cX5_placeOf 5 = .ok (.iconst 2, 1) := by decide +kernel
theorem dX5_placeOf_6 : decode cX5_placeOf 6 = .ok (.invokevirtual 39, 3) := by decide +kernel
theorem dX5_placeOf_9 : decode cX5_placeOf 9 = .ok (.if_icmp .ge 23, 3) := by decide +kernel
theorem dX5_placeOf_12 : decode cX5_placeOf 12 = .ok (.aload_n 0, 1) := by decide +kernel
theorem dX5_placeOf_13 : decode cX5_placeOf 13 = .ok (.iload_n 1, 1) := by decide +kernel
theorem dX5_placeOf_14 : decode cX5_placeOf 14 = .ok (.iconst 3, 1) := by decide +kernel
theorem dX5_placeOf_15 : decode cX5_placeOf 15 = .ok (.iload_n 3, 1) := by decide +kernel
theorem dX5_placeOf_16 : decode cX5_placeOf 16 = .ok (.iadd, 1) := by decide +kernel
theorem dX5_placeOf_17 : decode cX5_placeOf 17 = .ok (.invokevirtual 39, 3) := by decide +kernel
theorem dX5_placeOf_20 : decode cX5_placeOf 20 = .ok (.iload_n 2, 1) := by decide +kernel
theorem dX5_placeOf_21 : decode cX5_placeOf 21 = .ok (.if_icmp .ne 5, 3) := by decide +kernel
theorem dX5_placeOf_24 : decode cX5_placeOf 24 = .ok (.iload_n 3, 1) := by decide +kernel
theorem dX5_placeOf_25 : decode cX5_placeOf 25 = .ok (.ireturn, 1) := by decide +kernel
theorem dX5_placeOf_26 : decode cX5_placeOf 26 = .ok (.iinc 3 1, 3) := by decide +kernel
theorem dX5_placeOf_29 : decode cX5_placeOf 29 = .ok (.goto (-27), 3) := by decide +kernel
theorem dX5_placeOf_32 : decode cX5_placeOf 32 = .ok (.bipush (-9), 2) := by decide +kernel
theorem dX5_placeOf_34 : decode cX5_placeOf 34 = .ok (.ireturn, 1) := by decide +kernel
set_option maxRecDepth 20000 in
theorem ggX5_removeAt_X5_part : GoodIn wsX5_removeAt wsX5_part := goodIn_r _ [6, 1, 7, 8, 9, 10, 11] (by decide +kernel) (by decide +kernel)
set_option maxRecDepth 20000 in
theorem gX5_removeAt_X5_part : GoodIn wsX5_removeAt (wsV RX5 39 RX5 yX5_part wsX5_part) := goodIn_app (goodIn_of _ (by decide +kernel)) ggX5_removeAt_X5_part
theorem dX5_removeAt_0 : decode cX5_removeAt 0 = .ok (.aload_n 0, 1) := by decide +kernel
theorem dX5_removeAt_1 : decode cX5_removeAt 1 = .ok (.iload_n 1, 1) := by decide +kernel
theorem dX5_removeAt_2 : decode cX5_removeAt 2 = .ok (.iconst 2, 1) := by decide +kernel
theorem dX5_removeAt_3 : decode cX5_removeAt 3 = .ok (.invokevirtual 39, 3) := by decide +kernel
theorem dX5_removeAt_6 : decode cX5_removeAt 6 = .ok (.iconst 1, 1) := by decide +kernel
theorem dX5_removeAt_7 : decode cX5_removeAt 7 = .ok (.isub, 1) := by decide +kernel
theorem dX5_removeAt_8 : decode cX5_removeAt 8 = .ok (.istore_n 3, 1) := by decide +kernel
theorem dX5_removeAt_9 : decode cX5_removeAt 9 = .ok (.iload_n 2, 1) := by decide +kernel
theorem dX5_removeAt_10 : decode cX5_removeAt 10 = .ok (.istore 4, 2) := by decide +kernel
theorem dX5_removeAt_12 : decode cX5_removeAt 12 = .ok (.iload 4, 2) := by decide +kernel
theorem dX5_removeAt_14 : decode cX5_removeAt 14 = .ok (.iload_n 3, 1) := by decide +kernel
theorem dX5_removeAt_15 : decode cX5_removeAt 15 = .ok (.if_icmp .ge 61, 3) := by decide +kernel
theorem dX5_removeAt_18 : decode cX5_removeAt 18 = .ok (.aload_n 0, 1) := by decide +kernel
theorem dX5_removeAt_19 : decode cX5_removeAt 19 = .ok (.getfield 7, 3) := by decide +kernel
theorem dX5_removeAt_22 : decode cX5_removeAt 22 = .ok (.bipush 15, 2) := by decide +kernel
theorem dX5_removeAt_24 : decode cX5_removeAt 24 = .ok (.iload_n 1, 1) := by decide +kernel
theorem dX5_removeAt_25 : decode cX5_removeAt 25 = .ok (.imul, 1) := by decide +kernel
theorem dX5_removeAt_26 : decode cX5_removeAt 26 = .ok (.iconst 3, 1) := by decide +kernel
theorem dX5_removeAt_27 : decode cX5_removeAt 27 = .ok (.iadd, 1) := by decide +kernel
theorem dX5_removeAt_28 : decode cX5_removeAt 28 = .ok (.iload 4, 2) := by decide +kernel
theorem dX5_removeAt_30 : decode cX5_removeAt 30 = .ok (.iadd, 1) := by decide +kernel
theorem dX5_removeAt_31 : decode cX5_removeAt 31 = .ok (.aload_n 0, 1) := by decide +kernel
theorem dX5_removeAt_32 : decode cX5_removeAt 32 = .ok (.iload_n 1, 1) := by decide +kernel
theorem dX5_removeAt_33 : decode cX5_removeAt 33 = .ok (.iconst 3, 1) := by decide +kernel
theorem dX5_removeAt_34 : decode cX5_removeAt 34 = .ok (.iload 4, 2) := by decide +kernel
theorem dX5_removeAt_36 : decode cX5_removeAt 36 = .ok (.iadd, 1) := by decide +kernel
theorem dX5_removeAt_37 : decode cX5_removeAt 37 = .ok (.iconst 1, 1) := by decide +kernel
theorem dX5_removeAt_38 : decode cX5_removeAt 38 = .ok (.iadd, 1) := by decide +kernel
theorem dX5_removeAt_39 : decode cX5_removeAt 39 = .ok (.invokevirtual 39, 3) := by decide +kernel
theorem dX5_removeAt_42 : decode cX5_removeAt 42 = .ok (.iastore, 1) := by decide +kernel
theorem dX5_removeAt_43 : decode cX5_removeAt 43 = .ok (.aload_n 0, 1) := by decide +kernel
theorem dX5_removeAt_44 : decode cX5_removeAt 44 = .ok (.getfield 7, 3) := by decide +kernel
theorem dX5_removeAt_47 : decode cX5_removeAt 47 = .ok (.bipush 15, 2) := by decide +kernel
theorem dX5_removeAt_49 : decode cX5_removeAt 49 = .ok (.iload_n 1, 1) := by decide +kernel
theorem dX5_removeAt_50 : decode cX5_removeAt 50 = .ok (.imul, 1) := by decide +kernel
theorem dX5_removeAt_51 : decode cX5_removeAt 51 = .ok (.bipush 9, 2) := by decide +kernel
theorem dX5_removeAt_53 : decode cX5_removeAt 53 = .ok (.iadd, 1) := by decide +kernel
theorem dX5_removeAt_54 : decode cX5_removeAt 54 = .ok (.iload 4, 2) := by decide +kernel
theorem dX5_removeAt_56 : decode cX5_removeAt 56 = .ok (.iadd, 1) := by decide +kernel
theorem dX5_removeAt_57 : decode cX5_removeAt 57 = .ok (.aload_n 0, 1) := by decide +kernel
theorem dX5_removeAt_58 : decode cX5_removeAt 58 = .ok (.iload_n 1, 1) := by decide +kernel
theorem dX5_removeAt_59 : decode cX5_removeAt 59 = .ok (.bipush 9, 2) := by decide +kernel
theorem dX5_removeAt_61 : decode cX5_removeAt 61 = .ok (.iload 4, 2) := by decide +kernel
theorem dX5_removeAt_63 : decode cX5_removeAt 63 = .ok (.iadd, 1) := by decide +kernel
theorem dX5_removeAt_64 : decode cX5_removeAt 64 = .ok (.iconst 1, 1) := by decide +kernel
theorem dX5_removeAt_65 : decode cX5_removeAt 65 = .ok (.iadd, 1) := by decide +kernel
theorem dX5_removeAt_66 : decode cX5_removeAt 66 = .ok (.invokevirtual 39, 3) := by decide +kernel
theorem dX5_removeAt_69 : decode cX5_removeAt 69 = .ok (.iastore, 1) := by decide +kernel
theorem dX5_removeAt_70 : decode cX5_removeAt 70 = .ok (.iinc 4 1, 3) := by decide +kernel
theorem dX5_removeAt_73 : decode cX5_removeAt 73 = .ok (.goto (-61), 3) := by decide +kernel
theorem dX5_removeAt_76 : decode cX5_removeAt 76 = .ok (.aload_n 0, 1) := by decide +kernel
theorem dX5_removeAt_77 : decode cX5_removeAt 77 = .ok (.getfield 7, 3) := by decide +kernel
theorem dX5_removeAt_80 : decode cX5_removeAt 80 = .ok (.bipush 15, 2) := by decide +kernel
theorem dX5_removeAt_82 : decode cX5_removeAt 82 = .ok (.iload_n 1, 1) := by decide +kernel
theorem dX5_removeAt_83 : decode cX5_removeAt 83 = .ok (.imul, 1) := by decide +kernel
theorem dX5_removeAt_84 : decode cX5_removeAt 84 = .ok (.iconst 3, 1) := by decide +kernel
theorem dX5_removeAt_85 : decode cX5_removeAt 85 = .ok (.iadd, 1) := by decide +kernel
theorem dX5_removeAt_86 : decode cX5_removeAt 86 = .ok (.iload_n 3, 1) := by decide +kernel
theorem dX5_removeAt_87 : decode cX5_removeAt 87 = .ok (.iadd, 1) := by decide +kernel
theorem dX5_removeAt_88 : decode cX5_removeAt 88 = .ok (.bipush (-9), 2) := by decide +kernel
theorem dX5_removeAt_90 : decode cX5_removeAt 90 = .ok (.iastore, 1) := by decide +kernel
theorem dX5_removeAt_91 : decode cX5_removeAt 91 = .ok (.aload_n 0, 1) := by decide +kernel
theorem dX5_removeAt_92 : decode cX5_removeAt 92 = .ok (.getfield 7, 3) := by decide +kernel
theorem dX5_removeAt_95 : decode cX5_removeAt 95 = .ok (.bipush 15, 2) := by decide +kernel
theorem dX5_removeAt_97 : decode cX5_removeAt 97 = .ok (.iload_n 1, 1) := by decide +kernel
theorem dX5_removeAt_98 : decode cX5_removeAt 98 = .ok (.imul, 1) := by decide +kernel
theorem dX5_removeAt_99 : decode cX5_removeAt 99 = .ok (.bipush 9, 2) := by decide +kernel
theorem dX5_removeAt_101 : decode cX5_removeAt 101 = .ok (.iadd, 1) := by decide +kernel
theorem dX5_removeAt_102 : decode cX5_removeAt 102 = .ok (.iload_n 3, 1) := by decide +kernel
theorem dX5_removeAt_103 : decode cX5_removeAt 103 = .ok (.iadd, 1) := by decide +kernel
theorem dX5_removeAt_104 : decode cX5_removeAt 104 = .ok (.bipush (-9), 2) := by decide +kernel
theorem dX5_removeAt_106 : decode cX5_removeAt 106 = .ok (.iastore, 1) := by decide +kernel
theorem dX5_removeAt_107 : decode cX5_removeAt 107 = .ok (.aload_n 0, 1) := by decide +kernel
theorem dX5_removeAt_108 : decode cX5_removeAt 108 = .ok (.getfield 7, 3) := by decide +kernel
theorem dX5_removeAt_111 : decode cX5_removeAt 111 = .ok (.bipush 15, 2) := by decide +kernel
theorem dX5_removeAt_113 : decode cX5_removeAt 113 = .ok (.iload_n 1, 1) := by decide +kernel
theorem dX5_removeAt_114 : decode cX5_removeAt 114 = .ok (.imul, 1) := by decide +kernel
theorem dX5_removeAt_115 : decode cX5_removeAt 115 = .ok (.iconst 2, 1) := by decide +kernel
theorem dX5_removeAt_116 : decode cX5_removeAt 116 = .ok (.iadd, 1) := by decide +kernel
theorem dX5_removeAt_117 : decode cX5_removeAt 117 = .ok (.iload_n 3, 1) := by decide +kernel
theorem dX5_removeAt_118 : decode cX5_removeAt 118 = .ok (.iastore, 1) := by decide +kernel
theorem dX5_removeAt_119 : decode cX5_removeAt 119 = .ok (.return_, 1) := by decide +kernel
set_option maxRecDepth 20000 in
theorem ggX5_put_X5_isKind : GoodIn wsX5_put wsX5_isKind := goodIn_r _ [6, 7, 8, 9, 5, 10, 11, 12, 13, 14, 15, 16, 17, 1, 31, 32, 33, 34, 35] (by decide +kernel) (by decide +kernel)
set_option maxRecDepth 20000 in
theorem gX5_put_X5_isKind : GoodIn wsX5_put (wsV RX5 53 RX5 yX5_isKind wsX5_isKind) := goodIn_app (goodIn_of _ (by decide +kernel)) ggX5_put_X5_isKind
set_option maxRecDepth 20000 in
theorem ggX5_put_X5_isAllocated : GoodIn wsX5_put wsX5_isAllocated := goodIn_r _ [10, 11, 12, 5, 13, 14, 15, 16, 17, 1, 31, 32, 33, 34, 35] (by decide +kernel) (by decide +kernel)
set_option maxRecDepth 20000 in
theorem gX5_put_X5_isAllocated : GoodIn wsX5_put (wsV RX5 43 RX5 yX5_isAllocated wsX5_isAllocated) := goodIn_app (goodIn_of _ (by decide +kernel)) ggX5_put_X5_isAllocated
set_option maxRecDepth 20000 in
theorem ggX5_put_X5_placeOf : GoodIn wsX5_put wsX5_placeOf := goodIn_r _ [21, 14, 15, 16, 5, 17, 1, 31, 32, 33, 34, 35] (by decide +kernel) (by decide +kernel)
set_option maxRecDepth 20000 in
theorem gX5_put_X5_placeOf : GoodIn wsX5_put (wsV RX5 60 RX5 yX5_placeOf wsX5_placeOf) := goodIn_app (goodIn_of _ (by decide +kernel)) ggX5_put_X5_placeOf
set_option maxRecDepth 20000 in
theorem ggX5_put_X5_part : GoodIn wsX5_put wsX5_part := goodIn_r _ [17, 1, 31, 32, 33, 34, 35] (by decide +kernel) (by decide +kernel)
set_option maxRecDepth 20000 in
theorem gX5_put_X5_part : GoodIn wsX5_put (wsV RX5 39 RX5 yX5_part wsX5_part) := goodIn_app (goodIn_of _ (by decide +kernel)) ggX5_put_X5_part
set_option maxRecDepth 20000 in
theorem ggX5_put_X5_saveState : GoodIn wsX5_put wsX5_saveState := goodIn_r _ [25, 26, 27, 28, 29, 5, 30, 1, 31, 32, 33, 34, 35] (by decide +kernel) (by decide +kernel)
set_option maxRecDepth 20000 in
theorem gX5_put_X5_saveState : GoodIn wsX5_put (wsV RX5 47 RX5 yX5_saveState wsX5_saveState) := goodIn_app (goodIn_of _ (by decide +kernel)) ggX5_put_X5_saveState
theorem dX5_put_0 : decode cX5_put 0 = .ok (.aload_n 0, 1) := by decide +kernel
theorem dX5_put_1 : decode cX5_put 1 = .ok (.iload_n 1, 1) := by decide +kernel
theorem dX5_put_2 : decode cX5_put 2 = .ok (.iconst 1, 1) := by decide +kernel
theorem dX5_put_3 : decode cX5_put 3 = .ok (.invokevirtual 53, 3) := by decide +kernel
theorem dX5_put_6 : decode cX5_put 6 = .ok (.ifCond .eq 19, 3) := by decide +kernel
theorem dX5_put_9 : decode cX5_put 9 = .ok (.aload_n 0, 1) := by decide +kernel
theorem dX5_put_10 : decode cX5_put 10 = .ok (.iload_n 2, 1) := by decide +kernel
theorem dX5_put_11 : decode cX5_put 11 = .ok (.invokevirtual 43, 3) := by decide +kernel
theorem dX5_put_14 : decode cX5_put 14 = .ok (.ifCond .eq 11, 3) := by decide +kernel
theorem dX5_put_17 : decode cX5_put 17 = .ok (.aload_n 0, 1) := by decide +kernel
theorem dX5_put_18 : decode cX5_put 18 = .ok (.iload_n 3, 1) := by decide +kernel
theorem dX5_put_19 : decode cX5_put 19 = .ok (.invokevirtual 43, 3) := by decide +kernel
theorem dX5_put_22 : decode cX5_put 22 = .ok (.ifCond .ne 5, 3) := by decide +kernel
theorem dX5_put_25 : decode cX5_put 25 = .ok (.iconst (-1), 1) := by decide +kernel
theorem dX5_put_26 : decode cX5_put 26 = .ok (.ireturn, 1) := by decide +kernel
theorem dX5_put_27 : decode cX5_put 27 = .ok (.aload_n 0, 1) := by decide +kernel
theorem dX5_put_28 : decode cX5_put 28 = .ok (.iload_n 1, 1) := by decide +kernel
theorem dX5_put_29 : decode cX5_put 29 = .ok (.iload_n 2, 1) := by decide +kernel
theorem dX5_put_30 : decode cX5_put 30 = .ok (.invokevirtual 60, 3) := by decide +kernel
theorem dX5_put_33 : decode cX5_put 33 = .ok (.istore 4, 2) := by decide +kernel
theorem dX5_put_35 : decode cX5_put 35 = .ok (.iload 4, 2) := by decide +kernel
theorem dX5_put_37 : decode cX5_put 37 = .ok (.bipush (-9), 2) := by decide +kernel
theorem dX5_put_39 : decode cX5_put 39 = .ok (.if_icmp .ne 17, 3) := by decide +kernel
theorem dX5_put_42 : decode cX5_put 42 = .ok (.aload_n 0, 1) := by decide +kernel
theorem dX5_put_43 : decode cX5_put 43 = .ok (.iload_n 1, 1) := by decide +kernel
theorem dX5_put_44 : decode cX5_put 44 = .ok (.iconst 2, 1) := by decide +kernel
theorem dX5_put_45 : decode cX5_put 45 = .ok (.invokevirtual 39, 3) := by decide +kernel
theorem dX5_put_48 : decode cX5_put 48 = .ok (.bipush 6, 2) := by decide +kernel
theorem dX5_put_50 : decode cX5_put 50 = .ok (.if_icmp .ne 6, 3) := by decide +kernel
theorem dX5_put_53 : decode cX5_put 53 = .ok (.bipush (-3), 2) := by decide +kernel
theorem dX5_put_55 : decode cX5_put 55 = .ok (.ireturn, 1) := by decide +kernel
theorem dX5_put_56 : decode cX5_put 56 = .ok (.aload_n 0, 1) := by decide +kernel
theorem dX5_put_57 : decode cX5_put 57 = .ok (.invokevirtual 47, 3) := by decide +kernel
theorem dX5_put_60 : decode cX5_put 60 = .ok (.iload 4, 2) := by decide +kernel
theorem dX5_put_62 : decode cX5_put 62 = .ok (.bipush (-9), 2) := by decide +kernel
theorem dX5_put_64 : decode cX5_put 64 = .ok (.if_icmp .ne 26, 3) := by decide +kernel
theorem dX5_put_67 : decode cX5_put 67 = .ok (.aload_n 0, 1) := by decide +kernel
theorem dX5_put_68 : decode cX5_put 68 = .ok (.iload_n 1, 1) := by decide +kernel
theorem dX5_put_69 : decode cX5_put 69 = .ok (.iconst 2, 1) := by decide +kernel
theorem dX5_put_70 : decode cX5_put 70 = .ok (.invokevirtual 39, 3) := by decide +kernel
theorem dX5_put_73 : decode cX5_put 73 = .ok (.istore 4, 2) := by decide +kernel
theorem dX5_put_75 : decode cX5_put 75 = .ok (.aload_n 0, 1) := by decide +kernel
theorem dX5_put_76 : decode cX5_put 76 = .ok (.getfield 7, 3) := by decide +kernel
theorem dX5_put_79 : decode cX5_put 79 = .ok (.bipush 15, 2) := by decide +kernel
theorem dX5_put_81 : decode cX5_put 81 = .ok (.iload_n 1, 1) := by decide +kernel
theorem dX5_put_82 : decode cX5_put 82 = .ok (.imul, 1) := by decide +kernel
theorem dX5_put_83 : decode cX5_put 83 = .ok (.iconst 2, 1) := by decide +kernel
theorem dX5_put_84 : decode cX5_put 84 = .ok (.iadd, 1) := by decide +kernel
theorem dX5_put_85 : decode cX5_put 85 = .ok (.dup2, 1) := by decide +kernel
theorem dX5_put_86 : decode cX5_put 86 = .ok (.iaload, 1) := by decide +kernel
theorem dX5_put_87 : decode cX5_put 87 = .ok (.iconst 1, 1) := by decide +kernel
theorem dX5_put_88 : decode cX5_put 88 = .ok (.iadd, 1) := by decide +kernel
theorem dX5_put_89 : decode cX5_put 89 = .ok (.iastore, 1) := by decide +kernel
theorem dX5_put_90 : decode cX5_put 90 = .ok (.aload_n 0, 1) := by decide +kernel
theorem dX5_put_91 : decode cX5_put 91 = .ok (.iload_n 1, 1) := by decide +kernel
theorem dX5_put_92 : decode cX5_put 92 = .ok (.bipush 9, 2) := by decide +kernel
theorem dX5_put_94 : decode cX5_put 94 = .ok (.iload 4, 2) := by decide +kernel
theorem dX5_put_96 : decode cX5_put 96 = .ok (.iadd, 1) := by decide +kernel
theorem dX5_put_97 : decode cX5_put 97 = .ok (.invokevirtual 39, 3) := by decide +kernel
theorem dX5_put_100 : decode cX5_put 100 = .ok (.istore 5, 2) := by decide +kernel
theorem dX5_put_102 : decode cX5_put 102 = .ok (.aload_n 0, 1) := by decide +kernel
theorem dX5_put_103 : decode cX5_put 103 = .ok (.getfield 7, 3) := by decide +kernel
theorem dX5_put_106 : decode cX5_put 106 = .ok (.bipush 15, 2) := by decide +kernel
theorem dX5_put_108 : decode cX5_put 108 = .ok (.iload_n 1, 1) := by decide +kernel
theorem dX5_put_109 : decode cX5_put 109 = .ok (.imul, 1) := by decide +kernel
theorem dX5_put_110 : decode cX5_put 110 = .ok (.iconst 3, 1) := by decide +kernel
theorem dX5_put_111 : decode cX5_put 111 = .ok (.iadd, 1) := by decide +kernel
theorem dX5_put_112 : decode cX5_put 112 = .ok (.iload 4, 2) := by decide +kernel
theorem dX5_put_114 : decode cX5_put 114 = .ok (.iadd, 1) := by decide +kernel
theorem dX5_put_115 : decode cX5_put 115 = .ok (.iload_n 2, 1) := by decide +kernel
theorem dX5_put_116 : decode cX5_put 116 = .ok (.iastore, 1) := by decide +kernel
theorem dX5_put_117 : decode cX5_put 117 = .ok (.aload_n 0, 1) := by decide +kernel
theorem dX5_put_118 : decode cX5_put 118 = .ok (.getfield 7, 3) := by decide +kernel
theorem dX5_put_121 : decode cX5_put 121 = .ok (.bipush 15, 2) := by decide +kernel
theorem dX5_put_123 : decode cX5_put 123 = .ok (.iload_n 1, 1) := by decide +kernel
theorem dX5_put_124 : decode cX5_put 124 = .ok (.imul, 1) := by decide +kernel
theorem dX5_put_125 : decode cX5_put 125 = .ok (.bipush 9, 2) := by decide +kernel
theorem dX5_put_127 : decode cX5_put 127 = .ok (.iadd, 1) := by decide +kernel
theorem dX5_put_128 : decode cX5_put 128 = .ok (.iload 4, 2) := by decide +kernel
theorem dX5_put_130 : decode cX5_put 130 = .ok (.iadd, 1) := by decide +kernel
theorem dX5_put_131 : decode cX5_put 131 = .ok (.iload_n 3, 1) := by decide +kernel
theorem dX5_put_132 : decode cX5_put 132 = .ok (.iastore, 1) := by decide +kernel
theorem dX5_put_133 : decode cX5_put 133 = .ok (.iload 5, 2) := by decide +kernel
theorem dX5_put_135 : decode cX5_put 135 = .ok (.ireturn, 1) := by decide +kernel
set_option maxRecDepth 20000 in
theorem ggX5_get_X5_isKind : GoodIn wsX5_get wsX5_isKind := goodIn_r _ [5, 6, 7, 8, 4, 9, 10, 11, 12, 13, 14, 15, 16, 17, 22, 23, 24, 25, 26] (by decide +kernel) (by decide +kernel)
set_option maxRecDepth 20000 in
theorem gX5_get_X5_isKind : GoodIn wsX5_get (wsV RX5 53 RX5 yX5_isKind wsX5_isKind) := goodIn_app (goodIn_of _ (by decide +kernel)) ggX5_get_X5_isKind
set_option maxRecDepth 20000 in
theorem ggX5_get_X5_isAllocated : GoodIn wsX5_get wsX5_isAllocated := goodIn_r _ [9, 10, 11, 4, 12, 13, 14, 15, 16, 17, 22, 23, 24, 25, 26] (by decide +kernel) (by decide +kernel)
set_option maxRecDepth 20000 in
theorem gX5_get_X5_isAllocated : GoodIn wsX5_get (wsV RX5 43 RX5 yX5_isAllocated wsX5_isAllocated) := goodIn_app (goodIn_of _ (by decide +kernel)) ggX5_get_X5_isAllocated
set_option maxRecDepth 20000 in
theorem ggX5_get_X5_placeOf : GoodIn wsX5_get wsX5_placeOf := goodIn_r _ [21, 13, 14, 15, 4, 16, 17, 22, 23, 24, 25, 26] (by decide +kernel) (by decide +kernel)
set_option maxRecDepth 20000 in
theorem gX5_get_X5_placeOf : GoodIn wsX5_get (wsV RX5 60 RX5 yX5_placeOf wsX5_placeOf) := goodIn_app (goodIn_of _ (by decide +kernel)) ggX5_get_X5_placeOf
set_option maxRecDepth 20000 in
theorem ggX5_get_X5_part : GoodIn wsX5_get wsX5_part := goodIn_r _ [16, 17, 22, 23, 24, 25, 26] (by decide +kernel) (by decide +kernel)
set_option maxRecDepth 20000 in
theorem gX5_get_X5_part : GoodIn wsX5_get (wsV RX5 39 RX5 yX5_part wsX5_part) := goodIn_app (goodIn_of _ (by decide +kernel)) ggX5_get_X5_part
theorem dX5_get_0 : decode cX5_get 0 = .ok (.aload_n 0, 1) := by decide +kernel
theorem dX5_get_1 : decode cX5_get 1 = .ok (.iload_n 1, 1) := by decide +kernel
theorem dX5_get_2 : decode cX5_get 2 = .ok (.iconst 1, 1) := by decide +kernel
theorem dX5_get_3 : decode cX5_get 3 = .ok (.invokevirtual 53, 3) := by decide +kernel
theorem dX5_get_6 : decode cX5_get 6 = .ok (.ifCond .eq 11, 3) := by decide +kernel
theorem dX5_get_9 : decode cX5_get 9 = .ok (.aload_n 0, 1) := by decide +kernel
theorem dX5_get_10 : decode cX5_get 10 = .ok (.iload_n 2, 1) := by decide +kernel
theorem dX5_get_11 : decode cX5_get 11 = .ok (.invokevirtual 43, 3) := by decide +kernel
theorem dX5_get_14 : decode cX5_get 14 = .ok (.ifCond .ne 5, 3) := by decide +kernel
theorem dX5_get_17 : decode cX5_get 17 = .ok (.iconst (-1), 1) := by decide +kernel
theorem dX5_get_18 : decode cX5_get 18 = .ok (.ireturn, 1) := by decide +kernel
theorem dX5_get_19 : decode cX5_get 19 = .ok (.aload_n 0, 1) := by decide +kernel
theorem dX5_get_20 : decode cX5_get 20 = .ok (.iload_n 1, 1) := by decide +kernel
theorem dX5_get_21 : decode cX5_get 21 = .ok (.iload_n 2, 1) := by decide +kernel
theorem dX5_get_22 : decode cX5_get 22 = .ok (.invokevirtual 60, 3) := by decide +kernel
theorem dX5_get_25 : decode cX5_get 25 = .ok (.istore_n 3, 1) := by decide +kernel
theorem dX5_get_26 : decode cX5_get 26 = .ok (.iload_n 3, 1) := by decide +kernel
theorem dX5_get_27 : decode cX5_get 27 = .ok (.bipush (-9), 2) := by decide +kernel
theorem dX5_get_29 : decode cX5_get 29 = .ok (.if_icmp .ne 8, 3) := by decide +kernel
theorem dX5_get_32 : decode cX5_get 32 = .ok (.bipush (-9), 2) := by decide +kernel
theorem dX5_get_34 : decode cX5_get 34 = .ok (.goto 12, 3) := by decide +kernel
theorem dX5_get_37 : decode cX5_get 37 = .ok (.aload_n 0, 1) := by decide +kernel
theorem dX5_get_38 : decode cX5_get 38 = .ok (.iload_n 1, 1) := by decide +kernel
theorem dX5_get_39 : decode cX5_get 39 = .ok (.bipush 9, 2) := by decide +kernel
theorem dX5_get_41 : decode cX5_get 41 = .ok (.iload_n 3, 1) := by decide +kernel
theorem dX5_get_42 : decode cX5_get 42 = .ok (.iadd, 1) := by decide +kernel
theorem dX5_get_43 : decode cX5_get 43 = .ok (.invokevirtual 39, 3) := by decide +kernel
theorem dX5_get_46 : decode cX5_get 46 = .ok (.ireturn, 1) := by decide +kernel
set_option maxRecDepth 20000 in
theorem ggX5_removeEntry_X5_isKind : GoodIn wsX5_removeEntry wsX5_isKind := goodIn_r _ [5, 6, 7, 8, 4, 9, 10, 11, 12, 13, 14, 15, 16, 17, 35, 36, 37, 38, 39] (by decide +kernel) (by decide +kernel)
set_option maxRecDepth 20000 in
theorem gX5_removeEntry_X5_isKind : GoodIn wsX5_removeEntry (wsV RX5 53 RX5 yX5_isKind wsX5_isKind) := goodIn_app (goodIn_of _ (by decide +kernel)) ggX5_removeEntry_X5_isKind
set_option maxRecDepth 20000 in
theorem ggX5_removeEntry_X5_isAllocated : GoodIn wsX5_removeEntry wsX5_isAllocated := goodIn_r _ [9, 10, 11, 4, 12, 13, 14, 15, 16, 17, 35, 36, 37, 38, 39] (by decide +kernel) (by decide +kernel)
set_option maxRecDepth 20000 in
theorem gX5_removeEntry_X5_isAllocated : GoodIn wsX5_removeEntry (wsV RX5 43 RX5 yX5_isAllocated wsX5_isAllocated) := goodIn_app (goodIn_of _ (by decide +kernel)) ggX5_removeEntry_X5_isAllocated
set_option maxRecDepth 20000 in
theorem ggX5_removeEntry_X5_placeOf : GoodIn wsX5_removeEntry wsX5_placeOf := goodIn_r _ [21, 13, 14, 15, 4, 16, 17, 35, 36, 37, 38, 39] (by decide +kernel) (by decide +kernel)
set_option maxRecDepth 20000 in
theorem gX5_removeEntry_X5_placeOf : GoodIn wsX5_removeEntry (wsV RX5 60 RX5 yX5_placeOf wsX5_placeOf) := goodIn_app (goodIn_of _ (by decide +kernel)) ggX5_removeEntry_X5_placeOf
set_option maxRecDepth 20000 in
theorem ggX5_removeEntry_X5_saveState : GoodIn wsX5_removeEntry wsX5_saveState := goodIn_r _ [25, 26, 27, 28, 29, 4, 30, 17, 35, 36, 37, 38, 39] (by decide +kernel) (by decide +kernel)
set_option maxRecDepth 20000 in
theorem gX5_removeEntry_X5_saveState : GoodIn wsX5_removeEntry (wsV RX5 47 RX5 yX5_saveState wsX5_saveState) := goodIn_app (goodIn_of _ (by decide +kernel)) ggX5_removeEntry_X5_saveState
set_option maxRecDepth 20000 in
theorem ggX5_removeEntry_X5_part : GoodIn wsX5_removeEntry wsX5_part := goodIn_r _ [16, 17, 35, 36, 37, 38, 39] (by decide +kernel) (by decide +kernel)
set_option maxRecDepth 20000 in
theorem gX5_removeEntry_X5_part : GoodIn wsX5_removeEntry (wsV RX5 39 RX5 yX5_part wsX5_part) := goodIn_app (goodIn_of _ (by decide +kernel)) ggX5_removeEntry_X5_part
set_option maxRecDepth 20000 in
theorem ggX5_removeEntry_X5_removeAt : GoodIn wsX5_removeEntry wsX5_removeAt := goodIn_r _ [34, 17, 13, 14, 15, 4, 16, 35, 36, 37, 38, 39] (by decide +kernel) (by decide +kernel)
set_option maxRecDepth 20000 in
theorem gX5_removeEntry_X5_removeAt : GoodIn wsX5_removeEntry (wsV RX5 63 RX5 yX5_removeAt wsX5_removeAt) := goodIn_app (goodIn_of _ (by decide +kernel)) ggX5_removeEntry_X5_removeAt
theorem dX5_removeEntry_0 : decode cX5_removeEntry 0 = .ok (.aload_n 0, 1) := by decide +kernel
theorem dX5_removeEntry_1 : decode cX5_removeEntry 1 = .ok (.iload_n 1, 1) := by decide +kernel
theorem dX5_removeEntry_2 : decode cX5_removeEntry 2 = .ok (.iconst 1, 1) := by decide +kernel
theorem dX5_removeEntry_3 : decode cX5_removeEntry 3 = .ok (.invokevirtual 53, 3) := by decide +kernel
theorem dX5_removeEntry_6 : decode cX5_removeEntry 6 = .ok (.ifCond .eq 11, 3) := by decide +kernel
theorem dX5_removeEntry_9 : decode cX5_removeEntry 9 = .ok (.aload_n 0, 1) := by decide +kernel
theorem dX5_removeEntry_10 : decode cX5_removeEntry 10 = .ok (.iload_n 2, 1) := by decide +kernel
theorem dX5_removeEntry_11 : decode cX5_removeEntry 11 = .ok (.invokevirtual 43, 3) := by decide +kernel
theorem dX5_removeEntry_14 : decode cX5_removeEntry 14 = .ok (.ifCond .ne 5, 3) := by decide +kernel
theorem dX5_removeEntry_17 : decode cX5_removeEntry 17 = .ok (.iconst (-1), 1) := by decide +kernel
theorem dX5_removeEntry_18 : decode cX5_removeEntry 18 = .ok (.ireturn, 1) := by decide +kernel
theorem dX5_removeEntry_19 : decode cX5_removeEntry 19 = .ok (.aload_n 0, 1) := by decide +kernel
theorem dX5_removeEntry_20 : decode cX5_removeEntry 20 = .ok (.iload_n 1, 1) := by decide +kernel
theorem dX5_removeEntry_21 : decode cX5_removeEntry 21 = .ok (.iload_n 2, 1) := by decide +kernel
theorem dX5_removeEntry_22 : decode cX5_removeEntry 22 = .ok (.invokevirtual 60, 3) := by decide +kernel
theorem dX5_removeEntry_25 : decode cX5_removeEntry 25 = .ok (.istore_n 3, 1) := by decide +kernel
theorem dX5_removeEntry_26 : decode cX5_removeEntry 26 = .ok (.iload_n 3, 1) := by decide +kernel
theorem dX5_removeEntry_27 : decode cX5_removeEntry 27 = .ok (.bipush (-9), 2) := by decide +kernel
theorem dX5_removeEntry_29 : decode cX5_removeEntry 29 = .ok (.if_icmp .ne 6, 3) := by decide +kernel
theorem dX5_removeEntry_32 : decode cX5_removeEntry 32 = .ok (.bipush (-2), 2) := by decide +kernel
theorem dX5_removeEntry_34 : decode cX5_removeEntry 34 = .ok (.ireturn, 1) := by decide +kernel
theorem dX5_removeEntry_35 : decode cX5_removeEntry 35 = .ok (.aload_n 0, 1) := by decide +kernel
theorem dX5_removeEntry_36 : decode cX5_removeEntry 36 = .ok (.invokevirtual 47, 3) := by decide +kernel
theorem dX5_removeEntry_39 : decode cX5_removeEntry 39 = .ok (.aload_n 0, 1) := by decide +kernel
theorem dX5_removeEntry_40 : decode cX5_removeEntry 40 = .ok (.iload_n 1, 1) := by decide +kernel
theorem dX5_removeEntry_41 : decode cX5_removeEntry 41 = .ok (.bipush 9, 2) := by decide +kernel
theorem dX5_removeEntry_43 : decode cX5_removeEntry 43 = .ok (.iload_n 3, 1) := by decide +kernel
theorem dX5_removeEntry_44 : decode cX5_removeEntry 44 = .ok (.iadd, 1) := by decide +kernel
theorem dX5_removeEntry_45 : decode cX5_removeEntry 45 = .ok (.invokevirtual 39, 3) := by decide +kernel
theorem dX5_removeEntry_48 : decode cX5_removeEntry 48 = .ok (.istore 4, 2) := by decide +kernel
theorem dX5_removeEntry_50 : decode cX5_removeEntry 50 = .ok (.aload_n 0, 1) := by decide +kernel
theorem dX5_removeEntry_51 : decode cX5_removeEntry 51 = .ok (.iload_n 1, 1) := by decide +kernel
theorem dX5_removeEntry_52 : decode cX5_removeEntry 52 = .ok (.iload_n 3, 1) := by decide +kernel
theorem dX5_removeEntry_53 : decode cX5_removeEntry 53 = .ok (.invokevirtual 63, 3) := by decide +kernel
theorem dX5_removeEntry_56 : decode cX5_removeEntry 56 = .ok (.iload 4, 2) := by decide +kernel
theorem dX5_removeEntry_58 : decode cX5_removeEntry 58 = .ok (.ireturn, 1) := by decide +kernel
set_option maxRecDepth 20000 in
theorem ggX5_entryCount_X5_isKind : GoodIn wsX5_entryCount wsX5_isKind := goodIn_r _ [5, 6, 7, 8, 4, 9, 10, 11, 12, 13, 14, 15, 16, 17, 18, 19, 20, 21, 22] (by decide +kernel) (by decide +kernel)
set_option maxRecDepth 20000 in
theorem gX5_entryCount_X5_isKind : GoodIn wsX5_entryCount (wsV RX5 53 RX5 yX5_isKind wsX5_isKind) := goodIn_app (goodIn_of _ (by decide +kernel)) ggX5_entryCount_X5_isKind
set_option maxRecDepth 20000 in
theorem ggX5_entryCount_X5_part : GoodIn wsX5_entryCount wsX5_part := goodIn_r _ [16, 17, 18, 19, 20, 21, 22] (by decide +kernel) (by decide +kernel)
set_option maxRecDepth 20000 in
theorem gX5_entryCount_X5_part : GoodIn wsX5_entryCount (wsV RX5 39 RX5 yX5_part wsX5_part) := goodIn_app (goodIn_of _ (by decide +kernel)) ggX5_entryCount_X5_part
theorem dX5_entryCount_0 : decode cX5_entryCount 0 = .ok (.aload_n 0, 1) := by decide +kernel
theorem dX5_entryCount_1 : decode cX5_entryCount 1 = .ok (.iload_n 1, 1) := by decide +kernel
theorem dX5_entryCount_2 : decode cX5_entryCount 2 = .ok (.iconst 1, 1) := by decide +kernel
theorem dX5_entryCount_3 : decode cX5_entryCount 3 = .ok (.invokevirtual 53, 3) := by decide +kernel
theorem dX5_entryCount_6 : decode cX5_entryCount 6 = .ok (.ifCond .eq 12, 3) := by decide +kernel
theorem dX5_entryCount_9 : decode cX5_entryCount 9 = .ok (.aload_n 0, 1) := by decide +kernel
theorem dX5_entryCount_10 : decode cX5_entryCount 10 = .ok (.iload_n 1, 1) := by decide +kernel
theorem dX5_entryCount_11 : decode cX5_entryCount 11 = .ok (.iconst 2, 1) := by decide +kernel
theorem dX5_entryCount_12 : decode cX5_entryCount 12 = .ok (.invokevirtual 39, 3) := by decide +kernel
theorem dX5_entryCount_15 : decode cX5_entryCount 15 = .ok (.goto 4, 3) := by decide +kernel
theorem dX5_entryCount_18 : decode cX5_entryCount 18 = .ok (.iconst (-1), 1) := by decide +kernel
theorem dX5_entryCount_19 : decode cX5_entryCount 19 = .ok (.ireturn, 1) := by decide +kernel
set_option maxRecDepth 20000 in
theorem ggX5_entryKey_X5_isKind : GoodIn wsX5_entryKey wsX5_isKind := goodIn_r _ [5, 6, 7, 8, 4, 9, 10, 11, 12, 13, 14, 15, 16, 17, 18, 19, 20, 21, 22] (by decide +kernel) (by decide +kernel)
set_option maxRecDepth 20000 in
theorem gX5_entryKey_X5_isKind : GoodIn wsX5_entryKey (wsV RX5 53 RX5 yX5_isKind wsX5_isKind) := goodIn_app (goodIn_of _ (by decide +kernel)) ggX5_entryKey_X5_isKind
set_option maxRecDepth 20000 in
theorem ggX5_entryKey_X5_part : GoodIn wsX5_entryKey wsX5_part := goodIn_r _ [16, 17, 18, 19, 20, 21, 22] (by decide +kernel) (by decide +kernel)
set_option maxRecDepth 20000 in
theorem gX5_entryKey_X5_part : GoodIn wsX5_entryKey (wsV RX5 39 RX5 yX5_part wsX5_part) := goodIn_app (goodIn_of _ (by decide +kernel)) ggX5_entryKey_X5_part
theorem dX5_entryKey_0 : decode cX5_entryKey 0 = .ok (.aload_n 0, 1) := by decide +kernel
theorem dX5_entryKey_1 : decode cX5_entryKey 1 = .ok (.iload_n 1, 1) := by decide +kernel
theorem dX5_entryKey_2 : decode cX5_entryKey 2 = .ok (.iconst 1, 1) := by decide +kernel
theorem dX5_entryKey_3 : decode cX5_entryKey 3 = .ok (.invokevirtual 53, 3) := by decide +kernel
theorem dX5_entryKey_6 : decode cX5_entryKey 6 = .ok (.ifCond .eq 7, 3) := by decide +kernel
theorem dX5_entryKey_9 : decode cX5_entryKey 9 = .ok (.iload_n 2, 1) := by decide +kernel
theorem dX5_entryKey_10 : decode cX5_entryKey 10 = .ok (.ifCond .ge 5, 3) := by decide +kernel
theorem dX5_entryKey_13 : decode cX5_entryKey 13 = .ok (.iconst (-1), 1) := by decide +kernel
theorem dX5_entryKey_14 : decode cX5_entryKey 14 = .ok (.ireturn, 1) := by decide +kernel
theorem dX5_entryKey_15 : decode cX5_entryKey 15 = .ok (.iload_n 2, 1) := by decide +kernel
theorem dX5_entryKey_16 : decode cX5_entryKey 16 = .ok (.aload_n 0, 1) := by decide +kernel
theorem dX5_entryKey_17 : decode cX5_entryKey 17 = .ok (.iload_n 1, 1) := by decide +kernel
theorem dX5_entryKey_18 : decode cX5_entryKey 18 = .ok (.iconst 2, 1) := by decide +kernel
theorem dX5_entryKey_19 : decode cX5_entryKey 19 = .ok (.invokevirtual 39, 3) := by decide +kernel
theorem dX5_entryKey_22 : decode cX5_entryKey 22 = .ok (.if_icmp .ge 14, 3) := by decide +kernel
theorem dX5_entryKey_25 : decode cX5_entryKey 25 = .ok (.aload_n 0, 1) := by decide +kernel
theorem dX5_entryKey_26 : decode cX5_entryKey 26 = .ok (.iload_n 1, 1) := by decide +kernel
theorem dX5_entryKey_27 : decode cX5_entryKey 27 = .ok (.iconst 3, 1) := by decide +kernel
theorem dX5_entryKey_28 : decode cX5_entryKey 28 = .ok (.iload_n 2, 1) := by decide +kernel
theorem dX5_entryKey_29 : decode cX5_entryKey 29 = .ok (.iadd, 1) := by decide +kernel
theorem dX5_entryKey_30 : decode cX5_entryKey 30 = .ok (.invokevirtual 39, 3) := by decide +kernel
theorem dX5_entryKey_33 : decode cX5_entryKey 33 = .ok (.goto 5, 3) := by decide +kernel
theorem dX5_entryKey_36 : decode cX5_entryKey 36 = .ok (.bipush (-9), 2) := by decide +kernel
theorem dX5_entryKey_38 : decode cX5_entryKey 38 = .ok (.ireturn, 1) := by decide +kernel
theorem dX5_startAtRoots_0 : decode cX5_startAtRoots 0 = .ok (.iconst 0, 1) := by decide +kernel
theorem dX5_startAtRoots_1 : decode cX5_startAtRoots 1 = .ok (.istore_n 1, 1) := by decide +kernel
theorem dX5_startAtRoots_2 : decode cX5_startAtRoots 2 = .ok (.iload_n 1, 1) := by decide +kernel
theorem dX5_startAtRoots_3 : decode cX5_startAtRoots 3 = .ok (.bipush 24, 2) := by decide +kernel
theorem dX5_startAtRoots_5 : decode cX5_startAtRoots 5 = .ok (.if_icmp .ge 16, 3) := by decide +kernel
theorem dX5_startAtRoots_8 : decode cX5_startAtRoots 8 = .ok (.aload_n 0, 1) := by decide +kernel
theorem dX5_startAtRoots_9 : decode cX5_startAtRoots 9 = .ok (.getfield 20, 3) := by decide +kernel
theorem dX5_startAtRoots_12 : decode cX5_startAtRoots 12 = .ok (.iload_n 1, 1) := by decide +kernel
theorem dX5_startAtRoots_13 : decode cX5_startAtRoots 13 = .ok (.iconst 0, 1) := by decide +kernel
theorem dX5_startAtRoots_14 : decode cX5_startAtRoots 14 = .ok (.bastore, 1) := by decide +kernel
theorem dX5_startAtRoots_15 : decode cX5_startAtRoots 15 = .ok (.iinc 1 1, 3) := by decide +kernel
theorem dX5_startAtRoots_18 : decode cX5_startAtRoots 18 = .ok (.goto (-16), 3) := by decide +kernel
theorem dX5_startAtRoots_21 : decode cX5_startAtRoots 21 = .ok (.iconst 0, 1) := by decide +kernel
theorem dX5_startAtRoots_22 : decode cX5_startAtRoots 22 = .ok (.istore_n 1, 1) := by decide +kernel
theorem dX5_startAtRoots_23 : decode cX5_startAtRoots 23 = .ok (.iload_n 1, 1) := by decide +kernel
theorem dX5_startAtRoots_24 : decode cX5_startAtRoots 24 = .ok (.bipush 6, 2) := by decide +kernel
theorem dX5_startAtRoots_26 : decode cX5_startAtRoots 26 = .ok (.if_icmp .ge 40, 3) := by decide +kernel
theorem dX5_startAtRoots_29 : decode cX5_startAtRoots 29 = .ok (.aload_n 0, 1) := by decide +kernel
theorem dX5_startAtRoots_30 : decode cX5_startAtRoots 30 = .ok (.getfield 7, 3) := by decide +kernel
theorem dX5_startAtRoots_33 : decode cX5_startAtRoots 33 = .ok (.sipush 360, 3) := by decide +kernel
theorem dX5_startAtRoots_36 : decode cX5_startAtRoots 36 = .ok (.iload_n 1, 1) := by decide +kernel
theorem dX5_startAtRoots_37 : decode cX5_startAtRoots 37 = .ok (.iadd, 1) := by decide +kernel
theorem dX5_startAtRoots_38 : decode cX5_startAtRoots 38 = .ok (.iaload, 1) := by decide +kernel
theorem dX5_startAtRoots_39 : decode cX5_startAtRoots 39 = .ok (.bipush (-9), 2) := by decide +kernel
theorem dX5_startAtRoots_41 : decode cX5_startAtRoots 41 = .ok (.if_icmp .eq 19, 3) := by decide +kernel
theorem dX5_startAtRoots_44 : decode cX5_startAtRoots 44 = .ok (.aload_n 0, 1) := by decide +kernel
theorem dX5_startAtRoots_45 : decode cX5_startAtRoots 45 = .ok (.getfield 20, 3) := by decide +kernel
theorem dX5_startAtRoots_48 : decode cX5_startAtRoots 48 = .ok (.aload_n 0, 1) := by decide +kernel
theorem dX5_startAtRoots_49 : decode cX5_startAtRoots 49 = .ok (.getfield 7, 3) := by decide +kernel
theorem dX5_startAtRoots_52 : decode cX5_startAtRoots 52 = .ok (.sipush 360, 3) := by decide +kernel
theorem dX5_startAtRoots_55 : decode cX5_startAtRoots 55 = .ok (.iload_n 1, 1) := by decide +kernel
theorem dX5_startAtRoots_56 : decode cX5_startAtRoots 56 = .ok (.iadd, 1) := by decide +kernel
theorem dX5_startAtRoots_57 : decode cX5_startAtRoots 57 = .ok (.iaload, 1) := by decide +kernel
theorem dX5_startAtRoots_58 : decode cX5_startAtRoots 58 = .ok (.iconst 1, 1) := by decide +kernel
theorem dX5_startAtRoots_59 : decode cX5_startAtRoots 59 = .ok (.bastore, 1) := by decide +kernel
theorem dX5_startAtRoots_60 : decode cX5_startAtRoots 60 = .ok (.iinc 1 1, 3) := by decide +kernel
theorem dX5_startAtRoots_63 : decode cX5_startAtRoots 63 = .ok (.goto (-40), 3) := by decide +kernel
theorem dX5_startAtRoots_66 : decode cX5_startAtRoots 66 = .ok (.return_, 1) := by decide +kernel
set_option maxRecDepth 20000 in
theorem ggX5_followFields_X5_part : GoodIn wsX5_followFields wsX5_part := goodIn_r _ [6, 7, 8, 9, 10, 11, 12] (by decide +kernel) (by decide +kernel)
set_option maxRecDepth 20000 in
theorem gX5_followFields_X5_part : GoodIn wsX5_followFields (wsV RX5 39 RX5 yX5_part wsX5_part) := goodIn_app (goodIn_of _ (by decide +kernel)) ggX5_followFields_X5_part
theorem dX5_followFields_0 : decode cX5_followFields 0 = .ok (.iconst 1, 1) := by decide +kernel
theorem dX5_followFields_1 : decode cX5_followFields 1 = .ok (.istore_n 3, 1) := by decide +kernel
theorem dX5_followFields_2 : decode cX5_followFields 2 = .ok (.iload_n 3, 1) := by decide +kernel
theorem dX5_followFields_3 : decode cX5_followFields 3 = .ok (.ifCond .eq 106, 3) := by decide +kernel
theorem dX5_followFields_6 : decode cX5_followFields 6 = .ok (.iconst 0, 1) := by decide +kernel
theorem dX5_followFields_7 : decode cX5_followFields 7 = .ok (.istore_n 3, 1) := by decide +kernel
theorem dX5_followFields_8 : decode cX5_followFields 8 = .ok (.iconst 0, 1) := by decide +kernel
theorem dX5_followFields_9 : decode cX5_followFields 9 = .ok (.istore 4, 2) := by decide +kernel
theorem dX5_followFields_11 : decode cX5_followFields 11 = .ok (.iload 4, 2) := by decide +kernel
theorem dX5_followFields_13 : decode cX5_followFields 13 = .ok (.bipush 72, 2) := by decide +kernel
theorem dX5_followFields_15 : decode cX5_followFields 15 = .ok (.if_icmp .ge 91, 3) := by decide +kernel
theorem dX5_followFields_18 : decode cX5_followFields 18 = .ok (.iload 4, 2) := by decide +kernel
theorem dX5_followFields_20 : decode cX5_followFields 20 = .ok (.iconst 3, 1) := by decide +kernel
theorem dX5_followFields_21 : decode cX5_followFields 21 = .ok (.idiv, 1) := by decide +kernel
theorem dX5_followFields_22 : decode cX5_followFields 22 = .ok (.istore 5, 2) := by decide +kernel
theorem dX5_followFields_24 : decode cX5_followFields 24 = .ok (.aload_n 0, 1) := by decide +kernel
theorem dX5_followFields_25 : decode cX5_followFields 25 = .ok (.getfield 17, 3) := by decide +kernel
theorem dX5_followFields_28 : decode cX5_followFields 28 = .ok (.iload 5, 2) := by decide +kernel
theorem dX5_followFields_30 : decode cX5_followFields 30 = .ok (.iaload, 1) := by decide +kernel
theorem dX5_followFields_31 : decode cX5_followFields 31 = .ok (.bipush (-9), 2) := by decide +kernel
theorem dX5_followFields_33 : decode cX5_followFields 33 = .ok (.if_icmp .eq 28, 3) := by decide +kernel
theorem dX5_followFields_36 : decode cX5_followFields 36 = .ok (.aload_n 0, 1) := by decide +kernel
theorem dX5_followFields_37 : decode cX5_followFields 37 = .ok (.iload 5, 2) := by decide +kernel
theorem dX5_followFields_39 : decode cX5_followFields 39 = .ok (.iconst 0, 1) := by decide +kernel
theorem dX5_followFields_40 : decode cX5_followFields 40 = .ok (.invokevirtual 39, 3) := by decide +kernel
theorem dX5_followFields_43 : decode cX5_followFields 43 = .ok (.ifCond .ne 18, 3) := by decide +kernel
theorem dX5_followFields_46 : decode cX5_followFields 46 = .ok (.aload_n 0, 1) := by decide +kernel
theorem dX5_followFields_47 : decode cX5_followFields 47 = .ok (.iload 5, 2) := by decide +kernel
theorem dX5_followFields_49 : decode cX5_followFields 49 = .ok (.iconst 3, 1) := by decide +kernel
theorem dX5_followFields_50 : decode cX5_followFields 50 = .ok (.iload 4, 2) := by decide +kernel
theorem dX5_followFields_52 : decode cX5_followFields 52 = .ok (.iconst 3, 1) := by decide +kernel
theorem dX5_followFields_53 : decode cX5_followFields 53 = .ok (.irem, 1) := by decide +kernel
theorem dX5_followFields_54 : decode cX5_followFields 54 = .ok (.iadd, 1) := by decide +kernel
theorem dX5_followFields_55 : decode cX5_followFields 55 = .ok (.invokevirtual 39, 3) := by decide +kernel
theorem dX5_followFields_58 : decode cX5_followFields 58 = .ok (.goto 5, 3) := by decide +kernel
theorem dX5_followFields_61 : decode cX5_followFields 61 = .ok (.bipush (-9), 2) := by decide +kernel
theorem dX5_followFields_63 : decode cX5_followFields 63 = .ok (.istore 6, 2) := by decide +kernel
theorem dX5_followFields_65 : decode cX5_followFields 65 = .ok (.iload 6, 2) := by decide +kernel
theorem dX5_followFields_67 : decode cX5_followFields 67 = .ok (.bipush (-9), 2) := by decide +kernel
theorem dX5_followFields_69 : decode cX5_followFields 69 = .ok (.if_icmp .eq 31, 3) := by decide +kernel
theorem dX5_followFields_72 : decode cX5_followFields 72 = .ok (.iload 6, 2) := by decide +kernel
theorem dX5_followFields_74 : decode cX5_followFields 74 = .ok (.iload_n 2, 1) := by decide +kernel
theorem dX5_followFields_75 : decode cX5_followFields 75 = .ok (.if_icmp .eq 25, 3) := by decide +kernel
theorem dX5_followFields_78 : decode cX5_followFields 78 = .ok (.aload_n 0, 1) := by decide +kernel
theorem dX5_followFields_79 : decode cX5_followFields 79 = .ok (.getfield 17, 3) := by decide +kernel
theorem dX5_followFields_82 : decode cX5_followFields 82 = .ok (.iload 6, 2) := by decide +kernel
theorem dX5_followFields_84 : decode cX5_followFields 84 = .ok (.iaload, 1) := by decide +kernel
theorem dX5_followFields_85 : decode cX5_followFields 85 = .ok (.bipush (-9), 2) := by decide +kernel
theorem dX5_followFields_87 : decode cX5_followFields 87 = .ok (.if_icmp .ne 13, 3) := by decide +kernel
theorem dX5_followFields_90 : decode cX5_followFields 90 = .ok (.aload_n 0, 1) := by decide +kernel
theorem dX5_followFields_91 : decode cX5_followFields 91 = .ok (.getfield 17, 3) := by decide +kernel
theorem dX5_followFields_94 : decode cX5_followFields 94 = .ok (.iload 6, 2) := by decide +kernel
theorem dX5_followFields_96 : decode cX5_followFields 96 = .ok (.iload_n 1, 1) := by decide +kernel
theorem dX5_followFields_97 : decode cX5_followFields 97 = .ok (.iastore, 1) := by decide +kernel
theorem dX5_followFields_98 : decode cX5_followFields 98 = .ok (.iconst 1, 1) := by decide +kernel
theorem dX5_followFields_99 : decode cX5_followFields 99 = .ok (.istore_n 3, 1) := by decide +kernel
theorem dX5_followFields_100 : decode cX5_followFields 100 = .ok (.iinc 4 1, 3) := by decide +kernel
theorem dX5_followFields_103 : decode cX5_followFields 103 = .ok (.goto (-92), 3) := by decide +kernel
theorem dX5_followFields_106 : decode cX5_followFields 106 = .ok (.goto (-104), 3) := by decide +kernel
theorem dX5_followFields_109 : decode cX5_followFields 109 = .ok (.return_, 1) := by decide +kernel
set_option maxRecDepth 20000 in
theorem ggX5_followEntries_X5_part : GoodIn wsX5_followEntries wsX5_part := goodIn_r _ [6, 7, 8, 9, 10, 11, 12] (by decide +kernel) (by decide +kernel)
set_option maxRecDepth 20000 in
theorem gX5_followEntries_X5_part : GoodIn wsX5_followEntries (wsV RX5 39 RX5 yX5_part wsX5_part) := goodIn_app (goodIn_of _ (by decide +kernel)) ggX5_followEntries_X5_part
theorem dX5_followEntries_0 : decode cX5_followEntries 0 = .ok (.iconst 0, 1) := by decide +kernel
theorem dX5_followEntries_1 : decode cX5_followEntries 1 = .ok (.istore_n 3, 1) := by decide +kernel
theorem dX5_followEntries_2 : decode cX5_followEntries 2 = .ok (.iconst 0, 1) := by decide +kernel
theorem dX5_followEntries_3 : decode cX5_followEntries 3 = .ok (.istore 4, 2) := by decide +kernel
theorem dX5_followEntries_5 : decode cX5_followEntries 5 = .ok (.iload 4, 2) := by decide +kernel
theorem dX5_followEntries_7 : decode cX5_followEntries 7 = .ok (.sipush 144, 3) := by decide +kernel
theorem dX5_followEntries_10 : decode cX5_followEntries 10 = .ok (.if_icmp .ge 145, 3) := by decide +kernel
theorem dX5_followEntries_13 : decode cX5_followEntries 13 = .ok (.iload 4, 2) := by decide +kernel
theorem dX5_followEntries_15 : decode cX5_followEntries 15 = .ok (.bipush 6, 2) := by decide +kernel
theorem dX5_followEntries_17 : decode cX5_followEntries 17 = .ok (.idiv, 1) := by decide +kernel
theorem dX5_followEntries_18 : decode cX5_followEntries 18 = .ok (.istore 5, 2) := by decide +kernel
theorem dX5_followEntries_20 : decode cX5_followEntries 20 = .ok (.iload 4, 2) := by decide +kernel
theorem dX5_followEntries_22 : decode cX5_followEntries 22 = .ok (.bipush 6, 2) := by decide +kernel
theorem dX5_followEntries_24 : decode cX5_followEntries 24 = .ok (.irem, 1) := by decide +kernel
theorem dX5_followEntries_25 : decode cX5_followEntries 25 = .ok (.istore 6, 2) := by decide +kernel
theorem dX5_followEntries_27 : decode cX5_followEntries 27 = .ok (.aload_n 0, 1) := by decide +kernel
theorem dX5_followEntries_28 : decode cX5_followEntries 28 = .ok (.getfield 17, 3) := by decide +kernel
theorem dX5_followEntries_31 : decode cX5_followEntries 31 = .ok (.iload 5, 2) := by decide +kernel
theorem dX5_followEntries_33 : decode cX5_followEntries 33 = .ok (.iaload, 1) := by decide +kernel
theorem dX5_followEntries_34 : decode cX5_followEntries 34 = .ok (.bipush (-9), 2) := by decide +kernel
theorem dX5_followEntries_36 : decode cX5_followEntries 36 = .ok (.if_icmp .eq 113, 3) := by decide +kernel
theorem dX5_followEntries_39 : decode cX5_followEntries 39 = .ok (.aload_n 0, 1) := by decide +kernel
theorem dX5_followEntries_40 : decode cX5_followEntries 40 = .ok (.getfield 17, 3) := by decide +kernel
theorem dX5_followEntries_43 : decode cX5_followEntries 43 = .ok (.iload 5, 2) := by decide +kernel
theorem dX5_followEntries_45 : decode cX5_followEntries 45 = .ok (.iaload, 1) := by decide +kernel
theorem dX5_followEntries_46 : decode cX5_followEntries 46 = .ok (.iload_n 1, 1) := by decide +kernel
theorem dX5_followEntries_47 : decode cX5_followEntries 47 = .ok (.if_icmp .ge 102, 3) := by decide +kernel
theorem dX5_followEntries_50 : decode cX5_followEntries 50 = .ok (.aload_n 0, 1) := by decide +kernel
theorem dX5_followEntries_51 : decode cX5_followEntries 51 = .ok (.iload 5, 2) := by decide +kernel
theorem dX5_followEntries_53 : decode cX5_followEntries 53 = .ok (.iconst 0, 1) := by decide +kernel
theorem dX5_followEntries_54 : decode cX5_followEntries 54 = .ok (.invokevirtual 39, 3) := by decide +kernel
theorem dX5_followEntries_57 : decode cX5_followEntries 57 = .ok (.iconst 1, 1) := by decide +kernel
theorem dX5_followEntries_58 : decode cX5_followEntries 58 = .ok (.if_icmp .ne 91, 3) := by decide +kernel
theorem dX5_followEntries_61 : decode cX5_followEntries 61 = .ok (.iload 6, 2) := by decide +kernel
theorem dX5_followEntries_63 : decode cX5_followEntries 63 = .ok (.aload_n 0, 1) := by decide +kernel
theorem dX5_followEntries_64 : decode cX5_followEntries 64 = .ok (.iload 5, 2) := by decide +kernel
theorem dX5_followEntries_66 : decode cX5_followEntries 66 = .ok (.iconst 2, 1) := by decide +kernel
theorem dX5_followEntries_67 : decode cX5_followEntries 67 = .ok (.invokevirtual 39, 3) := by decide +kernel
theorem dX5_followEntries_70 : decode cX5_followEntries 70 = .ok (.if_icmp .ge 79, 3) := by decide +kernel
theorem dX5_followEntries_73 : decode cX5_followEntries 73 = .ok (.aload_n 0, 1) := by decide +kernel
theorem dX5_followEntries_74 : decode cX5_followEntries 74 = .ok (.iload 5, 2) := by decide +kernel
theorem dX5_followEntries_76 : decode cX5_followEntries 76 = .ok (.iconst 3, 1) := by decide +kernel
theorem dX5_followEntries_77 : decode cX5_followEntries 77 = .ok (.iload 6, 2) := by decide +kernel
theorem dX5_followEntries_79 : decode cX5_followEntries 79 = .ok (.iadd, 1) := by decide +kernel
theorem dX5_followEntries_80 : decode cX5_followEntries 80 = .ok (.invokevirtual 39, 3) := by decide +kernel
theorem dX5_followEntries_83 : decode cX5_followEntries 83 = .ok (.istore 7, 2) := by decide +kernel
theorem dX5_followEntries_85 : decode cX5_followEntries 85 = .ok (.aload_n 0, 1) := by decide +kernel
theorem dX5_followEntries_86 : decode cX5_followEntries 86 = .ok (.iload 5, 2) := by decide +kernel
theorem dX5_followEntries_88 : decode cX5_followEntries 88 = .ok (.bipush 9, 2) := by decide +kernel
theorem dX5_followEntries_90 : decode cX5_followEntries 90 = .ok (.iload 6, 2) := by decide +kernel
theorem dX5_followEntries_92 : decode cX5_followEntries 92 = .ok (.iadd, 1) := by decide +kernel
theorem dX5_followEntries_93 : decode cX5_followEntries 93 = .ok (.invokevirtual 39, 3) := by decide +kernel
theorem dX5_followEntries_96 : decode cX5_followEntries 96 = .ok (.istore 8, 2) := by decide +kernel
theorem dX5_followEntries_98 : decode cX5_followEntries 98 = .ok (.aload_n 0, 1) := by decide +kernel
theorem dX5_followEntries_99 : decode cX5_followEntries 99 = .ok (.getfield 17, 3) := by decide +kernel
theorem dX5_followEntries_102 : decode cX5_followEntries 102 = .ok (.iload 7, 2) := by decide +kernel
theorem dX5_followEntries_104 : decode cX5_followEntries 104 = .ok (.iaload, 1) := by decide +kernel
theorem dX5_followEntries_105 : decode cX5_followEntries 105 = .ok (.bipush (-9), 2) := by decide +kernel
theorem dX5_followEntries_107 : decode cX5_followEntries 107 = .ok (.if_icmp .eq 42, 3) := by decide +kernel
theorem dX5_followEntries_110 : decode cX5_followEntries 110 = .ok (.aload_n 0, 1) := by decide +kernel
theorem dX5_followEntries_111 : decode cX5_followEntries 111 = .ok (.getfield 17, 3) := by decide +kernel
theorem dX5_followEntries_114 : decode cX5_followEntries 114 = .ok (.iload 7, 2) := by decide +kernel
theorem dX5_followEntries_116 : decode cX5_followEntries 116 = .ok (.iaload, 1) := by decide +kernel
theorem dX5_followEntries_117 : decode cX5_followEntries 117 = .ok (.iload_n 1, 1) := by decide +kernel
theorem dX5_followEntries_118 : decode cX5_followEntries 118 = .ok (.if_icmp .ge 31, 3) := by decide +kernel
theorem dX5_followEntries_121 : decode cX5_followEntries 121 = .ok (.aload_n 0, 1) := by decide +kernel
theorem dX5_followEntries_122 : decode cX5_followEntries 122 = .ok (.getfield 17, 3) := by decide +kernel
theorem dX5_followEntries_125 : decode cX5_followEntries 125 = .ok (.iload 8, 2) := by decide +kernel
theorem dX5_followEntries_127 : decode cX5_followEntries 127 = .ok (.iaload, 1) := by decide +kernel
theorem dX5_followEntries_128 : decode cX5_followEntries 128 = .ok (.bipush (-9), 2) := by decide +kernel
theorem dX5_followEntries_130 : decode cX5_followEntries 130 = .ok (.if_icmp .ne 19, 3) := by decide +kernel
theorem dX5_followEntries_133 : decode cX5_followEntries 133 = .ok (.iload 8, 2) := by decide +kernel
theorem dX5_followEntries_135 : decode cX5_followEntries 135 = .ok (.iload_n 2, 1) := by decide +kernel
theorem dX5_followEntries_136 : decode cX5_followEntries 136 = .ok (.if_icmp .eq 13, 3) := by decide +kernel
theorem dX5_followEntries_139 : decode cX5_followEntries 139 = .ok (.aload_n 0, 1) := by decide +kernel
theorem dX5_followEntries_140 : decode cX5_followEntries 140 = .ok (.getfield 17, 3) := by decide +kernel
theorem dX5_followEntries_143 : decode cX5_followEntries 143 = .ok (.iload 8, 2) := by decide +kernel
theorem dX5_followEntries_145 : decode cX5_followEntries 145 = .ok (.iload_n 1, 1) := by decide +kernel
theorem dX5_followEntries_146 : decode cX5_followEntries 146 = .ok (.iastore, 1) := by decide +kernel
theorem dX5_followEntries_147 : decode cX5_followEntries 147 = .ok (.iconst 1, 1) := by decide +kernel
theorem dX5_followEntries_148 : decode cX5_followEntries 148 = .ok (.istore_n 3, 1) := by decide +kernel
theorem dX5_followEntries_149 : decode cX5_followEntries 149 = .ok (.iinc 4 1, 3) := by decide +kernel
theorem dX5_followEntries_152 : decode cX5_followEntries 152 = .ok (.goto (-147), 3) := by decide +kernel
theorem dX5_followEntries_155 : decode cX5_followEntries 155 = .ok (.iload_n 3, 1) := by decide +kernel
theorem dX5_followEntries_156 : decode cX5_followEntries 156 = .ok (.ireturn, 1) := by decide +kernel
set_option maxRecDepth 20000 in
theorem ggX5_marks_X5_followFields : GoodIn wsX5_marks wsX5_followFields := goodIn_r _ [7, 1, 8, 9, 10, 6, 11, 12, 17, 18, 19, 20, 21] (by decide +kernel) (by decide +kernel)
set_option maxRecDepth 20000 in
theorem gX5_marks_X5_followFields : GoodIn wsX5_marks (wsV RX5 66 RX5 yX5_followFields wsX5_followFields) := goodIn_app (goodIn_of _ (by decide +kernel)) ggX5_marks_X5_followFields
set_option maxRecDepth 20000 in
theorem ggX5_marks_X5_followEntries : GoodIn wsX5_marks wsX5_followEntries := goodIn_r _ [16, 1, 8, 9, 10, 6, 11, 12, 17, 18, 19, 20, 21] (by decide +kernel) (by decide +kernel)
set_option maxRecDepth 20000 in
theorem gX5_marks_X5_followEntries : GoodIn wsX5_marks (wsV RX5 69 RX5 yX5_followEntries wsX5_followEntries) := goodIn_app (goodIn_of _ (by decide +kernel)) ggX5_marks_X5_followEntries
theorem dX5_marks_0 : decode cX5_marks 0 = .ok (.iconst 0, 1) := by decide +kernel
theorem dX5_marks_1 : decode cX5_marks 1 = .ok (.istore_n 2, 1) := by decide +kernel
theorem dX5_marks_2 : decode cX5_marks 2 = .ok (.iload_n 2, 1) := by decide +kernel
theorem dX5_marks_3 : decode cX5_marks 3 = .ok (.bipush 24, 2) := by decide +kernel
theorem dX5_marks_5 : decode cX5_marks 5 = .ok (.if_icmp .ge 35, 3) := by decide +kernel
theorem dX5_marks_8 : decode cX5_marks 8 = .ok (.aload_n 0, 1) := by decide +kernel
theorem dX5_marks_9 : decode cX5_marks 9 = .ok (.getfield 17, 3) := by decide +kernel
theorem dX5_marks_12 : decode cX5_marks 12 = .ok (.iload_n 2, 1) := by decide +kernel
theorem dX5_marks_13 : decode cX5_marks 13 = .ok (.aload_n 0, 1) := by decide +kernel
theorem dX5_marks_14 : decode cX5_marks 14 = .ok (.getfield 20, 3) := by decide +kernel
theorem dX5_marks_17 : decode cX5_marks 17 = .ok (.iload_n 2, 1) := by decide +kernel
theorem dX5_marks_18 : decode cX5_marks 18 = .ok (.baload, 1) := by decide +kernel
theorem dX5_marks_19 : decode cX5_marks 19 = .ok (.ifCond .eq 12, 3) := by decide +kernel
theorem dX5_marks_22 : decode cX5_marks 22 = .ok (.iload_n 2, 1) := by decide +kernel
theorem dX5_marks_23 : decode cX5_marks 23 = .ok (.iload_n 1, 1) := by decide +kernel
theorem dX5_marks_24 : decode cX5_marks 24 = .ok (.if_icmp .eq 7, 3) := by decide +kernel
theorem dX5_marks_27 : decode cX5_marks 27 = .ok (.iconst 0, 1) := by decide +kernel
theorem dX5_marks_28 : decode cX5_marks 28 = .ok (.goto 5, 3) := by decide +kernel
theorem dX5_marks_31 : decode cX5_marks 31 = .ok (.bipush (-9), 2) := by decide +kernel
theorem dX5_marks_33 : decode cX5_marks 33 = .ok (.iastore, 1) := by decide +kernel
theorem dX5_marks_34 : decode cX5_marks 34 = .ok (.iinc 2 1, 3) := by decide +kernel
theorem dX5_marks_37 : decode cX5_marks 37 = .ok (.goto (-35), 3) := by decide +kernel
theorem dX5_marks_40 : decode cX5_marks 40 = .ok (.aload_n 0, 1) := by decide +kernel
theorem dX5_marks_41 : decode cX5_marks 41 = .ok (.iconst 0, 1) := by decide +kernel
theorem dX5_marks_42 : decode cX5_marks 42 = .ok (.iload_n 1, 1) := by decide +kernel
theorem dX5_marks_43 : decode cX5_marks 43 = .ok (.invokevirtual 66, 3) := by decide +kernel
theorem dX5_marks_46 : decode cX5_marks 46 = .ok (.iconst 1, 1) := by decide +kernel
theorem dX5_marks_47 : decode cX5_marks 47 = .ok (.istore_n 2, 1) := by decide +kernel
theorem dX5_marks_48 : decode cX5_marks 48 = .ok (.aload_n 0, 1) := by decide +kernel
theorem dX5_marks_49 : decode cX5_marks 49 = .ok (.iload_n 2, 1) := by decide +kernel
theorem dX5_marks_50 : decode cX5_marks 50 = .ok (.iload_n 1, 1) := by decide +kernel
theorem dX5_marks_51 : decode cX5_marks 51 = .ok (.invokevirtual 69, 3) := by decide +kernel
theorem dX5_marks_54 : decode cX5_marks 54 = .ok (.ifCond .eq 15, 3) := by decide +kernel
theorem dX5_marks_57 : decode cX5_marks 57 = .ok (.aload_n 0, 1) := by decide +kernel
theorem dX5_marks_58 : decode cX5_marks 58 = .ok (.iload_n 2, 1) := by decide +kernel
theorem dX5_marks_59 : decode cX5_marks 59 = .ok (.iload_n 1, 1) := by decide +kernel
theorem dX5_marks_60 : decode cX5_marks 60 = .ok (.invokevirtual 66, 3) := by decide +kernel
theorem dX5_marks_63 : decode cX5_marks 63 = .ok (.iinc 2 1, 3) := by decide +kernel
theorem dX5_marks_66 : decode cX5_marks 66 = .ok (.goto (-18), 3) := by decide +kernel
theorem dX5_marks_69 : decode cX5_marks 69 = .ok (.iload_n 2, 1) := by decide +kernel
theorem dX5_marks_70 : decode cX5_marks 70 = .ok (.iconst 1, 1) := by decide +kernel
theorem dX5_marks_71 : decode cX5_marks 71 = .ok (.isub, 1) := by decide +kernel
theorem dX5_marks_72 : decode cX5_marks 72 = .ok (.ireturn, 1) := by decide +kernel
theorem dX5_marked_0 : decode cX5_marked 0 = .ok (.iconst 0, 1) := by decide +kernel
theorem dX5_marked_1 : decode cX5_marked 1 = .ok (.istore_n 1, 1) := by decide +kernel
theorem dX5_marked_2 : decode cX5_marked 2 = .ok (.iconst 0, 1) := by decide +kernel
theorem dX5_marked_3 : decode cX5_marked 3 = .ok (.istore_n 2, 1) := by decide +kernel
theorem dX5_marked_4 : decode cX5_marked 4 = .ok (.iload_n 2, 1) := by decide +kernel
theorem dX5_marked_5 : decode cX5_marked 5 = .ok (.bipush 24, 2) := by decide +kernel
theorem dX5_marked_7 : decode cX5_marked 7 = .ok (.if_icmp .ge 28, 3) := by decide +kernel
theorem dX5_marked_10 : decode cX5_marked 10 = .ok (.iload_n 1, 1) := by decide +kernel
theorem dX5_marked_11 : decode cX5_marked 11 = .ok (.aload_n 0, 1) := by decide +kernel
theorem dX5_marked_12 : decode cX5_marked 12 = .ok (.getfield 17, 3) := by decide +kernel
theorem dX5_marked_15 : decode cX5_marked 15 = .ok (.iload_n 2, 1) := by decide +kernel
theorem dX5_marked_16 : decode cX5_marked 16 = .ok (.iaload, 1) := by decide +kernel
theorem dX5_marked_17 : decode cX5_marked 17 = .ok (.bipush (-9), 2) := by decide +kernel
theorem dX5_marked_19 : decode cX5_marked 19 = .ok (.if_icmp .ne 7, 3) := by decide +kernel
theorem dX5_marked_22 : decode cX5_marked 22 = .ok (.iconst 0, 1) := by decide +kernel
theorem dX5_marked_23 : decode cX5_marked 23 = .ok (.goto 4, 3) := by decide +kernel
theorem dX5_marked_26 : decode cX5_marked 26 = .ok (.iconst 1, 1) := by decide +kernel
theorem dX5_marked_27 : decode cX5_marked 27 = .ok (.iadd, 1) := by decide +kernel
theorem dX5_marked_28 : decode cX5_marked 28 = .ok (.istore_n 1, 1) := by decide +kernel
theorem dX5_marked_29 : decode cX5_marked 29 = .ok (.iinc 2 1, 3) := by decide +kernel
theorem dX5_marked_32 : decode cX5_marked 32 = .ok (.goto (-28), 3) := by decide +kernel
theorem dX5_marked_35 : decode cX5_marked 35 = .ok (.iload_n 1, 1) := by decide +kernel
theorem dX5_marked_36 : decode cX5_marked 36 = .ok (.ireturn, 1) := by decide +kernel
set_option maxRecDepth 20000 in
theorem ggX5_markAll_X5_startAtRoots : GoodIn wsX5_markAll wsX5_startAtRoots := goodIn_r _ [5, 6, 7, 25, 26, 27, 28, 29] (by decide +kernel) (by decide +kernel)
set_option maxRecDepth 20000 in
theorem gX5_markAll_X5_startAtRoots : GoodIn wsX5_markAll (wsV RX5 72 RX5 yX5_startAtRoots wsX5_startAtRoots) := goodIn_app (goodIn_of _ (by decide +kernel)) ggX5_markAll_X5_startAtRoots
set_option maxRecDepth 20000 in
theorem ggX5_markAll_X5_marks : GoodIn wsX5_markAll wsX5_marks := goodIn_r _ [11, 12, 6, 13, 14, 15, 4, 16, 17, 18, 19, 20, 7, 21, 22, 23, 24, 25, 26, 27, 28, 29] (by decide +kernel) (by decide +kernel)
set_option maxRecDepth 20000 in
theorem gX5_markAll_X5_marks : GoodIn wsX5_markAll (wsV RX5 75 RX5 yX5_marks wsX5_marks) := goodIn_app (goodIn_of _ (by decide +kernel)) ggX5_markAll_X5_marks
theorem dX5_markAll_0 : decode cX5_markAll 0 = .ok (.aload_n 0, 1) := by decide +kernel
theorem dX5_markAll_1 : decode cX5_markAll 1 = .ok (.invokevirtual 72, 3) := by decide +kernel
theorem dX5_markAll_4 : decode cX5_markAll 4 = .ok (.aload_n 0, 1) := by decide +kernel
theorem dX5_markAll_5 : decode cX5_markAll 5 = .ok (.iload_n 1, 1) := by decide +kernel
theorem dX5_markAll_6 : decode cX5_markAll 6 = .ok (.invokevirtual 75, 3) := by decide +kernel
theorem dX5_markAll_9 : decode cX5_markAll 9 = .ok (.ireturn, 1) := by decide +kernel
set_option maxRecDepth 20000 in
theorem ggX5_notice_X5_takeNotice : GoodIn wsX5_notice wsX5_takeNotice := goodIn_r _ [6, 1, 7, 8, 9, 10, 11] (by decide +kernel) (by decide +kernel)
set_option maxRecDepth 20000 in
theorem gX5_notice_X5_takeNotice : GoodIn wsX5_notice (wsV RX5 79 RX5 yX5_takeNotice wsX5_takeNotice) := goodIn_app (goodIn_of _ (by decide +kernel)) ggX5_notice_X5_takeNotice
theorem dX5_notice_0 : decode cX5_notice 0 = .ok (.aload_n 0, 1) := by decide +kernel
theorem dX5_notice_1 : decode cX5_notice 1 = .ok (.getfield 7, 3) := by decide +kernel
theorem dX5_notice_4 : decode cX5_notice 4 = .ok (.sipush 366, 3) := by decide +kernel
theorem dX5_notice_7 : decode cX5_notice 7 = .ok (.iaload, 1) := by decide +kernel
theorem dX5_notice_8 : decode cX5_notice 8 = .ok (.bipush 20, 2) := by decide +kernel
theorem dX5_notice_10 : decode cX5_notice 10 = .ok (.if_icmp .ne 8, 3) := by decide +kernel
theorem dX5_notice_13 : decode cX5_notice 13 = .ok (.aload_n 0, 1) := by decide +kernel
theorem dX5_notice_14 : decode cX5_notice 14 = .ok (.invokevirtual 79, 3) := by decide +kernel
theorem dX5_notice_17 : decode cX5_notice 17 = .ok (.pop, 1) := by decide +kernel
theorem dX5_notice_18 : decode cX5_notice 18 = .ok (.aload_n 0, 1) := by decide +kernel
theorem dX5_notice_19 : decode cX5_notice 19 = .ok (.getfield 7, 3) := by decide +kernel
theorem dX5_notice_22 : decode cX5_notice 22 = .ok (.sipush 367, 3) := by decide +kernel
theorem dX5_notice_25 : decode cX5_notice 25 = .ok (.aload_n 0, 1) := by decide +kernel
theorem dX5_notice_26 : decode cX5_notice 26 = .ok (.getfield 7, 3) := by decide +kernel
theorem dX5_notice_29 : decode cX5_notice 29 = .ok (.sipush 366, 3) := by decide +kernel
theorem dX5_notice_32 : decode cX5_notice 32 = .ok (.iaload, 1) := by decide +kernel
theorem dX5_notice_33 : decode cX5_notice 33 = .ok (.iadd, 1) := by decide +kernel
theorem dX5_notice_34 : decode cX5_notice 34 = .ok (.iload_n 1, 1) := by decide +kernel
theorem dX5_notice_35 : decode cX5_notice 35 = .ok (.iastore, 1) := by decide +kernel
theorem dX5_notice_36 : decode cX5_notice 36 = .ok (.aload_n 0, 1) := by decide +kernel
theorem dX5_notice_37 : decode cX5_notice 37 = .ok (.getfield 7, 3) := by decide +kernel
theorem dX5_notice_40 : decode cX5_notice 40 = .ok (.sipush 366, 3) := by decide +kernel
theorem dX5_notice_43 : decode cX5_notice 43 = .ok (.dup2, 1) := by decide +kernel
theorem dX5_notice_44 : decode cX5_notice 44 = .ok (.iaload, 1) := by decide +kernel
theorem dX5_notice_45 : decode cX5_notice 45 = .ok (.iconst 1, 1) := by decide +kernel
theorem dX5_notice_46 : decode cX5_notice 46 = .ok (.iadd, 1) := by decide +kernel
theorem dX5_notice_47 : decode cX5_notice 47 = .ok (.iastore, 1) := by decide +kernel
theorem dX5_notice_48 : decode cX5_notice 48 = .ok (.return_, 1) := by decide +kernel
theorem dX5_takeNotice_0 : decode cX5_takeNotice 0 = .ok (.aload_n 0, 1) := by decide +kernel
theorem dX5_takeNotice_1 : decode cX5_takeNotice 1 = .ok (.getfield 7, 3) := by decide +kernel
theorem dX5_takeNotice_4 : decode cX5_takeNotice 4 = .ok (.sipush 367, 3) := by decide +kernel
theorem dX5_takeNotice_7 : decode cX5_takeNotice 7 = .ok (.iaload, 1) := by decide +kernel
theorem dX5_takeNotice_8 : decode cX5_takeNotice 8 = .ok (.istore_n 1, 1) := by decide +kernel
theorem dX5_takeNotice_9 : decode cX5_takeNotice 9 = .ok (.aload_n 0, 1) := by decide +kernel
theorem dX5_takeNotice_10 : decode cX5_takeNotice 10 = .ok (.getfield 7, 3) := by decide +kernel
theorem dX5_takeNotice_13 : decode cX5_takeNotice 13 = .ok (.sipush 366, 3) := by decide +kernel
theorem dX5_takeNotice_16 : decode cX5_takeNotice 16 = .ok (.dup2, 1) := by decide +kernel
theorem dX5_takeNotice_17 : decode cX5_takeNotice 17 = .ok (.iaload, 1) := by decide +kernel
theorem dX5_takeNotice_18 : decode cX5_takeNotice 18 = .ok (.iconst 1, 1) := by decide +kernel
theorem dX5_takeNotice_19 : decode cX5_takeNotice 19 = .ok (.isub, 1) := by decide +kernel
theorem dX5_takeNotice_20 : decode cX5_takeNotice 20 = .ok (.iastore, 1) := by decide +kernel
theorem dX5_takeNotice_21 : decode cX5_takeNotice 21 = .ok (.iconst 0, 1) := by decide +kernel
theorem dX5_takeNotice_22 : decode cX5_takeNotice 22 = .ok (.istore_n 2, 1) := by decide +kernel
theorem dX5_takeNotice_23 : decode cX5_takeNotice 23 = .ok (.iload_n 2, 1) := by decide +kernel
theorem dX5_takeNotice_24 : decode cX5_takeNotice 24 = .ok (.aload_n 0, 1) := by decide +kernel
theorem dX5_takeNotice_25 : decode cX5_takeNotice 25 = .ok (.getfield 7, 3) := by decide +kernel
theorem dX5_takeNotice_28 : decode cX5_takeNotice 28 = .ok (.sipush 366, 3) := by decide +kernel
theorem dX5_takeNotice_31 : decode cX5_takeNotice 31 = .ok (.iaload, 1) := by decide +kernel
theorem dX5_takeNotice_32 : decode cX5_takeNotice 32 = .ok (.if_icmp .ge 31, 3) := by decide +kernel
theorem dX5_takeNotice_35 : decode cX5_takeNotice 35 = .ok (.aload_n 0, 1) := by decide +kernel
theorem dX5_takeNotice_36 : decode cX5_takeNotice 36 = .ok (.getfield 7, 3) := by decide +kernel
theorem dX5_takeNotice_39 : decode cX5_takeNotice 39 = .ok (.sipush 367, 3) := by decide +kernel
theorem dX5_takeNotice_42 : decode cX5_takeNotice 42 = .ok (.iload_n 2, 1) := by decide +kernel
theorem dX5_takeNotice_43 : decode cX5_takeNotice 43 = .ok (.iadd, 1) := by decide +kernel
theorem dX5_takeNotice_44 : decode cX5_takeNotice 44 = .ok (.aload_n 0, 1) := by decide +kernel
theorem dX5_takeNotice_45 : decode cX5_takeNotice 45 = .ok (.getfield 7, 3) := by decide +kernel
theorem dX5_takeNotice_48 : decode cX5_takeNotice 48 = .ok (.sipush 367, 3) := by decide +kernel
theorem dX5_takeNotice_51 : decode cX5_takeNotice 51 = .ok (.iload_n 2, 1) := by decide +kernel
theorem dX5_takeNotice_52 : decode cX5_takeNotice 52 = .ok (.iadd, 1) := by decide +kernel
theorem dX5_takeNotice_53 : decode cX5_takeNotice 53 = .ok (.iconst 1, 1) := by decide +kernel
theorem dX5_takeNotice_54 : decode cX5_takeNotice 54 = .ok (.iadd, 1) := by decide +kernel
theorem dX5_takeNotice_55 : decode cX5_takeNotice 55 = .ok (.iaload, 1) := by decide +kernel
theorem dX5_takeNotice_56 : decode cX5_takeNotice 56 = .ok (.iastore, 1) := by decide +kernel
theorem dX5_takeNotice_57 : decode cX5_takeNotice 57 = .ok (.iinc 2 1, 3) := by decide +kernel
theorem dX5_takeNotice_60 : decode cX5_takeNotice 60 = .ok (.goto (-37), 3) := by decide +kernel
theorem dX5_takeNotice_63 : decode cX5_takeNotice 63 = .ok (.aload_n 0, 1) := by decide +kernel
theorem dX5_takeNotice_64 : decode cX5_takeNotice 64 = .ok (.getfield 7, 3) := by decide +kernel
theorem dX5_takeNotice_67 : decode cX5_takeNotice 67 = .ok (.sipush 367, 3) := by decide +kernel
theorem dX5_takeNotice_70 : decode cX5_takeNotice 70 = .ok (.aload_n 0, 1) := by decide +kernel
theorem dX5_takeNotice_71 : decode cX5_takeNotice 71 = .ok (.getfield 7, 3) := by decide +kernel
theorem dX5_takeNotice_74 : decode cX5_takeNotice 74 = .ok (.sipush 366, 3) := by decide +kernel
theorem dX5_takeNotice_77 : decode cX5_takeNotice 77 = .ok (.iaload, 1) := by decide +kernel
theorem dX5_takeNotice_78 : decode cX5_takeNotice 78 = .ok (.iadd, 1) := by decide +kernel
theorem dX5_takeNotice_79 : decode cX5_takeNotice 79 = .ok (.iconst 0, 1) := by decide +kernel
theorem dX5_takeNotice_80 : decode cX5_takeNotice 80 = .ok (.iastore, 1) := by decide +kernel
theorem dX5_takeNotice_81 : decode cX5_takeNotice 81 = .ok (.iload_n 1, 1) := by decide +kernel
theorem dX5_takeNotice_82 : decode cX5_takeNotice 82 = .ok (.ireturn, 1) := by decide +kernel
set_option maxRecDepth 20000 in
theorem ggX5_emptyWeak_X5_part : GoodIn wsX5_emptyWeak wsX5_part := goodIn_r _ [7, 2, 16, 17, 18, 19, 20] (by decide +kernel) (by decide +kernel)
set_option maxRecDepth 20000 in
theorem gX5_emptyWeak_X5_part : GoodIn wsX5_emptyWeak (wsV RX5 39 RX5 yX5_part wsX5_part) := goodIn_app (goodIn_of _ (by decide +kernel)) ggX5_emptyWeak_X5_part
set_option maxRecDepth 20000 in
theorem ggX5_emptyWeak_X5_notice : GoodIn wsX5_emptyWeak wsX5_notice := goodIn_r _ [11, 2, 12, 13, 14, 6, 15, 16, 17, 18, 19, 20] (by decide +kernel) (by decide +kernel)
set_option maxRecDepth 20000 in
theorem gX5_emptyWeak_X5_notice : GoodIn wsX5_emptyWeak (wsV RX5 82 RX5 yX5_notice wsX5_notice) := goodIn_app (goodIn_of _ (by decide +kernel)) ggX5_emptyWeak_X5_notice
theorem dX5_emptyWeak_0 : decode cX5_emptyWeak 0 = .ok (.iconst 0, 1) := by decide +kernel
theorem dX5_emptyWeak_1 : decode cX5_emptyWeak 1 = .ok (.istore_n 2, 1) := by decide +kernel
theorem dX5_emptyWeak_2 : decode cX5_emptyWeak 2 = .ok (.iload_n 2, 1) := by decide +kernel
theorem dX5_emptyWeak_3 : decode cX5_emptyWeak 3 = .ok (.bipush 24, 2) := by decide +kernel
theorem dX5_emptyWeak_5 : decode cX5_emptyWeak 5 = .ok (.if_icmp .ge 93, 3) := by decide +kernel
theorem dX5_emptyWeak_8 : decode cX5_emptyWeak 8 = .ok (.aload_n 0, 1) := by decide +kernel
theorem dX5_emptyWeak_9 : decode cX5_emptyWeak 9 = .ok (.getfield 17, 3) := by decide +kernel
theorem dX5_emptyWeak_12 : decode cX5_emptyWeak 12 = .ok (.iload_n 2, 1) := by decide +kernel
theorem dX5_emptyWeak_13 : decode cX5_emptyWeak 13 = .ok (.iaload, 1) := by decide +kernel
theorem dX5_emptyWeak_14 : decode cX5_emptyWeak 14 = .ok (.bipush (-9), 2) := by decide +kernel
theorem dX5_emptyWeak_16 : decode cX5_emptyWeak 16 = .ok (.if_icmp .eq 28, 3) := by decide +kernel
theorem dX5_emptyWeak_19 : decode cX5_emptyWeak 19 = .ok (.aload_n 0, 1) := by decide +kernel
theorem dX5_emptyWeak_20 : decode cX5_emptyWeak 20 = .ok (.iload_n 2, 1) := by decide +kernel
theorem dX5_emptyWeak_21 : decode cX5_emptyWeak 21 = .ok (.iconst 0, 1) := by decide +kernel
theorem dX5_emptyWeak_22 : decode cX5_emptyWeak 22 = .ok (.invokevirtual 39, 3) := by decide +kernel
theorem dX5_emptyWeak_25 : decode cX5_emptyWeak 25 = .ok (.iconst 2, 1) := by decide +kernel
theorem dX5_emptyWeak_26 : decode cX5_emptyWeak 26 = .ok (.if_icmp .ne 18, 3) := by decide +kernel
theorem dX5_emptyWeak_29 : decode cX5_emptyWeak 29 = .ok (.aload_n 0, 1) := by decide +kernel
theorem dX5_emptyWeak_30 : decode cX5_emptyWeak 30 = .ok (.iload_n 2, 1) := by decide +kernel
theorem dX5_emptyWeak_31 : decode cX5_emptyWeak 31 = .ok (.iconst 3, 1) := by decide +kernel
theorem dX5_emptyWeak_32 : decode cX5_emptyWeak 32 = .ok (.invokevirtual 39, 3) := by decide +kernel
theorem dX5_emptyWeak_35 : decode cX5_emptyWeak 35 = .ok (.bipush (-9), 2) := by decide +kernel
theorem dX5_emptyWeak_37 : decode cX5_emptyWeak 37 = .ok (.if_icmp .eq 7, 3) := by decide +kernel
theorem dX5_emptyWeak_40 : decode cX5_emptyWeak 40 = .ok (.iconst 1, 1) := by decide +kernel
theorem dX5_emptyWeak_41 : decode cX5_emptyWeak 41 = .ok (.goto 4, 3) := by decide +kernel
theorem dX5_emptyWeak_44 : decode cX5_emptyWeak 44 = .ok (.iconst 0, 1) := by decide +kernel
theorem dX5_emptyWeak_45 : decode cX5_emptyWeak 45 = .ok (.istore_n 3, 1) := by decide +kernel
theorem dX5_emptyWeak_46 : decode cX5_emptyWeak 46 = .ok (.iload_n 3, 1) := by decide +kernel
theorem dX5_emptyWeak_47 : decode cX5_emptyWeak 47 = .ok (.ifCond .eq 45, 3) := by decide +kernel
theorem dX5_emptyWeak_50 : decode cX5_emptyWeak 50 = .ok (.aload_n 0, 1) := by decide +kernel
theorem dX5_emptyWeak_51 : decode cX5_emptyWeak 51 = .ok (.getfield 17, 3) := by decide +kernel
theorem dX5_emptyWeak_54 : decode cX5_emptyWeak 54 = .ok (.aload_n 0, 1) := by decide +kernel
theorem dX5_emptyWeak_55 : decode cX5_emptyWeak 55 = .ok (.iload_n 2, 1) := by decide +kernel
theorem dX5_emptyWeak_56 : decode cX5_emptyWeak 56 = .ok (.iconst 3, 1) := by decide +kernel
theorem dX5_emptyWeak_57 : decode cX5_emptyWeak 57 = .ok (.invokevirtual 39, 3) := by decide +kernel
theorem dX5_emptyWeak_60 : decode cX5_emptyWeak 60 = .ok (.iaload, 1) := by decide +kernel
theorem dX5_emptyWeak_61 : decode cX5_emptyWeak 61 = .ok (.bipush (-9), 2) := by decide +kernel
theorem dX5_emptyWeak_63 : decode cX5_emptyWeak 63 = .ok (.if_icmp .ne 29, 3) := by decide +kernel
theorem dX5_emptyWeak_66 : decode cX5_emptyWeak 66 = .ok (.aload_n 0, 1) := by decide +kernel
theorem dX5_emptyWeak_67 : decode cX5_emptyWeak 67 = .ok (.getfield 7, 3) := by decide +kernel
theorem dX5_emptyWeak_70 : decode cX5_emptyWeak 70 = .ok (.bipush 15, 2) := by decide +kernel
theorem dX5_emptyWeak_72 : decode cX5_emptyWeak 72 = .ok (.iload_n 2, 1) := by decide +kernel
theorem dX5_emptyWeak_73 : decode cX5_emptyWeak 73 = .ok (.imul, 1) := by decide +kernel
theorem dX5_emptyWeak_74 : decode cX5_emptyWeak 74 = .ok (.iconst 3, 1) := by decide +kernel
theorem dX5_emptyWeak_75 : decode cX5_emptyWeak 75 = .ok (.iadd, 1) := by decide +kernel
theorem dX5_emptyWeak_76 : decode cX5_emptyWeak 76 = .ok (.bipush (-9), 2) := by decide +kernel
theorem dX5_emptyWeak_78 : decode cX5_emptyWeak 78 = .ok (.iastore, 1) := by decide +kernel
theorem dX5_emptyWeak_79 : decode cX5_emptyWeak 79 = .ok (.iload_n 1, 1) := by decide +kernel
theorem dX5_emptyWeak_80 : decode cX5_emptyWeak 80 = .ok (.ifCond .eq 12, 3) := by decide +kernel
theorem dX5_emptyWeak_83 : decode cX5_emptyWeak 83 = .ok (.aload_n 0, 1) := by decide +kernel
theorem dX5_emptyWeak_84 : decode cX5_emptyWeak 84 = .ok (.sipush 1000, 3) := by decide +kernel
theorem dX5_emptyWeak_87 : decode cX5_emptyWeak 87 = .ok (.iload_n 2, 1) := by decide +kernel
theorem dX5_emptyWeak_88 : decode cX5_emptyWeak 88 = .ok (.iadd, 1) := by decide +kernel
theorem dX5_emptyWeak_89 : decode cX5_emptyWeak 89 = .ok (.invokevirtual 82, 3) := by decide +kernel
theorem dX5_emptyWeak_92 : decode cX5_emptyWeak 92 = .ok (.iinc 2 1, 3) := by decide +kernel
theorem dX5_emptyWeak_95 : decode cX5_emptyWeak 95 = .ok (.goto (-93), 3) := by decide +kernel
theorem dX5_emptyWeak_98 : decode cX5_emptyWeak 98 = .ok (.return_, 1) := by decide +kernel
set_option maxRecDepth 20000 in
theorem ggX5_finalizeAll_X5_isAllocated : GoodIn wsX5_finalizeAll wsX5_isAllocated := goodIn_r _ [8, 9, 10, 7, 11, 12, 13, 14, 15, 2, 24, 25, 26, 27, 28] (by decide +kernel) (by decide +kernel)
set_option maxRecDepth 20000 in
theorem gX5_finalizeAll_X5_isAllocated : GoodIn wsX5_finalizeAll (wsV RX5 43 RX5 yX5_isAllocated wsX5_isAllocated) := goodIn_app (goodIn_of _ (by decide +kernel)) ggX5_finalizeAll_X5_isAllocated
set_option maxRecDepth 20000 in
theorem ggX5_finalizeAll_X5_part : GoodIn wsX5_finalizeAll wsX5_part := goodIn_r _ [15, 2, 24, 25, 26, 27, 28] (by decide +kernel) (by decide +kernel)
set_option maxRecDepth 20000 in
theorem gX5_finalizeAll_X5_part : GoodIn wsX5_finalizeAll (wsV RX5 39 RX5 yX5_part wsX5_part) := goodIn_app (goodIn_of _ (by decide +kernel)) ggX5_finalizeAll_X5_part
set_option maxRecDepth 20000 in
theorem ggX5_finalizeAll_X5_notice : GoodIn wsX5_finalizeAll wsX5_notice := goodIn_r _ [19, 2, 20, 21, 22, 7, 23, 24, 25, 26, 27, 28] (by decide +kernel) (by decide +kernel)
set_option maxRecDepth 20000 in
theorem gX5_finalizeAll_X5_notice : GoodIn wsX5_finalizeAll (wsV RX5 82 RX5 yX5_notice wsX5_notice) := goodIn_app (goodIn_of _ (by decide +kernel)) ggX5_finalizeAll_X5_notice
theorem dX5_finalizeAll_0 : decode cX5_finalizeAll 0 = .ok (.iconst 0, 1) := by decide +kernel
theorem dX5_finalizeAll_1 : decode cX5_finalizeAll 1 = .ok (.istore_n 1, 1) := by decide +kernel
theorem dX5_finalizeAll_2 : decode cX5_finalizeAll 2 = .ok (.iload_n 1, 1) := by decide +kernel
theorem dX5_finalizeAll_3 : decode cX5_finalizeAll 3 = .ok (.bipush 24, 2) := by decide +kernel
theorem dX5_finalizeAll_5 : decode cX5_finalizeAll 5 = .ok (.if_icmp .ge 66, 3) := by decide +kernel
theorem dX5_finalizeAll_8 : decode cX5_finalizeAll 8 = .ok (.aload_n 0, 1) := by decide +kernel
theorem dX5_finalizeAll_9 : decode cX5_finalizeAll 9 = .ok (.getfield 17, 3) := by decide +kernel
theorem dX5_finalizeAll_12 : decode cX5_finalizeAll 12 = .ok (.iload_n 1, 1) := by decide +kernel
theorem dX5_finalizeAll_13 : decode cX5_finalizeAll 13 = .ok (.iaload, 1) := by decide +kernel
theorem dX5_finalizeAll_14 : decode cX5_finalizeAll 14 = .ok (.bipush (-9), 2) := by decide +kernel
theorem dX5_finalizeAll_16 : decode cX5_finalizeAll 16 = .ok (.if_icmp .ne 49, 3) := by decide +kernel
theorem dX5_finalizeAll_19 : decode cX5_finalizeAll 19 = .ok (.aload_n 0, 1) := by decide +kernel
theorem dX5_finalizeAll_20 : decode cX5_finalizeAll 20 = .ok (.iload_n 1, 1) := by decide +kernel
theorem dX5_finalizeAll_21 : decode cX5_finalizeAll 21 = .ok (.invokevirtual 43, 3) := by decide +kernel
theorem dX5_finalizeAll_24 : decode cX5_finalizeAll 24 = .ok (.ifCond .eq 41, 3) := by decide +kernel
theorem dX5_finalizeAll_27 : decode cX5_finalizeAll 27 = .ok (.aload_n 0, 1) := by decide +kernel
theorem dX5_finalizeAll_28 : decode cX5_finalizeAll 28 = .ok (.iload_n 1, 1) := by decide +kernel
theorem dX5_finalizeAll_29 : decode cX5_finalizeAll 29 = .ok (.iconst 1, 1) := by decide +kernel
theorem dX5_finalizeAll_30 : decode cX5_finalizeAll 30 = .ok (.invokevirtual 39, 3) := by decide +kernel
theorem dX5_finalizeAll_33 : decode cX5_finalizeAll 33 = .ok (.iconst 1, 1) := by decide +kernel
theorem dX5_finalizeAll_34 : decode cX5_finalizeAll 34 = .ok (.if_icmp .ne 31, 3) := by decide +kernel
theorem dX5_finalizeAll_37 : decode cX5_finalizeAll 37 = .ok (.aload_n 0, 1) := by decide +kernel
theorem dX5_finalizeAll_38 : decode cX5_finalizeAll 38 = .ok (.sipush 3000, 3) := by decide +kernel
theorem dX5_finalizeAll_41 : decode cX5_finalizeAll 41 = .ok (.iload_n 1, 1) := by decide +kernel
theorem dX5_finalizeAll_42 : decode cX5_finalizeAll 42 = .ok (.iadd, 1) := by decide +kernel
theorem dX5_finalizeAll_43 : decode cX5_finalizeAll 43 = .ok (.invokevirtual 82, 3) := by decide +kernel
theorem dX5_finalizeAll_46 : decode cX5_finalizeAll 46 = .ok (.aload_n 0, 1) := by decide +kernel
theorem dX5_finalizeAll_47 : decode cX5_finalizeAll 47 = .ok (.getfield 7, 3) := by decide +kernel
theorem dX5_finalizeAll_50 : decode cX5_finalizeAll 50 = .ok (.bipush 15, 2) := by decide +kernel
theorem dX5_finalizeAll_52 : decode cX5_finalizeAll 52 = .ok (.iload_n 1, 1) := by decide +kernel
theorem dX5_finalizeAll_53 : decode cX5_finalizeAll 53 = .ok (.imul, 1) := by decide +kernel
theorem dX5_finalizeAll_54 : decode cX5_finalizeAll 54 = .ok (.iconst 1, 1) := by decide +kernel
theorem dX5_finalizeAll_55 : decode cX5_finalizeAll 55 = .ok (.iadd, 1) := by decide +kernel
theorem dX5_finalizeAll_56 : decode cX5_finalizeAll 56 = .ok (.iconst 0, 1) := by decide +kernel
theorem dX5_finalizeAll_57 : decode cX5_finalizeAll 57 = .ok (.iastore, 1) := by decide +kernel
theorem dX5_finalizeAll_58 : decode cX5_finalizeAll 58 = .ok (.aload_n 0, 1) := by decide +kernel
theorem dX5_finalizeAll_59 : decode cX5_finalizeAll 59 = .ok (.getfield 20, 3) := by decide +kernel
theorem dX5_finalizeAll_62 : decode cX5_finalizeAll 62 = .ok (.iload_n 1, 1) := by decide +kernel
theorem dX5_finalizeAll_63 : decode cX5_finalizeAll 63 = .ok (.iconst 1, 1) := by decide +kernel
theorem dX5_finalizeAll_64 : decode cX5_finalizeAll 64 = .ok (.bastore, 1) := by decide +kernel
theorem dX5_finalizeAll_65 : decode cX5_finalizeAll 65 = .ok (.iinc 1 1, 3) := by decide +kernel
theorem dX5_finalizeAll_68 : decode cX5_finalizeAll 68 = .ok (.goto (-66), 3) := by decide +kernel
theorem dX5_finalizeAll_71 : decode cX5_finalizeAll 71 = .ok (.return_, 1) := by decide +kernel
set_option maxRecDepth 20000 in
theorem ggX5_dropEntries_X5_part : GoodIn wsX5_dropEntries wsX5_part := goodIn_r _ [6, 7, 20, 21, 22, 23, 24] (by decide +kernel) (by decide +kernel)
set_option maxRecDepth 20000 in
theorem gX5_dropEntries_X5_part : GoodIn wsX5_dropEntries (wsV RX5 39 RX5 yX5_part wsX5_part) := goodIn_app (goodIn_of _ (by decide +kernel)) ggX5_dropEntries_X5_part
set_option maxRecDepth 20000 in
theorem ggX5_dropEntries_X5_notice : GoodIn wsX5_dropEntries wsX5_notice := goodIn_r _ [11, 7, 12, 13, 14, 5, 15, 20, 21, 22, 23, 24] (by decide +kernel) (by decide +kernel)
set_option maxRecDepth 20000 in
theorem gX5_dropEntries_X5_notice : GoodIn wsX5_dropEntries (wsV RX5 82 RX5 yX5_notice wsX5_notice) := goodIn_app (goodIn_of _ (by decide +kernel)) ggX5_dropEntries_X5_notice
set_option maxRecDepth 20000 in
theorem ggX5_dropEntries_X5_removeAt : GoodIn wsX5_dropEntries wsX5_removeAt := goodIn_r _ [19, 7, 2, 3, 4, 5, 6, 20, 21, 22, 23, 24] (by decide +kernel) (by decide +kernel)
set_option maxRecDepth 20000 in
theorem gX5_dropEntries_X5_removeAt : GoodIn wsX5_dropEntries (wsV RX5 63 RX5 yX5_removeAt wsX5_removeAt) := goodIn_app (goodIn_of _ (by decide +kernel)) ggX5_dropEntries_X5_removeAt
theorem dX5_dropEntries_0 : decode cX5_dropEntries 0 = .ok (.iconst 0, 1) := by decide +kernel
theorem dX5_dropEntries_1 : decode cX5_dropEntries 1 = .ok (.istore_n 1, 1) := by decide +kernel
theorem dX5_dropEntries_2 : decode cX5_dropEntries 2 = .ok (.iload_n 1, 1) := by decide +kernel
theorem dX5_dropEntries_3 : decode cX5_dropEntries 3 = .ok (.bipush 24, 2) := by decide +kernel
theorem dX5_dropEntries_5 : decode cX5_dropEntries 5 = .ok (.if_icmp .ge 91, 3) := by decide +kernel
theorem dX5_dropEntries_8 : decode cX5_dropEntries 8 = .ok (.aload_n 0, 1) := by decide +kernel
theorem dX5_dropEntries_9 : decode cX5_dropEntries 9 = .ok (.getfield 17, 3) := by decide +kernel
theorem dX5_dropEntries_12 : decode cX5_dropEntries 12 = .ok (.iload_n 1, 1) := by decide +kernel
theorem dX5_dropEntries_13 : decode cX5_dropEntries 13 = .ok (.iaload, 1) := by decide +kernel
theorem dX5_dropEntries_14 : decode cX5_dropEntries 14 = .ok (.bipush (-9), 2) := by decide +kernel
theorem dX5_dropEntries_16 : decode cX5_dropEntries 16 = .ok (.if_icmp .eq 74, 3) := by decide +kernel
theorem dX5_dropEntries_19 : decode cX5_dropEntries 19 = .ok (.aload_n 0, 1) := by decide +kernel
theorem dX5_dropEntries_20 : decode cX5_dropEntries 20 = .ok (.iload_n 1, 1) := by decide +kernel
theorem dX5_dropEntries_21 : decode cX5_dropEntries 21 = .ok (.iconst 0, 1) := by decide +kernel
theorem dX5_dropEntries_22 : decode cX5_dropEntries 22 = .ok (.invokevirtual 39, 3) := by decide +kernel
theorem dX5_dropEntries_25 : decode cX5_dropEntries 25 = .ok (.iconst 1, 1) := by decide +kernel
theorem dX5_dropEntries_26 : decode cX5_dropEntries 26 = .ok (.if_icmp .ne 64, 3) := by decide +kernel
theorem dX5_dropEntries_29 : decode cX5_dropEntries 29 = .ok (.iconst 0, 1) := by decide +kernel
theorem dX5_dropEntries_30 : decode cX5_dropEntries 30 = .ok (.istore_n 2, 1) := by decide +kernel
theorem dX5_dropEntries_31 : decode cX5_dropEntries 31 = .ok (.iload_n 2, 1) := by decide +kernel
theorem dX5_dropEntries_32 : decode cX5_dropEntries 32 = .ok (.aload_n 0, 1) := by decide +kernel
theorem dX5_dropEntries_33 : decode cX5_dropEntries 33 = .ok (.iload_n 1, 1) := by decide +kernel
theorem dX5_dropEntries_34 : decode cX5_dropEntries 34 = .ok (.iconst 2, 1) := by decide +kernel
theorem dX5_dropEntries_35 : decode cX5_dropEntries 35 = .ok (.invokevirtual 39, 3) := by decide +kernel
theorem dX5_dropEntries_38 : decode cX5_dropEntries 38 = .ok (.if_icmp .ge 52, 3) := by decide +kernel
theorem dX5_dropEntries_41 : decode cX5_dropEntries 41 = .ok (.aload_n 0, 1) := by decide +kernel
theorem dX5_dropEntries_42 : decode cX5_dropEntries 42 = .ok (.iload_n 1, 1) := by decide +kernel
theorem dX5_dropEntries_43 : decode cX5_dropEntries 43 = .ok (.iconst 3, 1) := by decide +kernel
theorem dX5_dropEntries_44 : decode cX5_dropEntries 44 = .ok (.iload_n 2, 1) := by decide +kernel
theorem dX5_dropEntries_45 : decode cX5_dropEntries 45 = .ok (.iadd, 1) := by decide +kernel
theorem dX5_dropEntries_46 : decode cX5_dropEntries 46 = .ok (.invokevirtual 39, 3) := by decide +kernel
theorem dX5_dropEntries_49 : decode cX5_dropEntries 49 = .ok (.istore_n 3, 1) := by decide +kernel
theorem dX5_dropEntries_50 : decode cX5_dropEntries 50 = .ok (.aload_n 0, 1) := by decide +kernel
theorem dX5_dropEntries_51 : decode cX5_dropEntries 51 = .ok (.getfield 17, 3) := by decide +kernel
theorem dX5_dropEntries_54 : decode cX5_dropEntries 54 = .ok (.iload_n 3, 1) := by decide +kernel
theorem dX5_dropEntries_55 : decode cX5_dropEntries 55 = .ok (.iaload, 1) := by decide +kernel
theorem dX5_dropEntries_56 : decode cX5_dropEntries 56 = .ok (.bipush (-9), 2) := by decide +kernel
theorem dX5_dropEntries_58 : decode cX5_dropEntries 58 = .ok (.if_icmp .ne 26, 3) := by decide +kernel
theorem dX5_dropEntries_61 : decode cX5_dropEntries 61 = .ok (.aload_n 0, 1) := by decide +kernel
theorem dX5_dropEntries_62 : decode cX5_dropEntries 62 = .ok (.sipush 2000, 3) := by decide +kernel
theorem dX5_dropEntries_65 : decode cX5_dropEntries 65 = .ok (.bipush 32, 2) := by decide +kernel
theorem dX5_dropEntries_67 : decode cX5_dropEntries 67 = .ok (.iload_n 1, 1) := by decide +kernel
theorem dX5_dropEntries_68 : decode cX5_dropEntries 68 = .ok (.imul, 1) := by decide +kernel
theorem dX5_dropEntries_69 : decode cX5_dropEntries 69 = .ok (.iadd, 1) := by decide +kernel
theorem dX5_dropEntries_70 : decode cX5_dropEntries 70 = .ok (.iload_n 3, 1) := by decide +kernel
theorem dX5_dropEntries_71 : decode cX5_dropEntries 71 = .ok (.iadd, 1) := by decide +kernel
theorem dX5_dropEntries_72 : decode cX5_dropEntries 72 = .ok (.invokevirtual 82, 3) := by decide +kernel
theorem dX5_dropEntries_75 : decode cX5_dropEntries 75 = .ok (.aload_n 0, 1) := by decide +kernel
theorem dX5_dropEntries_76 : decode cX5_dropEntries 76 = .ok (.iload_n 1, 1) := by decide +kernel
theorem dX5_dropEntries_77 : decode cX5_dropEntries 77 = .ok (.iload_n 2, 1) := by decide +kernel
theorem dX5_dropEntries_78 : decode cX5_dropEntries 78 = .ok (.invokevirtual 63, 3) := by decide +kernel
theorem dX5_dropEntries_81 : decode cX5_dropEntries 81 = .ok (.goto 6, 3) := by decide +kernel
theorem dX5_dropEntries_84 : decode cX5_dropEntries 84 = .ok (.iinc 2 1, 3) := by decide +kernel
theorem dX5_dropEntries_87 : decode cX5_dropEntries 87 = .ok (.goto (-56), 3) := by decide +kernel
theorem dX5_dropEntries_90 : decode cX5_dropEntries 90 = .ok (.iinc 1 1, 3) := by decide +kernel
theorem dX5_dropEntries_93 : decode cX5_dropEntries 93 = .ok (.goto (-91), 3) := by decide +kernel
theorem dX5_dropEntries_96 : decode cX5_dropEntries 96 = .ok (.return_, 1) := by decide +kernel
set_option maxRecDepth 20000 in
theorem ggX5_free_X5_isAllocated : GoodIn wsX5_free wsX5_isAllocated := goodIn_r _ [7, 8, 9, 6, 10, 11, 12, 13, 14, 2, 15, 16, 17, 18, 19] (by decide +kernel) (by decide +kernel)
set_option maxRecDepth 20000 in
theorem gX5_free_X5_isAllocated : GoodIn wsX5_free (wsV RX5 43 RX5 yX5_isAllocated wsX5_isAllocated) := goodIn_app (goodIn_of _ (by decide +kernel)) ggX5_free_X5_isAllocated
theorem dX5_free_0 : decode cX5_free 0 = .ok (.iconst 0, 1) := by decide +kernel
theorem dX5_free_1 : decode cX5_free 1 = .ok (.istore_n 1, 1) := by decide +kernel
theorem dX5_free_2 : decode cX5_free 2 = .ok (.iconst 0, 1) := by decide +kernel
theorem dX5_free_3 : decode cX5_free 3 = .ok (.istore_n 2, 1) := by decide +kernel
theorem dX5_free_4 : decode cX5_free 4 = .ok (.iload_n 2, 1) := by decide +kernel
theorem dX5_free_5 : decode cX5_free 5 = .ok (.bipush 24, 2) := by decide +kernel
theorem dX5_free_7 : decode cX5_free 7 = .ok (.if_icmp .ge 56, 3) := by decide +kernel
theorem dX5_free_10 : decode cX5_free 10 = .ok (.aload_n 0, 1) := by decide +kernel
theorem dX5_free_11 : decode cX5_free 11 = .ok (.iload_n 2, 1) := by decide +kernel
theorem dX5_free_12 : decode cX5_free 12 = .ok (.invokevirtual 43, 3) := by decide +kernel
theorem dX5_free_15 : decode cX5_free 15 = .ok (.ifCond .eq 42, 3) := by decide +kernel
theorem dX5_free_18 : decode cX5_free 18 = .ok (.aload_n 0, 1) := by decide +kernel
theorem dX5_free_19 : decode cX5_free 19 = .ok (.getfield 17, 3) := by decide +kernel
theorem dX5_free_22 : decode cX5_free 22 = .ok (.iload_n 2, 1) := by decide +kernel
theorem dX5_free_23 : decode cX5_free 23 = .ok (.iaload, 1) := by decide +kernel
theorem dX5_free_24 : decode cX5_free 24 = .ok (.bipush (-9), 2) := by decide +kernel
theorem dX5_free_26 : decode cX5_free 26 = .ok (.if_icmp .ne 31, 3) := by decide +kernel
theorem dX5_free_29 : decode cX5_free 29 = .ok (.aload_n 0, 1) := by decide +kernel
theorem dX5_free_30 : decode cX5_free 30 = .ok (.getfield 7, 3) := by decide +kernel
theorem dX5_free_33 : decode cX5_free 33 = .ok (.bipush 15, 2) := by decide +kernel
theorem dX5_free_35 : decode cX5_free 35 = .ok (.iload_n 2, 1) := by decide +kernel
theorem dX5_free_36 : decode cX5_free 36 = .ok (.imul, 1) := by decide +kernel
theorem dX5_free_37 : decode cX5_free 37 = .ok (.iconst 0, 1) := by decide +kernel
theorem dX5_free_38 : decode cX5_free 38 = .ok (.iadd, 1) := by decide +kernel
theorem dX5_free_39 : decode cX5_free 39 = .ok (.bipush (-9), 2) := by decide +kernel
theorem dX5_free_41 : decode cX5_free 41 = .ok (.iastore, 1) := by decide +kernel
theorem dX5_free_42 : decode cX5_free 42 = .ok (.aload_n 0, 1) := by decide +kernel
theorem dX5_free_43 : decode cX5_free 43 = .ok (.getfield 7, 3) := by decide +kernel
theorem dX5_free_46 : decode cX5_free 46 = .ok (.bipush 15, 2) := by decide +kernel
theorem dX5_free_48 : decode cX5_free 48 = .ok (.iload_n 2, 1) := by decide +kernel
theorem dX5_free_49 : decode cX5_free 49 = .ok (.imul, 1) := by decide +kernel
theorem dX5_free_50 : decode cX5_free 50 = .ok (.iconst 1, 1) := by decide +kernel
theorem dX5_free_51 : decode cX5_free 51 = .ok (.iadd, 1) := by decide +kernel
theorem dX5_free_52 : decode cX5_free 52 = .ok (.iconst 0, 1) := by decide +kernel
theorem dX5_free_53 : decode cX5_free 53 = .ok (.iastore, 1) := by decide +kernel
theorem dX5_free_54 : decode cX5_free 54 = .ok (.iinc 1 1, 3) := by decide +kernel
theorem dX5_free_57 : decode cX5_free 57 = .ok (.iinc 2 1, 3) := by decide +kernel
theorem dX5_free_60 : decode cX5_free 60 = .ok (.goto (-56), 3) := by decide +kernel
theorem dX5_free_63 : decode cX5_free 63 = .ok (.iload_n 1, 1) := by decide +kernel
theorem dX5_free_64 : decode cX5_free 64 = .ok (.ireturn, 1) := by decide +kernel
set_option maxRecDepth 20000 in
theorem ggX5_collectNow_X5_markAll : GoodIn wsX5_collectNow wsX5_markAll := goodIn_r _ [6, 7, 8, 9, 5, 10, 11, 1, 12, 13, 14, 15, 16, 17, 18, 19, 20, 21, 22, 23, 24, 25, 26, 27, 28, 64, 65, 66, 67, 68] (by decide +kernel) (by decide +kernel)
set_option maxRecDepth 20000 in
theorem gX5_collectNow_X5_markAll : GoodIn wsX5_collectNow (wsV RX5 86 RX5 yX5_markAll wsX5_markAll) := goodIn_app (goodIn_of _ (by decide +kernel)) ggX5_collectNow_X5_markAll
set_option maxRecDepth 20000 in
theorem ggX5_collectNow_X5_emptyWeak : GoodIn wsX5_collectNow wsX5_emptyWeak := goodIn_r _ [32, 16, 1, 21, 22, 23, 5, 24, 33, 34, 35, 36, 37, 38, 39, 40, 64, 65, 66, 67, 68] (by decide +kernel) (by decide +kernel)
set_option maxRecDepth 20000 in
theorem gX5_collectNow_X5_emptyWeak : GoodIn wsX5_collectNow (wsV RX5 89 RX5 yX5_emptyWeak wsX5_emptyWeak) := goodIn_app (goodIn_of _ (by decide +kernel)) ggX5_collectNow_X5_emptyWeak
set_option maxRecDepth 20000 in
theorem ggX5_collectNow_X5_finalizeAll : GoodIn wsX5_collectNow wsX5_finalizeAll := goodIn_r _ [44, 16, 1, 11, 45, 46, 47, 5, 48, 49, 50, 51, 21, 22, 23, 24, 33, 34, 35, 36, 37, 38, 39, 40, 64, 65, 66, 67, 68] (by decide +kernel) (by decide +kernel)
set_option maxRecDepth 20000 in
theorem gX5_collectNow_X5_finalizeAll : GoodIn wsX5_collectNow (wsV RX5 93 RX5 yX5_finalizeAll wsX5_finalizeAll) := goodIn_app (goodIn_of _ (by decide +kernel)) ggX5_collectNow_X5_finalizeAll
set_option maxRecDepth 20000 in
theorem ggX5_collectNow_X5_marks : GoodIn wsX5_collectNow wsX5_marks := goodIn_r _ [15, 16, 11, 17, 18, 19, 5, 20, 21, 22, 23, 24, 1, 25, 26, 27, 28, 64, 65, 66, 67, 68] (by decide +kernel) (by decide +kernel)
set_option maxRecDepth 20000 in
theorem gX5_collectNow_X5_marks : GoodIn wsX5_collectNow (wsV RX5 75 RX5 yX5_marks wsX5_marks) := goodIn_app (goodIn_of _ (by decide +kernel)) ggX5_collectNow_X5_marks
set_option maxRecDepth 20000 in
theorem ggX5_collectNow_X5_dropEntries : GoodIn wsX5_collectNow wsX5_dropEntries := goodIn_r _ [55, 16, 21, 22, 23, 5, 24, 1, 33, 34, 35, 36, 37, 38, 39, 40, 56, 57, 58, 59, 64, 65, 66, 67, 68] (by decide +kernel) (by decide +kernel)
set_option maxRecDepth 20000 in
theorem gX5_collectNow_X5_dropEntries : GoodIn wsX5_collectNow (wsV RX5 96 RX5 yX5_dropEntries wsX5_dropEntries) := goodIn_app (goodIn_of _ (by decide +kernel)) ggX5_collectNow_X5_dropEntries
set_option maxRecDepth 20000 in
theorem ggX5_collectNow_X5_free : GoodIn wsX5_collectNow wsX5_free := goodIn_r _ [63, 16, 1, 45, 46, 47, 5, 48, 49, 50, 51, 21, 22, 23, 24, 64, 65, 66, 67, 68] (by decide +kernel) (by decide +kernel)
set_option maxRecDepth 20000 in
theorem gX5_collectNow_X5_free : GoodIn wsX5_collectNow (wsV RX5 99 RX5 yX5_free wsX5_free) := goodIn_app (goodIn_of _ (by decide +kernel)) ggX5_collectNow_X5_free
theorem dX5_collectNow_0 : decode cX5_collectNow 0 = .ok (.aload_n 0, 1) := by decide +kernel
theorem dX5_collectNow_1 : decode cX5_collectNow 1 = .ok (.getfield 7, 3) := by decide +kernel
theorem dX5_collectNow_4 : decode cX5_collectNow 4 = .ok (.sipush 387, 3) := by decide +kernel
theorem dX5_collectNow_7 : decode cX5_collectNow 7 = .ok (.aload_n 0, 1) := by decide +kernel
theorem dX5_collectNow_8 : decode cX5_collectNow 8 = .ok (.bipush (-9), 2) := by decide +kernel
theorem dX5_collectNow_10 : decode cX5_collectNow 10 = .ok (.invokevirtual 86, 3) := by decide +kernel
theorem dX5_collectNow_13 : decode cX5_collectNow 13 = .ok (.iastore, 1) := by decide +kernel
theorem dX5_collectNow_14 : decode cX5_collectNow 14 = .ok (.aload_n 0, 1) := by decide +kernel
theorem dX5_collectNow_15 : decode cX5_collectNow 15 = .ok (.iconst 1, 1) := by decide +kernel
theorem dX5_collectNow_16 : decode cX5_collectNow 16 = .ok (.invokevirtual 89, 3) := by decide +kernel
theorem dX5_collectNow_19 : decode cX5_collectNow 19 = .ok (.aload_n 0, 1) := by decide +kernel
theorem dX5_collectNow_20 : decode cX5_collectNow 20 = .ok (.invokevirtual 93, 3) := by decide +kernel
theorem dX5_collectNow_23 : decode cX5_collectNow 23 = .ok (.aload_n 0, 1) := by decide +kernel
theorem dX5_collectNow_24 : decode cX5_collectNow 24 = .ok (.bipush (-9), 2) := by decide +kernel
theorem dX5_collectNow_26 : decode cX5_collectNow 26 = .ok (.invokevirtual 75, 3) := by decide +kernel
theorem dX5_collectNow_29 : decode cX5_collectNow 29 = .ok (.pop, 1) := by decide +kernel
theorem dX5_collectNow_30 : decode cX5_collectNow 30 = .ok (.aload_n 0, 1) := by decide +kernel
theorem dX5_collectNow_31 : decode cX5_collectNow 31 = .ok (.invokevirtual 96, 3) := by decide +kernel
theorem dX5_collectNow_34 : decode cX5_collectNow 34 = .ok (.aload_n 0, 1) := by decide +kernel
theorem dX5_collectNow_35 : decode cX5_collectNow 35 = .ok (.iconst 0, 1) := by decide +kernel
theorem dX5_collectNow_36 : decode cX5_collectNow 36 = .ok (.invokevirtual 89, 3) := by decide +kernel
theorem dX5_collectNow_39 : decode cX5_collectNow 39 = .ok (.aload_n 0, 1) := by decide +kernel
theorem dX5_collectNow_40 : decode cX5_collectNow 40 = .ok (.invokevirtual 99, 3) := by decide +kernel
theorem dX5_collectNow_43 : decode cX5_collectNow 43 = .ok (.ireturn, 1) := by decide +kernel
set_option maxRecDepth 20000 in
theorem ggX5_collect_X5_saveState : GoodIn wsX5_collect wsX5_saveState := goodIn_r _ [5, 6, 7, 8, 9, 4, 10, 11, 77, 78, 79, 80, 81] (by decide +kernel) (by decide +kernel)
set_option maxRecDepth 20000 in
theorem gX5_collect_X5_saveState : GoodIn wsX5_collect (wsV RX5 47 RX5 yX5_saveState wsX5_saveState) := goodIn_app (goodIn_of _ (by decide +kernel)) ggX5_collect_X5_saveState
set_option maxRecDepth 20000 in
theorem ggX5_collect_X5_collectNow : GoodIn wsX5_collect wsX5_collectNow := goodIn_r _ [15, 11, 16, 17, 18, 4, 19, 20, 21, 22, 23, 24, 25, 26, 27, 28, 29, 30, 31, 32, 33, 34, 35, 36, 37, 38, 39, 40, 41, 42, 43, 44, 45, 46, 47, 48, 49, 50, 51, 52, 53, 54, 55, 56, 57, 58, 59, 60, 61, 62, 63, 64, 65, 66, 67, 68, 69, 70, 71, 72, 73, 74, 75, 76, 77, 78, 79, 80, 81] (by decide +kernel) (by decide +kernel)
set_option maxRecDepth 20000 in
theorem gX5_collect_X5_collectNow : GoodIn wsX5_collect (wsV RX5 102 RX5 yX5_collectNow wsX5_collectNow) := goodIn_app (goodIn_of _ (by decide +kernel)) ggX5_collect_X5_collectNow
theorem dX5_collect_0 : decode cX5_collect 0 = .ok (.aload_n 0, 1) := by decide +kernel
theorem dX5_collect_1 : decode cX5_collect 1 = .ok (.invokevirtual 47, 3) := by decide +kernel
theorem dX5_collect_4 : decode cX5_collect 4 = .ok (.aload_n 0, 1) := by decide +kernel
theorem dX5_collect_5 : decode cX5_collect 5 = .ok (.invokevirtual 102, 3) := by decide +kernel
theorem dX5_collect_8 : decode cX5_collect 8 = .ok (.ireturn, 1) := by decide +kernel
set_option maxRecDepth 20000 in
theorem ggX5_wouldFree_X5_copyState : GoodIn wsX5_wouldFree wsX5_copyState := goodIn_r _ [5, 6, 72, 73, 74, 75, 76] (by decide +kernel) (by decide +kernel)
set_option maxRecDepth 20000 in
theorem gX5_wouldFree_X5_copyState : GoodIn wsX5_wouldFree (wsV RX5 27 RX5 yX5_copyState wsX5_copyState) := goodIn_app (goodIn_of _ (by decide +kernel)) ggX5_wouldFree_X5_copyState
set_option maxRecDepth 20000 in
theorem ggX5_wouldFree_X5_collectNow : GoodIn wsX5_wouldFree wsX5_collectNow := goodIn_r _ [10, 6, 11, 12, 13, 4, 14, 15, 16, 17, 18, 19, 20, 21, 22, 23, 24, 25, 26, 27, 28, 29, 30, 31, 32, 33, 34, 35, 36, 37, 38, 39, 40, 41, 42, 43, 44, 45, 46, 47, 48, 49, 50, 51, 52, 53, 54, 55, 56, 57, 58, 59, 60, 61, 62, 63, 64, 65, 66, 67, 68, 69, 70, 71, 72, 73, 74, 75, 76] (by decide +kernel) (by decide +kernel)
set_option maxRecDepth 20000 in
theorem gX5_wouldFree_X5_collectNow : GoodIn wsX5_wouldFree (wsV RX5 102 RX5 yX5_collectNow wsX5_collectNow) := goodIn_app (goodIn_of _ (by decide +kernel)) ggX5_wouldFree_X5_collectNow
theorem dX5_wouldFree_0 : decode cX5_wouldFree 0 = .ok (.aload_n 0, 1) := by decide +kernel
theorem dX5_wouldFree_1 : decode cX5_wouldFree 1 = .ok (.iconst 0, 1) := by decide +kernel
theorem dX5_wouldFree_2 : decode cX5_wouldFree 2 = .ok (.iconst 1, 1) := by decide +kernel
theorem dX5_wouldFree_3 : decode cX5_wouldFree 3 = .ok (.invokevirtual 27, 3) := by decide +kernel
theorem dX5_wouldFree_6 : decode cX5_wouldFree 6 = .ok (.aload_n 0, 1) := by decide +kernel
theorem dX5_wouldFree_7 : decode cX5_wouldFree 7 = .ok (.invokevirtual 102, 3) := by decide +kernel
theorem dX5_wouldFree_10 : decode cX5_wouldFree 10 = .ok (.istore_n 1, 1) := by decide +kernel
theorem dX5_wouldFree_11 : decode cX5_wouldFree 11 = .ok (.aload_n 0, 1) := by decide +kernel
theorem dX5_wouldFree_12 : decode cX5_wouldFree 12 = .ok (.iconst 1, 1) := by decide +kernel
theorem dX5_wouldFree_13 : decode cX5_wouldFree 13 = .ok (.iconst 0, 1) := by decide +kernel
theorem dX5_wouldFree_14 : decode cX5_wouldFree 14 = .ok (.invokevirtual 27, 3) := by decide +kernel
theorem dX5_wouldFree_17 : decode cX5_wouldFree 17 = .ok (.iload_n 1, 1) := by decide +kernel
theorem dX5_wouldFree_18 : decode cX5_wouldFree 18 = .ok (.ireturn, 1) := by decide +kernel
theorem dX5_lastRounds_0 : decode cX5_lastRounds 0 = .ok (.aload_n 0, 1) := by decide +kernel
theorem dX5_lastRounds_1 : decode cX5_lastRounds 1 = .ok (.getfield 7, 3) := by decide +kernel
theorem dX5_lastRounds_4 : decode cX5_lastRounds 4 = .ok (.sipush 387, 3) := by decide +kernel
theorem dX5_lastRounds_7 : decode cX5_lastRounds 7 = .ok (.iaload, 1) := by decide +kernel
theorem dX5_lastRounds_8 : decode cX5_lastRounds 8 = .ok (.ireturn, 1) := by decide +kernel
set_option maxRecDepth 20000 in
theorem ggX5_pollNotice_X5_saveState : GoodIn wsX5_pollNotice wsX5_saveState := goodIn_r _ [6, 7, 8, 9, 10, 5, 11, 1, 16, 17, 18, 19, 20] (by decide +kernel) (by decide +kernel)
set_option maxRecDepth 20000 in
theorem gX5_pollNotice_X5_saveState : GoodIn wsX5_pollNotice (wsV RX5 47 RX5 yX5_saveState wsX5_saveState) := goodIn_app (goodIn_of _ (by decide +kernel)) ggX5_pollNotice_X5_saveState
set_option maxRecDepth 20000 in
theorem ggX5_pollNotice_X5_takeNotice : GoodIn wsX5_pollNotice wsX5_takeNotice := goodIn_r _ [15, 1, 16, 17, 18, 19, 20] (by decide +kernel) (by decide +kernel)
set_option maxRecDepth 20000 in
theorem gX5_pollNotice_X5_takeNotice : GoodIn wsX5_pollNotice (wsV RX5 79 RX5 yX5_takeNotice wsX5_takeNotice) := goodIn_app (goodIn_of _ (by decide +kernel)) ggX5_pollNotice_X5_takeNotice
theorem dX5_pollNotice_0 : decode cX5_pollNotice 0 = .ok (.aload_n 0, 1) := by decide +kernel
theorem dX5_pollNotice_1 : decode cX5_pollNotice 1 = .ok (.getfield 7, 3) := by decide +kernel
theorem dX5_pollNotice_4 : decode cX5_pollNotice 4 = .ok (.sipush 366, 3) := by decide +kernel
theorem dX5_pollNotice_7 : decode cX5_pollNotice 7 = .ok (.iaload, 1) := by decide +kernel
theorem dX5_pollNotice_8 : decode cX5_pollNotice 8 = .ok (.ifCond .ne 6, 3) := by decide +kernel
theorem dX5_pollNotice_11 : decode cX5_pollNotice 11 = .ok (.bipush (-2), 2) := by decide +kernel
theorem dX5_pollNotice_13 : decode cX5_pollNotice 13 = .ok (.ireturn, 1) := by decide +kernel
theorem dX5_pollNotice_14 : decode cX5_pollNotice 14 = .ok (.aload_n 0, 1) := by decide +kernel
theorem dX5_pollNotice_15 : decode cX5_pollNotice 15 = .ok (.invokevirtual 47, 3) := by decide +kernel
theorem dX5_pollNotice_18 : decode cX5_pollNotice 18 = .ok (.aload_n 0, 1) := by decide +kernel
theorem dX5_pollNotice_19 : decode cX5_pollNotice 19 = .ok (.invokevirtual 79, 3) := by decide +kernel
theorem dX5_pollNotice_22 : decode cX5_pollNotice 22 = .ok (.ireturn, 1) := by decide +kernel
theorem dX5_noticeCount_0 : decode cX5_noticeCount 0 = .ok (.aload_n 0, 1) := by decide +kernel
theorem dX5_noticeCount_1 : decode cX5_noticeCount 1 = .ok (.getfield 7, 3) := by decide +kernel
theorem dX5_noticeCount_4 : decode cX5_noticeCount 4 = .ok (.sipush 366, 3) := by decide +kernel
theorem dX5_noticeCount_7 : decode cX5_noticeCount 7 = .ok (.iaload, 1) := by decide +kernel
theorem dX5_noticeCount_8 : decode cX5_noticeCount 8 = .ok (.ireturn, 1) := by decide +kernel
set_option maxRecDepth 20000 in
theorem ggX5_objectCount_X5_isAllocated : GoodIn wsX5_objectCount wsX5_isAllocated := goodIn_r _ [5, 6, 7, 4, 8, 9, 10, 11, 12, 13, 14, 15, 16, 17, 18] (by decide +kernel) (by decide +kernel)
set_option maxRecDepth 20000 in
theorem gX5_objectCount_X5_isAllocated : GoodIn wsX5_objectCount (wsV RX5 43 RX5 yX5_isAllocated wsX5_isAllocated) := goodIn_app (goodIn_of _ (by decide +kernel)) ggX5_objectCount_X5_isAllocated
theorem dX5_objectCount_0 : decode cX5_objectCount 0 = .ok (.iconst 0, 1) := by decide +kernel
theorem dX5_objectCount_1 : decode cX5_objectCount 1 = .ok (.istore_n 1, 1) := by decide +kernel
theorem dX5_objectCount_2 : decode cX5_objectCount 2 = .ok (.iconst 0, 1) := by decide +kernel
theorem dX5_objectCount_3 : decode cX5_objectCount 3 = .ok (.istore_n 2, 1) := by decide +kernel
theorem dX5_objectCount_4 : decode cX5_objectCount 4 = .ok (.iload_n 2, 1) := by decide +kernel
theorem dX5_objectCount_5 : decode cX5_objectCount 5 = .ok (.bipush 24, 2) := by decide +kernel
theorem dX5_objectCount_7 : decode cX5_objectCount 7 = .ok (.if_icmp .ge 25, 3) := by decide +kernel
theorem dX5_objectCount_10 : decode cX5_objectCount 10 = .ok (.iload_n 1, 1) := by decide +kernel
theorem dX5_objectCount_11 : decode cX5_objectCount 11 = .ok (.aload_n 0, 1) := by decide +kernel
theorem dX5_objectCount_12 : decode cX5_objectCount 12 = .ok (.iload_n 2, 1) := by decide +kernel
theorem dX5_objectCount_13 : decode cX5_objectCount 13 = .ok (.invokevirtual 43, 3) := by decide +kernel
theorem dX5_objectCount_16 : decode cX5_objectCount 16 = .ok (.ifCond .eq 7, 3) := by decide +kernel
theorem dX5_objectCount_19 : decode cX5_objectCount 19 = .ok (.iconst 1, 1) := by decide +kernel
theorem dX5_objectCount_20 : decode cX5_objectCount 20 = .ok (.goto 4, 3) := by decide +kernel
theorem dX5_objectCount_23 : decode cX5_objectCount 23 = .ok (.iconst 0, 1) := by decide +kernel
theorem dX5_objectCount_24 : decode cX5_objectCount 24 = .ok (.iadd, 1) := by decide +kernel
theorem dX5_objectCount_25 : decode cX5_objectCount 25 = .ok (.istore_n 1, 1) := by decide +kernel
theorem dX5_objectCount_26 : decode cX5_objectCount 26 = .ok (.iinc 2 1, 3) := by decide +kernel
theorem dX5_objectCount_29 : decode cX5_objectCount 29 = .ok (.goto (-25), 3) := by decide +kernel
theorem dX5_objectCount_32 : decode cX5_objectCount 32 = .ok (.iload_n 1, 1) := by decide +kernel
theorem dX5_objectCount_33 : decode cX5_objectCount 33 = .ok (.ireturn, 1) := by decide +kernel
set_option maxRecDepth 20000 in
theorem ggX5_reachableCount_X5_markAll : GoodIn wsX5_reachableCount wsX5_markAll := goodIn_r _ [5, 6, 7, 8, 4, 9, 10, 11, 12, 13, 14, 15, 16, 17, 18, 19, 20, 21, 22, 23, 24, 25, 26, 27, 28, 33, 34, 35, 36, 37] (by decide +kernel) (by decide +kernel)
set_option maxRecDepth 20000 in
theorem gX5_reachableCount_X5_markAll : GoodIn wsX5_reachableCount (wsV RX5 86 RX5 yX5_markAll wsX5_markAll) := goodIn_app (goodIn_of _ (by decide +kernel)) ggX5_reachableCount_X5_markAll
set_option maxRecDepth 20000 in
theorem ggX5_reachableCount_X5_marked : GoodIn wsX5_reachableCount wsX5_marked := goodIn_r _ [32, 16, 33, 34, 35, 36, 37] (by decide +kernel) (by decide +kernel)
set_option maxRecDepth 20000 in
theorem gX5_reachableCount_X5_marked : GoodIn wsX5_reachableCount (wsV RX5 105 RX5 yX5_marked wsX5_marked) := goodIn_app (goodIn_of _ (by decide +kernel)) ggX5_reachableCount_X5_marked
theorem dX5_reachableCount_0 : decode cX5_reachableCount 0 = .ok (.aload_n 0, 1) := by decide +kernel
theorem dX5_reachableCount_1 : decode cX5_reachableCount 1 = .ok (.bipush (-9), 2) := by decide +kernel
theorem dX5_reachableCount_3 : decode cX5_reachableCount 3 = .ok (.invokevirtual 86, 3) := by decide +kernel
theorem dX5_reachableCount_6 : decode cX5_reachableCount 6 = .ok (.pop, 1) := by decide +kernel
theorem dX5_reachableCount_7 : decode cX5_reachableCount 7 = .ok (.aload_n 0, 1) := by decide +kernel
theorem dX5_reachableCount_8 : decode cX5_reachableCount 8 = .ok (.invokevirtual 105, 3) := by decide +kernel
theorem dX5_reachableCount_11 : decode cX5_reachableCount 11 = .ok (.ireturn, 1) := by decide +kernel
set_option maxRecDepth 20000 in
theorem ggX5_markRound_X5_isAllocated : GoodIn wsX5_markRound wsX5_isAllocated := goodIn_r _ [6, 7, 8, 5, 9, 10, 11, 12, 13, 14, 36, 37, 38, 39, 40] (by decide +kernel) (by decide +kernel)
set_option maxRecDepth 20000 in
theorem gX5_markRound_X5_isAllocated : GoodIn wsX5_markRound (wsV RX5 43 RX5 yX5_isAllocated wsX5_isAllocated) := goodIn_app (goodIn_of _ (by decide +kernel)) ggX5_markRound_X5_isAllocated
set_option maxRecDepth 20000 in
theorem ggX5_markRound_X5_markAll : GoodIn wsX5_markRound wsX5_markAll := goodIn_r _ [18, 19, 20, 21, 5, 22, 23, 14, 24, 25, 26, 27, 1, 28, 29, 30, 31, 10, 11, 12, 13, 32, 33, 34, 35, 36, 37, 38, 39, 40] (by decide +kernel) (by decide +kernel)
set_option maxRecDepth 20000 in
theorem gX5_markRound_X5_markAll : GoodIn wsX5_markRound (wsV RX5 86 RX5 yX5_markAll wsX5_markAll) := goodIn_app (goodIn_of _ (by decide +kernel)) ggX5_markRound_X5_markAll
theorem dX5_markRound_0 : decode cX5_markRound 0 = .ok (.aload_n 0, 1) := by decide +kernel
theorem dX5_markRound_1 : decode cX5_markRound 1 = .ok (.iload_n 1, 1) := by decide +kernel
theorem dX5_markRound_2 : decode cX5_markRound 2 = .ok (.invokevirtual 43, 3) := by decide +kernel
theorem dX5_markRound_5 : decode cX5_markRound 5 = .ok (.ifCond .ne 5, 3) := by decide +kernel
theorem dX5_markRound_8 : decode cX5_markRound 8 = .ok (.iconst (-1), 1) := by decide +kernel
theorem dX5_markRound_9 : decode cX5_markRound 9 = .ok (.ireturn, 1) := by decide +kernel
theorem dX5_markRound_10 : decode cX5_markRound 10 = .ok (.aload_n 0, 1) := by decide +kernel
theorem dX5_markRound_11 : decode cX5_markRound 11 = .ok (.bipush (-9), 2) := by decide +kernel
theorem dX5_markRound_13 : decode cX5_markRound 13 = .ok (.invokevirtual 86, 3) := by decide +kernel
theorem dX5_markRound_16 : decode cX5_markRound 16 = .ok (.pop, 1) := by decide +kernel
theorem dX5_markRound_17 : decode cX5_markRound 17 = .ok (.aload_n 0, 1) := by decide +kernel
theorem dX5_markRound_18 : decode cX5_markRound 18 = .ok (.getfield 17, 3) := by decide +kernel
theorem dX5_markRound_21 : decode cX5_markRound 21 = .ok (.iload_n 1, 1) := by decide +kernel
theorem dX5_markRound_22 : decode cX5_markRound 22 = .ok (.iaload, 1) := by decide +kernel
theorem dX5_markRound_23 : decode cX5_markRound 23 = .ok (.ireturn, 1) := by decide +kernel
set_option maxRecDepth 20000 in
theorem ggX5_retainedSize_X5_isAllocated : GoodIn wsX5_retainedSize wsX5_isAllocated := goodIn_r _ [5, 6, 7, 4, 8, 9, 10, 11, 12, 13, 44, 45, 46, 47, 48] (by decide +kernel) (by decide +kernel)
set_option maxRecDepth 20000 in
theorem gX5_retainedSize_X5_isAllocated : GoodIn wsX5_retainedSize (wsV RX5 43 RX5 yX5_isAllocated wsX5_isAllocated) := goodIn_app (goodIn_of _ (by decide +kernel)) ggX5_retainedSize_X5_isAllocated
set_option maxRecDepth 20000 in
theorem ggX5_retainedSize_X5_reachableCount : GoodIn wsX5_retainedSize wsX5_reachableCount := goodIn_r _ [17, 18, 19, 20, 4, 21, 22, 23, 24, 25, 26, 13, 27, 28, 29, 30, 31, 32, 33, 34, 35, 9, 10, 11, 12, 36, 37, 38, 39, 40, 41, 42, 43, 44, 45, 46, 47, 48] (by decide +kernel) (by decide +kernel)
set_option maxRecDepth 20000 in
theorem gX5_retainedSize_X5_reachableCount : GoodIn wsX5_retainedSize (wsV RX5 108 RX5 yX5_reachableCount wsX5_reachableCount) := goodIn_app (goodIn_of _ (by decide +kernel)) ggX5_retainedSize_X5_reachableCount
set_option maxRecDepth 20000 in
theorem ggX5_retainedSize_X5_markAll : GoodIn wsX5_retainedSize wsX5_markAll := goodIn_r _ [21, 22, 23, 24, 4, 25, 26, 13, 27, 28, 29, 30, 31, 32, 33, 34, 35, 9, 10, 11, 12, 36, 37, 38, 39, 44, 45, 46, 47, 48] (by decide +kernel) (by decide +kernel)
set_option maxRecDepth 20000 in
theorem gX5_retainedSize_X5_markAll : GoodIn wsX5_retainedSize (wsV RX5 86 RX5 yX5_markAll wsX5_markAll) := goodIn_app (goodIn_of _ (by decide +kernel)) ggX5_retainedSize_X5_markAll
set_option maxRecDepth 20000 in
theorem ggX5_retainedSize_X5_marked : GoodIn wsX5_retainedSize wsX5_marked := goodIn_r _ [43, 31, 44, 45, 46, 47, 48] (by decide +kernel) (by decide +kernel)
set_option maxRecDepth 20000 in
theorem gX5_retainedSize_X5_marked : GoodIn wsX5_retainedSize (wsV RX5 105 RX5 yX5_marked wsX5_marked) := goodIn_app (goodIn_of _ (by decide +kernel)) ggX5_retainedSize_X5_marked
theorem dX5_retainedSize_0 : decode cX5_retainedSize 0 = .ok (.aload_n 0, 1) := by decide +kernel
theorem dX5_retainedSize_1 : decode cX5_retainedSize 1 = .ok (.iload_n 1, 1) := by decide +kernel
theorem dX5_retainedSize_2 : decode cX5_retainedSize 2 = .ok (.invokevirtual 43, 3) := by decide +kernel
theorem dX5_retainedSize_5 : decode cX5_retainedSize 5 = .ok (.ifCond .ne 5, 3) := by decide +kernel
theorem dX5_retainedSize_8 : decode cX5_retainedSize 8 = .ok (.iconst (-1), 1) := by decide +kernel
theorem dX5_retainedSize_9 : decode cX5_retainedSize 9 = .ok (.ireturn, 1) := by decide +kernel
theorem dX5_retainedSize_10 : decode cX5_retainedSize 10 = .ok (.aload_n 0, 1) := by decide +kernel
theorem dX5_retainedSize_11 : decode cX5_retainedSize 11 = .ok (.invokevirtual 108, 3) := by decide +kernel
theorem dX5_retainedSize_14 : decode cX5_retainedSize 14 = .ok (.istore_n 2, 1) := by decide +kernel
theorem dX5_retainedSize_15 : decode cX5_retainedSize 15 = .ok (.aload_n 0, 1) := by decide +kernel
theorem dX5_retainedSize_16 : decode cX5_retainedSize 16 = .ok (.iload_n 1, 1) := by decide +kernel
theorem dX5_retainedSize_17 : decode cX5_retainedSize 17 = .ok (.invokevirtual 86, 3) := by decide +kernel
theorem dX5_retainedSize_20 : decode cX5_retainedSize 20 = .ok (.pop, 1) := by decide +kernel
theorem dX5_retainedSize_21 : decode cX5_retainedSize 21 = .ok (.iload_n 2, 1) := by decide +kernel
theorem dX5_retainedSize_22 : decode cX5_retainedSize 22 = .ok (.aload_n 0, 1) := by decide +kernel
theorem dX5_retainedSize_23 : decode cX5_retainedSize 23 = .ok (.invokevirtual 105, 3) := by decide +kernel
theorem dX5_retainedSize_26 : decode cX5_retainedSize 26 = .ok (.isub, 1) := by decide +kernel
theorem dX5_retainedSize_27 : decode cX5_retainedSize 27 = .ok (.ireturn, 1) := by decide +kernel
set_option maxRecDepth 20000 in
theorem ggX5_waitingEntries_X5_isAllocated : GoodIn wsX5_waitingEntries wsX5_isAllocated := goodIn_r _ [6, 7, 8, 5, 9, 10, 11, 12, 13, 14, 40, 41, 42, 43, 44] (by decide +kernel) (by decide +kernel)
set_option maxRecDepth 20000 in
theorem gX5_waitingEntries_X5_isAllocated : GoodIn wsX5_waitingEntries (wsV RX5 43 RX5 yX5_isAllocated wsX5_isAllocated) := goodIn_app (goodIn_of _ (by decide +kernel)) ggX5_waitingEntries_X5_isAllocated
set_option maxRecDepth 20000 in
theorem ggX5_waitingEntries_X5_markAll : GoodIn wsX5_waitingEntries wsX5_markAll := goodIn_r _ [18, 19, 20, 21, 5, 22, 23, 14, 24, 25, 26, 27, 1, 28, 29, 30, 31, 10, 11, 12, 13, 32, 33, 34, 35, 40, 41, 42, 43, 44] (by decide +kernel) (by decide +kernel)
set_option maxRecDepth 20000 in
theorem gX5_waitingEntries_X5_markAll : GoodIn wsX5_waitingEntries (wsV RX5 86 RX5 yX5_markAll wsX5_markAll) := goodIn_app (goodIn_of _ (by decide +kernel)) ggX5_waitingEntries_X5_markAll
set_option maxRecDepth 20000 in
theorem ggX5_waitingEntries_X5_part : GoodIn wsX5_waitingEntries wsX5_part := goodIn_r _ [13, 14, 40, 41, 42, 43, 44] (by decide +kernel) (by decide +kernel)
set_option maxRecDepth 20000 in
theorem gX5_waitingEntries_X5_part : GoodIn wsX5_waitingEntries (wsV RX5 39 RX5 yX5_part wsX5_part) := goodIn_app (goodIn_of _ (by decide +kernel)) ggX5_waitingEntries_X5_part
set_option maxRecDepth 20000 in
theorem ggX5_waitingEntries_X5_placeOf : GoodIn wsX5_waitingEntries wsX5_placeOf := goodIn_r _ [39, 10, 11, 12, 5, 13, 14, 40, 41, 42, 43, 44] (by decide +kernel) (by decide +kernel)
set_option maxRecDepth 20000 in
theorem gX5_waitingEntries_X5_placeOf : GoodIn wsX5_waitingEntries (wsV RX5 60 RX5 yX5_placeOf wsX5_placeOf) := goodIn_app (goodIn_of _ (by decide +kernel)) ggX5_waitingEntries_X5_placeOf
theorem dX5_waitingEntries_0 : decode cX5_waitingEntries 0 = .ok (.aload_n 0, 1) := by decide +kernel
theorem dX5_waitingEntries_1 : decode cX5_waitingEntries 1 = .ok (.iload_n 1, 1) := by decide +kernel
theorem dX5_waitingEntries_2 : decode cX5_waitingEntries 2 = .ok (.invokevirtual 43, 3) := by decide +kernel
theorem dX5_waitingEntries_5 : decode cX5_waitingEntries 5 = .ok (.ifCond .ne 5, 3) := by decide +kernel
theorem dX5_waitingEntries_8 : decode cX5_waitingEntries 8 = .ok (.iconst (-1), 1) := by decide +kernel
theorem dX5_waitingEntries_9 : decode cX5_waitingEntries 9 = .ok (.ireturn, 1) := by decide +kernel
theorem dX5_waitingEntries_10 : decode cX5_waitingEntries 10 = .ok (.aload_n 0, 1) := by decide +kernel
theorem dX5_waitingEntries_11 : decode cX5_waitingEntries 11 = .ok (.bipush (-9), 2) := by decide +kernel
theorem dX5_waitingEntries_13 : decode cX5_waitingEntries 13 = .ok (.invokevirtual 86, 3) := by decide +kernel
theorem dX5_waitingEntries_16 : decode cX5_waitingEntries 16 = .ok (.pop, 1) := by decide +kernel
theorem dX5_waitingEntries_17 : decode cX5_waitingEntries 17 = .ok (.iconst 0, 1) := by decide +kernel
theorem dX5_waitingEntries_18 : decode cX5_waitingEntries 18 = .ok (.istore_n 2, 1) := by decide +kernel
theorem dX5_waitingEntries_19 : decode cX5_waitingEntries 19 = .ok (.iconst 0, 1) := by decide +kernel
theorem dX5_waitingEntries_20 : decode cX5_waitingEntries 20 = .ok (.istore_n 3, 1) := by decide +kernel
theorem dX5_waitingEntries_21 : decode cX5_waitingEntries 21 = .ok (.iload_n 3, 1) := by decide +kernel
theorem dX5_waitingEntries_22 : decode cX5_waitingEntries 22 = .ok (.bipush 24, 2) := by decide +kernel
theorem dX5_waitingEntries_24 : decode cX5_waitingEntries 24 = .ok (.if_icmp .ge 60, 3) := by decide +kernel
theorem dX5_waitingEntries_27 : decode cX5_waitingEntries 27 = .ok (.aload_n 0, 1) := by decide +kernel
theorem dX5_waitingEntries_28 : decode cX5_waitingEntries 28 = .ok (.getfield 17, 3) := by decide +kernel
theorem dX5_waitingEntries_31 : decode cX5_waitingEntries 31 = .ok (.iload_n 1, 1) := by decide +kernel
theorem dX5_waitingEntries_32 : decode cX5_waitingEntries 32 = .ok (.iaload, 1) := by decide +kernel
theorem dX5_waitingEntries_33 : decode cX5_waitingEntries 33 = .ok (.bipush (-9), 2) := by decide +kernel
theorem dX5_waitingEntries_35 : decode cX5_waitingEntries 35 = .ok (.if_icmp .ne 49, 3) := by decide +kernel
theorem dX5_waitingEntries_38 : decode cX5_waitingEntries 38 = .ok (.iload_n 2, 1) := by decide +kernel
theorem dX5_waitingEntries_39 : decode cX5_waitingEntries 39 = .ok (.aload_n 0, 1) := by decide +kernel
theorem dX5_waitingEntries_40 : decode cX5_waitingEntries 40 = .ok (.getfield 17, 3) := by decide +kernel
theorem dX5_waitingEntries_43 : decode cX5_waitingEntries 43 = .ok (.iload_n 3, 1) := by decide +kernel
theorem dX5_waitingEntries_44 : decode cX5_waitingEntries 44 = .ok (.iaload, 1) := by decide +kernel
theorem dX5_waitingEntries_45 : decode cX5_waitingEntries 45 = .ok (.bipush (-9), 2) := by decide +kernel
theorem dX5_waitingEntries_47 : decode cX5_waitingEntries 47 = .ok (.if_icmp .eq 28, 3) := by decide +kernel
theorem dX5_waitingEntries_50 : decode cX5_waitingEntries 50 = .ok (.aload_n 0, 1) := by decide +kernel
theorem dX5_waitingEntries_51 : decode cX5_waitingEntries 51 = .ok (.iload_n 3, 1) := by decide +kernel
theorem dX5_waitingEntries_52 : decode cX5_waitingEntries 52 = .ok (.iconst 0, 1) := by decide +kernel
theorem dX5_waitingEntries_53 : decode cX5_waitingEntries 53 = .ok (.invokevirtual 39, 3) := by decide +kernel
theorem dX5_waitingEntries_56 : decode cX5_waitingEntries 56 = .ok (.iconst 1, 1) := by decide +kernel
theorem dX5_waitingEntries_57 : decode cX5_waitingEntries 57 = .ok (.if_icmp .ne 18, 3) := by decide +kernel
theorem dX5_waitingEntries_60 : decode cX5_waitingEntries 60 = .ok (.aload_n 0, 1) := by decide +kernel
theorem dX5_waitingEntries_61 : decode cX5_waitingEntries 61 = .ok (.iload_n 3, 1) := by decide +kernel
theorem dX5_waitingEntries_62 : decode cX5_waitingEntries 62 = .ok (.iload_n 1, 1) := by decide +kernel
theorem dX5_waitingEntries_63 : decode cX5_waitingEntries 63 = .ok (.invokevirtual 60, 3) := by decide +kernel
theorem dX5_waitingEntries_66 : decode cX5_waitingEntries 66 = .ok (.bipush (-9), 2) := by decide +kernel
theorem dX5_waitingEntries_68 : decode cX5_waitingEntries 68 = .ok (.if_icmp .eq 7, 3) := by decide +kernel
theorem dX5_waitingEntries_71 : decode cX5_waitingEntries 71 = .ok (.iconst 1, 1) := by decide +kernel
theorem dX5_waitingEntries_72 : decode cX5_waitingEntries 72 = .ok (.goto 4, 3) := by decide +kernel
theorem dX5_waitingEntries_75 : decode cX5_waitingEntries 75 = .ok (.iconst 0, 1) := by decide +kernel
theorem dX5_waitingEntries_76 : decode cX5_waitingEntries 76 = .ok (.iadd, 1) := by decide +kernel
theorem dX5_waitingEntries_77 : decode cX5_waitingEntries 77 = .ok (.istore_n 2, 1) := by decide +kernel
theorem dX5_waitingEntries_78 : decode cX5_waitingEntries 78 = .ok (.iinc 3 1, 3) := by decide +kernel
theorem dX5_waitingEntries_81 : decode cX5_waitingEntries 81 = .ok (.goto (-60), 3) := by decide +kernel
theorem dX5_waitingEntries_84 : decode cX5_waitingEntries 84 = .ok (.iload_n 2, 1) := by decide +kernel
theorem dX5_waitingEntries_85 : decode cX5_waitingEntries 85 = .ok (.ireturn, 1) := by decide +kernel
set_option maxRecDepth 20000 in
theorem ggX5_referenceCount_X5_isAllocated : GoodIn wsX5_referenceCount wsX5_isAllocated := goodIn_r _ [6, 7, 8, 5, 9, 10, 11, 12, 13, 1, 14, 15, 16, 17, 18] (by decide +kernel) (by decide +kernel)
set_option maxRecDepth 20000 in
theorem gX5_referenceCount_X5_isAllocated : GoodIn wsX5_referenceCount (wsV RX5 43 RX5 yX5_isAllocated wsX5_isAllocated) := goodIn_app (goodIn_of _ (by decide +kernel)) ggX5_referenceCount_X5_isAllocated
set_option maxRecDepth 20000 in
theorem ggX5_referenceCount_X5_part : GoodIn wsX5_referenceCount wsX5_part := goodIn_r _ [13, 1, 14, 15, 16, 17, 18] (by decide +kernel) (by decide +kernel)
set_option maxRecDepth 20000 in
theorem gX5_referenceCount_X5_part : GoodIn wsX5_referenceCount (wsV RX5 39 RX5 yX5_part wsX5_part) := goodIn_app (goodIn_of _ (by decide +kernel)) ggX5_referenceCount_X5_part
theorem dX5_referenceCount_0 : decode cX5_referenceCount 0 = .ok (.aload_n 0, 1) := by decide +kernel
theorem dX5_referenceCount_1 : decode cX5_referenceCount 1 = .ok (.iload_n 1, 1) := by decide +kernel
theorem dX5_referenceCount_2 : decode cX5_referenceCount 2 = .ok (.invokevirtual 43, 3) := by decide +kernel
theorem dX5_referenceCount_5 : decode cX5_referenceCount 5 = .ok (.ifCond .ne 5, 3) := by decide +kernel
theorem dX5_referenceCount_8 : decode cX5_referenceCount 8 = .ok (.iconst (-1), 1) := by decide +kernel
theorem dX5_referenceCount_9 : decode cX5_referenceCount 9 = .ok (.ireturn, 1) := by decide +kernel
theorem dX5_referenceCount_10 : decode cX5_referenceCount 10 = .ok (.iconst 0, 1) := by decide +kernel
theorem dX5_referenceCount_11 : decode cX5_referenceCount 11 = .ok (.istore_n 2, 1) := by decide +kernel
theorem dX5_referenceCount_12 : decode cX5_referenceCount 12 = .ok (.iconst 0, 1) := by decide +kernel
theorem dX5_referenceCount_13 : decode cX5_referenceCount 13 = .ok (.istore_n 3, 1) := by decide +kernel
theorem dX5_referenceCount_14 : decode cX5_referenceCount 14 = .ok (.iload_n 3, 1) := by decide +kernel
theorem dX5_referenceCount_15 : decode cX5_referenceCount 15 = .ok (.bipush 6, 2) := by decide +kernel
theorem dX5_referenceCount_17 : decode cX5_referenceCount 17 = .ok (.if_icmp .ge 31, 3) := by decide +kernel
theorem dX5_referenceCount_20 : decode cX5_referenceCount 20 = .ok (.iload_n 2, 1) := by decide +kernel
theorem dX5_referenceCount_21 : decode cX5_referenceCount 21 = .ok (.aload_n 0, 1) := by decide +kernel
theorem dX5_referenceCount_22 : decode cX5_referenceCount 22 = .ok (.getfield 7, 3) := by decide +kernel
theorem dX5_referenceCount_25 : decode cX5_referenceCount 25 = .ok (.sipush 360, 3) := by decide +kernel
theorem dX5_referenceCount_28 : decode cX5_referenceCount 28 = .ok (.iload_n 3, 1) := by decide +kernel
theorem dX5_referenceCount_29 : decode cX5_referenceCount 29 = .ok (.iadd, 1) := by decide +kernel
theorem dX5_referenceCount_30 : decode cX5_referenceCount 30 = .ok (.iaload, 1) := by decide +kernel
theorem dX5_referenceCount_31 : decode cX5_referenceCount 31 = .ok (.iload_n 1, 1) := by decide +kernel
theorem dX5_referenceCount_32 : decode cX5_referenceCount 32 = .ok (.if_icmp .ne 7, 3) := by decide +kernel
theorem dX5_referenceCount_35 : decode cX5_referenceCount 35 = .ok (.iconst 1, 1) := by decide +kernel
theorem dX5_referenceCount_36 : decode cX5_referenceCount 36 = .ok (.goto 4, 3) := by decide +kernel
theorem dX5_referenceCount_39 : decode cX5_referenceCount 39 = .ok (.iconst 0, 1) := by decide +kernel
theorem dX5_referenceCount_40 : decode cX5_referenceCount 40 = .ok (.iadd, 1) := by decide +kernel
theorem dX5_referenceCount_41 : decode cX5_referenceCount 41 = .ok (.istore_n 2, 1) := by decide +kernel
theorem dX5_referenceCount_42 : decode cX5_referenceCount 42 = .ok (.iinc 3 1, 3) := by decide +kernel
theorem dX5_referenceCount_45 : decode cX5_referenceCount 45 = .ok (.goto (-31), 3) := by decide +kernel
theorem dX5_referenceCount_48 : decode cX5_referenceCount 48 = .ok (.iconst 0, 1) := by decide +kernel
theorem dX5_referenceCount_49 : decode cX5_referenceCount 49 = .ok (.istore_n 3, 1) := by decide +kernel
theorem dX5_referenceCount_50 : decode cX5_referenceCount 50 = .ok (.iload_n 3, 1) := by decide +kernel
theorem dX5_referenceCount_51 : decode cX5_referenceCount 51 = .ok (.bipush 24, 2) := by decide +kernel
theorem dX5_referenceCount_53 : decode cX5_referenceCount 53 = .ok (.if_icmp .ge 52, 3) := by decide +kernel
theorem dX5_referenceCount_56 : decode cX5_referenceCount 56 = .ok (.iconst 3, 1) := by decide +kernel
theorem dX5_referenceCount_57 : decode cX5_referenceCount 57 = .ok (.istore 4, 2) := by decide +kernel
theorem dX5_referenceCount_59 : decode cX5_referenceCount 59 = .ok (.iload 4, 2) := by decide +kernel
theorem dX5_referenceCount_61 : decode cX5_referenceCount 61 = .ok (.bipush 15, 2) := by decide +kernel
theorem dX5_referenceCount_63 : decode cX5_referenceCount 63 = .ok (.if_icmp .ge 36, 3) := by decide +kernel
theorem dX5_referenceCount_66 : decode cX5_referenceCount 66 = .ok (.aload_n 0, 1) := by decide +kernel
theorem dX5_referenceCount_67 : decode cX5_referenceCount 67 = .ok (.iload_n 3, 1) := by decide +kernel
theorem dX5_referenceCount_68 : decode cX5_referenceCount 68 = .ok (.invokevirtual 43, 3) := by decide +kernel
theorem dX5_referenceCount_71 : decode cX5_referenceCount 71 = .ok (.ifCond .eq 28, 3) := by decide +kernel
theorem dX5_referenceCount_74 : decode cX5_referenceCount 74 = .ok (.iload_n 2, 1) := by decide +kernel
theorem dX5_referenceCount_75 : decode cX5_referenceCount 75 = .ok (.aload_n 0, 1) := by decide +kernel
theorem dX5_referenceCount_76 : decode cX5_referenceCount 76 = .ok (.iload_n 3, 1) := by decide +kernel
theorem dX5_referenceCount_77 : decode cX5_referenceCount 77 = .ok (.iload 4, 2) := by decide +kernel
theorem dX5_referenceCount_79 : decode cX5_referenceCount 79 = .ok (.invokevirtual 39, 3) := by decide +kernel
theorem dX5_referenceCount_82 : decode cX5_referenceCount 82 = .ok (.iload_n 1, 1) := by decide +kernel
theorem dX5_referenceCount_83 : decode cX5_referenceCount 83 = .ok (.if_icmp .ne 7, 3) := by decide +kernel
theorem dX5_referenceCount_86 : decode cX5_referenceCount 86 = .ok (.iconst 1, 1) := by decide +kernel
theorem dX5_referenceCount_87 : decode cX5_referenceCount 87 = .ok (.goto 4, 3) := by decide +kernel
theorem dX5_referenceCount_90 : decode cX5_referenceCount 90 = .ok (.iconst 0, 1) := by decide +kernel
theorem dX5_referenceCount_91 : decode cX5_referenceCount 91 = .ok (.iadd, 1) := by decide +kernel
theorem dX5_referenceCount_92 : decode cX5_referenceCount 92 = .ok (.istore_n 2, 1) := by decide +kernel
theorem dX5_referenceCount_93 : decode cX5_referenceCount 93 = .ok (.iinc 4 1, 3) := by decide +kernel
theorem dX5_referenceCount_96 : decode cX5_referenceCount 96 = .ok (.goto (-37), 3) := by decide +kernel
theorem dX5_referenceCount_99 : decode cX5_referenceCount 99 = .ok (.iinc 3 1, 3) := by decide +kernel
theorem dX5_referenceCount_102 : decode cX5_referenceCount 102 = .ok (.goto (-52), 3) := by decide +kernel
theorem dX5_referenceCount_105 : decode cX5_referenceCount 105 = .ok (.iload_n 2, 1) := by decide +kernel
theorem dX5_referenceCount_106 : decode cX5_referenceCount 106 = .ok (.ireturn, 1) := by decide +kernel
theorem dJ6_bitCount_0f7a4_0 : decode cJ6_bitCount_0f7a4 0 = .ok (.iload_n 0, 1) := by decide +kernel
theorem dJ6_bitCount_0f7a4_1 : decode cJ6_bitCount_0f7a4 1 = .ok (.iload_n 0, 1) := by decide +kernel
theorem dJ6_bitCount_0f7a4_2 : decode cJ6_bitCount_0f7a4 2 = .ok (.iconst 1, 1) := by decide +kernel
theorem dJ6_bitCount_0f7a4_3 : decode cJ6_bitCount_0f7a4 3 = .ok (.iushr, 1) := by decide +kernel
theorem dJ6_bitCount_0f7a4_4 : decode cJ6_bitCount_0f7a4 4 = .ok (.ldc_w 265, 3) := by decide +kernel
theorem dJ6_bitCount_0f7a4_7 : decode cJ6_bitCount_0f7a4 7 = .ok (.iand, 1) := by decide +kernel
theorem dJ6_bitCount_0f7a4_8 : decode cJ6_bitCount_0f7a4 8 = .ok (.isub, 1) := by decide +kernel
theorem dJ6_bitCount_0f7a4_9 : decode cJ6_bitCount_0f7a4 9 = .ok (.istore_n 0, 1) := by decide +kernel
theorem dJ6_bitCount_0f7a4_10 : decode cJ6_bitCount_0f7a4 10 = .ok (.iload_n 0, 1) := by decide +kernel
theorem dJ6_bitCount_0f7a4_11 : decode cJ6_bitCount_0f7a4 11 = .ok (.ldc_w 266, 3) := by decide +kernel
theorem dJ6_bitCount_0f7a4_14 : decode cJ6_bitCount_0f7a4 14 = .ok (.iand, 1) := by decide +kernel
theorem dJ6_bitCount_0f7a4_15 : decode cJ6_bitCount_0f7a4 15 = .ok (.iload_n 0, 1) := by decide +kernel
theorem dJ6_bitCount_0f7a4_16 : decode cJ6_bitCount_0f7a4 16 = .ok (.iconst 2, 1) := by decide +kernel
theorem dJ6_bitCount_0f7a4_17 : decode cJ6_bitCount_0f7a4 17 = .ok (.iushr, 1) := by decide +kernel
theorem dJ6_bitCount_0f7a4_18 : decode cJ6_bitCount_0f7a4 18 = .ok (.ldc_w 266, 3) := by decide +kernel
theorem dJ6_bitCount_0f7a4_21 : decode cJ6_bitCount_0f7a4 21 = .ok (.iand, 1) := by decide +kernel
theorem dJ6_bitCount_0f7a4_22 : decode cJ6_bitCount_0f7a4 22 = .ok (.iadd, 1) := by decide +kernel
theorem dJ6_bitCount_0f7a4_23 : decode cJ6_bitCount_0f7a4 23 = .ok (.istore_n 0, 1) := by decide +kernel
theorem dJ6_bitCount_0f7a4_24 : decode cJ6_bitCount_0f7a4 24 = .ok (.iload_n 0, 1) := by decide +kernel
theorem dJ6_bitCount_0f7a4_25 : decode cJ6_bitCount_0f7a4 25 = .ok (.iload_n 0, 1) := by decide +kernel
theorem dJ6_bitCount_0f7a4_26 : decode cJ6_bitCount_0f7a4 26 = .ok (.iconst 4, 1) := by decide +kernel
theorem dJ6_bitCount_0f7a4_27 : decode cJ6_bitCount_0f7a4 27 = .ok (.iushr, 1) := by decide +kernel
theorem dJ6_bitCount_0f7a4_28 : decode cJ6_bitCount_0f7a4 28 = .ok (.iadd, 1) := by decide +kernel
theorem dJ6_bitCount_0f7a4_29 : decode cJ6_bitCount_0f7a4 29 = .ok (.ldc_w 267, 3) := by decide +kernel
theorem dJ6_bitCount_0f7a4_32 : decode cJ6_bitCount_0f7a4 32 = .ok (.iand, 1) := by decide +kernel
theorem dJ6_bitCount_0f7a4_33 : decode cJ6_bitCount_0f7a4 33 = .ok (.istore_n 0, 1) := by decide +kernel
theorem dJ6_bitCount_0f7a4_34 : decode cJ6_bitCount_0f7a4 34 = .ok (.iload_n 0, 1) := by decide +kernel
theorem dJ6_bitCount_0f7a4_35 : decode cJ6_bitCount_0f7a4 35 = .ok (.iload_n 0, 1) := by decide +kernel
theorem dJ6_bitCount_0f7a4_36 : decode cJ6_bitCount_0f7a4 36 = .ok (.bipush 8, 2) := by decide +kernel
theorem dJ6_bitCount_0f7a4_38 : decode cJ6_bitCount_0f7a4 38 = .ok (.iushr, 1) := by decide +kernel
theorem dJ6_bitCount_0f7a4_39 : decode cJ6_bitCount_0f7a4 39 = .ok (.iadd, 1) := by decide +kernel
theorem dJ6_bitCount_0f7a4_40 : decode cJ6_bitCount_0f7a4 40 = .ok (.istore_n 0, 1) := by decide +kernel
theorem dJ6_bitCount_0f7a4_41 : decode cJ6_bitCount_0f7a4 41 = .ok (.iload_n 0, 1) := by decide +kernel
theorem dJ6_bitCount_0f7a4_42 : decode cJ6_bitCount_0f7a4 42 = .ok (.iload_n 0, 1) := by decide +kernel
theorem dJ6_bitCount_0f7a4_43 : decode cJ6_bitCount_0f7a4 43 = .ok (.bipush 16, 2) := by decide +kernel
theorem dJ6_bitCount_0f7a4_45 : decode cJ6_bitCount_0f7a4 45 = .ok (.iushr, 1) := by decide +kernel
theorem dJ6_bitCount_0f7a4_46 : decode cJ6_bitCount_0f7a4 46 = .ok (.iadd, 1) := by decide +kernel
theorem dJ6_bitCount_0f7a4_47 : decode cJ6_bitCount_0f7a4 47 = .ok (.istore_n 0, 1) := by decide +kernel
theorem dJ6_bitCount_0f7a4_48 : decode cJ6_bitCount_0f7a4 48 = .ok (.iload_n 0, 1) := by decide +kernel
theorem dJ6_bitCount_0f7a4_49 : decode cJ6_bitCount_0f7a4 49 = .ok (.bipush 63, 2) := by decide +kernel
theorem dJ6_bitCount_0f7a4_51 : decode cJ6_bitCount_0f7a4 51 = .ok (.iand, 1) := by decide +kernel
theorem dJ6_bitCount_0f7a4_52 : decode cJ6_bitCount_0f7a4 52 = .ok (.ireturn, 1) := by decide +kernel
theorem dJ9_max_7cf53_0 : decode cJ9_max_7cf53 0 = .ok (.iload_n 0, 1) := by decide +kernel
theorem dJ9_max_7cf53_1 : decode cJ9_max_7cf53 1 = .ok (.iload_n 1, 1) := by decide +kernel
theorem dJ9_max_7cf53_2 : decode cJ9_max_7cf53 2 = .ok (.if_icmp .lt 7, 3) := by decide +kernel
theorem dJ9_max_7cf53_5 : decode cJ9_max_7cf53 5 = .ok (.iload_n 0, 1) := by decide +kernel
theorem dJ9_max_7cf53_6 : decode cJ9_max_7cf53 6 = .ok (.goto 4, 3) := by decide +kernel
theorem dJ9_max_7cf53_9 : decode cJ9_max_7cf53 9 = .ok (.iload_n 1, 1) := by decide +kernel
theorem dJ9_max_7cf53_10 : decode cJ9_max_7cf53 10 = .ok (.ireturn, 1) := by decide +kernel
theorem dJ9_min_7cf53_0 : decode cJ9_min_7cf53 0 = .ok (.iload_n 0, 1) := by decide +kernel
theorem dJ9_min_7cf53_1 : decode cJ9_min_7cf53 1 = .ok (.iload_n 1, 1) := by decide +kernel
theorem dJ9_min_7cf53_2 : decode cJ9_min_7cf53 2 = .ok (.if_icmp .gt 7, 3) := by decide +kernel
theorem dJ9_min_7cf53_5 : decode cJ9_min_7cf53 5 = .ok (.iload_n 0, 1) := by decide +kernel
theorem dJ9_min_7cf53_6 : decode cJ9_min_7cf53 6 = .ok (.goto 4, 3) := by decide +kernel
theorem dJ9_min_7cf53_9 : decode cJ9_min_7cf53 9 = .ok (.iload_n 1, 1) := by decide +kernel
theorem dJ9_min_7cf53_10 : decode cJ9_min_7cf53 10 = .ok (.ireturn, 1) := by decide +kernel
theorem dJ7_rangeCheck_23922_0 : decode cJ7_rangeCheck_23922 0 = .ok (.iload_n 1, 1) := by decide +kernel
theorem dJ7_rangeCheck_23922_1 : decode cJ7_rangeCheck_23922 1 = .ok (.iload_n 2, 1) := by decide +kernel
theorem dJ7_rangeCheck_23922_2 : decode cJ7_rangeCheck_23922 2 = .ok (.if_icmp .le 44, 3) := by decide +kernel
theorem dJ7_rangeCheck_23922_5 : decode cJ7_rangeCheck_23922 5 = .ok (.new 43, 3) := by decide +kernel
theorem dJ7_rangeCheck_23922_8 : decode cJ7_rangeCheck_23922 8 = .ok (.dup, 1) := by decide +kernel
theorem dJ7_rangeCheck_23922_9 : decode cJ7_rangeCheck_23922 9 = .ok (.new 45, 3) := by decide +kernel
theorem dJ7_rangeCheck_23922_12 : decode cJ7_rangeCheck_23922 12 = .ok (.dup, 1) := by decide +kernel
theorem dJ7_rangeCheck_23922_13 : decode cJ7_rangeCheck_23922 13 = .ok (.invokespecial 47, 3) := by decide +kernel
theorem dJ7_rangeCheck_23922_16 : decode cJ7_rangeCheck_23922 16 = .ok (.ldc 48, 2) := by decide +kernel
theorem dJ7_rangeCheck_23922_18 : decode cJ7_rangeCheck_23922 18 = .ok (.invokevirtual 50, 3) := by decide +kernel
theorem dJ7_rangeCheck_23922_21 : decode cJ7_rangeCheck_23922 21 = .ok (.iload_n 1, 1) := by decide +kernel
theorem dJ7_rangeCheck_23922_22 : decode cJ7_rangeCheck_23922 22 = .ok (.invokevirtual 54, 3) := by decide +kernel
theorem dJ7_rangeCheck_23922_25 : decode cJ7_rangeCheck_23922 25 = .ok (.ldc 57, 2) := by decide +kernel
theorem dJ7_rangeCheck_23922_27 : decode cJ7_rangeCheck_23922 27 = .ok (.invokevirtual 50, 3) := by decide +kernel
theorem dJ7_rangeCheck_23922_30 : decode cJ7_rangeCheck_23922 30 = .ok (.iload_n 2, 1) := by decide +kernel
theorem dJ7_rangeCheck_23922_31 : decode cJ7_rangeCheck_23922 31 = .ok (.invokevirtual 54, 3) := by decide +kernel
theorem dJ7_rangeCheck_23922_34 : decode cJ7_rangeCheck_23922 34 = .ok (.ldc 59, 2) := by decide +kernel
theorem dJ7_rangeCheck_23922_36 : decode cJ7_rangeCheck_23922 36 = .ok (.invokevirtual 50, 3) := by decide +kernel
theorem dJ7_rangeCheck_23922_39 : decode cJ7_rangeCheck_23922 39 = .ok (.invokevirtual 61, 3) := by decide +kernel
theorem dJ7_rangeCheck_23922_42 : decode cJ7_rangeCheck_23922 42 = .ok (.invokespecial 65, 3) := by decide +kernel
theorem dJ7_rangeCheck_23922_45 : decode cJ7_rangeCheck_23922 45 = .ok (.athrow, 1) := by decide +kernel
theorem dJ7_rangeCheck_23922_46 : decode cJ7_rangeCheck_23922 46 = .ok (.iload_n 1, 1) := by decide +kernel
theorem dJ7_rangeCheck_23922_47 : decode cJ7_rangeCheck_23922 47 = .ok (.ifCond .ge 12, 3) := by decide +kernel
theorem dJ7_rangeCheck_23922_50 : decode cJ7_rangeCheck_23922 50 = .ok (.new 68, 3) := by decide +kernel
theorem dJ7_rangeCheck_23922_53 : decode cJ7_rangeCheck_23922 53 = .ok (.dup, 1) := by decide +kernel
theorem dJ7_rangeCheck_23922_54 : decode cJ7_rangeCheck_23922 54 = .ok (.iload_n 1, 1) := by decide +kernel
theorem dJ7_rangeCheck_23922_55 : decode cJ7_rangeCheck_23922 55 = .ok (.invokespecial 70, 3) := by decide +kernel
theorem dJ7_rangeCheck_23922_58 : decode cJ7_rangeCheck_23922 58 = .ok (.athrow, 1) := by decide +kernel
theorem dJ7_rangeCheck_23922_59 : decode cJ7_rangeCheck_23922 59 = .ok (.iload_n 2, 1) := by decide +kernel
theorem dJ7_rangeCheck_23922_60 : decode cJ7_rangeCheck_23922 60 = .ok (.iload_n 0, 1) := by decide +kernel
theorem dJ7_rangeCheck_23922_61 : decode cJ7_rangeCheck_23922 61 = .ok (.if_icmp .le 12, 3) := by decide +kernel
theorem dJ7_rangeCheck_23922_64 : decode cJ7_rangeCheck_23922 64 = .ok (.new 68, 3) := by decide +kernel
theorem dJ7_rangeCheck_23922_67 : decode cJ7_rangeCheck_23922 67 = .ok (.dup, 1) := by decide +kernel
theorem dJ7_rangeCheck_23922_68 : decode cJ7_rangeCheck_23922 68 = .ok (.iload_n 2, 1) := by decide +kernel
theorem dJ7_rangeCheck_23922_69 : decode cJ7_rangeCheck_23922 69 = .ok (.invokespecial 70, 3) := by decide +kernel
theorem dJ7_rangeCheck_23922_72 : decode cJ7_rangeCheck_23922 72 = .ok (.athrow, 1) := by decide +kernel
theorem dJ7_rangeCheck_23922_73 : decode cJ7_rangeCheck_23922 73 = .ok (.return_, 1) := by decide +kernel
theorem dJ7_fill_53178_0 : decode cJ7_fill_53178 0 = .ok (.iconst 0, 1) := by decide +kernel
theorem dJ7_fill_53178_1 : decode cJ7_fill_53178 1 = .ok (.istore_n 2, 1) := by decide +kernel
theorem dJ7_fill_53178_2 : decode cJ7_fill_53178 2 = .ok (.aload_n 0, 1) := by decide +kernel
theorem dJ7_fill_53178_3 : decode cJ7_fill_53178 3 = .ok (.arraylength, 1) := by decide +kernel
theorem dJ7_fill_53178_4 : decode cJ7_fill_53178 4 = .ok (.istore_n 3, 1) := by decide +kernel
theorem dJ7_fill_53178_5 : decode cJ7_fill_53178 5 = .ok (.iload_n 2, 1) := by decide +kernel
theorem dJ7_fill_53178_6 : decode cJ7_fill_53178 6 = .ok (.iload_n 3, 1) := by decide +kernel
theorem dJ7_fill_53178_7 : decode cJ7_fill_53178 7 = .ok (.if_icmp .ge 13, 3) := by decide +kernel
theorem dJ7_fill_53178_10 : decode cJ7_fill_53178 10 = .ok (.aload_n 0, 1) := by decide +kernel
theorem dJ7_fill_53178_11 : decode cJ7_fill_53178 11 = .ok (.iload_n 2, 1) := by decide +kernel
theorem dJ7_fill_53178_12 : decode cJ7_fill_53178 12 = .ok (.iload_n 1, 1) := by decide +kernel
theorem dJ7_fill_53178_13 : decode cJ7_fill_53178 13 = .ok (.iastore, 1) := by decide +kernel
theorem dJ7_fill_53178_14 : decode cJ7_fill_53178 14 = .ok (.iinc 2 1, 3) := by decide +kernel
theorem dJ7_fill_53178_17 : decode cJ7_fill_53178 17 = .ok (.goto (-12), 3) := by decide +kernel
theorem dJ7_fill_53178_20 : decode cJ7_fill_53178 20 = .ok (.return_, 1) := by decide +kernel
set_option maxRecDepth 20000 in
theorem ggJ7_fill_fda19_J7_rangeCheck_23922 : GoodIn wsJ7_fill_fda19 wsJ7_rangeCheck_23922 := goodIn_r _ [4] (by decide +kernel) (by decide +kernel)
set_option maxRecDepth 20000 in
theorem gJ7_fill_fda19_J7_rangeCheck_23922 : GoodIn wsJ7_fill_fda19 (va_wsS RJ7 13 yJ7_rangeCheck_23922 wsJ7_rangeCheck_23922) := goodIn_app (goodIn_of _ (by decide +kernel)) ggJ7_fill_fda19_J7_rangeCheck_23922
theorem dJ7_fill_fda19_0 : decode cJ7_fill_fda19 0 = .ok (.aload_n 0, 1) := by decide +kernel
theorem dJ7_fill_fda19_1 : decode cJ7_fill_fda19 1 = .ok (.arraylength, 1) := by decide +kernel
theorem dJ7_fill_fda19_2 : decode cJ7_fill_fda19 2 = .ok (.iload_n 1, 1) := by decide +kernel
theorem dJ7_fill_fda19_3 : decode cJ7_fill_fda19 3 = .ok (.iload_n 2, 1) := by decide +kernel
theorem dJ7_fill_fda19_4 : decode cJ7_fill_fda19 4 = .ok (.invokestatic 13, 3) := by decide +kernel
theorem dJ7_fill_fda19_7 : decode cJ7_fill_fda19 7 = .ok (.iload_n 1, 1) := by decide +kernel
theorem dJ7_fill_fda19_8 : decode cJ7_fill_fda19 8 = .ok (.istore 4, 2) := by decide +kernel
theorem dJ7_fill_fda19_10 : decode cJ7_fill_fda19 10 = .ok (.iload 4, 2) := by decide +kernel
theorem dJ7_fill_fda19_12 : decode cJ7_fill_fda19 12 = .ok (.iload_n 2, 1) := by decide +kernel
theorem dJ7_fill_fda19_13 : decode cJ7_fill_fda19 13 = .ok (.if_icmp .ge 14, 3) := by decide +kernel
theorem dJ7_fill_fda19_16 : decode cJ7_fill_fda19 16 = .ok (.aload_n 0, 1) := by decide +kernel
theorem dJ7_fill_fda19_17 : decode cJ7_fill_fda19 17 = .ok (.iload 4, 2) := by decide +kernel
theorem dJ7_fill_fda19_19 : decode cJ7_fill_fda19 19 = .ok (.iload_n 3, 1) := by decide +kernel
theorem dJ7_fill_fda19_20 : decode cJ7_fill_fda19 20 = .ok (.iastore, 1) := by decide +kernel
theorem dJ7_fill_fda19_21 : decode cJ7_fill_fda19 21 = .ok (.iinc 4 1, 3) := by decide +kernel
theorem dJ7_fill_fda19_24 : decode cJ7_fill_fda19 24 = .ok (.goto (-14), 3) := by decide +kernel
theorem dJ7_fill_fda19_27 : decode cJ7_fill_fda19 27 = .ok (.return_, 1) := by decide +kernel
end
section
set_option maxRecDepth 20000 in
theorem ggL_law_X4_init : GoodIn wsL_law wsX4_init := goodIn_r _ [8, 9, 10, 11, 12, 13, 14, 15, 16, 17, 18, 19, 20, 21, 22, 23, 24, 25, 26, 27, 28, 29, 30, 31, 32, 33, 34, 35, 36, 37, 38, 2, 39, 40, 41, 42, 43, 44, 45, 46, 47, 48, 49, 50, 51, 52, 53, 54, 55, 56, 57, 58, 59, 60, 61, 616, 617, 618, 619, 620, 621, 622, 623, 624, 607, 608, 609, 610, 625, 626, 627, 628, 629, 630, 631, 632, 633] (by decide +kernel) (by decide +kernel)
set_option maxRecDepth 20000 in
theorem gL_law_X4_init : GoodIn wsL_law (wsX4_init) := ggL_law_X4_init
set_option maxRecDepth 20000 in
theorem ggL_law_X5_init : GoodIn wsL_law wsX5_init := goodIn_r _ [64, 65, 10, 11, 44, 66, 67, 68, 69, 70, 611, 612, 613, 614, 615] (by decide +kernel) (by decide +kernel)
set_option maxRecDepth 20000 in
theorem gL_law_X5_init : GoodIn wsL_law (wsX5_init) := ggL_law_X5_init
set_option maxRecDepth 20000 in
theorem ggL_law_X4_allocate : GoodIn wsL_law wsX4_allocate := goodIn_r _ [74, 75, 76, 77, 2, 78, 15, 19, 79, 80, 81, 14, 82, 28, 83, 84, 85, 18, 86, 57, 87, 56, 13, 88, 89, 90, 42, 91, 25, 26, 27, 10, 11, 29, 30, 31, 32, 33, 34, 35, 36, 37, 38, 39, 40, 41, 43, 44, 45, 46, 47, 48, 49, 50, 51, 52, 92, 93, 94, 95, 96, 97, 98, 99, 100, 101, 102, 103, 104, 105, 106, 107, 108, 109, 110, 111, 112, 113, 114, 115, 607, 608, 609, 610, 616, 617, 618, 619, 620, 621, 622, 623, 624, 625, 626, 627, 632, 633] (by decide +kernel) (by decide +kernel)
set_option maxRecDepth 20000 in
theorem gL_law_X4_allocate : GoodIn wsL_law (wsV RL 13 RX4 yX4_allocate wsX4_allocate) := goodIn_app (goodIn_of _ (by decide +kernel)) ggL_law_X4_allocate
set_option maxRecDepth 20000 in
theorem ggL_law_X5_allocate : GoodIn wsL_law wsX5_allocate := goodIn_r _ [119, 120, 121, 122, 5, 123, 66, 124, 125, 126, 127, 128, 129, 130, 131, 132, 133, 134, 135, 136, 137, 138, 139, 140, 141, 142, 143, 611, 612, 613, 614, 615] (by decide +kernel) (by decide +kernel)
set_option maxRecDepth 20000 in
theorem gL_law_X5_allocate : GoodIn wsL_law (wsV RL 17 RX5 yX5_allocate wsX5_allocate) := goodIn_app (goodIn_of _ (by decide +kernel)) ggL_law_X5_allocate
set_option maxRecDepth 20000 in
theorem ggL_law_X4_allocateTable : GoodIn wsL_law wsX4_allocateTable := goodIn_r _ [147, 75, 76, 77, 2, 78, 15, 19, 79, 80, 81, 14, 82, 28, 83, 84, 85, 18, 86, 57, 87, 56, 13, 88, 89, 90, 42, 91, 25, 26, 27, 10, 11, 29, 30, 31, 32, 33, 34, 35, 36, 37, 38, 39, 40, 41, 43, 44, 45, 46, 47, 48, 49, 50, 51, 52, 92, 93, 94, 95, 96, 97, 98, 99, 100, 101, 102, 103, 104, 105, 106, 107, 108, 109, 110, 111, 112, 113, 114, 115, 607, 608, 609, 610, 616, 617, 618, 619, 620, 621, 622, 623, 624, 625, 626, 627, 632, 633] (by decide +kernel) (by decide +kernel)
set_option maxRecDepth 20000 in
theorem gL_law_X4_allocateTable : GoodIn wsL_law (wsV RL 18 RX4 yX4_allocateTable wsX4_allocateTable) := goodIn_app (goodIn_of _ (by decide +kernel)) ggL_law_X4_allocateTable
set_option maxRecDepth 20000 in
theorem ggL_law_X5_allocateTable : GoodIn wsL_law wsX5_allocateTable := goodIn_r _ [151, 120, 121, 122, 5, 123, 66, 124, 125, 126, 127, 128, 129, 130, 131, 132, 133, 134, 135, 136, 137, 138, 139, 140, 141, 142, 143, 611, 612, 613, 614, 615] (by decide +kernel) (by decide +kernel)
set_option maxRecDepth 20000 in
theorem gL_law_X5_allocateTable : GoodIn wsL_law (wsV RL 21 RX5 yX5_allocateTable wsX5_allocateTable) := goodIn_app (goodIn_of _ (by decide +kernel)) ggL_law_X5_allocateTable
set_option maxRecDepth 20000 in
theorem ggL_law_X4_allocateWeak : GoodIn wsL_law wsX4_allocateWeak := goodIn_r _ [155, 15, 156, 157, 158, 14, 159, 28, 114, 2, 115, 75, 76, 77, 78, 19, 79, 80, 81, 82, 83, 84, 85, 18, 86, 57, 87, 56, 13, 88, 89, 90, 42, 91, 25, 26, 27, 10, 11, 29, 30, 31, 32, 33, 34, 35, 36, 37, 38, 39, 40, 41, 43, 44, 45, 46, 47, 48, 49, 50, 51, 52, 92, 93, 94, 95, 96, 97, 98, 99, 100, 101, 102, 103, 104, 105, 106, 107, 108, 109, 110, 111, 112, 113, 607, 608, 609, 610, 616, 617, 618, 619, 620, 621, 622, 623, 624, 625, 626, 627, 632, 633] (by decide +kernel) (by decide +kernel)
set_option maxRecDepth 20000 in
theorem gL_law_X4_allocateWeak : GoodIn wsL_law (wsV RL 22 RX4 yX4_allocateWeak wsX4_allocateWeak) := goodIn_app (goodIn_of _ (by decide +kernel)) ggL_law_X4_allocateWeak
set_option maxRecDepth 20000 in
theorem ggL_law_X5_allocateWeak : GoodIn wsL_law wsX5_allocateWeak := goodIn_r _ [163, 124, 125, 126, 5, 127, 128, 129, 130, 131, 132, 133, 134, 66, 120, 121, 122, 123, 135, 136, 137, 138, 139, 140, 141, 142, 143, 611, 612, 613, 614, 615] (by decide +kernel) (by decide +kernel)
set_option maxRecDepth 20000 in
theorem gL_law_X5_allocateWeak : GoodIn wsL_law (wsV RL 26 RX5 yX5_allocateWeak wsX5_allocateWeak) := goodIn_app (goodIn_of _ (by decide +kernel)) ggL_law_X5_allocateWeak
set_option maxRecDepth 20000 in
theorem ggL_law_X4_kind : GoodIn wsL_law wsX4_kind := goodIn_r _ [167, 15, 168, 169, 114, 2, 115, 607, 608, 609, 610, 616, 617, 618, 619, 620, 621, 622, 623, 624] (by decide +kernel) (by decide +kernel)
set_option maxRecDepth 20000 in
theorem gL_law_X4_kind : GoodIn wsL_law (wsV RL 27 RX4 yX4_kind wsX4_kind) := goodIn_app (goodIn_of _ (by decide +kernel)) ggL_law_X4_kind
set_option maxRecDepth 20000 in
theorem ggL_law_X5_kind : GoodIn wsL_law wsX5_kind := goodIn_r _ [173, 124, 125, 126, 5, 127, 128, 129, 130, 131, 132, 133, 134, 66, 611, 612, 613, 614, 615] (by decide +kernel) (by decide +kernel)
set_option maxRecDepth 20000 in
theorem gL_law_X5_kind : GoodIn wsL_law (wsV RL 30 RX5 yX5_kind wsX5_kind) := goodIn_app (goodIn_of _ (by decide +kernel)) ggL_law_X5_kind
set_option maxRecDepth 20000 in
theorem ggL_law_X4_setField : GoodIn wsL_law wsX4_setField := goodIn_r _ [177, 15, 178, 19, 179, 180, 181, 14, 182, 28, 114, 2, 115, 169, 183, 184, 185, 186, 187, 157, 158, 159, 83, 84, 85, 18, 86, 57, 87, 56, 13, 88, 89, 90, 42, 91, 25, 26, 27, 10, 11, 29, 30, 31, 32, 33, 34, 35, 36, 37, 38, 39, 40, 41, 43, 44, 45, 46, 47, 48, 49, 50, 51, 52, 92, 93, 94, 95, 96, 97, 98, 99, 100, 101, 102, 103, 104, 105, 106, 107, 108, 109, 607, 608, 609, 610, 616, 617, 618, 619, 620, 621, 622, 623, 624, 625, 626, 627, 632, 633] (by decide +kernel) (by decide +kernel)
set_option maxRecDepth 20000 in
theorem gL_law_X4_setField : GoodIn wsL_law (wsV RL 31 RX4 yX4_setField wsX4_setField) := goodIn_app (goodIn_of _ (by decide +kernel)) ggL_law_X4_setField
set_option maxRecDepth 20000 in
theorem ggL_law_X5_setField : GoodIn wsL_law wsX5_setField := goodIn_r _ [191, 192, 193, 194, 5, 195, 124, 125, 126, 127, 128, 129, 130, 131, 132, 133, 134, 66, 196, 197, 198, 199, 135, 136, 137, 138, 139, 140, 141, 142, 143, 611, 612, 613, 614, 615] (by decide +kernel) (by decide +kernel)
set_option maxRecDepth 20000 in
theorem gL_law_X5_setField : GoodIn wsL_law (wsV RL 35 RX5 yX5_setField wsX5_setField) := goodIn_app (goodIn_of _ (by decide +kernel)) ggL_law_X5_setField
set_option maxRecDepth 20000 in
theorem ggL_law_X4_field : GoodIn wsL_law wsX4_field := goodIn_r _ [203, 15, 178, 179, 180, 181, 14, 182, 28, 114, 2, 115, 169, 607, 608, 609, 610, 616, 617, 618, 619, 620, 621, 622, 623, 624] (by decide +kernel) (by decide +kernel)
set_option maxRecDepth 20000 in
theorem gL_law_X4_field : GoodIn wsL_law (wsV RL 36 RX4 yX4_field wsX4_field) := goodIn_app (goodIn_of _ (by decide +kernel)) ggL_law_X4_field
set_option maxRecDepth 20000 in
theorem ggL_law_X5_field : GoodIn wsL_law wsX5_field := goodIn_r _ [207, 192, 193, 194, 5, 195, 124, 125, 126, 127, 128, 129, 130, 131, 132, 133, 134, 66, 611, 612, 613, 614, 615] (by decide +kernel) (by decide +kernel)
set_option maxRecDepth 20000 in
theorem gL_law_X5_field : GoodIn wsL_law (wsV RL 40 RX5 yX5_field wsX5_field) := goodIn_app (goodIn_of _ (by decide +kernel)) ggL_law_X5_field
set_option maxRecDepth 20000 in
theorem ggL_law_X4_setRoot : GoodIn wsL_law wsX4_setRoot := goodIn_r _ [211, 15, 212, 19, 169, 114, 2, 115, 183, 184, 185, 14, 186, 187, 157, 158, 159, 28, 83, 84, 85, 18, 86, 57, 87, 56, 13, 88, 89, 90, 42, 91, 25, 26, 27, 10, 11, 29, 30, 31, 32, 33, 34, 35, 36, 37, 38, 39, 40, 41, 43, 44, 45, 46, 47, 48, 49, 50, 51, 52, 92, 93, 94, 95, 96, 97, 98, 99, 100, 101, 102, 103, 104, 105, 106, 107, 108, 109, 607, 608, 609, 610, 616, 617, 618, 619, 620, 621, 622, 623, 624, 625, 626, 627, 632, 633] (by decide +kernel) (by decide +kernel)
set_option maxRecDepth 20000 in
theorem gL_law_X4_setRoot : GoodIn wsL_law (wsV RL 41 RX4 yX4_setRoot wsX4_setRoot) := goodIn_app (goodIn_of _ (by decide +kernel)) ggL_law_X4_setRoot
set_option maxRecDepth 20000 in
theorem ggL_law_X5_setRoot : GoodIn wsL_law wsX5_setRoot := goodIn_r _ [216, 128, 129, 5, 130, 124, 125, 126, 127, 131, 132, 133, 134, 66, 196, 197, 198, 199, 135, 136, 137, 138, 139, 140, 141, 142, 143, 611, 612, 613, 614, 615] (by decide +kernel) (by decide +kernel)
set_option maxRecDepth 20000 in
theorem gL_law_X5_setRoot : GoodIn wsL_law (wsV RL 44 RX5 yX5_setRoot wsX5_setRoot) := goodIn_app (goodIn_of _ (by decide +kernel)) ggL_law_X5_setRoot
set_option maxRecDepth 20000 in
theorem ggL_law_X4_root : GoodIn wsL_law wsX4_root := goodIn_r _ [220, 15, 212, 169, 114, 2, 115, 607, 608, 609, 610, 616, 617, 618, 619, 620, 621, 622, 623, 624] (by decide +kernel) (by decide +kernel)
set_option maxRecDepth 20000 in
theorem gL_law_X4_root : GoodIn wsL_law (wsV RL 45 RX4 yX4_root wsX4_root) := goodIn_app (goodIn_of _ (by decide +kernel)) ggL_law_X4_root
set_option maxRecDepth 20000 in
theorem ggL_law_X5_root : GoodIn wsL_law wsX5_root := goodIn_r _ [224, 66, 128, 129, 5, 130, 611, 612, 613, 614, 615] (by decide +kernel) (by decide +kernel)
set_option maxRecDepth 20000 in
theorem gL_law_X5_root : GoodIn wsL_law (wsV RL 48 RX5 yX5_root wsX5_root) := goodIn_app (goodIn_of _ (by decide +kernel)) ggL_law_X5_root
set_option maxRecDepth 20000 in
theorem ggL_law_X4_target : GoodIn wsL_law wsX4_target := goodIn_r _ [228, 15, 229, 179, 180, 181, 14, 182, 28, 114, 2, 115, 607, 608, 609, 610, 616, 617, 618, 619, 620, 621, 622, 623, 624] (by decide +kernel) (by decide +kernel)
set_option maxRecDepth 20000 in
theorem gL_law_X4_target : GoodIn wsL_law (wsV RL 49 RX4 yX4_target wsX4_target) := goodIn_app (goodIn_of _ (by decide +kernel)) ggL_law_X4_target
set_option maxRecDepth 20000 in
theorem ggL_law_X5_target : GoodIn wsL_law wsX5_target := goodIn_r _ [233, 192, 193, 194, 5, 195, 124, 125, 126, 127, 128, 129, 130, 131, 132, 133, 134, 66, 611, 612, 613, 614, 615] (by decide +kernel) (by decide +kernel)
set_option maxRecDepth 20000 in
theorem gL_law_X5_target : GoodIn wsL_law (wsV RL 52 RX5 yX5_target wsX5_target) := goodIn_app (goodIn_of _ (by decide +kernel)) ggL_law_X5_target
set_option maxRecDepth 20000 in
theorem ggL_law_X4_setFinalizable : GoodIn wsL_law wsX4_setFinalizable := goodIn_r _ [237, 15, 238, 19, 156, 157, 158, 14, 159, 28, 114, 2, 115, 239, 240, 241, 242, 243, 244, 83, 84, 85, 18, 86, 57, 87, 56, 13, 88, 89, 90, 42, 91, 25, 26, 27, 10, 11, 29, 30, 31, 32, 33, 34, 35, 36, 37, 38, 39, 40, 41, 43, 44, 45, 46, 47, 48, 49, 50, 51, 52, 92, 93, 94, 95, 96, 97, 98, 99, 100, 101, 102, 103, 104, 105, 106, 107, 108, 109, 245, 246, 247, 248, 249, 250, 251, 607, 608, 609, 610, 616, 617, 618, 619, 620, 621, 622, 623, 624, 625, 626, 627, 632, 633] (by decide +kernel) (by decide +kernel)
set_option maxRecDepth 20000 in
theorem gL_law_X4_setFinalizable : GoodIn wsL_law (wsV RL 53 RX4 yX4_setFinalizable wsX4_setFinalizable) := goodIn_app (goodIn_of _ (by decide +kernel)) ggL_law_X4_setFinalizable
set_option maxRecDepth 20000 in
theorem ggL_law_X5_setFinalizable : GoodIn wsL_law wsX5_setFinalizable := goodIn_r _ [255, 66, 124, 125, 126, 5, 127, 128, 129, 130, 131, 132, 133, 134, 135, 136, 137, 138, 139, 140, 141, 142, 143, 611, 612, 613, 614, 615] (by decide +kernel) (by decide +kernel)
set_option maxRecDepth 20000 in
theorem gL_law_X5_setFinalizable : GoodIn wsL_law (wsV RL 56 RX5 yX5_setFinalizable wsX5_setFinalizable) := goodIn_app (goodIn_of _ (by decide +kernel)) ggL_law_X5_setFinalizable
set_option maxRecDepth 20000 in
theorem ggL_law_X4_put : GoodIn wsL_law wsX4_put := goodIn_r _ [259, 15, 19, 260, 261, 262, 263, 264, 14, 265, 266, 180, 181, 182, 28, 114, 2, 115, 187, 157, 158, 159, 156, 267, 268, 269, 270, 30, 83, 84, 85, 18, 86, 57, 87, 56, 13, 88, 89, 90, 42, 91, 25, 26, 27, 10, 11, 29, 31, 32, 33, 34, 35, 36, 37, 38, 39, 40, 41, 43, 44, 45, 46, 47, 48, 49, 50, 51, 52, 92, 93, 94, 95, 96, 97, 98, 99, 100, 101, 102, 103, 104, 105, 106, 107, 108, 109, 607, 608, 609, 610, 616, 617, 618, 619, 620, 621, 622, 623, 624, 625, 626, 627, 632, 633] (by decide +kernel) (by decide +kernel)
set_option maxRecDepth 20000 in
theorem gL_law_X4_put : GoodIn wsL_law (wsV RL 57 RX4 yX4_put wsX4_put) := goodIn_app (goodIn_of _ (by decide +kernel)) ggL_law_X4_put
set_option maxRecDepth 20000 in
theorem ggL_law_X5_put : GoodIn wsL_law wsX5_put := goodIn_r _ [274, 66, 192, 193, 194, 5, 195, 124, 125, 126, 127, 128, 129, 130, 131, 132, 133, 134, 275, 276, 277, 278, 135, 136, 137, 138, 139, 140, 141, 142, 143, 611, 612, 613, 614, 615] (by decide +kernel) (by decide +kernel)
set_option maxRecDepth 20000 in
theorem gL_law_X5_put : GoodIn wsL_law (wsV RL 60 RX5 yX5_put wsX5_put) := goodIn_app (goodIn_of _ (by decide +kernel)) ggL_law_X5_put
set_option maxRecDepth 20000 in
theorem ggL_law_X4_get : GoodIn wsL_law wsX4_get := goodIn_r _ [282, 15, 260, 262, 263, 264, 14, 265, 266, 180, 181, 182, 28, 114, 2, 115, 187, 157, 158, 159, 267, 268, 269, 270, 30, 607, 608, 609, 610, 616, 617, 618, 619, 620, 621, 622, 623, 624] (by decide +kernel) (by decide +kernel)
set_option maxRecDepth 20000 in
theorem gL_law_X4_get : GoodIn wsL_law (wsV RL 61 RX4 yX4_get wsX4_get) := goodIn_app (goodIn_of _ (by decide +kernel)) ggL_law_X4_get
set_option maxRecDepth 20000 in
theorem ggL_law_X5_get : GoodIn wsL_law wsX5_get := goodIn_r _ [286, 192, 193, 194, 5, 195, 124, 125, 126, 127, 128, 129, 130, 131, 132, 133, 134, 66, 275, 276, 277, 278, 611, 612, 613, 614, 615] (by decide +kernel) (by decide +kernel)
set_option maxRecDepth 20000 in
theorem gL_law_X5_get : GoodIn wsL_law (wsV RL 64 RX5 yX5_get wsX5_get) := goodIn_app (goodIn_of _ (by decide +kernel)) ggL_law_X5_get
set_option maxRecDepth 20000 in
theorem ggL_law_X4_removeEntry : GoodIn wsL_law wsX4_removeEntry := goodIn_r _ [290, 15, 19, 260, 262, 263, 264, 14, 265, 266, 180, 181, 182, 28, 114, 2, 115, 187, 157, 158, 159, 267, 268, 269, 270, 30, 83, 84, 85, 18, 86, 57, 87, 56, 13, 88, 89, 90, 42, 91, 25, 26, 27, 10, 11, 29, 31, 32, 33, 34, 35, 36, 37, 38, 39, 40, 41, 43, 44, 45, 46, 47, 48, 49, 50, 51, 52, 92, 93, 94, 95, 96, 97, 98, 99, 100, 101, 102, 103, 104, 105, 106, 107, 108, 109, 242, 243, 244, 291, 292, 293, 294, 240, 241, 607, 608, 609, 610, 616, 617, 618, 619, 620, 621, 622, 623, 624, 625, 626, 627, 632, 633] (by decide +kernel) (by decide +kernel)
set_option maxRecDepth 20000 in
theorem gL_law_X4_removeEntry : GoodIn wsL_law (wsV RL 65 RX4 yX4_removeEntry wsX4_removeEntry) := goodIn_app (goodIn_of _ (by decide +kernel)) ggL_law_X4_removeEntry
set_option maxRecDepth 20000 in
theorem ggL_law_X5_removeEntry : GoodIn wsL_law wsX5_removeEntry := goodIn_r _ [298, 192, 193, 194, 5, 195, 124, 125, 126, 127, 128, 129, 130, 131, 132, 133, 134, 66, 275, 276, 277, 278, 135, 136, 137, 138, 139, 140, 141, 142, 143, 299, 300, 301, 302, 611, 612, 613, 614, 615] (by decide +kernel) (by decide +kernel)
set_option maxRecDepth 20000 in
theorem gL_law_X5_removeEntry : GoodIn wsL_law (wsV RL 68 RX5 yX5_removeEntry wsX5_removeEntry) := goodIn_app (goodIn_of _ (by decide +kernel)) ggL_law_X5_removeEntry
set_option maxRecDepth 20000 in
theorem ggL_law_X4_entryCount : GoodIn wsL_law wsX4_entryCount := goodIn_r _ [306, 15, 179, 180, 181, 14, 182, 28, 114, 2, 115, 267, 268, 269, 270, 30, 607, 608, 609, 610, 616, 617, 618, 619, 620, 621, 622, 623, 624] (by decide +kernel) (by decide +kernel)
set_option maxRecDepth 20000 in
theorem gL_law_X4_entryCount : GoodIn wsL_law (wsV RL 69 RX4 yX4_entryCount wsX4_entryCount) := goodIn_app (goodIn_of _ (by decide +kernel)) ggL_law_X4_entryCount
set_option maxRecDepth 20000 in
theorem ggL_law_X5_entryCount : GoodIn wsL_law wsX5_entryCount := goodIn_r _ [310, 192, 193, 194, 5, 195, 124, 125, 126, 127, 128, 129, 130, 131, 132, 133, 134, 66, 611, 612, 613, 614, 615] (by decide +kernel) (by decide +kernel)
set_option maxRecDepth 20000 in
theorem gL_law_X5_entryCount : GoodIn wsL_law (wsV RL 72 RX5 yX5_entryCount wsX5_entryCount) := goodIn_app (goodIn_of _ (by decide +kernel)) ggL_law_X5_entryCount
set_option maxRecDepth 20000 in
theorem ggL_law_X4_entryKey : GoodIn wsL_law wsX4_entryKey := goodIn_r _ [314, 15, 261, 179, 180, 181, 14, 182, 28, 114, 2, 115, 607, 608, 609, 610, 616, 617, 618, 619, 620, 621, 622, 623, 624] (by decide +kernel) (by decide +kernel)
set_option maxRecDepth 20000 in
theorem gL_law_X4_entryKey : GoodIn wsL_law (wsV RL 73 RX4 yX4_entryKey wsX4_entryKey) := goodIn_app (goodIn_of _ (by decide +kernel)) ggL_law_X4_entryKey
set_option maxRecDepth 20000 in
theorem ggL_law_X5_entryKey : GoodIn wsL_law wsX5_entryKey := goodIn_r _ [318, 192, 193, 194, 5, 195, 124, 125, 126, 127, 128, 129, 130, 131, 132, 133, 134, 66, 611, 612, 613, 614, 615] (by decide +kernel) (by decide +kernel)
set_option maxRecDepth 20000 in
theorem gL_law_X5_entryKey : GoodIn wsL_law (wsV RL 76 RX5 yX5_entryKey wsX5_entryKey) := goodIn_app (goodIn_of _ (by decide +kernel)) ggL_law_X5_entryKey
set_option maxRecDepth 20000 in
theorem ggL_law_X4_collect : GoodIn wsL_law wsX4_collect := goodIn_r _ [322, 19, 15, 24, 323, 324, 325, 238, 83, 84, 85, 18, 86, 57, 87, 56, 13, 14, 88, 89, 90, 42, 91, 25, 26, 27, 10, 11, 28, 29, 30, 31, 32, 33, 34, 35, 36, 37, 38, 2, 39, 40, 41, 43, 44, 45, 46, 47, 48, 49, 50, 51, 52, 92, 93, 94, 95, 96, 97, 98, 99, 100, 101, 102, 103, 104, 105, 106, 107, 108, 109, 326, 327, 328, 329, 330, 331, 332, 333, 243, 244, 334, 335, 336, 23, 337, 61, 338, 339, 340, 341, 342, 343, 344, 345, 346, 347, 348, 349, 350, 351, 352, 353, 240, 241, 242, 354, 355, 356, 357, 358, 359, 360, 361, 362, 363, 364, 365, 366, 367, 368, 369, 370, 371, 372, 373, 374, 375, 376, 377, 378, 379, 380, 381, 382, 383, 114, 115, 384, 385, 386, 387, 388, 389, 390, 391, 392, 393, 394, 395, 396, 397, 398, 399, 400, 292, 293, 294, 401, 402, 403, 404, 405, 406, 407, 408, 409, 410, 411, 412, 413, 414, 245, 246, 247, 248, 249, 250, 251, 607, 608, 609, 610, 628, 629, 630, 631, 616, 617, 618, 619, 620, 621, 622, 623, 624, 625, 626, 627, 632, 633] (by decide +kernel) (by decide +kernel)
set_option maxRecDepth 20000 in
theorem gL_law_X4_collect : GoodIn wsL_law (wsV RL 77 RX4 yX4_collect wsX4_collect) := goodIn_app (goodIn_of _ (by decide +kernel)) ggL_law_X4_collect
set_option maxRecDepth 20000 in
theorem ggL_law_X5_collect : GoodIn wsL_law wsX5_collect := goodIn_r _ [418, 135, 136, 137, 5, 138, 139, 140, 141, 142, 143, 66, 419, 420, 421, 422, 423, 424, 425, 426, 427, 428, 429, 430, 70, 431, 432, 433, 434, 69, 435, 436, 437, 438, 131, 132, 133, 134, 439, 440, 441, 442, 443, 444, 445, 446, 447, 448, 449, 450, 451, 452, 453, 454, 455, 456, 457, 458, 124, 125, 126, 127, 128, 129, 130, 459, 460, 461, 462, 299, 300, 301, 302, 463, 464, 465, 466, 611, 612, 613, 614, 615] (by decide +kernel) (by decide +kernel)
set_option maxRecDepth 20000 in
theorem gL_law_X5_collect : GoodIn wsL_law (wsV RL 80 RX5 yX5_collect wsX5_collect) := goodIn_app (goodIn_of _ (by decide +kernel)) ggL_law_X5_collect
set_option maxRecDepth 20000 in
theorem ggL_law_X4_lastRounds : GoodIn wsL_law wsX4_lastRounds := goodIn_r _ [470, 15, 324, 607, 608, 609, 610, 616, 617, 618, 619, 620, 621, 622, 623, 624] (by decide +kernel) (by decide +kernel)
set_option maxRecDepth 20000 in
theorem gL_law_X4_lastRounds : GoodIn wsL_law (wsV RL 81 RX4 yX4_lastRounds wsX4_lastRounds) := goodIn_app (goodIn_of _ (by decide +kernel)) ggL_law_X4_lastRounds
set_option maxRecDepth 20000 in
theorem ggL_law_X5_lastRounds : GoodIn wsL_law wsX5_lastRounds := goodIn_r _ [474, 66, 611, 612, 613, 614, 615] (by decide +kernel) (by decide +kernel)
set_option maxRecDepth 20000 in
theorem gL_law_X5_lastRounds : GoodIn wsL_law (wsV RL 84 RX5 yX5_lastRounds wsX5_lastRounds) := goodIn_app (goodIn_of _ (by decide +kernel)) ggL_law_X5_lastRounds
set_option maxRecDepth 20000 in
theorem ggL_law_X4_pollNotice : GoodIn wsL_law wsX4_pollNotice := goodIn_r _ [478, 15, 479, 480, 19, 83, 84, 85, 18, 86, 57, 87, 56, 13, 14, 88, 89, 90, 42, 91, 25, 26, 27, 10, 11, 28, 29, 30, 31, 32, 33, 34, 35, 36, 37, 38, 2, 39, 40, 41, 43, 44, 45, 46, 47, 48, 49, 50, 51, 52, 92, 93, 94, 95, 96, 97, 98, 99, 100, 101, 102, 103, 104, 105, 106, 107, 108, 109, 481, 379, 380, 381, 382, 383, 607, 608, 609, 610, 616, 617, 618, 619, 620, 621, 622, 623, 624, 632, 633, 625, 626, 627] (by decide +kernel) (by decide +kernel)
set_option maxRecDepth 20000 in
theorem gL_law_X4_pollNotice : GoodIn wsL_law (wsV RL 85 RX4 yX4_pollNotice wsX4_pollNotice) := goodIn_app (goodIn_of _ (by decide +kernel)) ggL_law_X4_pollNotice
set_option maxRecDepth 20000 in
theorem ggL_law_X5_pollNotice : GoodIn wsL_law wsX5_pollNotice := goodIn_r _ [485, 66, 135, 136, 137, 5, 138, 139, 140, 141, 142, 143, 451, 452, 453, 454, 611, 612, 613, 614, 615] (by decide +kernel) (by decide +kernel)
set_option maxRecDepth 20000 in
theorem gL_law_X5_pollNotice : GoodIn wsL_law (wsV RL 88 RX5 yX5_pollNotice wsX5_pollNotice) := goodIn_app (goodIn_of _ (by decide +kernel)) ggL_law_X5_pollNotice
set_option maxRecDepth 20000 in
theorem ggL_law_X4_noticeCount : GoodIn wsL_law wsX4_noticeCount := goodIn_r _ [489, 15, 479, 480, 607, 608, 609, 610, 616, 617, 618, 619, 620, 621, 622, 623, 624, 632, 633] (by decide +kernel) (by decide +kernel)
set_option maxRecDepth 20000 in
theorem gL_law_X4_noticeCount : GoodIn wsL_law (wsV RL 89 RX4 yX4_noticeCount wsX4_noticeCount) := goodIn_app (goodIn_of _ (by decide +kernel)) ggL_law_X4_noticeCount
set_option maxRecDepth 20000 in
theorem ggL_law_X5_noticeCount : GoodIn wsL_law wsX5_noticeCount := goodIn_r _ [493, 66, 611, 612, 613, 614, 615] (by decide +kernel) (by decide +kernel)
set_option maxRecDepth 20000 in
theorem gL_law_X5_noticeCount : GoodIn wsL_law (wsV RL 92 RX5 yX5_noticeCount wsX5_noticeCount) := goodIn_app (goodIn_of _ (by decide +kernel)) ggL_law_X5_noticeCount
set_option maxRecDepth 20000 in
theorem ggL_law_X4_objectCount : GoodIn wsL_law wsX4_objectCount := goodIn_r _ [497, 15, 401, 402, 403, 14, 404, 28, 243, 2, 244, 245, 246, 247, 248, 249, 250, 251, 607, 608, 609, 610, 616, 617, 618, 619, 620, 621, 622, 623, 624] (by decide +kernel) (by decide +kernel)
set_option maxRecDepth 20000 in
theorem gL_law_X4_objectCount : GoodIn wsL_law (wsV RL 93 RX4 yX4_objectCount wsX4_objectCount) := goodIn_app (goodIn_of _ (by decide +kernel)) ggL_law_X4_objectCount
set_option maxRecDepth 20000 in
theorem ggL_law_X5_objectCount : GoodIn wsL_law wsX5_objectCount := goodIn_r _ [501, 124, 125, 126, 5, 127, 128, 129, 130, 131, 132, 133, 134, 66, 611, 612, 613, 614, 615] (by decide +kernel) (by decide +kernel)
set_option maxRecDepth 20000 in
theorem gL_law_X5_objectCount : GoodIn wsL_law (wsV RL 96 RX5 yX5_objectCount wsX5_objectCount) := goodIn_app (goodIn_of _ (by decide +kernel)) ggL_law_X5_objectCount
set_option maxRecDepth 20000 in
theorem ggL_law_X4_reachableCount : GoodIn wsL_law wsX4_reachableCount := goodIn_r _ [505, 24, 325, 326, 327, 328, 2, 329, 15, 330, 331, 332, 14, 333, 33, 243, 244, 334, 335, 336, 23, 337, 61, 338, 339, 340, 341, 46, 47, 48, 342, 343, 344, 345, 346, 347, 348, 349, 350, 351, 352, 353, 240, 241, 242, 354, 355, 356, 357, 358, 359, 360, 361, 29, 362, 363, 364, 365, 366, 367, 368, 369, 30, 31, 245, 246, 247, 248, 249, 250, 251, 607, 608, 609, 610, 628, 629, 630, 631, 616, 617, 618, 619, 620, 621, 622, 623, 624] (by decide +kernel) (by decide +kernel)
set_option maxRecDepth 20000 in
theorem gL_law_X4_reachableCount : GoodIn wsL_law (wsV RL 97 RX4 yX4_reachableCount wsX4_reachableCount) := goodIn_app (goodIn_of _ (by decide +kernel)) ggL_law_X4_reachableCount
set_option maxRecDepth 20000 in
theorem ggL_law_X5_reachableCount : GoodIn wsL_law wsX5_reachableCount := goodIn_r _ [509, 423, 424, 425, 5, 426, 427, 428, 429, 430, 70, 66, 431, 432, 433, 434, 69, 435, 436, 437, 438, 131, 132, 133, 134, 439, 440, 441, 442, 510, 511, 512, 513, 611, 612, 613, 614, 615] (by decide +kernel) (by decide +kernel)
set_option maxRecDepth 20000 in
theorem gL_law_X5_reachableCount : GoodIn wsL_law (wsV RL 100 RX5 yX5_reachableCount wsX5_reachableCount) := goodIn_app (goodIn_of _ (by decide +kernel)) ggL_law_X5_reachableCount
set_option maxRecDepth 20000 in
theorem ggL_law_X4_markRound : GoodIn wsL_law wsX4_markRound := goodIn_r _ [517, 15, 24, 518, 156, 157, 158, 14, 159, 28, 114, 2, 115, 326, 327, 328, 329, 330, 331, 332, 333, 33, 243, 244, 334, 335, 336, 23, 337, 61, 338, 339, 340, 341, 46, 47, 48, 342, 343, 344, 345, 346, 347, 348, 349, 350, 351, 352, 353, 240, 241, 242, 354, 355, 356, 357, 358, 359, 360, 361, 29, 362, 363, 364, 365, 366, 367, 368, 369, 30, 31, 607, 608, 609, 610, 628, 629, 630, 631, 616, 617, 618, 619, 620, 621, 622, 623, 624] (by decide +kernel) (by decide +kernel)
set_option maxRecDepth 20000 in
theorem gL_law_X4_markRound : GoodIn wsL_law (wsV RL 101 RX4 yX4_markRound wsX4_markRound) := goodIn_app (goodIn_of _ (by decide +kernel)) ggL_law_X4_markRound
set_option maxRecDepth 20000 in
theorem ggL_law_X5_markRound : GoodIn wsL_law wsX5_markRound := goodIn_r _ [522, 69, 124, 125, 126, 5, 127, 128, 129, 130, 131, 132, 133, 134, 66, 423, 424, 425, 426, 427, 428, 429, 430, 70, 431, 432, 433, 434, 435, 436, 437, 438, 439, 440, 441, 442, 611, 612, 613, 614, 615] (by decide +kernel) (by decide +kernel)
set_option maxRecDepth 20000 in
theorem gL_law_X5_markRound : GoodIn wsL_law (wsV RL 104 RX5 yX5_markRound wsX5_markRound) := goodIn_app (goodIn_of _ (by decide +kernel)) ggL_law_X5_markRound
set_option maxRecDepth 20000 in
theorem ggL_law_X4_wouldFree : GoodIn wsL_law wsX4_wouldFree := goodIn_r _ [526, 15, 238, 24, 325, 388, 389, 390, 2, 391, 330, 331, 332, 14, 333, 33, 243, 244, 334, 335, 336, 23, 337, 61, 338, 339, 340, 341, 46, 47, 48, 342, 343, 344, 345, 346, 347, 348, 349, 350, 351, 352, 353, 240, 241, 242, 354, 355, 356, 357, 358, 359, 360, 361, 29, 362, 363, 364, 365, 366, 367, 368, 369, 30, 31, 401, 402, 403, 404, 28, 245, 246, 247, 248, 249, 250, 251, 607, 608, 609, 610, 616, 617, 618, 619, 620, 621, 622, 623, 624, 628, 629, 630, 631] (by decide +kernel) (by decide +kernel)
set_option maxRecDepth 20000 in
theorem gL_law_X4_wouldFree : GoodIn wsL_law (wsV RL 105 RX4 yX4_wouldFree wsX4_wouldFree) := goodIn_app (goodIn_of _ (by decide +kernel)) ggL_law_X4_wouldFree
set_option maxRecDepth 20000 in
theorem ggL_law_X5_wouldFree : GoodIn wsL_law wsX5_wouldFree := goodIn_r _ [530, 140, 141, 142, 5, 143, 66, 419, 420, 421, 422, 423, 424, 425, 426, 427, 428, 429, 430, 70, 431, 432, 433, 434, 69, 435, 436, 437, 438, 131, 132, 133, 134, 439, 440, 441, 442, 443, 444, 445, 446, 447, 448, 449, 450, 451, 452, 453, 454, 455, 456, 457, 458, 124, 125, 126, 127, 128, 129, 130, 459, 460, 461, 462, 299, 300, 301, 302, 463, 464, 465, 466, 611, 612, 613, 614, 615] (by decide +kernel) (by decide +kernel)
set_option maxRecDepth 20000 in
theorem gL_law_X5_wouldFree : GoodIn wsL_law (wsV RL 108 RX5 yX5_wouldFree wsX5_wouldFree) := goodIn_app (goodIn_of _ (by decide +kernel)) ggL_law_X5_wouldFree
set_option maxRecDepth 20000 in
theorem ggL_law_X4_retainedSize : GoodIn wsL_law wsX4_retainedSize := goodIn_r _ [534, 15, 24, 325, 156, 157, 158, 14, 159, 28, 114, 2, 115, 326, 327, 328, 329, 330, 331, 332, 333, 33, 243, 244, 334, 335, 336, 23, 337, 61, 338, 339, 340, 341, 46, 47, 48, 342, 343, 344, 345, 346, 347, 348, 349, 350, 351, 352, 353, 240, 241, 242, 354, 355, 356, 357, 358, 359, 360, 361, 29, 362, 363, 364, 365, 366, 367, 368, 369, 30, 31, 245, 246, 247, 248, 249, 250, 251, 607, 608, 609, 610, 628, 629, 630, 631, 616, 617, 618, 619, 620, 621, 622, 623, 624] (by decide +kernel) (by decide +kernel)
set_option maxRecDepth 20000 in
theorem gL_law_X4_retainedSize : GoodIn wsL_law (wsV RL 109 RX4 yX4_retainedSize wsX4_retainedSize) := goodIn_app (goodIn_of _ (by decide +kernel)) ggL_law_X4_retainedSize
set_option maxRecDepth 20000 in
theorem ggL_law_X5_retainedSize : GoodIn wsL_law wsX5_retainedSize := goodIn_r _ [538, 124, 125, 126, 5, 127, 128, 129, 130, 131, 132, 133, 134, 66, 539, 507, 508, 509, 423, 424, 425, 426, 427, 428, 429, 430, 70, 431, 432, 433, 434, 69, 435, 436, 437, 438, 439, 440, 441, 442, 510, 511, 512, 513, 611, 612, 613, 614, 615] (by decide +kernel) (by decide +kernel)
set_option maxRecDepth 20000 in
theorem gL_law_X5_retainedSize : GoodIn wsL_law (wsV RL 112 RX5 yX5_retainedSize wsX5_retainedSize) := goodIn_app (goodIn_of _ (by decide +kernel)) ggL_law_X5_retainedSize
set_option maxRecDepth 20000 in
theorem ggL_law_X4_waitingEntries : GoodIn wsL_law wsX4_waitingEntries := goodIn_r _ [543, 15, 24, 325, 156, 157, 158, 14, 159, 28, 114, 2, 115, 326, 327, 328, 329, 330, 331, 332, 333, 33, 243, 244, 334, 335, 336, 23, 337, 61, 338, 339, 340, 341, 46, 47, 48, 342, 343, 344, 345, 346, 347, 348, 349, 350, 351, 352, 353, 240, 241, 242, 354, 355, 356, 357, 358, 359, 360, 361, 29, 362, 363, 364, 365, 366, 367, 368, 369, 30, 31, 239, 544, 545, 546, 547, 548, 268, 269, 270, 607, 608, 609, 610, 628, 629, 630, 631, 616, 617, 618, 619, 620, 621, 622, 623, 624] (by decide +kernel) (by decide +kernel)
set_option maxRecDepth 20000 in
theorem gL_law_X4_waitingEntries : GoodIn wsL_law (wsV RL 113 RX4 yX4_waitingEntries wsX4_waitingEntries) := goodIn_app (goodIn_of _ (by decide +kernel)) ggL_law_X4_waitingEntries
set_option maxRecDepth 20000 in
theorem ggL_law_X5_waitingEntries : GoodIn wsL_law wsX5_waitingEntries := goodIn_r _ [552, 69, 124, 125, 126, 5, 127, 128, 129, 130, 131, 132, 133, 134, 66, 423, 424, 425, 426, 427, 428, 429, 430, 70, 431, 432, 433, 434, 435, 436, 437, 438, 439, 440, 441, 442, 275, 276, 277, 278, 611, 612, 613, 614, 615] (by decide +kernel) (by decide +kernel)
set_option maxRecDepth 20000 in
theorem gL_law_X5_waitingEntries : GoodIn wsL_law (wsV RL 116 RX5 yX5_waitingEntries wsX5_waitingEntries) := goodIn_app (goodIn_of _ (by decide +kernel)) ggL_law_X5_waitingEntries
set_option maxRecDepth 20000 in
theorem ggL_law_X4_referenceCount : GoodIn wsL_law wsX4_referenceCount := goodIn_r _ [556, 15, 212, 178, 261, 260, 229, 156, 157, 158, 14, 159, 28, 114, 2, 115, 557, 558, 559, 607, 608, 609, 610, 616, 617, 618, 619, 620, 621, 622, 623, 624] (by decide +kernel) (by decide +kernel)
set_option maxRecDepth 20000 in
theorem gL_law_X4_referenceCount : GoodIn wsL_law (wsV RL 117 RX4 yX4_referenceCount wsX4_referenceCount) := goodIn_app (goodIn_of _ (by decide +kernel)) ggL_law_X4_referenceCount
set_option maxRecDepth 20000 in
theorem ggL_law_X5_referenceCount : GoodIn wsL_law wsX5_referenceCount := goodIn_r _ [563, 66, 124, 125, 126, 5, 127, 128, 129, 130, 131, 132, 133, 134, 611, 612, 613, 614, 615] (by decide +kernel) (by decide +kernel)
set_option maxRecDepth 20000 in
theorem gL_law_X5_referenceCount : GoodIn wsL_law (wsV RL 120 RX5 yX5_referenceCount wsX5_referenceCount) := goodIn_app (goodIn_of _ (by decide +kernel)) ggL_law_X5_referenceCount
set_option maxRecDepth 20000 in
theorem ggL_law_X4_undo : GoodIn wsL_law wsX4_undo := goodIn_r _ [567, 19, 15, 568, 569, 570, 571, 18, 572, 87, 88, 57, 92, 93, 94, 14, 95, 28, 29, 30, 31, 32, 33, 37, 96, 97, 98, 2, 99, 100, 90, 42, 91, 101, 102, 103, 104, 105, 106, 107, 36, 108, 52, 109, 607, 608, 609, 610, 625, 626, 627, 616, 617, 618, 619, 620, 621, 622, 623, 624, 632, 633] (by decide +kernel) (by decide +kernel)
set_option maxRecDepth 20000 in
theorem gL_law_X4_undo : GoodIn wsL_law (wsV RL 121 RX4 yX4_undo wsX4_undo) := goodIn_app (goodIn_of _ (by decide +kernel)) ggL_law_X4_undo
set_option maxRecDepth 20000 in
theorem ggL_law_X5_undo : GoodIn wsL_law wsX5_undo := goodIn_r _ [576, 139, 140, 141, 142, 5, 143, 66, 611, 612, 613, 614, 615] (by decide +kernel) (by decide +kernel)
set_option maxRecDepth 20000 in
theorem gL_law_X5_undo : GoodIn wsL_law (wsV RL 124 RX5 yX5_undo wsX5_undo) := goodIn_app (goodIn_of _ (by decide +kernel)) ggL_law_X5_undo
set_option maxRecDepth 20000 in
theorem ggL_law_X4_undoDepth : GoodIn wsL_law wsX4_undoDepth := goodIn_r _ [580, 19, 568, 607, 608, 609, 610, 625, 626, 627] (by decide +kernel) (by decide +kernel)
set_option maxRecDepth 20000 in
theorem gL_law_X4_undoDepth : GoodIn wsL_law (wsV RL 125 RX4 yX4_undoDepth wsX4_undoDepth) := goodIn_app (goodIn_of _ (by decide +kernel)) ggL_law_X4_undoDepth
set_option maxRecDepth 20000 in
theorem ggL_law_X5_undoDepth : GoodIn wsL_law wsX5_undoDepth := goodIn_r _ [584, 139, 611, 612, 613, 614, 615] (by decide +kernel) (by decide +kernel)
set_option maxRecDepth 20000 in
theorem gL_law_X5_undoDepth : GoodIn wsL_law (wsV RL 128 RX5 yX5_undoDepth wsX5_undoDepth) := goodIn_app (goodIn_of _ (by decide +kernel)) ggL_law_X5_undoDepth
set_option maxRecDepth 20000 in
theorem ggL_law_X4_save : GoodIn wsL_law wsX4_save := goodIn_r _ [588, 20, 12, 13, 14, 15, 169, 114, 2, 115, 25, 26, 27, 10, 11, 28, 29, 30, 31, 32, 33, 34, 35, 36, 37, 38, 39, 40, 41, 42, 43, 44, 45, 46, 47, 48, 49, 50, 51, 52, 589, 93, 94, 95, 96, 97, 98, 99, 100, 90, 91, 101, 102, 103, 104, 105, 106, 107, 108, 109, 401, 402, 403, 404, 243, 244, 245, 246, 247, 248, 249, 250, 251, 607, 608, 609, 610, 616, 617, 618, 619, 620, 621, 622, 623, 624, 632, 633] (by decide +kernel) (by decide +kernel)
set_option maxRecDepth 20000 in
theorem gL_law_X4_save : GoodIn wsL_law (wsV RL 129 RX4 yX4_save wsX4_save) := goodIn_app (goodIn_of _ (by decide +kernel)) ggL_law_X4_save
set_option maxRecDepth 20000 in
theorem ggL_law_X5_save : GoodIn wsL_law wsX5_save := goodIn_r _ [593, 68, 128, 129, 5, 130, 140, 141, 142, 143, 66, 594, 499, 500, 501, 124, 125, 126, 127, 131, 132, 133, 134, 611, 612, 613, 614, 615] (by decide +kernel) (by decide +kernel)
set_option maxRecDepth 20000 in
theorem gL_law_X5_save : GoodIn wsL_law (wsV RL 132 RX5 yX5_save wsX5_save) := goodIn_app (goodIn_of _ (by decide +kernel)) ggL_law_X5_save
set_option maxRecDepth 20000 in
theorem ggL_law_X4_restore : GoodIn wsL_law wsX4_restore := goodIn_r _ [598, 20, 15, 19, 169, 114, 2, 115, 589, 93, 94, 14, 95, 28, 29, 30, 31, 32, 33, 37, 96, 97, 98, 99, 100, 90, 42, 91, 101, 102, 103, 104, 105, 106, 107, 36, 108, 52, 109, 599, 600, 601, 18, 602, 88, 401, 402, 403, 404, 243, 244, 245, 246, 247, 248, 249, 250, 251, 607, 608, 609, 610, 616, 617, 618, 619, 620, 621, 622, 623, 624, 632, 633, 625, 626, 627] (by decide +kernel) (by decide +kernel)
set_option maxRecDepth 20000 in
theorem gL_law_X4_restore : GoodIn wsL_law (wsV RL 133 RX4 yX4_restore wsX4_restore) := goodIn_app (goodIn_of _ (by decide +kernel)) ggL_law_X4_restore
set_option maxRecDepth 20000 in
theorem ggL_law_X5_restore : GoodIn wsL_law wsX5_restore := goodIn_r _ [606, 68, 139, 128, 129, 5, 130, 140, 141, 142, 143, 66, 594, 499, 500, 501, 124, 125, 126, 127, 131, 132, 133, 134, 611, 612, 613, 614, 615] (by decide +kernel) (by decide +kernel)
set_option maxRecDepth 20000 in
theorem gL_law_X5_restore : GoodIn wsL_law (wsV RL 136 RX5 yX5_restore wsX5_restore) := goodIn_app (goodIn_of _ (by decide +kernel)) ggL_law_X5_restore
theorem dL_law_0 : decode cL_law 0 = .ok (.new 7, 3) := by decide +kernel
theorem dL_law_3 : decode cL_law 3 = .ok (.dup, 1) := by decide +kernel
theorem dL_law_4 : decode cL_law 4 = .ok (.invokespecial 9, 3) := by decide +kernel
theorem dL_law_7 : decode cL_law 7 = .ok (.astore_n 1, 1) := by decide +kernel
theorem dL_law_8 : decode cL_law 8 = .ok (.new 10, 3) := by decide +kernel
theorem dL_law_11 : decode cL_law 11 = .ok (.dup, 1) := by decide +kernel
theorem dL_law_12 : decode cL_law 12 = .ok (.invokespecial 12, 3) := by decide +kernel
theorem dL_law_15 : decode cL_law 15 = .ok (.astore_n 2, 1) := by decide +kernel
theorem dL_law_16 : decode cL_law 16 = .ok (.iconst 0, 1) := by decide +kernel
theorem dL_law_17 : decode cL_law 17 = .ok (.istore_n 3, 1) := by decide +kernel
theorem dL_law_18 : decode cL_law 18 = .ok (.iload_n 3, 1) := by decide +kernel
theorem dL_law_19 : decode cL_law 19 = .ok (.aload_n 0, 1) := by decide +kernel
theorem dL_law_20 : decode cL_law 20 = .ok (.arraylength, 1) := by decide +kernel
theorem dL_law_21 : decode cL_law 21 = .ok (.iconst 4, 1) := by decide +kernel
theorem dL_law_22 : decode cL_law 22 = .ok (.isub, 1) := by decide +kernel
theorem dL_law_23 : decode cL_law 23 = .ok (.if_icmp .gt 831, 3) := by decide +kernel
theorem dL_law_26 : decode cL_law 26 = .ok (.aload_n 0, 1) := by decide +kernel
theorem dL_law_27 : decode cL_law 27 = .ok (.iload_n 3, 1) := by decide +kernel
theorem dL_law_28 : decode cL_law 28 = .ok (.iaload, 1) := by decide +kernel
theorem dL_law_29 : decode cL_law 29 = .ok (.bipush 31, 2) := by decide +kernel
theorem dL_law_31 : decode cL_law 31 = .ok (.iand, 1) := by decide +kernel
theorem dL_law_32 : decode cL_law 32 = .ok (.tableswitch 816 0 29 #[136, 149, 162, 185, 208, 251, 284, 317, 340, 363, 396, 439, 472, 505, 528, 561, 574, 587, 600, 613, 626, 639, 662, 675, 698, 721, 744, 757, 770, 793], 136) := by decide +kernel
theorem dL_law_168 : decode cL_law 168 = .ok (.aload_n 1, 1) := by decide +kernel
theorem dL_law_169 : decode cL_law 169 = .ok (.invokevirtual 13, 3) := by decide +kernel
theorem dL_law_172 : decode cL_law 172 = .ok (.aload_n 2, 1) := by decide +kernel
theorem dL_law_173 : decode cL_law 173 = .ok (.invokevirtual 17, 3) := by decide +kernel
theorem dL_law_176 : decode cL_law 176 = .ok (.if_icmp .eq 672, 3) := by decide +kernel
theorem dL_law_179 : decode cL_law 179 = .ok (.iconst 0, 1) := by decide +kernel
theorem dL_law_180 : decode cL_law 180 = .ok (.ireturn, 1) := by decide +kernel
theorem dL_law_181 : decode cL_law 181 = .ok (.aload_n 1, 1) := by decide +kernel
theorem dL_law_182 : decode cL_law 182 = .ok (.invokevirtual 18, 3) := by decide +kernel
theorem dL_law_185 : decode cL_law 185 = .ok (.aload_n 2, 1) := by decide +kernel
theorem dL_law_186 : decode cL_law 186 = .ok (.invokevirtual 21, 3) := by decide +kernel
theorem dL_law_189 : decode cL_law 189 = .ok (.if_icmp .eq 659, 3) := by decide +kernel
theorem dL_law_192 : decode cL_law 192 = .ok (.iconst 0, 1) := by decide +kernel
theorem dL_law_193 : decode cL_law 193 = .ok (.ireturn, 1) := by decide +kernel
theorem dL_law_194 : decode cL_law 194 = .ok (.aload_n 1, 1) := by decide +kernel
theorem dL_law_195 : decode cL_law 195 = .ok (.aload_n 0, 1) := by decide +kernel
theorem dL_law_196 : decode cL_law 196 = .ok (.iload_n 3, 1) := by decide +kernel
theorem dL_law_197 : decode cL_law 197 = .ok (.iconst 1, 1) := by decide +kernel
theorem dL_law_198 : decode cL_law 198 = .ok (.iadd, 1) := by decide +kernel
theorem dL_law_199 : decode cL_law 199 = .ok (.iaload, 1) := by decide +kernel
theorem dL_law_200 : decode cL_law 200 = .ok (.invokevirtual 22, 3) := by decide +kernel
theorem dL_law_203 : decode cL_law 203 = .ok (.aload_n 2, 1) := by decide +kernel
theorem dL_law_204 : decode cL_law 204 = .ok (.aload_n 0, 1) := by decide +kernel
theorem dL_law_205 : decode cL_law 205 = .ok (.iload_n 3, 1) := by decide +kernel
theorem dL_law_206 : decode cL_law 206 = .ok (.iconst 1, 1) := by decide +kernel
theorem dL_law_207 : decode cL_law 207 = .ok (.iadd, 1) := by decide +kernel
theorem dL_law_208 : decode cL_law 208 = .ok (.iaload, 1) := by decide +kernel
theorem dL_law_209 : decode cL_law 209 = .ok (.invokevirtual 26, 3) := by decide +kernel
theorem dL_law_212 : decode cL_law 212 = .ok (.if_icmp .eq 636, 3) := by decide +kernel
theorem dL_law_215 : decode cL_law 215 = .ok (.iconst 0, 1) := by decide +kernel
theorem dL_law_216 : decode cL_law 216 = .ok (.ireturn, 1) := by decide +kernel
theorem dL_law_217 : decode cL_law 217 = .ok (.aload_n 1, 1) := by decide +kernel
theorem dL_law_218 : decode cL_law 218 = .ok (.aload_n 0, 1) := by decide +kernel
theorem dL_law_219 : decode cL_law 219 = .ok (.iload_n 3, 1) := by decide +kernel
theorem dL_law_220 : decode cL_law 220 = .ok (.iconst 1, 1) := by decide +kernel
theorem dL_law_221 : decode cL_law 221 = .ok (.iadd, 1) := by decide +kernel
theorem dL_law_222 : decode cL_law 222 = .ok (.iaload, 1) := by decide +kernel
theorem dL_law_223 : decode cL_law 223 = .ok (.invokevirtual 27, 3) := by decide +kernel
theorem dL_law_226 : decode cL_law 226 = .ok (.aload_n 2, 1) := by decide +kernel
theorem dL_law_227 : decode cL_law 227 = .ok (.aload_n 0, 1) := by decide +kernel
theorem dL_law_228 : decode cL_law 228 = .ok (.iload_n 3, 1) := by decide +kernel
theorem dL_law_229 : decode cL_law 229 = .ok (.iconst 1, 1) := by decide +kernel
theorem dL_law_230 : decode cL_law 230 = .ok (.iadd, 1) := by decide +kernel
theorem dL_law_231 : decode cL_law 231 = .ok (.iaload, 1) := by decide +kernel
theorem dL_law_232 : decode cL_law 232 = .ok (.invokevirtual 30, 3) := by decide +kernel
theorem dL_law_235 : decode cL_law 235 = .ok (.if_icmp .eq 613, 3) := by decide +kernel
theorem dL_law_238 : decode cL_law 238 = .ok (.iconst 0, 1) := by decide +kernel
theorem dL_law_239 : decode cL_law 239 = .ok (.ireturn, 1) := by decide +kernel
theorem dL_law_240 : decode cL_law 240 = .ok (.aload_n 1, 1) := by decide +kernel
theorem dL_law_241 : decode cL_law 241 = .ok (.aload_n 0, 1) := by decide +kernel
theorem dL_law_242 : decode cL_law 242 = .ok (.iload_n 3, 1) := by decide +kernel
theorem dL_law_243 : decode cL_law 243 = .ok (.iconst 1, 1) := by decide +kernel
theorem dL_law_244 : decode cL_law 244 = .ok (.iadd, 1) := by decide +kernel
theorem dL_law_245 : decode cL_law 245 = .ok (.iaload, 1) := by decide +kernel
theorem dL_law_246 : decode cL_law 246 = .ok (.aload_n 0, 1) := by decide +kernel
theorem dL_law_247 : decode cL_law 247 = .ok (.iload_n 3, 1) := by decide +kernel
theorem dL_law_248 : decode cL_law 248 = .ok (.iconst 2, 1) := by decide +kernel
theorem dL_law_249 : decode cL_law 249 = .ok (.iadd, 1) := by decide +kernel
theorem dL_law_250 : decode cL_law 250 = .ok (.iaload, 1) := by decide +kernel
theorem dL_law_251 : decode cL_law 251 = .ok (.aload_n 0, 1) := by decide +kernel
theorem dL_law_252 : decode cL_law 252 = .ok (.iload_n 3, 1) := by decide +kernel
theorem dL_law_253 : decode cL_law 253 = .ok (.iconst 3, 1) := by decide +kernel
theorem dL_law_254 : decode cL_law 254 = .ok (.iadd, 1) := by decide +kernel
theorem dL_law_255 : decode cL_law 255 = .ok (.iaload, 1) := by decide +kernel
theorem dL_law_256 : decode cL_law 256 = .ok (.invokevirtual 31, 3) := by decide +kernel
theorem dL_law_259 : decode cL_law 259 = .ok (.aload_n 2, 1) := by decide +kernel
theorem dL_law_260 : decode cL_law 260 = .ok (.aload_n 0, 1) := by decide +kernel
theorem dL_law_261 : decode cL_law 261 = .ok (.iload_n 3, 1) := by decide +kernel
theorem dL_law_262 : decode cL_law 262 = .ok (.iconst 1, 1) := by decide +kernel
theorem dL_law_263 : decode cL_law 263 = .ok (.iadd, 1) := by decide +kernel
theorem dL_law_264 : decode cL_law 264 = .ok (.iaload, 1) := by decide +kernel
theorem dL_law_265 : decode cL_law 265 = .ok (.aload_n 0, 1) := by decide +kernel
theorem dL_law_266 : decode cL_law 266 = .ok (.iload_n 3, 1) := by decide +kernel
theorem dL_law_267 : decode cL_law 267 = .ok (.iconst 2, 1) := by decide +kernel
theorem dL_law_268 : decode cL_law 268 = .ok (.iadd, 1) := by decide +kernel
theorem dL_law_269 : decode cL_law 269 = .ok (.iaload, 1) := by decide +kernel
theorem dL_law_270 : decode cL_law 270 = .ok (.aload_n 0, 1) := by decide +kernel
theorem dL_law_271 : decode cL_law 271 = .ok (.iload_n 3, 1) := by decide +kernel
theorem dL_law_272 : decode cL_law 272 = .ok (.iconst 3, 1) := by decide +kernel
theorem dL_law_273 : decode cL_law 273 = .ok (.iadd, 1) := by decide +kernel
theorem dL_law_274 : decode cL_law 274 = .ok (.iaload, 1) := by decide +kernel
theorem dL_law_275 : decode cL_law 275 = .ok (.invokevirtual 35, 3) := by decide +kernel
theorem dL_law_278 : decode cL_law 278 = .ok (.if_icmp .eq 570, 3) := by decide +kernel
theorem dL_law_281 : decode cL_law 281 = .ok (.iconst 0, 1) := by decide +kernel
theorem dL_law_282 : decode cL_law 282 = .ok (.ireturn, 1) := by decide +kernel
theorem dL_law_283 : decode cL_law 283 = .ok (.aload_n 1, 1) := by decide +kernel
theorem dL_law_284 : decode cL_law 284 = .ok (.aload_n 0, 1) := by decide +kernel
theorem dL_law_285 : decode cL_law 285 = .ok (.iload_n 3, 1) := by decide +kernel
theorem dL_law_286 : decode cL_law 286 = .ok (.iconst 1, 1) := by decide +kernel
theorem dL_law_287 : decode cL_law 287 = .ok (.iadd, 1) := by decide +kernel
theorem dL_law_288 : decode cL_law 288 = .ok (.iaload, 1) := by decide +kernel
theorem dL_law_289 : decode cL_law 289 = .ok (.aload_n 0, 1) := by decide +kernel
theorem dL_law_290 : decode cL_law 290 = .ok (.iload_n 3, 1) := by decide +kernel
theorem dL_law_291 : decode cL_law 291 = .ok (.iconst 2, 1) := by decide +kernel
theorem dL_law_292 : decode cL_law 292 = .ok (.iadd, 1) := by decide +kernel
theorem dL_law_293 : decode cL_law 293 = .ok (.iaload, 1) := by decide +kernel
theorem dL_law_294 : decode cL_law 294 = .ok (.invokevirtual 36, 3) := by decide +kernel
theorem dL_law_297 : decode cL_law 297 = .ok (.aload_n 2, 1) := by decide +kernel
theorem dL_law_298 : decode cL_law 298 = .ok (.aload_n 0, 1) := by decide +kernel
theorem dL_law_299 : decode cL_law 299 = .ok (.iload_n 3, 1) := by decide +kernel
theorem dL_law_300 : decode cL_law 300 = .ok (.iconst 1, 1) := by decide +kernel
theorem dL_law_301 : decode cL_law 301 = .ok (.iadd, 1) := by decide +kernel
theorem dL_law_302 : decode cL_law 302 = .ok (.iaload, 1) := by decide +kernel
theorem dL_law_303 : decode cL_law 303 = .ok (.aload_n 0, 1) := by decide +kernel
theorem dL_law_304 : decode cL_law 304 = .ok (.iload_n 3, 1) := by decide +kernel
theorem dL_law_305 : decode cL_law 305 = .ok (.iconst 2, 1) := by decide +kernel
theorem dL_law_306 : decode cL_law 306 = .ok (.iadd, 1) := by decide +kernel
theorem dL_law_307 : decode cL_law 307 = .ok (.iaload, 1) := by decide +kernel
theorem dL_law_308 : decode cL_law 308 = .ok (.invokevirtual 40, 3) := by decide +kernel
theorem dL_law_311 : decode cL_law 311 = .ok (.if_icmp .eq 537, 3) := by decide +kernel
theorem dL_law_314 : decode cL_law 314 = .ok (.iconst 0, 1) := by decide +kernel
theorem dL_law_315 : decode cL_law 315 = .ok (.ireturn, 1) := by decide +kernel
theorem dL_law_316 : decode cL_law 316 = .ok (.aload_n 1, 1) := by decide +kernel
theorem dL_law_317 : decode cL_law 317 = .ok (.aload_n 0, 1) := by decide +kernel
theorem dL_law_318 : decode cL_law 318 = .ok (.iload_n 3, 1) := by decide +kernel
theorem dL_law_319 : decode cL_law 319 = .ok (.iconst 1, 1) := by decide +kernel
theorem dL_law_320 : decode cL_law 320 = .ok (.iadd, 1) := by decide +kernel
theorem dL_law_321 : decode cL_law 321 = .ok (.iaload, 1) := by decide +kernel
theorem dL_law_322 : decode cL_law 322 = .ok (.aload_n 0, 1) := by decide +kernel
theorem dL_law_323 : decode cL_law 323 = .ok (.iload_n 3, 1) := by decide +kernel
theorem dL_law_324 : decode cL_law 324 = .ok (.iconst 2, 1) := by decide +kernel
theorem dL_law_325 : decode cL_law 325 = .ok (.iadd, 1) := by decide +kernel
theorem dL_law_326 : decode cL_law 326 = .ok (.iaload, 1) := by decide +kernel
theorem dL_law_327 : decode cL_law 327 = .ok (.invokevirtual 41, 3) := by decide +kernel
theorem dL_law_330 : decode cL_law 330 = .ok (.aload_n 2, 1) := by decide +kernel
theorem dL_law_331 : decode cL_law 331 = .ok (.aload_n 0, 1) := by decide +kernel
theorem dL_law_332 : decode cL_law 332 = .ok (.iload_n 3, 1) := by decide +kernel
theorem dL_law_333 : decode cL_law 333 = .ok (.iconst 1, 1) := by decide +kernel
theorem dL_law_334 : decode cL_law 334 = .ok (.iadd, 1) := by decide +kernel
theorem dL_law_335 : decode cL_law 335 = .ok (.iaload, 1) := by decide +kernel
theorem dL_law_336 : decode cL_law 336 = .ok (.aload_n 0, 1) := by decide +kernel
theorem dL_law_337 : decode cL_law 337 = .ok (.iload_n 3, 1) := by decide +kernel
theorem dL_law_338 : decode cL_law 338 = .ok (.iconst 2, 1) := by decide +kernel
theorem dL_law_339 : decode cL_law 339 = .ok (.iadd, 1) := by decide +kernel
theorem dL_law_340 : decode cL_law 340 = .ok (.iaload, 1) := by decide +kernel
theorem dL_law_341 : decode cL_law 341 = .ok (.invokevirtual 44, 3) := by decide +kernel
theorem dL_law_344 : decode cL_law 344 = .ok (.if_icmp .eq 504, 3) := by decide +kernel
theorem dL_law_347 : decode cL_law 347 = .ok (.iconst 0, 1) := by decide +kernel
theorem dL_law_348 : decode cL_law 348 = .ok (.ireturn, 1) := by decide +kernel
theorem dL_law_349 : decode cL_law 349 = .ok (.aload_n 1, 1) := by decide +kernel
theorem dL_law_350 : decode cL_law 350 = .ok (.aload_n 0, 1) := by decide +kernel
theorem dL_law_351 : decode cL_law 351 = .ok (.iload_n 3, 1) := by decide +kernel
theorem dL_law_352 : decode cL_law 352 = .ok (.iconst 1, 1) := by decide +kernel
theorem dL_law_353 : decode cL_law 353 = .ok (.iadd, 1) := by decide +kernel
theorem dL_law_354 : decode cL_law 354 = .ok (.iaload, 1) := by decide +kernel
theorem dL_law_355 : decode cL_law 355 = .ok (.invokevirtual 45, 3) := by decide +kernel
theorem dL_law_358 : decode cL_law 358 = .ok (.aload_n 2, 1) := by decide +kernel
theorem dL_law_359 : decode cL_law 359 = .ok (.aload_n 0, 1) := by decide +kernel
theorem dL_law_360 : decode cL_law 360 = .ok (.iload_n 3, 1) := by decide +kernel
theorem dL_law_361 : decode cL_law 361 = .ok (.iconst 1, 1) := by decide +kernel
theorem dL_law_362 : decode cL_law 362 = .ok (.iadd, 1) := by decide +kernel
theorem dL_law_363 : decode cL_law 363 = .ok (.iaload, 1) := by decide +kernel
theorem dL_law_364 : decode cL_law 364 = .ok (.invokevirtual 48, 3) := by decide +kernel
theorem dL_law_367 : decode cL_law 367 = .ok (.if_icmp .eq 481, 3) := by decide +kernel
theorem dL_law_370 : decode cL_law 370 = .ok (.iconst 0, 1) := by decide +kernel
theorem dL_law_371 : decode cL_law 371 = .ok (.ireturn, 1) := by decide +kernel
theorem dL_law_372 : decode cL_law 372 = .ok (.aload_n 1, 1) := by decide +kernel
theorem dL_law_373 : decode cL_law 373 = .ok (.aload_n 0, 1) := by decide +kernel
theorem dL_law_374 : decode cL_law 374 = .ok (.iload_n 3, 1) := by decide +kernel
theorem dL_law_375 : decode cL_law 375 = .ok (.iconst 1, 1) := by decide +kernel
theorem dL_law_376 : decode cL_law 376 = .ok (.iadd, 1) := by decide +kernel
theorem dL_law_377 : decode cL_law 377 = .ok (.iaload, 1) := by decide +kernel
theorem dL_law_378 : decode cL_law 378 = .ok (.invokevirtual 49, 3) := by decide +kernel
theorem dL_law_381 : decode cL_law 381 = .ok (.aload_n 2, 1) := by decide +kernel
theorem dL_law_382 : decode cL_law 382 = .ok (.aload_n 0, 1) := by decide +kernel
theorem dL_law_383 : decode cL_law 383 = .ok (.iload_n 3, 1) := by decide +kernel
theorem dL_law_384 : decode cL_law 384 = .ok (.iconst 1, 1) := by decide +kernel
theorem dL_law_385 : decode cL_law 385 = .ok (.iadd, 1) := by decide +kernel
theorem dL_law_386 : decode cL_law 386 = .ok (.iaload, 1) := by decide +kernel
theorem dL_law_387 : decode cL_law 387 = .ok (.invokevirtual 52, 3) := by decide +kernel
theorem dL_law_390 : decode cL_law 390 = .ok (.if_icmp .eq 458, 3) := by decide +kernel
theorem dL_law_393 : decode cL_law 393 = .ok (.iconst 0, 1) := by decide +kernel
theorem dL_law_394 : decode cL_law 394 = .ok (.ireturn, 1) := by decide +kernel
theorem dL_law_395 : decode cL_law 395 = .ok (.aload_n 1, 1) := by decide +kernel
theorem dL_law_396 : decode cL_law 396 = .ok (.aload_n 0, 1) := by decide +kernel
theorem dL_law_397 : decode cL_law 397 = .ok (.iload_n 3, 1) := by decide +kernel
theorem dL_law_398 : decode cL_law 398 = .ok (.iconst 1, 1) := by decide +kernel
theorem dL_law_399 : decode cL_law 399 = .ok (.iadd, 1) := by decide +kernel
theorem dL_law_400 : decode cL_law 400 = .ok (.iaload, 1) := by decide +kernel
theorem dL_law_401 : decode cL_law 401 = .ok (.aload_n 0, 1) := by decide +kernel
theorem dL_law_402 : decode cL_law 402 = .ok (.iload_n 3, 1) := by decide +kernel
theorem dL_law_403 : decode cL_law 403 = .ok (.iconst 2, 1) := by decide +kernel
theorem dL_law_404 : decode cL_law 404 = .ok (.iadd, 1) := by decide +kernel
theorem dL_law_405 : decode cL_law 405 = .ok (.iaload, 1) := by decide +kernel
theorem dL_law_406 : decode cL_law 406 = .ok (.invokevirtual 53, 3) := by decide +kernel
theorem dL_law_409 : decode cL_law 409 = .ok (.aload_n 2, 1) := by decide +kernel
theorem dL_law_410 : decode cL_law 410 = .ok (.aload_n 0, 1) := by decide +kernel
theorem dL_law_411 : decode cL_law 411 = .ok (.iload_n 3, 1) := by decide +kernel
theorem dL_law_412 : decode cL_law 412 = .ok (.iconst 1, 1) := by decide +kernel
theorem dL_law_413 : decode cL_law 413 = .ok (.iadd, 1) := by decide +kernel
theorem dL_law_414 : decode cL_law 414 = .ok (.iaload, 1) := by decide +kernel
theorem dL_law_415 : decode cL_law 415 = .ok (.aload_n 0, 1) := by decide +kernel
theorem dL_law_416 : decode cL_law 416 = .ok (.iload_n 3, 1) := by decide +kernel
theorem dL_law_417 : decode cL_law 417 = .ok (.iconst 2, 1) := by decide +kernel
theorem dL_law_418 : decode cL_law 418 = .ok (.iadd, 1) := by decide +kernel
theorem dL_law_419 : decode cL_law 419 = .ok (.iaload, 1) := by decide +kernel
theorem dL_law_420 : decode cL_law 420 = .ok (.invokevirtual 56, 3) := by decide +kernel
theorem dL_law_423 : decode cL_law 423 = .ok (.if_icmp .eq 425, 3) := by decide +kernel
theorem dL_law_426 : decode cL_law 426 = .ok (.iconst 0, 1) := by decide +kernel
theorem dL_law_427 : decode cL_law 427 = .ok (.ireturn, 1) := by decide +kernel
theorem dL_law_428 : decode cL_law 428 = .ok (.aload_n 1, 1) := by decide +kernel
theorem dL_law_429 : decode cL_law 429 = .ok (.aload_n 0, 1) := by decide +kernel
theorem dL_law_430 : decode cL_law 430 = .ok (.iload_n 3, 1) := by decide +kernel
theorem dL_law_431 : decode cL_law 431 = .ok (.iconst 1, 1) := by decide +kernel
theorem dL_law_432 : decode cL_law 432 = .ok (.iadd, 1) := by decide +kernel
theorem dL_law_433 : decode cL_law 433 = .ok (.iaload, 1) := by decide +kernel
theorem dL_law_434 : decode cL_law 434 = .ok (.aload_n 0, 1) := by decide +kernel
theorem dL_law_435 : decode cL_law 435 = .ok (.iload_n 3, 1) := by decide +kernel
theorem dL_law_436 : decode cL_law 436 = .ok (.iconst 2, 1) := by decide +kernel
theorem dL_law_437 : decode cL_law 437 = .ok (.iadd, 1) := by decide +kernel
theorem dL_law_438 : decode cL_law 438 = .ok (.iaload, 1) := by decide +kernel
theorem dL_law_439 : decode cL_law 439 = .ok (.aload_n 0, 1) := by decide +kernel
theorem dL_law_440 : decode cL_law 440 = .ok (.iload_n 3, 1) := by decide +kernel
theorem dL_law_441 : decode cL_law 441 = .ok (.iconst 3, 1) := by decide +kernel
theorem dL_law_442 : decode cL_law 442 = .ok (.iadd, 1) := by decide +kernel
theorem dL_law_443 : decode cL_law 443 = .ok (.iaload, 1) := by decide +kernel
theorem dL_law_444 : decode cL_law 444 = .ok (.invokevirtual 57, 3) := by decide +kernel
theorem dL_law_447 : decode cL_law 447 = .ok (.aload_n 2, 1) := by decide +kernel
theorem dL_law_448 : decode cL_law 448 = .ok (.aload_n 0, 1) := by decide +kernel
theorem dL_law_449 : decode cL_law 449 = .ok (.iload_n 3, 1) := by decide +kernel
theorem dL_law_450 : decode cL_law 450 = .ok (.iconst 1, 1) := by decide +kernel
theorem dL_law_451 : decode cL_law 451 = .ok (.iadd, 1) := by decide +kernel
theorem dL_law_452 : decode cL_law 452 = .ok (.iaload, 1) := by decide +kernel
theorem dL_law_453 : decode cL_law 453 = .ok (.aload_n 0, 1) := by decide +kernel
theorem dL_law_454 : decode cL_law 454 = .ok (.iload_n 3, 1) := by decide +kernel
theorem dL_law_455 : decode cL_law 455 = .ok (.iconst 2, 1) := by decide +kernel
theorem dL_law_456 : decode cL_law 456 = .ok (.iadd, 1) := by decide +kernel
theorem dL_law_457 : decode cL_law 457 = .ok (.iaload, 1) := by decide +kernel
theorem dL_law_458 : decode cL_law 458 = .ok (.aload_n 0, 1) := by decide +kernel
theorem dL_law_459 : decode cL_law 459 = .ok (.iload_n 3, 1) := by decide +kernel
theorem dL_law_460 : decode cL_law 460 = .ok (.iconst 3, 1) := by decide +kernel
theorem dL_law_461 : decode cL_law 461 = .ok (.iadd, 1) := by decide +kernel
theorem dL_law_462 : decode cL_law 462 = .ok (.iaload, 1) := by decide +kernel
theorem dL_law_463 : decode cL_law 463 = .ok (.invokevirtual 60, 3) := by decide +kernel
theorem dL_law_466 : decode cL_law 466 = .ok (.if_icmp .eq 382, 3) := by decide +kernel
theorem dL_law_469 : decode cL_law 469 = .ok (.iconst 0, 1) := by decide +kernel
theorem dL_law_470 : decode cL_law 470 = .ok (.ireturn, 1) := by decide +kernel
theorem dL_law_471 : decode cL_law 471 = .ok (.aload_n 1, 1) := by decide +kernel
theorem dL_law_472 : decode cL_law 472 = .ok (.aload_n 0, 1) := by decide +kernel
theorem dL_law_473 : decode cL_law 473 = .ok (.iload_n 3, 1) := by decide +kernel
theorem dL_law_474 : decode cL_law 474 = .ok (.iconst 1, 1) := by decide +kernel
theorem dL_law_475 : decode cL_law 475 = .ok (.iadd, 1) := by decide +kernel
theorem dL_law_476 : decode cL_law 476 = .ok (.iaload, 1) := by decide +kernel
theorem dL_law_477 : decode cL_law 477 = .ok (.aload_n 0, 1) := by decide +kernel
theorem dL_law_478 : decode cL_law 478 = .ok (.iload_n 3, 1) := by decide +kernel
theorem dL_law_479 : decode cL_law 479 = .ok (.iconst 2, 1) := by decide +kernel
theorem dL_law_480 : decode cL_law 480 = .ok (.iadd, 1) := by decide +kernel
theorem dL_law_481 : decode cL_law 481 = .ok (.iaload, 1) := by decide +kernel
theorem dL_law_482 : decode cL_law 482 = .ok (.invokevirtual 61, 3) := by decide +kernel
theorem dL_law_485 : decode cL_law 485 = .ok (.aload_n 2, 1) := by decide +kernel
theorem dL_law_486 : decode cL_law 486 = .ok (.aload_n 0, 1) := by decide +kernel
theorem dL_law_487 : decode cL_law 487 = .ok (.iload_n 3, 1) := by decide +kernel
theorem dL_law_488 : decode cL_law 488 = .ok (.iconst 1, 1) := by decide +kernel
theorem dL_law_489 : decode cL_law 489 = .ok (.iadd, 1) := by decide +kernel
theorem dL_law_490 : decode cL_law 490 = .ok (.iaload, 1) := by decide +kernel
theorem dL_law_491 : decode cL_law 491 = .ok (.aload_n 0, 1) := by decide +kernel
theorem dL_law_492 : decode cL_law 492 = .ok (.iload_n 3, 1) := by decide +kernel
theorem dL_law_493 : decode cL_law 493 = .ok (.iconst 2, 1) := by decide +kernel
theorem dL_law_494 : decode cL_law 494 = .ok (.iadd, 1) := by decide +kernel
theorem dL_law_495 : decode cL_law 495 = .ok (.iaload, 1) := by decide +kernel
theorem dL_law_496 : decode cL_law 496 = .ok (.invokevirtual 64, 3) := by decide +kernel
theorem dL_law_499 : decode cL_law 499 = .ok (.if_icmp .eq 349, 3) := by decide +kernel
theorem dL_law_502 : decode cL_law 502 = .ok (.iconst 0, 1) := by decide +kernel
theorem dL_law_503 : decode cL_law 503 = .ok (.ireturn, 1) := by decide +kernel
theorem dL_law_504 : decode cL_law 504 = .ok (.aload_n 1, 1) := by decide +kernel
theorem dL_law_505 : decode cL_law 505 = .ok (.aload_n 0, 1) := by decide +kernel
theorem dL_law_506 : decode cL_law 506 = .ok (.iload_n 3, 1) := by decide +kernel
theorem dL_law_507 : decode cL_law 507 = .ok (.iconst 1, 1) := by decide +kernel
theorem dL_law_508 : decode cL_law 508 = .ok (.iadd, 1) := by decide +kernel
theorem dL_law_509 : decode cL_law 509 = .ok (.iaload, 1) := by decide +kernel
theorem dL_law_510 : decode cL_law 510 = .ok (.aload_n 0, 1) := by decide +kernel
theorem dL_law_511 : decode cL_law 511 = .ok (.iload_n 3, 1) := by decide +kernel
theorem dL_law_512 : decode cL_law 512 = .ok (.iconst 2, 1) := by decide +kernel
theorem dL_law_513 : decode cL_law 513 = .ok (.iadd, 1) := by decide +kernel
theorem dL_law_514 : decode cL_law 514 = .ok (.iaload, 1) := by decide +kernel
theorem dL_law_515 : decode cL_law 515 = .ok (.invokevirtual 65, 3) := by decide +kernel
theorem dL_law_518 : decode cL_law 518 = .ok (.aload_n 2, 1) := by decide +kernel
theorem dL_law_519 : decode cL_law 519 = .ok (.aload_n 0, 1) := by decide +kernel
theorem dL_law_520 : decode cL_law 520 = .ok (.iload_n 3, 1) := by decide +kernel
theorem dL_law_521 : decode cL_law 521 = .ok (.iconst 1, 1) := by decide +kernel
theorem dL_law_522 : decode cL_law 522 = .ok (.iadd, 1) := by decide +kernel
theorem dL_law_523 : decode cL_law 523 = .ok (.iaload, 1) := by decide +kernel
theorem dL_law_524 : decode cL_law 524 = .ok (.aload_n 0, 1) := by decide +kernel
theorem dL_law_525 : decode cL_law 525 = .ok (.iload_n 3, 1) := by decide +kernel
theorem dL_law_526 : decode cL_law 526 = .ok (.iconst 2, 1) := by decide +kernel
theorem dL_law_527 : decode cL_law 527 = .ok (.iadd, 1) := by decide +kernel
theorem dL_law_528 : decode cL_law 528 = .ok (.iaload, 1) := by decide +kernel
theorem dL_law_529 : decode cL_law 529 = .ok (.invokevirtual 68, 3) := by decide +kernel
theorem dL_law_532 : decode cL_law 532 = .ok (.if_icmp .eq 316, 3) := by decide +kernel
theorem dL_law_535 : decode cL_law 535 = .ok (.iconst 0, 1) := by decide +kernel
theorem dL_law_536 : decode cL_law 536 = .ok (.ireturn, 1) := by decide +kernel
theorem dL_law_537 : decode cL_law 537 = .ok (.aload_n 1, 1) := by decide +kernel
theorem dL_law_538 : decode cL_law 538 = .ok (.aload_n 0, 1) := by decide +kernel
theorem dL_law_539 : decode cL_law 539 = .ok (.iload_n 3, 1) := by decide +kernel
theorem dL_law_540 : decode cL_law 540 = .ok (.iconst 1, 1) := by decide +kernel
theorem dL_law_541 : decode cL_law 541 = .ok (.iadd, 1) := by decide +kernel
theorem dL_law_542 : decode cL_law 542 = .ok (.iaload, 1) := by decide +kernel
theorem dL_law_543 : decode cL_law 543 = .ok (.invokevirtual 69, 3) := by decide +kernel
theorem dL_law_546 : decode cL_law 546 = .ok (.aload_n 2, 1) := by decide +kernel
theorem dL_law_547 : decode cL_law 547 = .ok (.aload_n 0, 1) := by decide +kernel
theorem dL_law_548 : decode cL_law 548 = .ok (.iload_n 3, 1) := by decide +kernel
theorem dL_law_549 : decode cL_law 549 = .ok (.iconst 1, 1) := by decide +kernel
theorem dL_law_550 : decode cL_law 550 = .ok (.iadd, 1) := by decide +kernel
theorem dL_law_551 : decode cL_law 551 = .ok (.iaload, 1) := by decide +kernel
theorem dL_law_552 : decode cL_law 552 = .ok (.invokevirtual 72, 3) := by decide +kernel
theorem dL_law_555 : decode cL_law 555 = .ok (.if_icmp .eq 293, 3) := by decide +kernel
theorem dL_law_558 : decode cL_law 558 = .ok (.iconst 0, 1) := by decide +kernel
theorem dL_law_559 : decode cL_law 559 = .ok (.ireturn, 1) := by decide +kernel
theorem dL_law_560 : decode cL_law 560 = .ok (.aload_n 1, 1) := by decide +kernel
theorem dL_law_561 : decode cL_law 561 = .ok (.aload_n 0, 1) := by decide +kernel
theorem dL_law_562 : decode cL_law 562 = .ok (.iload_n 3, 1) := by decide +kernel
theorem dL_law_563 : decode cL_law 563 = .ok (.iconst 1, 1) := by decide +kernel
theorem dL_law_564 : decode cL_law 564 = .ok (.iadd, 1) := by decide +kernel
theorem dL_law_565 : decode cL_law 565 = .ok (.iaload, 1) := by decide +kernel
theorem dL_law_566 : decode cL_law 566 = .ok (.aload_n 0, 1) := by decide +kernel
theorem dL_law_567 : decode cL_law 567 = .ok (.iload_n 3, 1) := by decide +kernel
theorem dL_law_568 : decode cL_law 568 = .ok (.iconst 2, 1) := by decide +kernel
theorem dL_law_569 : decode cL_law 569 = .ok (.iadd, 1) := by decide +kernel
theorem dL_law_570 : decode cL_law 570 = .ok (.iaload, 1) := by decide +kernel
theorem dL_law_571 : decode cL_law 571 = .ok (.invokevirtual 73, 3) := by decide +kernel
theorem dL_law_574 : decode cL_law 574 = .ok (.aload_n 2, 1) := by decide +kernel
theorem dL_law_575 : decode cL_law 575 = .ok (.aload_n 0, 1) := by decide +kernel
theorem dL_law_576 : decode cL_law 576 = .ok (.iload_n 3, 1) := by decide +kernel
theorem dL_law_577 : decode cL_law 577 = .ok (.iconst 1, 1) := by decide +kernel
theorem dL_law_578 : decode cL_law 578 = .ok (.iadd, 1) := by decide +kernel
theorem dL_law_579 : decode cL_law 579 = .ok (.iaload, 1) := by decide +kernel
theorem dL_law_580 : decode cL_law 580 = .ok (.aload_n 0, 1) := by decide +kernel
theorem dL_law_581 : decode cL_law 581 = .ok (.iload_n 3, 1) := by decide +kernel
theorem dL_law_582 : decode cL_law 582 = .ok (.iconst 2, 1) := by decide +kernel
theorem dL_law_583 : decode cL_law 583 = .ok (.iadd, 1) := by decide +kernel
theorem dL_law_584 : decode cL_law 584 = .ok (.iaload, 1) := by decide +kernel
theorem dL_law_585 : decode cL_law 585 = .ok (.invokevirtual 76, 3) := by decide +kernel
theorem dL_law_588 : decode cL_law 588 = .ok (.if_icmp .eq 260, 3) := by decide +kernel
theorem dL_law_591 : decode cL_law 591 = .ok (.iconst 0, 1) := by decide +kernel
theorem dL_law_592 : decode cL_law 592 = .ok (.ireturn, 1) := by decide +kernel
theorem dL_law_593 : decode cL_law 593 = .ok (.aload_n 1, 1) := by decide +kernel
theorem dL_law_594 : decode cL_law 594 = .ok (.invokevirtual 77, 3) := by decide +kernel
theorem dL_law_597 : decode cL_law 597 = .ok (.aload_n 2, 1) := by decide +kernel
theorem dL_law_598 : decode cL_law 598 = .ok (.invokevirtual 80, 3) := by decide +kernel
theorem dL_law_601 : decode cL_law 601 = .ok (.if_icmp .eq 247, 3) := by decide +kernel
theorem dL_law_604 : decode cL_law 604 = .ok (.iconst 0, 1) := by decide +kernel
theorem dL_law_605 : decode cL_law 605 = .ok (.ireturn, 1) := by decide +kernel
theorem dL_law_606 : decode cL_law 606 = .ok (.aload_n 1, 1) := by decide +kernel
theorem dL_law_607 : decode cL_law 607 = .ok (.invokevirtual 81, 3) := by decide +kernel
theorem dL_law_610 : decode cL_law 610 = .ok (.aload_n 2, 1) := by decide +kernel
theorem dL_law_611 : decode cL_law 611 = .ok (.invokevirtual 84, 3) := by decide +kernel
theorem dL_law_614 : decode cL_law 614 = .ok (.if_icmp .eq 234, 3) := by decide +kernel
theorem dL_law_617 : decode cL_law 617 = .ok (.iconst 0, 1) := by decide +kernel
theorem dL_law_618 : decode cL_law 618 = .ok (.ireturn, 1) := by decide +kernel
theorem dL_law_619 : decode cL_law 619 = .ok (.aload_n 1, 1) := by decide +kernel
theorem dL_law_620 : decode cL_law 620 = .ok (.invokevirtual 85, 3) := by decide +kernel
theorem dL_law_623 : decode cL_law 623 = .ok (.aload_n 2, 1) := by decide +kernel
theorem dL_law_624 : decode cL_law 624 = .ok (.invokevirtual 88, 3) := by decide +kernel
theorem dL_law_627 : decode cL_law 627 = .ok (.if_icmp .eq 221, 3) := by decide +kernel
theorem dL_law_630 : decode cL_law 630 = .ok (.iconst 0, 1) := by decide +kernel
theorem dL_law_631 : decode cL_law 631 = .ok (.ireturn, 1) := by decide +kernel
theorem dL_law_632 : decode cL_law 632 = .ok (.aload_n 1, 1) := by decide +kernel
theorem dL_law_633 : decode cL_law 633 = .ok (.invokevirtual 89, 3) := by decide +kernel
theorem dL_law_636 : decode cL_law 636 = .ok (.aload_n 2, 1) := by decide +kernel
theorem dL_law_637 : decode cL_law 637 = .ok (.invokevirtual 92, 3) := by decide +kernel
theorem dL_law_640 : decode cL_law 640 = .ok (.if_icmp .eq 208, 3) := by decide +kernel
theorem dL_law_643 : decode cL_law 643 = .ok (.iconst 0, 1) := by decide +kernel
theorem dL_law_644 : decode cL_law 644 = .ok (.ireturn, 1) := by decide +kernel
theorem dL_law_645 : decode cL_law 645 = .ok (.aload_n 1, 1) := by decide +kernel
theorem dL_law_646 : decode cL_law 646 = .ok (.invokevirtual 93, 3) := by decide +kernel
theorem dL_law_649 : decode cL_law 649 = .ok (.aload_n 2, 1) := by decide +kernel
theorem dL_law_650 : decode cL_law 650 = .ok (.invokevirtual 96, 3) := by decide +kernel
theorem dL_law_653 : decode cL_law 653 = .ok (.if_icmp .eq 195, 3) := by decide +kernel
theorem dL_law_656 : decode cL_law 656 = .ok (.iconst 0, 1) := by decide +kernel
theorem dL_law_657 : decode cL_law 657 = .ok (.ireturn, 1) := by decide +kernel
theorem dL_law_658 : decode cL_law 658 = .ok (.aload_n 1, 1) := by decide +kernel
theorem dL_law_659 : decode cL_law 659 = .ok (.invokevirtual 97, 3) := by decide +kernel
theorem dL_law_662 : decode cL_law 662 = .ok (.aload_n 2, 1) := by decide +kernel
theorem dL_law_663 : decode cL_law 663 = .ok (.invokevirtual 100, 3) := by decide +kernel
theorem dL_law_666 : decode cL_law 666 = .ok (.if_icmp .eq 182, 3) := by decide +kernel
theorem dL_law_669 : decode cL_law 669 = .ok (.iconst 0, 1) := by decide +kernel
theorem dL_law_670 : decode cL_law 670 = .ok (.ireturn, 1) := by decide +kernel
theorem dL_law_671 : decode cL_law 671 = .ok (.aload_n 1, 1) := by decide +kernel
theorem dL_law_672 : decode cL_law 672 = .ok (.aload_n 0, 1) := by decide +kernel
theorem dL_law_673 : decode cL_law 673 = .ok (.iload_n 3, 1) := by decide +kernel
theorem dL_law_674 : decode cL_law 674 = .ok (.iconst 1, 1) := by decide +kernel
theorem dL_law_675 : decode cL_law 675 = .ok (.iadd, 1) := by decide +kernel
theorem dL_law_676 : decode cL_law 676 = .ok (.iaload, 1) := by decide +kernel
theorem dL_law_677 : decode cL_law 677 = .ok (.invokevirtual 101, 3) := by decide +kernel
theorem dL_law_680 : decode cL_law 680 = .ok (.aload_n 2, 1) := by decide +kernel
theorem dL_law_681 : decode cL_law 681 = .ok (.aload_n 0, 1) := by decide +kernel
theorem dL_law_682 : decode cL_law 682 = .ok (.iload_n 3, 1) := by decide +kernel
theorem dL_law_683 : decode cL_law 683 = .ok (.iconst 1, 1) := by decide +kernel
theorem dL_law_684 : decode cL_law 684 = .ok (.iadd, 1) := by decide +kernel
theorem dL_law_685 : decode cL_law 685 = .ok (.iaload, 1) := by decide +kernel
theorem dL_law_686 : decode cL_law 686 = .ok (.invokevirtual 104, 3) := by decide +kernel
theorem dL_law_689 : decode cL_law 689 = .ok (.if_icmp .eq 159, 3) := by decide +kernel
theorem dL_law_692 : decode cL_law 692 = .ok (.iconst 0, 1) := by decide +kernel
theorem dL_law_693 : decode cL_law 693 = .ok (.ireturn, 1) := by decide +kernel
theorem dL_law_694 : decode cL_law 694 = .ok (.aload_n 1, 1) := by decide +kernel
theorem dL_law_695 : decode cL_law 695 = .ok (.invokevirtual 105, 3) := by decide +kernel
theorem dL_law_698 : decode cL_law 698 = .ok (.aload_n 2, 1) := by decide +kernel
theorem dL_law_699 : decode cL_law 699 = .ok (.invokevirtual 108, 3) := by decide +kernel
theorem dL_law_702 : decode cL_law 702 = .ok (.if_icmp .eq 146, 3) := by decide +kernel
theorem dL_law_705 : decode cL_law 705 = .ok (.iconst 0, 1) := by decide +kernel
theorem dL_law_706 : decode cL_law 706 = .ok (.ireturn, 1) := by decide +kernel
theorem dL_law_707 : decode cL_law 707 = .ok (.aload_n 1, 1) := by decide +kernel
theorem dL_law_708 : decode cL_law 708 = .ok (.aload_n 0, 1) := by decide +kernel
theorem dL_law_709 : decode cL_law 709 = .ok (.iload_n 3, 1) := by decide +kernel
theorem dL_law_710 : decode cL_law 710 = .ok (.iconst 1, 1) := by decide +kernel
theorem dL_law_711 : decode cL_law 711 = .ok (.iadd, 1) := by decide +kernel
theorem dL_law_712 : decode cL_law 712 = .ok (.iaload, 1) := by decide +kernel
theorem dL_law_713 : decode cL_law 713 = .ok (.invokevirtual 109, 3) := by decide +kernel
theorem dL_law_716 : decode cL_law 716 = .ok (.aload_n 2, 1) := by decide +kernel
theorem dL_law_717 : decode cL_law 717 = .ok (.aload_n 0, 1) := by decide +kernel
theorem dL_law_718 : decode cL_law 718 = .ok (.iload_n 3, 1) := by decide +kernel
theorem dL_law_719 : decode cL_law 719 = .ok (.iconst 1, 1) := by decide +kernel
theorem dL_law_720 : decode cL_law 720 = .ok (.iadd, 1) := by decide +kernel
theorem dL_law_721 : decode cL_law 721 = .ok (.iaload, 1) := by decide +kernel
theorem dL_law_722 : decode cL_law 722 = .ok (.invokevirtual 112, 3) := by decide +kernel
theorem dL_law_725 : decode cL_law 725 = .ok (.if_icmp .eq 123, 3) := by decide +kernel
theorem dL_law_728 : decode cL_law 728 = .ok (.iconst 0, 1) := by decide +kernel
theorem dL_law_729 : decode cL_law 729 = .ok (.ireturn, 1) := by decide +kernel
theorem dL_law_730 : decode cL_law 730 = .ok (.aload_n 1, 1) := by decide +kernel
theorem dL_law_731 : decode cL_law 731 = .ok (.aload_n 0, 1) := by decide +kernel
theorem dL_law_732 : decode cL_law 732 = .ok (.iload_n 3, 1) := by decide +kernel
theorem dL_law_733 : decode cL_law 733 = .ok (.iconst 1, 1) := by decide +kernel
theorem dL_law_734 : decode cL_law 734 = .ok (.iadd, 1) := by decide +kernel
theorem dL_law_735 : decode cL_law 735 = .ok (.iaload, 1) := by decide +kernel
theorem dL_law_736 : decode cL_law 736 = .ok (.invokevirtual 113, 3) := by decide +kernel
theorem dL_law_739 : decode cL_law 739 = .ok (.aload_n 2, 1) := by decide +kernel
theorem dL_law_740 : decode cL_law 740 = .ok (.aload_n 0, 1) := by decide +kernel
theorem dL_law_741 : decode cL_law 741 = .ok (.iload_n 3, 1) := by decide +kernel
theorem dL_law_742 : decode cL_law 742 = .ok (.iconst 1, 1) := by decide +kernel
theorem dL_law_743 : decode cL_law 743 = .ok (.iadd, 1) := by decide +kernel
theorem dL_law_744 : decode cL_law 744 = .ok (.iaload, 1) := by decide +kernel
theorem dL_law_745 : decode cL_law 745 = .ok (.invokevirtual 116, 3) := by decide +kernel
theorem dL_law_748 : decode cL_law 748 = .ok (.if_icmp .eq 100, 3) := by decide +kernel
theorem dL_law_751 : decode cL_law 751 = .ok (.iconst 0, 1) := by decide +kernel
theorem dL_law_752 : decode cL_law 752 = .ok (.ireturn, 1) := by decide +kernel
theorem dL_law_753 : decode cL_law 753 = .ok (.aload_n 1, 1) := by decide +kernel
theorem dL_law_754 : decode cL_law 754 = .ok (.aload_n 0, 1) := by decide +kernel
theorem dL_law_755 : decode cL_law 755 = .ok (.iload_n 3, 1) := by decide +kernel
theorem dL_law_756 : decode cL_law 756 = .ok (.iconst 1, 1) := by decide +kernel
theorem dL_law_757 : decode cL_law 757 = .ok (.iadd, 1) := by decide +kernel
theorem dL_law_758 : decode cL_law 758 = .ok (.iaload, 1) := by decide +kernel
theorem dL_law_759 : decode cL_law 759 = .ok (.invokevirtual 117, 3) := by decide +kernel
theorem dL_law_762 : decode cL_law 762 = .ok (.aload_n 2, 1) := by decide +kernel
theorem dL_law_763 : decode cL_law 763 = .ok (.aload_n 0, 1) := by decide +kernel
theorem dL_law_764 : decode cL_law 764 = .ok (.iload_n 3, 1) := by decide +kernel
theorem dL_law_765 : decode cL_law 765 = .ok (.iconst 1, 1) := by decide +kernel
theorem dL_law_766 : decode cL_law 766 = .ok (.iadd, 1) := by decide +kernel
theorem dL_law_767 : decode cL_law 767 = .ok (.iaload, 1) := by decide +kernel
theorem dL_law_768 : decode cL_law 768 = .ok (.invokevirtual 120, 3) := by decide +kernel
theorem dL_law_771 : decode cL_law 771 = .ok (.if_icmp .eq 77, 3) := by decide +kernel
theorem dL_law_774 : decode cL_law 774 = .ok (.iconst 0, 1) := by decide +kernel
theorem dL_law_775 : decode cL_law 775 = .ok (.ireturn, 1) := by decide +kernel
theorem dL_law_776 : decode cL_law 776 = .ok (.aload_n 1, 1) := by decide +kernel
theorem dL_law_777 : decode cL_law 777 = .ok (.invokevirtual 121, 3) := by decide +kernel
theorem dL_law_780 : decode cL_law 780 = .ok (.aload_n 2, 1) := by decide +kernel
theorem dL_law_781 : decode cL_law 781 = .ok (.invokevirtual 124, 3) := by decide +kernel
theorem dL_law_784 : decode cL_law 784 = .ok (.if_icmp .eq 64, 3) := by decide +kernel
theorem dL_law_787 : decode cL_law 787 = .ok (.iconst 0, 1) := by decide +kernel
theorem dL_law_788 : decode cL_law 788 = .ok (.ireturn, 1) := by decide +kernel
theorem dL_law_789 : decode cL_law 789 = .ok (.aload_n 1, 1) := by decide +kernel
theorem dL_law_790 : decode cL_law 790 = .ok (.invokevirtual 125, 3) := by decide +kernel
theorem dL_law_793 : decode cL_law 793 = .ok (.aload_n 2, 1) := by decide +kernel
theorem dL_law_794 : decode cL_law 794 = .ok (.invokevirtual 128, 3) := by decide +kernel
theorem dL_law_797 : decode cL_law 797 = .ok (.if_icmp .eq 51, 3) := by decide +kernel
theorem dL_law_800 : decode cL_law 800 = .ok (.iconst 0, 1) := by decide +kernel
theorem dL_law_801 : decode cL_law 801 = .ok (.ireturn, 1) := by decide +kernel
theorem dL_law_802 : decode cL_law 802 = .ok (.aload_n 1, 1) := by decide +kernel
theorem dL_law_803 : decode cL_law 803 = .ok (.aload_n 0, 1) := by decide +kernel
theorem dL_law_804 : decode cL_law 804 = .ok (.iload_n 3, 1) := by decide +kernel
theorem dL_law_805 : decode cL_law 805 = .ok (.iconst 1, 1) := by decide +kernel
theorem dL_law_806 : decode cL_law 806 = .ok (.iadd, 1) := by decide +kernel
theorem dL_law_807 : decode cL_law 807 = .ok (.iaload, 1) := by decide +kernel
theorem dL_law_808 : decode cL_law 808 = .ok (.invokevirtual 129, 3) := by decide +kernel
theorem dL_law_811 : decode cL_law 811 = .ok (.aload_n 2, 1) := by decide +kernel
theorem dL_law_812 : decode cL_law 812 = .ok (.aload_n 0, 1) := by decide +kernel
theorem dL_law_813 : decode cL_law 813 = .ok (.iload_n 3, 1) := by decide +kernel
theorem dL_law_814 : decode cL_law 814 = .ok (.iconst 1, 1) := by decide +kernel
theorem dL_law_815 : decode cL_law 815 = .ok (.iadd, 1) := by decide +kernel
theorem dL_law_816 : decode cL_law 816 = .ok (.iaload, 1) := by decide +kernel
theorem dL_law_817 : decode cL_law 817 = .ok (.invokevirtual 132, 3) := by decide +kernel
theorem dL_law_820 : decode cL_law 820 = .ok (.if_icmp .eq 28, 3) := by decide +kernel
theorem dL_law_823 : decode cL_law 823 = .ok (.iconst 0, 1) := by decide +kernel
theorem dL_law_824 : decode cL_law 824 = .ok (.ireturn, 1) := by decide +kernel
theorem dL_law_825 : decode cL_law 825 = .ok (.aload_n 1, 1) := by decide +kernel
theorem dL_law_826 : decode cL_law 826 = .ok (.aload_n 0, 1) := by decide +kernel
theorem dL_law_827 : decode cL_law 827 = .ok (.iload_n 3, 1) := by decide +kernel
theorem dL_law_828 : decode cL_law 828 = .ok (.iconst 1, 1) := by decide +kernel
theorem dL_law_829 : decode cL_law 829 = .ok (.iadd, 1) := by decide +kernel
theorem dL_law_830 : decode cL_law 830 = .ok (.iaload, 1) := by decide +kernel
theorem dL_law_831 : decode cL_law 831 = .ok (.invokevirtual 133, 3) := by decide +kernel
theorem dL_law_834 : decode cL_law 834 = .ok (.aload_n 2, 1) := by decide +kernel
theorem dL_law_835 : decode cL_law 835 = .ok (.aload_n 0, 1) := by decide +kernel
theorem dL_law_836 : decode cL_law 836 = .ok (.iload_n 3, 1) := by decide +kernel
theorem dL_law_837 : decode cL_law 837 = .ok (.iconst 1, 1) := by decide +kernel
theorem dL_law_838 : decode cL_law 838 = .ok (.iadd, 1) := by decide +kernel
theorem dL_law_839 : decode cL_law 839 = .ok (.iaload, 1) := by decide +kernel
theorem dL_law_840 : decode cL_law 840 = .ok (.invokevirtual 136, 3) := by decide +kernel
theorem dL_law_843 : decode cL_law 843 = .ok (.if_icmp .eq 5, 3) := by decide +kernel
theorem dL_law_846 : decode cL_law 846 = .ok (.iconst 0, 1) := by decide +kernel
theorem dL_law_847 : decode cL_law 847 = .ok (.ireturn, 1) := by decide +kernel
theorem dL_law_848 : decode cL_law 848 = .ok (.iinc 3 4, 3) := by decide +kernel
theorem dL_law_851 : decode cL_law 851 = .ok (.goto (-833), 3) := by decide +kernel
theorem dL_law_854 : decode cL_law 854 = .ok (.iconst 1, 1) := by decide +kernel
theorem dL_law_855 : decode cL_law 855 = .ok (.ireturn, 1) := by decide +kernel
end
section
/-! what all contracts share: the tables' numbers G, the words KK, a contract's start and end, calls and returns -/
abbrev GG : Type := va_G × ClassId × ClassId × ClassId
abbrev tyG (G : GG) : List (ClassId × FieldType) := [(G.2.1, .int), (G.2.2.1, .boolean), (G.2.2.2, .object RX3)]
def NWs : List (String × Nat × MethodName) := [(RX4, 18, yX0_init), (RX4, 29, yX1_init), (RX4, 9, yX3_init), (RX0, 21, yX3_init), (RX1, 52, yX4_contains), (RX2, 15, yX4_copyRow), (RX2, 27, yX4_within), (RX3, 36, yX2_init), (RX3, 41, yX4_copyRow), (RX3, 56, yX4_within), (RX3, 67, yX4_setOf), (RX3, 71, yX4_contains), (RX3, 9, yX4_emptyRow)]
def KK (G : GG) (U : State) : Prop := va_K G.1 vwCl (tyG G) U ∧ (∀ w ∈ NWs, va_Nw (.methodLinkNest w.1 w.2.1 w.2.2 RX4) U) ∧ va_AO RX3 U
theorem KK.warm {G : GG} {s U : State} (hW : s.WarmedH U.vm) (h : KK G s) : KK G U := ⟨va_K.moved hW.alike h.1, fun w hw => va_Nw.warmM hW (h.2.1 w hw), va_AO.moved hW.alike h.2.2⟩
theorem KK.call {G : GG} {U : State} {g : JFrame} {mk : MethodId} {a : Array Value} (h : KK G U) : KK G (U.calling g mk a) := ⟨va_K.moved (u := U) (U := U.calling g mk a) (Vm.Alike.refl U.vm) h.1, fun w hw => va_Nw.same rfl (u := U) (U := U.calling g mk a) rfl (h.2.1 w hw), va_AO.moved (u := U) (U := U.calling g mk a) (Vm.Alike.refl U.vm) h.2.2⟩
theorem nw_RX4_18 {G : GG} {U : State} (h : KK G U) : va_Nw (.methodLinkNest RX4 18 yX0_init RX4) U := h.2.1 (RX4, 18, yX0_init) (List.mem_of_getElem? (i := 0) rfl)
theorem nw_RX4_29 {G : GG} {U : State} (h : KK G U) : va_Nw (.methodLinkNest RX4 29 yX1_init RX4) U := h.2.1 (RX4, 29, yX1_init) (List.mem_of_getElem? (i := 1) rfl)
theorem nw_RX4_9 {G : GG} {U : State} (h : KK G U) : va_Nw (.methodLinkNest RX4 9 yX3_init RX4) U := h.2.1 (RX4, 9, yX3_init) (List.mem_of_getElem? (i := 2) rfl)
theorem nw_RX0_21 {G : GG} {U : State} (h : KK G U) : va_Nw (.methodLinkNest RX0 21 yX3_init RX4) U := h.2.1 (RX0, 21, yX3_init) (List.mem_of_getElem? (i := 3) rfl)
theorem nw_RX1_52 {G : GG} {U : State} (h : KK G U) : va_Nw (.methodLinkNest RX1 52 yX4_contains RX4) U := h.2.1 (RX1, 52, yX4_contains) (List.mem_of_getElem? (i := 4) rfl)
theorem nw_RX2_15 {G : GG} {U : State} (h : KK G U) : va_Nw (.methodLinkNest RX2 15 yX4_copyRow RX4) U := h.2.1 (RX2, 15, yX4_copyRow) (List.mem_of_getElem? (i := 5) rfl)
theorem nw_RX2_27 {G : GG} {U : State} (h : KK G U) : va_Nw (.methodLinkNest RX2 27 yX4_within RX4) U := h.2.1 (RX2, 27, yX4_within) (List.mem_of_getElem? (i := 6) rfl)
theorem nw_RX3_36 {G : GG} {U : State} (h : KK G U) : va_Nw (.methodLinkNest RX3 36 yX2_init RX4) U := h.2.1 (RX3, 36, yX2_init) (List.mem_of_getElem? (i := 7) rfl)
theorem nw_RX3_41 {G : GG} {U : State} (h : KK G U) : va_Nw (.methodLinkNest RX3 41 yX4_copyRow RX4) U := h.2.1 (RX3, 41, yX4_copyRow) (List.mem_of_getElem? (i := 8) rfl)
theorem nw_RX3_56 {G : GG} {U : State} (h : KK G U) : va_Nw (.methodLinkNest RX3 56 yX4_within RX4) U := h.2.1 (RX3, 56, yX4_within) (List.mem_of_getElem? (i := 9) rfl)
theorem nw_RX3_67 {G : GG} {U : State} (h : KK G U) : va_Nw (.methodLinkNest RX3 67 yX4_setOf RX4) U := h.2.1 (RX3, 67, yX4_setOf) (List.mem_of_getElem? (i := 10) rfl)
theorem nw_RX3_71 {G : GG} {U : State} (h : KK G U) : va_Nw (.methodLinkNest RX3 71 yX4_contains RX4) U := h.2.1 (RX3, 71, yX4_contains) (List.mem_of_getElem? (i := 11) rfl)
theorem nw_RX3_9 {G : GG} {U : State} (h : KK G U) : va_Nw (.methodLinkNest RX3 9 yX4_emptyRow RX4) U := h.2.1 (RX3, 9, yX4_emptyRow) (List.mem_of_getElem? (i := 12) rfl)

def Pcon (G : GG) (wi : va_W) (sz : Nat) (U : State) : Prop := U.heap.size = sz ∧ va_P G.1 vwCl wi U.heap ∧ KK G U ∧ va_D (fun _ => True) wi
def Bcon (G : GG) (A : Nat → Prop) (wo : va_W) (t : State) : Prop := va_P G.1 vwCl wo t.heap ∧ va_D A wo
abbrev QI (G : GG) (A : Nat → Prop) (r : Int32) (wo : va_W) : Array Value → State → Outcome → State → Prop := va_Qi (fun (r' : Int32) (_ : Unit) => r' = r) (fun _ t => Bcon G A wo t) A
abbrev QV (G : GG) (A : Nat → Prop) (wo : va_W) : Array Value → State → Outcome → State → Prop := va_Qv (fun (_ : Unit) => True) (fun _ t => Bcon G A wo t) A
abbrev QN (G : GG) {S : Type} (A : Nat → Prop) (ok : S → Prop) (wo : S → va_W) : Array Value → State → Outcome → State → Prop := va_Qv ok (fun u t => Bcon G A (wo u) t) A
abbrev QA (G : GG) (A : Nat → Prop) (wo : Nat → va_W) : Array Value → State → Outcome → State → Prop := va_Qr (fun (_ : Unit) => True) (fun _ a t => Bcon G A (wo a) t) A
abbrev QJ (G : GG) {S : Type} (A : Nat → Prop) (r : Int32) (ok : S → Prop) (wo : S → va_W) : Array Value → State → Outcome → State → Prop := va_Qi (fun (r' : Int32) (u : S) => r' = r ∧ ok u) (fun u t => Bcon G A (wo u) t) A
/-- a contract that answers the int r and turns the cells wi to wo -/
def CTi (l : Launch) (y : MethodName) (wl : List Cond) (rm : Room) (G : GG) (av : List Value) (wi : va_W) (r : Int32) (wo : va_W) : Prop :=
  ∀ sz, Met l y wl rm (va_Pc av (Pcon G wi sz)) (QI G (va_A wi sz) r wo) rm.cells rm.slots (va_A wi sz)
def CTv (l : Launch) (y : MethodName) (wl : List Cond) (rm : Room) (G : GG) (av : List Value) (wi : va_W) (wo : va_W) : Prop :=
  ∀ sz, Met l y wl rm (va_Pc av (Pcon G wi sz)) (QV G (va_A wi sz) wo) rm.cells rm.slots (va_A wi sz)
/-- .. with new cells, at addresses u -/
def CTn {S : Type} (l : Launch) (y : MethodName) (wl : List Cond) (rm : Room) (G : GG) (av : List Value) (wi : va_W) (ok : S → Prop) (wo : S → va_W) : Prop :=
  ∀ sz, Met l y wl rm (va_Pc av (Pcon G wi sz)) (QN G (va_A wi sz) ok wo) rm.cells rm.slots (va_A wi sz)
def CTj {S : Type} (l : Launch) (y : MethodName) (wl : List Cond) (rm : Room) (G : GG) (av : List Value) (wi : va_W) (r : Int32) (ok : S → Prop) (wo : S → va_W) : Prop :=
  ∀ sz, Met l y wl rm (va_Pc av (Pcon G wi sz)) (QJ G (va_A wi sz) r ok wo) rm.cells rm.slots (va_A wi sz)
def CTa (l : Launch) (y : MethodName) (wl : List Cond) (rm : Room) (G : GG) (av : List Value) (wi : va_W) (wo : Nat → va_W) : Prop :=
  ∀ sz, Met l y wl rm (va_Pc av (Pcon G wi sz)) (QA G (va_A wi sz) wo) rm.cells rm.slots (va_A wi sz)
theorem Pcon.blind {G : GG} {av : List Value} {wi : va_W} {sz : Nat} : FrameBlind (va_Pc av (Pcon G wi sz)) := fun a U g mk q => by
  obtain ⟨q0, q1, qP, qK, qD⟩ := q
  exact ⟨q0, q1, qP, qK.call, qD⟩
/-- a contract's proof: the walk of the body -/
theorem mk_body {l : Launch} {y : MethodName} {wl wl' : List Cond} {rm : Room} {G : GG} {av : List Value} {wi : va_W} {sz : Nat} {Qc : (Nat → Prop) → Array Value → State → Outcome → State → Prop} {cc : ByteArray} {maxL : Nat} {ret : Option FieldType} {lv : List (Nat × Value)}
    (hy : plainName y.cls = true) (hw : wl = Cond.code y cc maxL ret :: wl') (hlv : lv_args 0 av = lv) (hlen : (lg_sl av).length ≤ maxL)
    (body : ∀ (p : Program) (e : Env) (s : State) (m : MethodId) (args : Array Value) (below : List Frame) (meth : Method) (c : Code) (A : Nat → Prop) (H : Heap) (locs : List Loc) (ls : Array Slot),
      CallFix p m c cc maxL s args wl y.cls → meth.sig.returnType = ret → meth.locks = false → meth.name = y.name → KK G s → (∀ q, s.heap.size ≤ q → A q) → va_P G.1 vwCl wi H → va_D A wi → va_S A s.heap H locs → lv_has ls maxL lv →
      W p l e rm s m args below meth c H locs 0 0 (MQ below (Qc A) args s rm.cells rm.slots A) (F0 m 0 ls [])) :
    Met l y wl rm (va_Pc av (Pcon G wi sz)) (Qc (va_A wi sz)) rm.cells rm.slots (va_A wi sz) := by
  refine Met.ofW (cc := cc) (maxL := maxL) (ret := ret) hy hw ?_
  intro p e s m args below meth c s₁ B hml hv
  obtain ⟨rfl, hsz, hP, hK, hD0⟩ := hv
  subst hsz
  have hl := lv_entry av (n := maxL) hlen
  rw [hlv] at hl
  rw [lg_entry_eq]
  exact body p e s m _ below meth c _ _ _ _ ⟨B.exec, B.bytes, hml, findClass_of_methodNamed B.named, atoms_spec (ws := wl) B.pre⟩ B.returns B.notSynchronized (name_of_methodNamed B.named B.method).1 hK (fun q h => Or.inr h) hP (hD0.self (sz := s.heap.size)) va_S.rf hl
section KB
variable {p : Program} {l : Launch} {e : Env} {R : Room} {s : State} {m : MethodId} {args : Array Value} {below : List Frame} {meth : Method} {c : Code} {H : Heap} {locs : List Loc} {cells slots : Nat} {Q : State → Prop}
variable {cc : ByteArray} {pc nL : Nat} {ls : Array Slot} {rest st : List Value} {G : GG} {A : Nat → Prop} {H0 : Heap} {y : MethodName} {bytes : ByteArray} {maxL mc ms n index : Nat} {ret : Option FieldType} {wl Ts : List Cond} {rm : Room} {Qc : Array Value → State → Outcome → State → Prop} {fr : Addr → Prop} {own C : String} {b : Addr} {As : List Value} {wi wo wr ws ws' : va_W}
/-- returns -/
theorem rt_i {r : Int32} (hx : p.tables.exec = Jvm.exec) (hb : c.code = cc) (hr : meth.sig.returnType = some .int) (hlocks : meth.locks = false) (hP : va_P G.1 vwCl wo H) (hD : va_D A wo) (hS : va_S A s.heap H locs) (hdg : decode cc pc = .ok (.ireturn, 1)) :
    W p l e R s m args below meth c H locs cells slots (MQ below (QI G A r wo) args s cells slots A) (F0 m pc ls [.int r]) :=
  W.iret (v := r) hx hb hr (fun t ht hW => ⟨⟨r, (), rfl, rfl, by rw [ht]; exact hP, hD⟩, hS.F ht⟩) hS.2.2 hdg
theorem rt_z {r : Int32} (hx : p.tables.exec = Jvm.exec) (hb : c.code = cc) (hr : meth.sig.returnType = some .boolean) (hlocks : meth.locks = false) (hn : narrow .boolean (.int r) = .int r) (hP : va_P G.1 vwCl wo H) (hD : va_D A wo) (hS : va_S A s.heap H locs) (hdg : decode cc pc = .ok (.ireturn, 1)) :
    W p l e R s m args below meth c H locs cells slots (MQ below (QI G A r wo) args s cells slots A) (F0 m pc ls [.int r]) :=
  W.zret (v := r) hx hb hr hn (fun t ht hW => ⟨⟨r, (), rfl, rfl, by rw [ht]; exact hP, hD⟩, hS.F ht⟩) hS.2.2 hdg
theorem rt_v (hx : p.tables.exec = Jvm.exec) (hb : c.code = cc) (hr : meth.sig.returnType = none) (hlocks : meth.locks = false) (hP : va_P G.1 vwCl wo H) (hD : va_D A wo) (hS : va_S A s.heap H locs) (hdg : decode cc pc = .ok (.return_, 1)) :
    W p l e R s m args below meth c H locs cells slots (MQ below (QV G A wo) args s cells slots A) (F0 m pc ls []) :=
  W.vret hx hb hr (fun t ht hW => ⟨⟨(), rfl, trivial, by rw [ht]; exact hP, hD⟩, hS.F ht⟩) hS.2.2 hdg
theorem rt_n {S : Type} {ok : S → Prop} {wo : S → va_W} (u : S) (hok : ok u) (hx : p.tables.exec = Jvm.exec) (hb : c.code = cc) (hr : meth.sig.returnType = none) (hlocks : meth.locks = false) (hP : va_P G.1 vwCl (wo u) H) (hD : va_D A (wo u)) (hS : va_S A s.heap H locs) (hdg : decode cc pc = .ok (.return_, 1)) :
    W p l e R s m args below meth c H locs cells slots (MQ below (QN G A ok wo) args s cells slots A) (F0 m pc ls []) :=
  W.vret hx hb hr (fun t ht hW => ⟨⟨u, rfl, hok, by rw [ht]; exact hP, hD⟩, hS.F ht⟩) hS.2.2 hdg
theorem rt_j {S : Type} {r : Int32} {ok : S → Prop} {wo : S → va_W} (u : S) (hok : ok u) (hx : p.tables.exec = Jvm.exec) (hb : c.code = cc) (hr : meth.sig.returnType = some .int) (hlocks : meth.locks = false) (hP : va_P G.1 vwCl (wo u) H) (hD : va_D A (wo u)) (hS : va_S A s.heap H locs) (hdg : decode cc pc = .ok (.ireturn, 1)) :
    W p l e R s m args below meth c H locs cells slots (MQ below (QJ G A r ok wo) args s cells slots A) (F0 m pc ls [.int r]) :=
  W.iret (v := r) hx hb hr (fun t ht hW => ⟨⟨r, u, rfl, ⟨rfl, hok⟩, by rw [ht]; exact hP, hD⟩, hS.F ht⟩) hS.2.2 hdg
theorem rt_a {wo : Nat → va_W} (u : Nat) (hx : p.tables.exec = Jvm.exec) (hb : c.code = cc) {rt : FieldType} (hr : meth.sig.returnType = some rt) (hrt : (∃ n, rt = .object n) ∨ ∃ t, rt = .array t) (hlocks : meth.locks = false) (hP : va_P G.1 vwCl (wo u) H) (hD : va_D A (wo u)) (hS : va_S A s.heap H locs) (hdg : decode cc pc = .ok (.areturn, 1)) :
    W p l e R s m args below meth c H locs cells slots (MQ below (QA G A wo) args s cells slots A) (F0 m pc ls [.ref u]) :=
  W.aret hx hb hr hrt (Or.inr ⟨u, rfl⟩) (fun t ht hW => ⟨⟨(), u, rfl, trivial, by rw [ht]; exact hP, hD⟩, hS.F ht⟩) hS.2.2 hdg
/-- calls: the run -/
theorem rV (S : CallFix p m c cc nL s args Ts own) (hK : KK G s) (hPc : va_P G.1 vwCl wi H) (hDc : va_D A wi) (hM : Met l y wl rm (va_Pc (.ref b :: As) (Pcon G wi H.size)) Qc rm.cells rm.slots fr) (cw : CallW R s args own C index y bytes maxL ret wl rm rm.cells rm.slots n) (hv : ∃ cell : Cell, H[b]? = some cell ∧ cell.vm.isStatics = false ∧ s.vm.findClass C = some cell.cls)
    (hn : As.length = n) (hsize : ls.size = nL) (hst : st = As.reverse ++ .ref b :: rest) (hW : (rest.map fun v => v.category).sum ≤ 8) (hdg : decode cc pc = .ok (.invokevirtual index, 3)) (hf : cells + rm.cells ≤ R.cells ∧ slots + rm.slots ≤ R.slots) :
    va_Run p l e R s m args below meth c H locs cells slots rm.cells rm.slots (F0 m pc ls st) rest (Qc (Value.ref b :: As).toArray) fr :=
  va_runV S hM cw ⟨Pcon.blind, hv, fun U hU hW => ⟨rfl, by rw [hU], by rw [hU]; exact hPc, hK.warm hW, hDc.weaken (fun _ _ _ _ => trivial)⟩⟩ rfl hn hsize hst (lv_room hW) hdg hf
theorem rS (S : CallFix p m c cc nL s args Ts own) (hK : KK G s) (hPc : va_P G.1 vwCl wi H) (hDc : va_D A wi) (hM : Met l y wl rm (va_Pc As (Pcon G wi H.size)) Qc rm.cells rm.slots fr) (cw : CallB R s args own index y bytes maxL ret wl rm rm.cells rm.slots n ∧ (Cond.static y).before args s = true)
    (hn : As.length = n) (hsize : ls.size = nL) (hst : st = As.reverse ++ rest) (hW : (rest.map fun v => v.category).sum ≤ 8) (hdg : decode cc pc = .ok (.invokestatic index, 3)) (hf : cells + rm.cells ≤ R.cells ∧ slots + rm.slots ≤ R.slots) :
    va_Run p l e R s m args below meth c H locs cells slots rm.cells rm.slots (F0 m pc ls st) rest (Qc As.toArray) fr :=
  va_runS S hM cw ⟨Pcon.blind, fun U hU hW => ⟨rfl, by rw [hU], by rw [hU]; exact hPc, hK.warm hW, hDc.weaken (fun _ _ _ _ => trivial)⟩⟩ rfl hn hsize hst (lv_room hW) hdg hf
theorem rSN {host : String} (S : CallFix p m c cc nL s args Ts own) (hK : KK G s) (hPc : va_P G.1 vwCl wi H) (hDc : va_D A wi) (hM : Met l y wl rm (va_Pc As (Pcon G wi H.size)) Qc rm.cells rm.slots fr) (cw : va_CN R s args own index y host bytes maxL ret wl rm rm.cells rm.slots n ∧ (Cond.static y).before args s = true ∧ True)
    (hn : As.length = n) (hsize : ls.size = nL) (hst : st = As.reverse ++ rest) (hW : (rest.map fun v => v.category).sum ≤ 8) (hdg : decode cc pc = .ok (.invokestatic index, 3)) (hf : cells + rm.cells ≤ R.cells ∧ slots + rm.slots ≤ R.slots) :
    va_Run p l e R s m args below meth c H locs cells slots rm.cells rm.slots (F0 m pc ls st) rest (Qc As.toArray) fr :=
  va_runSN S hM cw ⟨Pcon.blind, fun U hU hW => ⟨rfl, by rw [hU], by rw [hU]; exact hPc, hK.warm hW, hDc.weaken (fun _ _ _ _ => trivial)⟩⟩ rfl hn hsize hst (lv_room hW) hdg hf
theorem rI (S : CallFix p m c cc nL s args Ts own) (hK : KK G s) (hPc : va_P G.1 vwCl wi H) (hDc : va_D A wi) (hM : Met l y wl rm (va_Pc (.ref b :: As) (Pcon G wi H.size)) Qc rm.cells rm.slots fr) (cw : CallB R s args own index y bytes maxL none wl rm rm.cells rm.slots n ∧ y.name = "<init>" ∧ (Cond.instanceMethod y).before args s = true)
    (hn : As.length = n) (hsize : ls.size = nL) (hst : st = As.reverse ++ .ref b :: rest) (hW : (rest.map fun v => v.category).sum ≤ 8) (hdg : decode cc pc = .ok (.invokespecial index, 3)) (hf : cells + rm.cells ≤ R.cells ∧ slots + rm.slots ≤ R.slots) :
    va_Run p l e R s m args below meth c H locs cells slots rm.cells rm.slots (F0 m pc ls st) rest (Qc (Value.ref b :: As).toArray) fr :=
  va_runI S hM cw ⟨Pcon.blind, fun U hU hW => ⟨rfl, by rw [hU], by rw [hU]; exact hPc, hK.warm hW, hDc.weaken (fun _ _ _ _ => trivial)⟩⟩ rfl hn hsize hst (lv_room hW) hdg hf
theorem rIN {host : String} (S : CallFix p m c cc nL s args Ts own) (hK : KK G s) (hPc : va_P G.1 vwCl wi H) (hDc : va_D A wi) (hM : Met l y wl rm (va_Pc (.ref b :: As) (Pcon G wi H.size)) Qc rm.cells rm.slots fr) (cw : va_CN R s args own index y host bytes maxL none wl rm rm.cells rm.slots n ∧ y.name = "<init>" ∧ (Cond.instanceMethod y).before args s = true)
    (hn : As.length = n) (hsize : ls.size = nL) (hst : st = As.reverse ++ .ref b :: rest) (hW : (rest.map fun v => v.category).sum ≤ 8) (hdg : decode cc pc = .ok (.invokespecial index, 3)) (hf : cells + rm.cells ≤ R.cells ∧ slots + rm.slots ≤ R.slots) :
    va_Run p l e R s m args below meth c H locs cells slots rm.cells rm.slots (F0 m pc ls st) rest (Qc (Value.ref b :: As).toArray) fr :=
  va_runIN S hM cw ⟨Pcon.blind, fun U hU hW => ⟨rfl, by rw [hU], by rw [hU]; exact hPc, hK.warm hW, hDc.weaken (fun _ _ _ _ => trivial)⟩⟩ rfl hn hsize hst (lv_room hW) hdg hf
theorem fm_of {α : Type} {f : Nat → Option α} : ∀ (is : List Nat) (w : List α), is.map f = w.map some → is.filterMap f = w
  | [], [], _ => rfl
  | [], _ :: _, h => by cases h
  | _ :: _, [], h => by cases h
  | i :: is, a :: w, h => by
    obtain ⟨h1, h2⟩ := List.cons.inj h
    rw [List.filterMap_cons, h1, fm_of is w h2]
/-- behind a call: what the callee had comes back, the rest stays, in the order of ws' -/
theorem kj {H1 : Heap} (isC isR isN : List Nat) (hP : va_P G.1 vwCl ws H) (hD : va_D A ws) (hC : isC.map (fun i => ws[i]?) = wi.map some) (hR : isR.map (fun i => ws[i]?) = wr.map some) (hn : va_nd isR = true) (hdis : ∀ i ∈ isR, i ∉ isC)
    (hN : isN.map (fun i => (wr ++ wo)[i]?) = ws'.map some) (hnN : va_nd isN = true) (hk : ∀ q : Nat, q < H.size → ¬ va_A wi H.size q → H1[q]? = H[q]?) (hF : ∀ q, va_A wi H.size q → A q) (hP1 : va_P G.1 vwCl wo H1) (hD1 : va_D (va_A wi H.size) wo) : va_P G.1 vwCl ws' H1 ∧ va_D A ws' := by
  obtain ⟨a, b⟩ := va_join hP hD isC isR hC hR hn hdis hk hF hP1 hD1
  exact ⟨a.sub isN (fm_of _ _ hN), b.sub isN hnN hN⟩
theorem kc_i {r : Int32} {a : Array Value} (hr : va_Run p l e R s m args below meth c H locs cells slots mc ms (F0 m pc ls st) rest (QI G (va_A wi H.size) r wo a) (va_A wi H.size)) (hP : va_P G.1 vwCl ws H) (hD : va_D A ws) (hS : va_S A H0 H locs) (hA : ∀ q, H0.size ≤ q → A q)
    (isC isR isN : List Nat) (hC : isC.map (fun i => ws[i]?) = wi.map some) (hR : isR.map (fun i => ws[i]?) = wr.map some) (hn : va_nd isR = true) (hdis : ∀ i ∈ isR, i ∉ isC) (hN : isN.map (fun i => (wr ++ wo)[i]?) = ws'.map some) (hnN : va_nd isN = true)
    (kk : ∀ (H1 : Heap) (locs1 : List Loc), va_P G.1 vwCl ws' H1 → va_D A ws' → va_S A H0 H1 locs1 → W p l e R s m args below meth c H1 locs1 (cells + mc) (slots + ms) Q (F0 m (pc + 3) ls (.int r :: rest))) : W p l e R s m args below meth c H locs cells slots Q (F0 m pc ls st) := by
  have hF := va_free hD hS hA isC hC
  refine va_calli hr hS (fun q _ h => hF q h) hF (fun r1 u t H1 locs1 ht hvm hw hB hz1 hk1 hS1 => ?_)
  obtain ⟨h1, h2⟩ := hB
  rw [ht] at h1
  obtain ⟨a1, a2⟩ := kj isC isR isN hP hD hC hR hn hdis hN hnN hk1 hF h1 h2
  subst hw
  exact kk H1 locs1 a1 a2 hS1
theorem kc_v {a : Array Value} (hr : va_Run p l e R s m args below meth c H locs cells slots mc ms (F0 m pc ls st) rest (QV G (va_A wi H.size) wo a) (va_A wi H.size)) (hP : va_P G.1 vwCl ws H) (hD : va_D A ws) (hS : va_S A H0 H locs) (hA : ∀ q, H0.size ≤ q → A q)
    (isC isR isN : List Nat) (hC : isC.map (fun i => ws[i]?) = wi.map some) (hR : isR.map (fun i => ws[i]?) = wr.map some) (hn : va_nd isR = true) (hdis : ∀ i ∈ isR, i ∉ isC) (hN : isN.map (fun i => (wr ++ wo)[i]?) = ws'.map some) (hnN : va_nd isN = true)
    (kk : ∀ (H1 : Heap) (locs1 : List Loc), va_P G.1 vwCl ws' H1 → va_D A ws' → va_S A H0 H1 locs1 → W p l e R s m args below meth c H1 locs1 (cells + mc) (slots + ms) Q (F0 m (pc + 3) ls rest)) : W p l e R s m args below meth c H locs cells slots Q (F0 m pc ls st) := by
  have hF := va_free hD hS hA isC hC
  refine va_callv hr hS (fun q _ h => hF q h) hF (fun u t H1 locs1 ht hvm hw hB hz1 hk1 hS1 => ?_)
  obtain ⟨h1, h2⟩ := hB
  rw [ht] at h1
  obtain ⟨a1, a2⟩ := kj isC isR isN hP hD hC hR hn hdis hN hnN hk1 hF h1 h2
  exact kk H1 locs1 a1 a2 hS1
/-- the callee has the caller's whole world -/
theorem ks_F (hD : va_D A ws) (hS : va_S A H0 H locs) (hA : ∀ q, H0.size ≤ q → A q) : ∀ q, va_A ws H.size q → A q := by
  intro q h
  rcases h with ⟨k, e, h⟩ | h
  · exact hD.2 k (q, e) h
  · exact hA q (Nat.le_trans hS.1 h)
theorem ks_i {r : Int32} {a : Array Value} (hr : va_Run p l e R s m args below meth c H locs cells slots mc ms (F0 m pc ls st) rest (QI G (va_A ws H.size) r wo a) (va_A ws H.size)) (hD : va_D A ws) (hS : va_S A H0 H locs) (hA : ∀ q, H0.size ≤ q → A q)
    (kk : ∀ (H1 : Heap) (locs1 : List Loc), va_P G.1 vwCl wo H1 → va_D A wo → va_S A H0 H1 locs1 → W p l e R s m args below meth c H1 locs1 (cells + mc) (slots + ms) Q (F0 m (pc + 3) ls (.int r :: rest))) : W p l e R s m args below meth c H locs cells slots Q (F0 m pc ls st) := by
  have hF := ks_F hD hS hA
  refine va_calli hr hS (fun q _ h => hF q h) hF (fun r1 u t H1 locs1 ht hvm hw hB hz1 hk1 hS1 => ?_)
  obtain ⟨h1, h2⟩ := hB
  rw [ht] at h1
  subst hw
  exact kk H1 locs1 h1 (h2.weaken (fun k q _ h => hF q.1 h)) hS1
theorem ks_v {a : Array Value} (hr : va_Run p l e R s m args below meth c H locs cells slots mc ms (F0 m pc ls st) rest (QV G (va_A ws H.size) wo a) (va_A ws H.size)) (hD : va_D A ws) (hS : va_S A H0 H locs) (hA : ∀ q, H0.size ≤ q → A q)
    (kk : ∀ (H1 : Heap) (locs1 : List Loc), va_P G.1 vwCl wo H1 → va_D A wo → va_S A H0 H1 locs1 → W p l e R s m args below meth c H1 locs1 (cells + mc) (slots + ms) Q (F0 m (pc + 3) ls rest)) : W p l e R s m args below meth c H locs cells slots Q (F0 m pc ls st) := by
  have hF := ks_F hD hS hA
  refine va_callv hr hS (fun q _ h => hF q h) hF (fun u t H1 locs1 ht hvm hw hB hz1 hk1 hS1 => ?_)
  obtain ⟨h1, h2⟩ := hB
  rw [ht] at h1
  exact kk H1 locs1 h1 (h2.weaken (fun k q _ h => hF q.1 h)) hS1
/-- the callee has no cells -/
theorem k0_P {D : va_G} {cl : List vw_C} : va_P D cl [] H := fun k q h => by cases h
theorem k0_D : va_D A [] := ⟨fun i j p q h => (by cases h), fun k q h => (by cases h)⟩
theorem k0_i {r : Int32} {a : Array Value} (hr : va_Run p l e R s m args below meth c H locs cells slots mc ms (F0 m pc ls st) rest (QI G (va_A [] H.size) r [] a) (va_A [] H.size)) (hP : va_P G.1 vwCl ws H) (hS : va_S A H0 H locs) (hA : ∀ q, H0.size ≤ q → A q)
    (kk : ∀ (H1 : Heap) (locs1 : List Loc), va_P G.1 vwCl ws H1 → va_S A H0 H1 locs1 → W p l e R s m args below meth c H1 locs1 (cells + mc) (slots + ms) Q (F0 m (pc + 3) ls (.int r :: rest))) : W p l e R s m args below meth c H locs cells slots Q (F0 m pc ls st) := by
  have hF : ∀ q, va_A [] H.size q → A q := by
    intro q h
    rcases h with ⟨k, e, h⟩ | h
    · cases h
    · exact hA q (Nat.le_trans hS.1 h)
  refine va_calli hr hS (fun q _ h => hF q h) hF (fun r1 u t H1 locs1 ht hvm hw hB hz1 hk1 hS1 => ?_)
  subst hw
  refine kk H1 locs1 (hP.kept fun k q hk => hk1 q.1 (hP k q hk).lt fun h => ?_) hS1
  rcases h with ⟨k, e, h⟩ | h
  · cases h
  · exact absurd (hP k q hk).lt (Nat.not_lt.mpr h)
theorem k0_v {a : Array Value} (hr : va_Run p l e R s m args below meth c H locs cells slots mc ms (F0 m pc ls st) rest (QV G (va_A [] H.size) [] a) (va_A [] H.size)) (hP : va_P G.1 vwCl ws H) (hS : va_S A H0 H locs) (hA : ∀ q, H0.size ≤ q → A q)
    (kk : ∀ (H1 : Heap) (locs1 : List Loc), va_P G.1 vwCl ws H1 → va_S A H0 H1 locs1 → W p l e R s m args below meth c H1 locs1 (cells + mc) (slots + ms) Q (F0 m (pc + 3) ls rest)) : W p l e R s m args below meth c H locs cells slots Q (F0 m pc ls st) := by
  have hF : ∀ q, va_A [] H.size q → A q := by
    intro q h
    rcases h with ⟨k, e, h⟩ | h
    · cases h
    · exact hA q (Nat.le_trans hS.1 h)
  refine va_callv hr hS (fun q _ h => hF q h) hF (fun u t H1 locs1 ht hvm hw hB hz1 hk1 hS1 => ?_)
  refine kk H1 locs1 (hP.kept fun k q hk => hk1 q.1 (hP k q hk).lt fun h => ?_) hS1
  rcases h with ⟨k, e, h⟩ | h
  · cases h
  · exact absurd (hP k q hk).lt (Nat.not_lt.mpr h)
end KB
/-! the mirrors: what a method computes, as a plain function; none: it would throw, or the fuel is out -/
def gd {α : Type} (i : Int32) (n : Nat) (k : Option α) : Option α := if i < 0 ∨ n ≤ i.toNatClampNeg then none else k
theorem gd_s {α : Type} {i : Int32} {n : Nat} {k : Option α} {r : α} (h : gd i n k = some r) : vp_in i n ∧ k = some r := by
  unfold gd at h
  by_cases hc : i < 0 ∨ n ≤ i.toNatClampNeg
  · rw [if_pos hc] at h; cases h
  · rw [if_neg hc] at h; exact ⟨hc, h⟩
/-- a condition that must hold -/
def gc {α : Type} (c : Prop) [Decidable c] (k : Option α) : Option α := if c then k else none
theorem gc_s {α : Type} {c : Prop} [Decidable c] {k : Option α} {r : α} (h : gc c k = some r) : c ∧ k = some r := by
  unfold gc at h
  by_cases hc : c
  · rw [if_pos hc] at h; exact ⟨hc, h⟩
  · rw [if_neg hc] at h; cases h
theorem it_t {α : Type} {c : Prop} [Decidable c] {a b : Option α} {r : α} (h : c) (hm : (if c then a else b) = some r) : a = some r := by rwa [if_pos h] at hm
theorem it_f {α : Type} {c : Prop} [Decidable c] {a b : Option α} {r : α} (h : ¬ c) (hm : (if c then a else b) = some r) : b = some r := by rwa [if_neg h] at hm
theorem bd_s {α β : Type} {x : Option α} {f : α → Option β} {r : β} (h : x.bind f = some r) : ∃ a, x = some a ∧ f a = some r := by
  cases x with
  | none => cases h
  | some a => exact ⟨a, rfl, h⟩
end
section
/-! the worlds -/
abbrev wNT (c : ClassId) (a7 a8 : Nat) (qu : Nat → Int32) (nsz : Int32) : va_W := [(a7, .inr (2, [.ref a8, .int nsz])), (a8, .inl (c, 20, .inl qu))]
abbrev wST (c : ClassId) (a : Nat → Nat) (ki fi ke va ta ro qu : Nat → Int32) (nsz fin rnd : Int32) : va_W := [(a 0, .inr (3, [.ref (a 1), .ref (a 2), .ref (a 3), .ref (a 4), .ref (a 5), .ref (a 6), .ref (a 7), .int fin, .int rnd])), (a 1, .inl (c, 24, .inl ki)), (a 2, .inl (c, 72, .inl fi)), (a 3, .inl (c, 144, .inl ke)), (a 4, .inl (c, 144, .inl va)), (a 5, .inl (c, 24, .inl ta)), (a 6, .inl (c, 6, .inl ro)), (a 7, .inr (2, [.ref (a 8), .int nsz])), (a 8, .inl (c, 20, .inl qu))]
abbrev wMK (c : ClassId) (k : Nat → Nat) (rd : Nat → Int32) (mkd lr un : Int32) : va_W := [(k 0, .inr (1, [.ref (k 1), .int mkd, .int lr, .int un])), (k 1, .inl (c, 24, .inl rd))]
abbrev wMD (G : GG) (b : Nat → Nat) (w : Nat → Int32) (dep : Int32) (kept mark start : Nat → Int32) : va_W := [(b 0, .inr (5, [.ref (b 1), .int dep, .ref (b 2), .ref (b 3), .ref (b 4)])), (b 1, .inl (G.2.1, 3880, .inl w)), (b 2, .inl (G.2.2.1, 2, .inl kept)), (b 3, .inl (G.2.1, 24, .inl mark)), (b 4, .inl (G.2.2.1, 24, .inl start))]
abbrev wX4 (c : ClassId) (x hh sl : Nat) (a k : Nat → Nat) (ki fi ke va ta ro qu : Nat → Int32) (nsz fin rnd : Int32) (rd : Nat → Int32) (mkd lr un : Int32) : va_W := (x, .inr (4, [.ref (a 0), .ref hh, .ref sl, .ref (k 0)])) :: (wST c a ki fi ke va ta ro qu nsz fin rnd ++ wMK c k rd mkd lr un)
end
section
def M_X4_within (p0 : Int32) (p1 : Int32) : Option (Int32) :=
  if p0 < 0 then (some 0) else (if p1 ≤ p0 then (some 0) else (some 1))
abbrev rm_X4_within : Room := { frames := 0, cells := 0, slots := 0, locals := 0 }
set_option maxHeartbeats 4000000 in
set_option maxRecDepth 100000 in
theorem c_X4_within (l : Launch) (G : GG) (p0 : Int32) (p1 : Int32) (q : Int32) (hm : M_X4_within p0 p1 = some q) : CTi l yX4_within wsX4_within rm_X4_within G [.int p0, .int p1] ([] : va_W) q ([] : va_W) := by
  intro sz
  refine mk_body (Qc := fun A => (QI G A q ([] : va_W))) (cc := cX4_within) (maxL := 2) (ret := (some .boolean)) (lv := [(0, .int p0), (1, .int p1)]) (by decide) rfl rfl (Nat.le_of_ble_eq_true rfl) ?_
  intro p e s m args below meth c A H locs ls hF hr hlocks hname hK hA hP hD hS hl
  obtain ⟨hx, hb, hml, hown, hts⟩ := id hF
  unfold M_X4_within at hm
  refine lv_iload_n hx hb dX4_within_0 rfl (lv_at hl 0 rfl) ?_
  refine lv_if_lt (tgt := 13) hx hb dX4_within_1 (by decide) (fun c1 => ?_) (fun c1 => ?_)
  · replace hm := it_t c1 hm
    refine lv_iconst (v := 0) hx hb dX4_within_13 (by decide) ?_
    cases hm
    exact rt_z (r := 0) hx hb hr hlocks rfl hP hD hS dX4_within_14
  · replace hm := it_f c1 hm
    refine lv_iload_n hx hb dX4_within_4 rfl (lv_at hl 0 rfl) ?_
    refine lv_iload_n hx hb dX4_within_5 rfl (lv_at hl 1 rfl) ?_
    refine lv_icmp_ge (tgt := 13) hx hb dX4_within_6 (by decide) (fun c2 => ?_) (fun c2 => ?_)
    · replace hm := it_t c2 hm
      refine lv_iconst (v := 0) hx hb dX4_within_13 (by decide) ?_
      cases hm
      exact rt_z (r := 0) hx hb hr hlocks rfl hP hD hS dX4_within_14
    · replace hm := it_f c2 hm
      refine lv_iconst (v := 1) hx hb dX4_within_9 (by decide) ?_
      refine lv_goto (tgt := 14) hx hb dX4_within_10 (by decide) ?_
      cases hm
      exact rt_z (r := 1) hx hb hr hlocks rfl hP hD hS dX4_within_14
def M_X4_setOf (p0 : Int32) : Option (Int32) :=
  if p0 < 0 then (some 0) else (if 24 ≤ p0 then (some 0) else (some (1 <<< (p0 &&& 31))))
abbrev rm_X4_setOf : Room := { frames := 0, cells := 0, slots := 0, locals := 0 }
set_option maxHeartbeats 4000000 in
set_option maxRecDepth 100000 in
theorem c_X4_setOf (l : Launch) (G : GG) (p0 : Int32) (q : Int32) (hm : M_X4_setOf p0 = some q) : CTi l yX4_setOf wsX4_setOf rm_X4_setOf G [.int p0] ([] : va_W) q ([] : va_W) := by
  intro sz
  refine mk_body (Qc := fun A => (QI G A q ([] : va_W))) (cc := cX4_setOf) (maxL := 1) (ret := (some .int)) (lv := [(0, .int p0)]) (by decide) rfl rfl (Nat.le_of_ble_eq_true rfl) ?_
  intro p e s m args below meth c A H locs ls hF hr hlocks hname hK hA hP hD hS hl
  obtain ⟨hx, hb, hml, hown, hts⟩ := id hF
  unfold M_X4_setOf at hm
  refine lv_iload_n hx hb dX4_setOf_0 rfl (lv_at hl 0 rfl) ?_
  refine lv_if_lt (tgt := 16) hx hb dX4_setOf_1 (by decide) (fun c1 => ?_) (fun c1 => ?_)
  · replace hm := it_t c1 hm
    refine lv_iconst (v := 0) hx hb dX4_setOf_16 (by decide) ?_
    cases hm
    exact rt_i hx hb hr hlocks hP hD hS dX4_setOf_17
  · replace hm := it_f c1 hm
    refine lv_iload_n hx hb dX4_setOf_4 rfl (lv_at hl 0 rfl) ?_
    refine lv_bipush (v := 24) hx hb dX4_setOf_5 (by decide) ?_
    refine lv_icmp_ge (tgt := 16) hx hb dX4_setOf_7 (by decide) (fun c2 => ?_) (fun c2 => ?_)
    · replace hm := it_t c2 hm
      refine lv_iconst (v := 0) hx hb dX4_setOf_16 (by decide) ?_
      cases hm
      exact rt_i hx hb hr hlocks hP hD hS dX4_setOf_17
    · replace hm := it_f c2 hm
      refine lv_iconst (v := 1) hx hb dX4_setOf_10 (by decide) ?_
      refine lv_iload_n hx hb dX4_setOf_11 rfl (lv_at hl 0 rfl) ?_
      refine lv_ishl hx hb dX4_setOf_12 ?_
      refine lv_goto (tgt := 17) hx hb dX4_setOf_13 (by decide) ?_
      cases hm
      exact rt_i hx hb hr hlocks hP hD hS dX4_setOf_17
def M_X4_contains (p0 : Int32) (p1 : Int32) : Option (Int32) :=
  (M_X4_setOf p1).bind fun q1 => if (p0 &&& q1) = 0 then (some 0) else (some 1)
abbrev rm_X4_contains : Room := { frames := 1, cells := 0, slots := 0, locals := 20 }
set_option maxHeartbeats 4000000 in
set_option maxRecDepth 100000 in
theorem c_X4_contains (l : Launch) (G : GG) (p0 : Int32) (p1 : Int32) (q : Int32) (hm : M_X4_contains p0 p1 = some q) : CTi l yX4_contains wsX4_contains rm_X4_contains G [.int p0, .int p1] ([] : va_W) q ([] : va_W) := by
  intro sz
  refine mk_body (Qc := fun A => (QI G A q ([] : va_W))) (cc := cX4_contains) (maxL := 2) (ret := (some .boolean)) (lv := [(0, .int p0), (1, .int p1)]) (by decide) rfl rfl (Nat.le_of_ble_eq_true rfl) ?_
  intro p e s m args below meth c A H locs ls hF hr hlocks hname hK hA hP hD hS hl
  obtain ⟨hx, hb, hml, hown, hts⟩ := id hF
  unfold M_X4_contains at hm
  refine lv_iload_n hx hb dX4_contains_0 rfl (lv_at hl 0 rfl) ?_
  refine lv_iload_n hx hb dX4_contains_1 rfl (lv_at hl 1 rfl) ?_
  obtain ⟨q1, hc2, hm⟩ := bd_s hm
  refine k0_i (ws := ([] : va_W)) (rS (As := [.int p1]) (rest := [.int p0]) (wi := ([] : va_W)) hF hK k0_P (k0_D (A := A)) (c_X4_setOf l G p1 q1 hc2 H.size) (va_cwS 1 hts gX4_contains_X4_setOf rfl rfl rfl (by decide +kernel) ⟨Nat.le_of_ble_eq_true rfl, Nat.le_of_ble_eq_true rfl⟩) rfl hl.1 rfl (Nat.le_of_ble_eq_true rfl) dX4_contains_2 ⟨Nat.le_of_ble_eq_true rfl, Nat.le_of_ble_eq_true rfl⟩) hP hS hA (fun H locs hP hS => ?_)
  refine lv_iand hx hb dX4_contains_5 ?_
  refine lv_if_eq (tgt := 13) hx hb dX4_contains_6 (by decide) (fun c3 => ?_) (fun c3 => ?_)
  · replace hm := it_t c3 hm
    refine lv_iconst (v := 0) hx hb dX4_contains_13 (by decide) ?_
    cases hm
    exact rt_z (r := 0) hx hb hr hlocks rfl hP hD hS dX4_contains_14
  · replace hm := it_f c3 hm
    refine lv_iconst (v := 1) hx hb dX4_contains_9 (by decide) ?_
    refine lv_goto (tgt := 14) hx hb dX4_contains_10 (by decide) ?_
    cases hm
    exact rt_z (r := 1) hx hb hr hlocks rfl hP hD hS dX4_contains_14
def M_J6_bitCount_0f7a4 (p0 : Int32) : Option (Int32) :=
  some ((((((((p0 - (((p0.toUInt32 >>> ((1 : Int32).toUInt32 &&& Int32.toUInt32 31)).toInt32) &&& 1431655765)) &&& 858993459) + ((((p0 - (((p0.toUInt32 >>> ((1 : Int32).toUInt32 &&& Int32.toUInt32 31)).toInt32) &&& 1431655765)).toUInt32 >>> ((2 : Int32).toUInt32 &&& Int32.toUInt32 31)).toInt32) &&& 858993459)) + (((((p0 - (((p0.toUInt32 >>> ((1 : Int32).toUInt32 &&& Int32.toUInt32 31)).toInt32) &&& 1431655765)) &&& 858993459) + ((((p0 - (((p0.toUInt32 >>> ((1 : Int32).toUInt32 &&& Int32.toUInt32 31)).toInt32) &&& 1431655765)).toUInt32 >>> ((2 : Int32).toUInt32 &&& Int32.toUInt32 31)).toInt32) &&& 858993459)).toUInt32 >>> ((4 : Int32).toUInt32 &&& Int32.toUInt32 31)).toInt32)) &&& 252645135) + (((((((p0 - (((p0.toUInt32 >>> ((1 : Int32).toUInt32 &&& Int32.toUInt32 31)).toInt32) &&& 1431655765)) &&& 858993459) + ((((p0 - (((p0.toUInt32 >>> ((1 : Int32).toUInt32 &&& Int32.toUInt32 31)).toInt32) &&& 1431655765)).toUInt32 >>> ((2 : Int32).toUInt32 &&& Int32.toUInt32 31)).toInt32) &&& 858993459)) + (((((p0 - (((p0.toUInt32 >>> ((1 : Int32).toUInt32 &&& Int32.toUInt32 31)).toInt32) &&& 1431655765)) &&& 858993459) + ((((p0 - (((p0.toUInt32 >>> ((1 : Int32).toUInt32 &&& Int32.toUInt32 31)).toInt32) &&& 1431655765)).toUInt32 >>> ((2 : Int32).toUInt32 &&& Int32.toUInt32 31)).toInt32) &&& 858993459)).toUInt32 >>> ((4 : Int32).toUInt32 &&& Int32.toUInt32 31)).toInt32)) &&& 252645135).toUInt32 >>> ((8 : Int32).toUInt32 &&& Int32.toUInt32 31)).toInt32)) + ((((((((p0 - (((p0.toUInt32 >>> ((1 : Int32).toUInt32 &&& Int32.toUInt32 31)).toInt32) &&& 1431655765)) &&& 858993459) + ((((p0 - (((p0.toUInt32 >>> ((1 : Int32).toUInt32 &&& Int32.toUInt32 31)).toInt32) &&& 1431655765)).toUInt32 >>> ((2 : Int32).toUInt32 &&& Int32.toUInt32 31)).toInt32) &&& 858993459)) + (((((p0 - (((p0.toUInt32 >>> ((1 : Int32).toUInt32 &&& Int32.toUInt32 31)).toInt32) &&& 1431655765)) &&& 858993459) + ((((p0 - (((p0.toUInt32 >>> ((1 : Int32).toUInt32 &&& Int32.toUInt32 31)).toInt32) &&& 1431655765)).toUInt32 >>> ((2 : Int32).toUInt32 &&& Int32.toUInt32 31)).toInt32) &&& 858993459)).toUInt32 >>> ((4 : Int32).toUInt32 &&& Int32.toUInt32 31)).toInt32)) &&& 252645135) + (((((((p0 - (((p0.toUInt32 >>> ((1 : Int32).toUInt32 &&& Int32.toUInt32 31)).toInt32) &&& 1431655765)) &&& 858993459) + ((((p0 - (((p0.toUInt32 >>> ((1 : Int32).toUInt32 &&& Int32.toUInt32 31)).toInt32) &&& 1431655765)).toUInt32 >>> ((2 : Int32).toUInt32 &&& Int32.toUInt32 31)).toInt32) &&& 858993459)) + (((((p0 - (((p0.toUInt32 >>> ((1 : Int32).toUInt32 &&& Int32.toUInt32 31)).toInt32) &&& 1431655765)) &&& 858993459) + ((((p0 - (((p0.toUInt32 >>> ((1 : Int32).toUInt32 &&& Int32.toUInt32 31)).toInt32) &&& 1431655765)).toUInt32 >>> ((2 : Int32).toUInt32 &&& Int32.toUInt32 31)).toInt32) &&& 858993459)).toUInt32 >>> ((4 : Int32).toUInt32 &&& Int32.toUInt32 31)).toInt32)) &&& 252645135).toUInt32 >>> ((8 : Int32).toUInt32 &&& Int32.toUInt32 31)).toInt32)).toUInt32 >>> ((16 : Int32).toUInt32 &&& Int32.toUInt32 31)).toInt32)) &&& 63)
theorem w0_J6_bitCount_0f7a4 : Cond.constant RJ6 265 (1431655765) ∈ wsJ6_bitCount_0f7a4 := by decide +kernel
theorem w1_J6_bitCount_0f7a4 : Cond.constant RJ6 266 (858993459) ∈ wsJ6_bitCount_0f7a4 := by decide +kernel
theorem w2_J6_bitCount_0f7a4 : Cond.constant RJ6 267 (252645135) ∈ wsJ6_bitCount_0f7a4 := by decide +kernel
abbrev rm_J6_bitCount_0f7a4 : Room := { frames := 0, cells := 0, slots := 0, locals := 0 }
set_option maxHeartbeats 4000000 in
set_option maxRecDepth 100000 in
theorem c_J6_bitCount_0f7a4 (l : Launch) (G : GG) (p0 : Int32) (q : Int32) (hm : M_J6_bitCount_0f7a4 p0 = some q) : CTi l yJ6_bitCount_0f7a4 wsJ6_bitCount_0f7a4 rm_J6_bitCount_0f7a4 G [.int p0] ([] : va_W) q ([] : va_W) := by
  intro sz
  refine mk_body (Qc := fun A => (QI G A q ([] : va_W))) (cc := cJ6_bitCount_0f7a4) (maxL := 1) (ret := (some .int)) (lv := [(0, .int p0)]) (by decide) rfl rfl (Nat.le_of_ble_eq_true rfl) ?_
  intro p e s m args below meth c A H locs ls hF hr hlocks hname hK hA hP hD hS hl
  obtain ⟨hx, hb, hml, hown, hts⟩ := id hF
  unfold M_J6_bitCount_0f7a4 at hm
  refine lv_iload_n hx hb dJ6_bitCount_0f7a4_0 rfl (lv_at hl 0 rfl) ?_
  refine lv_iload_n hx hb dJ6_bitCount_0f7a4_1 rfl (lv_at hl 0 rfl) ?_
  refine lv_iconst (v := 1) hx hb dJ6_bitCount_0f7a4_2 (by decide) ?_
  refine lv_iushr (v := (p0.toUInt32 >>> ((1 : Int32).toUInt32 &&& Int32.toUInt32 31)).toInt32) hx hb dJ6_bitCount_0f7a4_3 rfl ?_
  refine lv_ldcw (v := 1431655765) hx hb hown (hts _ w0_J6_bitCount_0f7a4) dJ6_bitCount_0f7a4_4 ?_
  refine lv_iand hx hb dJ6_bitCount_0f7a4_7 ?_
  refine lv_isub hx hb dJ6_bitCount_0f7a4_8 ?_
  refine lv_istore_n (lv' := [(0, .int (p0 - (((p0.toUInt32 >>> ((1 : Int32).toUInt32 &&& Int32.toUInt32 31)).toInt32) &&& 1431655765)))]) hx hb dJ6_bitCount_0f7a4_9 rfl hl (by decide) rfl (fun ls hl => ?_)
  refine lv_iload_n hx hb dJ6_bitCount_0f7a4_10 rfl (lv_at hl 0 rfl) ?_
  refine lv_ldcw (v := 858993459) hx hb hown (hts _ w1_J6_bitCount_0f7a4) dJ6_bitCount_0f7a4_11 ?_
  refine lv_iand hx hb dJ6_bitCount_0f7a4_14 ?_
  refine lv_iload_n hx hb dJ6_bitCount_0f7a4_15 rfl (lv_at hl 0 rfl) ?_
  refine lv_iconst (v := 2) hx hb dJ6_bitCount_0f7a4_16 (by decide) ?_
  refine lv_iushr (v := ((p0 - (((p0.toUInt32 >>> ((1 : Int32).toUInt32 &&& Int32.toUInt32 31)).toInt32) &&& 1431655765)).toUInt32 >>> ((2 : Int32).toUInt32 &&& Int32.toUInt32 31)).toInt32) hx hb dJ6_bitCount_0f7a4_17 rfl ?_
  refine lv_ldcw (v := 858993459) hx hb hown (hts _ w1_J6_bitCount_0f7a4) dJ6_bitCount_0f7a4_18 ?_
  refine lv_iand hx hb dJ6_bitCount_0f7a4_21 ?_
  refine lv_iadd hx hb dJ6_bitCount_0f7a4_22 ?_
  refine lv_istore_n (lv' := [(0, .int (((p0 - (((p0.toUInt32 >>> ((1 : Int32).toUInt32 &&& Int32.toUInt32 31)).toInt32) &&& 1431655765)) &&& 858993459) + ((((p0 - (((p0.toUInt32 >>> ((1 : Int32).toUInt32 &&& Int32.toUInt32 31)).toInt32) &&& 1431655765)).toUInt32 >>> ((2 : Int32).toUInt32 &&& Int32.toUInt32 31)).toInt32) &&& 858993459)))]) hx hb dJ6_bitCount_0f7a4_23 rfl hl (by decide) rfl (fun ls hl => ?_)
  refine lv_iload_n hx hb dJ6_bitCount_0f7a4_24 rfl (lv_at hl 0 rfl) ?_
  refine lv_iload_n hx hb dJ6_bitCount_0f7a4_25 rfl (lv_at hl 0 rfl) ?_
  refine lv_iconst (v := 4) hx hb dJ6_bitCount_0f7a4_26 (by decide) ?_
  refine lv_iushr (v := ((((p0 - (((p0.toUInt32 >>> ((1 : Int32).toUInt32 &&& Int32.toUInt32 31)).toInt32) &&& 1431655765)) &&& 858993459) + ((((p0 - (((p0.toUInt32 >>> ((1 : Int32).toUInt32 &&& Int32.toUInt32 31)).toInt32) &&& 1431655765)).toUInt32 >>> ((2 : Int32).toUInt32 &&& Int32.toUInt32 31)).toInt32) &&& 858993459)).toUInt32 >>> ((4 : Int32).toUInt32 &&& Int32.toUInt32 31)).toInt32) hx hb dJ6_bitCount_0f7a4_27 rfl ?_
  refine lv_iadd hx hb dJ6_bitCount_0f7a4_28 ?_
  refine lv_ldcw (v := 252645135) hx hb hown (hts _ w2_J6_bitCount_0f7a4) dJ6_bitCount_0f7a4_29 ?_
  refine lv_iand hx hb dJ6_bitCount_0f7a4_32 ?_
  refine lv_istore_n (lv' := [(0, .int (((((p0 - (((p0.toUInt32 >>> ((1 : Int32).toUInt32 &&& Int32.toUInt32 31)).toInt32) &&& 1431655765)) &&& 858993459) + ((((p0 - (((p0.toUInt32 >>> ((1 : Int32).toUInt32 &&& Int32.toUInt32 31)).toInt32) &&& 1431655765)).toUInt32 >>> ((2 : Int32).toUInt32 &&& Int32.toUInt32 31)).toInt32) &&& 858993459)) + (((((p0 - (((p0.toUInt32 >>> ((1 : Int32).toUInt32 &&& Int32.toUInt32 31)).toInt32) &&& 1431655765)) &&& 858993459) + ((((p0 - (((p0.toUInt32 >>> ((1 : Int32).toUInt32 &&& Int32.toUInt32 31)).toInt32) &&& 1431655765)).toUInt32 >>> ((2 : Int32).toUInt32 &&& Int32.toUInt32 31)).toInt32) &&& 858993459)).toUInt32 >>> ((4 : Int32).toUInt32 &&& Int32.toUInt32 31)).toInt32)) &&& 252645135))]) hx hb dJ6_bitCount_0f7a4_33 rfl hl (by decide) rfl (fun ls hl => ?_)
  refine lv_iload_n hx hb dJ6_bitCount_0f7a4_34 rfl (lv_at hl 0 rfl) ?_
  refine lv_iload_n hx hb dJ6_bitCount_0f7a4_35 rfl (lv_at hl 0 rfl) ?_
  refine lv_bipush (v := 8) hx hb dJ6_bitCount_0f7a4_36 (by decide) ?_
  refine lv_iushr (v := ((((((p0 - (((p0.toUInt32 >>> ((1 : Int32).toUInt32 &&& Int32.toUInt32 31)).toInt32) &&& 1431655765)) &&& 858993459) + ((((p0 - (((p0.toUInt32 >>> ((1 : Int32).toUInt32 &&& Int32.toUInt32 31)).toInt32) &&& 1431655765)).toUInt32 >>> ((2 : Int32).toUInt32 &&& Int32.toUInt32 31)).toInt32) &&& 858993459)) + (((((p0 - (((p0.toUInt32 >>> ((1 : Int32).toUInt32 &&& Int32.toUInt32 31)).toInt32) &&& 1431655765)) &&& 858993459) + ((((p0 - (((p0.toUInt32 >>> ((1 : Int32).toUInt32 &&& Int32.toUInt32 31)).toInt32) &&& 1431655765)).toUInt32 >>> ((2 : Int32).toUInt32 &&& Int32.toUInt32 31)).toInt32) &&& 858993459)).toUInt32 >>> ((4 : Int32).toUInt32 &&& Int32.toUInt32 31)).toInt32)) &&& 252645135).toUInt32 >>> ((8 : Int32).toUInt32 &&& Int32.toUInt32 31)).toInt32) hx hb dJ6_bitCount_0f7a4_38 rfl ?_
  refine lv_iadd hx hb dJ6_bitCount_0f7a4_39 ?_
  refine lv_istore_n (lv' := [(0, .int ((((((p0 - (((p0.toUInt32 >>> ((1 : Int32).toUInt32 &&& Int32.toUInt32 31)).toInt32) &&& 1431655765)) &&& 858993459) + ((((p0 - (((p0.toUInt32 >>> ((1 : Int32).toUInt32 &&& Int32.toUInt32 31)).toInt32) &&& 1431655765)).toUInt32 >>> ((2 : Int32).toUInt32 &&& Int32.toUInt32 31)).toInt32) &&& 858993459)) + (((((p0 - (((p0.toUInt32 >>> ((1 : Int32).toUInt32 &&& Int32.toUInt32 31)).toInt32) &&& 1431655765)) &&& 858993459) + ((((p0 - (((p0.toUInt32 >>> ((1 : Int32).toUInt32 &&& Int32.toUInt32 31)).toInt32) &&& 1431655765)).toUInt32 >>> ((2 : Int32).toUInt32 &&& Int32.toUInt32 31)).toInt32) &&& 858993459)).toUInt32 >>> ((4 : Int32).toUInt32 &&& Int32.toUInt32 31)).toInt32)) &&& 252645135) + (((((((p0 - (((p0.toUInt32 >>> ((1 : Int32).toUInt32 &&& Int32.toUInt32 31)).toInt32) &&& 1431655765)) &&& 858993459) + ((((p0 - (((p0.toUInt32 >>> ((1 : Int32).toUInt32 &&& Int32.toUInt32 31)).toInt32) &&& 1431655765)).toUInt32 >>> ((2 : Int32).toUInt32 &&& Int32.toUInt32 31)).toInt32) &&& 858993459)) + (((((p0 - (((p0.toUInt32 >>> ((1 : Int32).toUInt32 &&& Int32.toUInt32 31)).toInt32) &&& 1431655765)) &&& 858993459) + ((((p0 - (((p0.toUInt32 >>> ((1 : Int32).toUInt32 &&& Int32.toUInt32 31)).toInt32) &&& 1431655765)).toUInt32 >>> ((2 : Int32).toUInt32 &&& Int32.toUInt32 31)).toInt32) &&& 858993459)).toUInt32 >>> ((4 : Int32).toUInt32 &&& Int32.toUInt32 31)).toInt32)) &&& 252645135).toUInt32 >>> ((8 : Int32).toUInt32 &&& Int32.toUInt32 31)).toInt32)))]) hx hb dJ6_bitCount_0f7a4_40 rfl hl (by decide) rfl (fun ls hl => ?_)
  refine lv_iload_n hx hb dJ6_bitCount_0f7a4_41 rfl (lv_at hl 0 rfl) ?_
  refine lv_iload_n hx hb dJ6_bitCount_0f7a4_42 rfl (lv_at hl 0 rfl) ?_
  refine lv_bipush (v := 16) hx hb dJ6_bitCount_0f7a4_43 (by decide) ?_
  refine lv_iushr (v := (((((((p0 - (((p0.toUInt32 >>> ((1 : Int32).toUInt32 &&& Int32.toUInt32 31)).toInt32) &&& 1431655765)) &&& 858993459) + ((((p0 - (((p0.toUInt32 >>> ((1 : Int32).toUInt32 &&& Int32.toUInt32 31)).toInt32) &&& 1431655765)).toUInt32 >>> ((2 : Int32).toUInt32 &&& Int32.toUInt32 31)).toInt32) &&& 858993459)) + (((((p0 - (((p0.toUInt32 >>> ((1 : Int32).toUInt32 &&& Int32.toUInt32 31)).toInt32) &&& 1431655765)) &&& 858993459) + ((((p0 - (((p0.toUInt32 >>> ((1 : Int32).toUInt32 &&& Int32.toUInt32 31)).toInt32) &&& 1431655765)).toUInt32 >>> ((2 : Int32).toUInt32 &&& Int32.toUInt32 31)).toInt32) &&& 858993459)).toUInt32 >>> ((4 : Int32).toUInt32 &&& Int32.toUInt32 31)).toInt32)) &&& 252645135) + (((((((p0 - (((p0.toUInt32 >>> ((1 : Int32).toUInt32 &&& Int32.toUInt32 31)).toInt32) &&& 1431655765)) &&& 858993459) + ((((p0 - (((p0.toUInt32 >>> ((1 : Int32).toUInt32 &&& Int32.toUInt32 31)).toInt32) &&& 1431655765)).toUInt32 >>> ((2 : Int32).toUInt32 &&& Int32.toUInt32 31)).toInt32) &&& 858993459)) + (((((p0 - (((p0.toUInt32 >>> ((1 : Int32).toUInt32 &&& Int32.toUInt32 31)).toInt32) &&& 1431655765)) &&& 858993459) + ((((p0 - (((p0.toUInt32 >>> ((1 : Int32).toUInt32 &&& Int32.toUInt32 31)).toInt32) &&& 1431655765)).toUInt32 >>> ((2 : Int32).toUInt32 &&& Int32.toUInt32 31)).toInt32) &&& 858993459)).toUInt32 >>> ((4 : Int32).toUInt32 &&& Int32.toUInt32 31)).toInt32)) &&& 252645135).toUInt32 >>> ((8 : Int32).toUInt32 &&& Int32.toUInt32 31)).toInt32)).toUInt32 >>> ((16 : Int32).toUInt32 &&& Int32.toUInt32 31)).toInt32) hx hb dJ6_bitCount_0f7a4_45 rfl ?_
  refine lv_iadd hx hb dJ6_bitCount_0f7a4_46 ?_
  refine lv_istore_n (lv' := [(0, .int (((((((p0 - (((p0.toUInt32 >>> ((1 : Int32).toUInt32 &&& Int32.toUInt32 31)).toInt32) &&& 1431655765)) &&& 858993459) + ((((p0 - (((p0.toUInt32 >>> ((1 : Int32).toUInt32 &&& Int32.toUInt32 31)).toInt32) &&& 1431655765)).toUInt32 >>> ((2 : Int32).toUInt32 &&& Int32.toUInt32 31)).toInt32) &&& 858993459)) + (((((p0 - (((p0.toUInt32 >>> ((1 : Int32).toUInt32 &&& Int32.toUInt32 31)).toInt32) &&& 1431655765)) &&& 858993459) + ((((p0 - (((p0.toUInt32 >>> ((1 : Int32).toUInt32 &&& Int32.toUInt32 31)).toInt32) &&& 1431655765)).toUInt32 >>> ((2 : Int32).toUInt32 &&& Int32.toUInt32 31)).toInt32) &&& 858993459)).toUInt32 >>> ((4 : Int32).toUInt32 &&& Int32.toUInt32 31)).toInt32)) &&& 252645135) + (((((((p0 - (((p0.toUInt32 >>> ((1 : Int32).toUInt32 &&& Int32.toUInt32 31)).toInt32) &&& 1431655765)) &&& 858993459) + ((((p0 - (((p0.toUInt32 >>> ((1 : Int32).toUInt32 &&& Int32.toUInt32 31)).toInt32) &&& 1431655765)).toUInt32 >>> ((2 : Int32).toUInt32 &&& Int32.toUInt32 31)).toInt32) &&& 858993459)) + (((((p0 - (((p0.toUInt32 >>> ((1 : Int32).toUInt32 &&& Int32.toUInt32 31)).toInt32) &&& 1431655765)) &&& 858993459) + ((((p0 - (((p0.toUInt32 >>> ((1 : Int32).toUInt32 &&& Int32.toUInt32 31)).toInt32) &&& 1431655765)).toUInt32 >>> ((2 : Int32).toUInt32 &&& Int32.toUInt32 31)).toInt32) &&& 858993459)).toUInt32 >>> ((4 : Int32).toUInt32 &&& Int32.toUInt32 31)).toInt32)) &&& 252645135).toUInt32 >>> ((8 : Int32).toUInt32 &&& Int32.toUInt32 31)).toInt32)) + ((((((((p0 - (((p0.toUInt32 >>> ((1 : Int32).toUInt32 &&& Int32.toUInt32 31)).toInt32) &&& 1431655765)) &&& 858993459) + ((((p0 - (((p0.toUInt32 >>> ((1 : Int32).toUInt32 &&& Int32.toUInt32 31)).toInt32) &&& 1431655765)).toUInt32 >>> ((2 : Int32).toUInt32 &&& Int32.toUInt32 31)).toInt32) &&& 858993459)) + (((((p0 - (((p0.toUInt32 >>> ((1 : Int32).toUInt32 &&& Int32.toUInt32 31)).toInt32) &&& 1431655765)) &&& 858993459) + ((((p0 - (((p0.toUInt32 >>> ((1 : Int32).toUInt32 &&& Int32.toUInt32 31)).toInt32) &&& 1431655765)).toUInt32 >>> ((2 : Int32).toUInt32 &&& Int32.toUInt32 31)).toInt32) &&& 858993459)).toUInt32 >>> ((4 : Int32).toUInt32 &&& Int32.toUInt32 31)).toInt32)) &&& 252645135) + (((((((p0 - (((p0.toUInt32 >>> ((1 : Int32).toUInt32 &&& Int32.toUInt32 31)).toInt32) &&& 1431655765)) &&& 858993459) + ((((p0 - (((p0.toUInt32 >>> ((1 : Int32).toUInt32 &&& Int32.toUInt32 31)).toInt32) &&& 1431655765)).toUInt32 >>> ((2 : Int32).toUInt32 &&& Int32.toUInt32 31)).toInt32) &&& 858993459)) + (((((p0 - (((p0.toUInt32 >>> ((1 : Int32).toUInt32 &&& Int32.toUInt32 31)).toInt32) &&& 1431655765)) &&& 858993459) + ((((p0 - (((p0.toUInt32 >>> ((1 : Int32).toUInt32 &&& Int32.toUInt32 31)).toInt32) &&& 1431655765)).toUInt32 >>> ((2 : Int32).toUInt32 &&& Int32.toUInt32 31)).toInt32) &&& 858993459)).toUInt32 >>> ((4 : Int32).toUInt32 &&& Int32.toUInt32 31)).toInt32)) &&& 252645135).toUInt32 >>> ((8 : Int32).toUInt32 &&& Int32.toUInt32 31)).toInt32)).toUInt32 >>> ((16 : Int32).toUInt32 &&& Int32.toUInt32 31)).toInt32)))]) hx hb dJ6_bitCount_0f7a4_47 rfl hl (by decide) rfl (fun ls hl => ?_)
  refine lv_iload_n hx hb dJ6_bitCount_0f7a4_48 rfl (lv_at hl 0 rfl) ?_
  refine lv_bipush (v := 63) hx hb dJ6_bitCount_0f7a4_49 (by decide) ?_
  refine lv_iand hx hb dJ6_bitCount_0f7a4_51 ?_
  cases hm
  exact rt_i hx hb hr hlocks hP hD hS dJ6_bitCount_0f7a4_52
def M_J7_rangeCheck_23922 (p0 : Int32) (p1 : Int32) (p2 : Int32) : Option (Unit) :=
  if p1 ≤ p2 then (if 0 ≤ p1 then (if p2 ≤ p0 then (some ()) else (none)) else (none)) else (none)
abbrev rm_J7_rangeCheck_23922 : Room := { frames := 0, cells := 0, slots := 0, locals := 0 }
set_option maxHeartbeats 4000000 in
set_option maxRecDepth 100000 in
theorem c_J7_rangeCheck_23922 (l : Launch) (G : GG) (p0 : Int32) (p1 : Int32) (p2 : Int32) (q : Unit) (hm : M_J7_rangeCheck_23922 p0 p1 p2 = some q) : CTv l yJ7_rangeCheck_23922 wsJ7_rangeCheck_23922 rm_J7_rangeCheck_23922 G [.int p0, .int p1, .int p2] ([] : va_W) ([] : va_W) := by
  intro sz
  refine mk_body (Qc := fun A => (QV G A ([] : va_W))) (cc := cJ7_rangeCheck_23922) (maxL := 3) (ret := none) (lv := [(0, .int p0), (1, .int p1), (2, .int p2)]) (by decide) rfl rfl (Nat.le_of_ble_eq_true rfl) ?_
  intro p e s m args below meth c A H locs ls hF hr hlocks hname hK hA hP hD hS hl
  obtain ⟨hx, hb, hml, hown, hts⟩ := id hF
  unfold M_J7_rangeCheck_23922 at hm
  refine lv_iload_n hx hb dJ7_rangeCheck_23922_0 rfl (lv_at hl 1 rfl) ?_
  refine lv_iload_n hx hb dJ7_rangeCheck_23922_1 rfl (lv_at hl 2 rfl) ?_
  refine lv_icmp_le (tgt := 46) hx hb dJ7_rangeCheck_23922_2 (by decide) (fun c1 => ?_) (fun c1 => ?_)
  · replace hm := it_t c1 hm
    refine lv_iload_n hx hb dJ7_rangeCheck_23922_46 rfl (lv_at hl 1 rfl) ?_
    refine lv_if_ge (tgt := 59) hx hb dJ7_rangeCheck_23922_47 (by decide) (fun c2 => ?_) (fun c2 => ?_)
    · replace hm := it_t c2 hm
      refine lv_iload_n hx hb dJ7_rangeCheck_23922_59 rfl (lv_at hl 2 rfl) ?_
      refine lv_iload_n hx hb dJ7_rangeCheck_23922_60 rfl (lv_at hl 0 rfl) ?_
      refine lv_icmp_le (tgt := 73) hx hb dJ7_rangeCheck_23922_61 (by decide) (fun c3 => ?_) (fun c3 => ?_)
      · replace hm := it_t c3 hm
        cases hm
        exact rt_v hx hb hr hlocks hP hD hS dJ7_rangeCheck_23922_73
      · replace hm := it_f c3 hm
        cases hm
    · replace hm := it_f c2 hm
      cases hm
  · replace hm := it_f c1 hm
    cases hm
def M_J7_fill_53178_L5 (n1 : Nat) (p1 : Int32) : Nat → (Int32) → (Nat → Int32) → Option ((Nat → Int32))
  | 0, _, _ => none
  | n3 + 1, v1, f1_2 => if (Int32.ofNat n1) ≤ v1 then (some f1_2) else (gd v1 n1 (M_J7_fill_53178_L5 n1 p1 n3 (v1 + 1) (upd f1_2 v1.toNatClampNeg p1)))
def M_J7_fill_53178 (N : Nat) (n1 : Nat) (f1 : Nat → Int32) (p1 : Int32) : Option ((Nat → Int32)) :=
  M_J7_fill_53178_L5 n1 p1 N 0 f1
abbrev rm_J7_fill_53178 : Room := { frames := 0, cells := 0, slots := 0, locals := 0 }
set_option maxHeartbeats 4000000 in
set_option maxRecDepth 100000 in
theorem c_J7_fill_53178 (l : Launch) (G : GG) (N : Nat) (x1 : Nat) (n1 : Nat) (f1 : Nat → Int32) (p1 : Int32) (q : (Nat → Int32)) (hm : M_J7_fill_53178 N n1 f1 p1 = some q) : CTv l yJ7_fill_53178 wsJ7_fill_53178 rm_J7_fill_53178 G [.ref x1, .int p1] [(x1, .inl (G.2.1, n1, .inl f1))] [(x1, .inl (G.2.1, n1, .inl q))] := by
  intro sz
  refine mk_body (Qc := fun A => (QV G A [(x1, .inl (G.2.1, n1, .inl q))])) (cc := cJ7_fill_53178) (maxL := 4) (ret := none) (lv := [(0, .ref x1), (1, .int p1)]) (by decide) rfl rfl (Nat.le_of_ble_eq_true rfl) ?_
  intro p e s m args below meth c A H locs ls hF hr hlocks hname hK hA hP hD hS hl
  obtain ⟨hx, hb, hml, hown, hts⟩ := id hF
  unfold M_J7_fill_53178 at hm
  refine lv_iconst (v := 0) hx hb dJ7_fill_53178_0 (by decide) ?_
  refine lv_istore_n (lv' := [(2, .int 0), (0, .ref x1), (1, .int p1)]) hx hb dJ7_fill_53178_1 rfl hl (by decide) rfl (fun ls hl => ?_)
  refine lv_aload_n hx hb dJ7_fill_53178_2 rfl (lv_at hl 1 rfl) ?_
  refine va_alen hx hb hK.1 hP 0 0 rfl rfl (v := (Int32.ofNat n1)) rfl dJ7_fill_53178_3 ?_
  refine lv_istore_n (lv' := [(3, .int (Int32.ofNat n1)), (2, .int 0), (0, .ref x1), (1, .int p1)]) hx hb dJ7_fill_53178_4 rfl hl (by decide) rfl (fun ls hl => ?_)
  have L5 : ∀ (n3 : Nat) (v1 : Int32) (f1_2 : Nat → Int32), M_J7_fill_53178_L5 n1 p1 n3 v1 f1_2 = some q → ∀ (H : Heap) (locs : List Loc) (ls : Array Slot), va_P G.1 vwCl [(x1, .inl (G.2.1, n1, .inl f1_2))] H → va_D A [(x1, .inl (G.2.1, n1, .inl f1_2))] → va_S A s.heap H locs → lv_has ls 4 [(0, .ref x1), (1, .int p1), (2, .int v1), (3, .int (Int32.ofNat n1))] → W p l e rm_J7_fill_53178 s m args below meth c H locs 0 0 (MQ below (QV G A [(x1, .inl (G.2.1, n1, .inl q))]) args s rm_J7_fill_53178.cells rm_J7_fill_53178.slots A) (F0 m 5 ls []) := by
    intro n3
    induction n3 with
    | zero => intro v1 f1_2 hm; cases hm
    | succ n3 ih4 =>
      intro v1 f1_2 hm H locs ls hP hD hS hl
      rw [M_J7_fill_53178_L5] at hm
      refine lv_iload_n hx hb dJ7_fill_53178_5 rfl (lv_at hl 2 rfl) ?_
      refine lv_iload_n hx hb dJ7_fill_53178_6 rfl (lv_at hl 3 rfl) ?_
      refine lv_icmp_ge (tgt := 20) hx hb dJ7_fill_53178_7 (by decide) (fun c6 => ?_) (fun c6 => ?_)
      · replace hm := it_t c6 hm
        cases hm
        exact rt_v hx hb hr hlocks hP hD hS dJ7_fill_53178_20
      · replace hm := it_f c6 hm
        refine lv_aload_n hx hb dJ7_fill_53178_10 rfl (lv_at hl 0 rfl) ?_
        refine lv_iload_n hx hb dJ7_fill_53178_11 rfl (lv_at hl 2 rfl) ?_
        refine lv_iload_n hx hb dJ7_fill_53178_12 rfl (lv_at hl 1 rfl) ?_
        obtain ⟨hi7, hm⟩ := gd_s hm
        refine va_iast hx hb hK.1 hP hD hS 0 0 rfl rfl hi7 dJ7_fill_53178_13 (fun H locs hP hD hS => ?_)
        have hP : va_P G.1 vwCl [(x1, .inl (G.2.1, n1, .inl (upd f1_2 v1.toNatClampNeg p1)))] H := hP
        have hD : va_D A [(x1, .inl (G.2.1, n1, .inl (upd f1_2 v1.toNatClampNeg p1)))] := hD
        refine lv_iinc (v := (v1 + 1)) (lv' := [(2, .int (v1 + 1)), (0, .ref x1), (1, .int p1), (3, .int (Int32.ofNat n1))]) hx hb dJ7_fill_53178_14 hl (k := 2) rfl rfl (by decide) rfl (fun ls hl => ?_)
        refine lv_goto (tgt := 5) hx hb dJ7_fill_53178_17 (by decide) ?_
        exact ih4 (v1 + 1) (upd f1_2 v1.toNatClampNeg p1) hm _ _ _ hP hD hS (lv_sub hl [1, 2, 0, 3] rfl)
  exact L5 N 0 f1 hm _ _ _ hP hD hS (lv_sub hl [2, 3, 1, 0] rfl)
def M_J7_fill_fda19_L10 (n1 : Nat) (p2 : Int32) (p3 : Int32) : Nat → (Int32) → (Nat → Int32) → Option ((Nat → Int32))
  | 0, _, _ => none
  | n5 + 1, v3, f1_4 => if p2 ≤ v3 then (some f1_4) else (gd v3 n1 (M_J7_fill_fda19_L10 n1 p2 p3 n5 (v3 + 1) (upd f1_4 v3.toNatClampNeg p3)))
def M_J7_fill_fda19 (N : Nat) (n1 : Nat) (f1 : Nat → Int32) (p1 : Int32) (p2 : Int32) (p3 : Int32) : Option ((Nat → Int32)) :=
  (M_J7_rangeCheck_23922 (Int32.ofNat n1) p1 p2).bind fun q1 => M_J7_fill_fda19_L10 n1 p2 p3 N p1 f1
abbrev rm_J7_fill_fda19 : Room := { frames := 1, cells := 0, slots := 0, locals := 22 }
set_option maxHeartbeats 4000000 in
set_option maxRecDepth 100000 in
theorem c_J7_fill_fda19 (l : Launch) (G : GG) (N : Nat) (x1 : Nat) (n1 : Nat) (f1 : Nat → Int32) (p1 : Int32) (p2 : Int32) (p3 : Int32) (q : (Nat → Int32)) (hm : M_J7_fill_fda19 N n1 f1 p1 p2 p3 = some q) : CTv l yJ7_fill_fda19 wsJ7_fill_fda19 rm_J7_fill_fda19 G [.ref x1, .int p1, .int p2, .int p3] [(x1, .inl (G.2.1, n1, .inl f1))] [(x1, .inl (G.2.1, n1, .inl q))] := by
  intro sz
  refine mk_body (Qc := fun A => (QV G A [(x1, .inl (G.2.1, n1, .inl q))])) (cc := cJ7_fill_fda19) (maxL := 5) (ret := none) (lv := [(0, .ref x1), (1, .int p1), (2, .int p2), (3, .int p3)]) (by decide) rfl rfl (Nat.le_of_ble_eq_true rfl) ?_
  intro p e s m args below meth c A H locs ls hF hr hlocks hname hK hA hP hD hS hl
  obtain ⟨hx, hb, hml, hown, hts⟩ := id hF
  unfold M_J7_fill_fda19 at hm
  refine lv_aload_n hx hb dJ7_fill_fda19_0 rfl (lv_at hl 0 rfl) ?_
  refine va_alen hx hb hK.1 hP 0 0 rfl rfl (v := (Int32.ofNat n1)) rfl dJ7_fill_fda19_1 ?_
  refine lv_iload_n hx hb dJ7_fill_fda19_2 rfl (lv_at hl 1 rfl) ?_
  refine lv_iload_n hx hb dJ7_fill_fda19_3 rfl (lv_at hl 2 rfl) ?_
  obtain ⟨q1, hc2, hm⟩ := bd_s hm
  refine k0_v (ws := [(x1, .inl (G.2.1, n1, .inl f1))]) (rS (As := [.int (Int32.ofNat n1), .int p1, .int p2]) (rest := []) (wi := ([] : va_W)) hF hK k0_P (k0_D (A := A)) (c_J7_rangeCheck_23922 l G (Int32.ofNat n1) p1 p2 q1 hc2 H.size) (va_cwS 3 hts gJ7_fill_fda19_J7_rangeCheck_23922 rfl rfl rfl (by decide +kernel) ⟨Nat.le_of_ble_eq_true rfl, Nat.le_of_ble_eq_true rfl⟩) rfl hl.1 rfl (Nat.le_of_ble_eq_true rfl) dJ7_fill_fda19_4 ⟨Nat.le_of_ble_eq_true rfl, Nat.le_of_ble_eq_true rfl⟩) hP hS hA (fun H locs hP hS => ?_)
  refine lv_iload_n hx hb dJ7_fill_fda19_7 rfl (lv_at hl 1 rfl) ?_
  refine lv_istore (lv' := [(4, .int p1), (0, .ref x1), (1, .int p1), (2, .int p2), (3, .int p3)]) hx hb dJ7_fill_fda19_8 hl (by decide) rfl (fun ls hl => ?_)
  have L7 : ∀ (n5 : Nat) (v3 : Int32) (f1_4 : Nat → Int32), M_J7_fill_fda19_L10 n1 p2 p3 n5 v3 f1_4 = some q → ∀ (H : Heap) (locs : List Loc) (ls : Array Slot), va_P G.1 vwCl [(x1, .inl (G.2.1, n1, .inl f1_4))] H → va_D A [(x1, .inl (G.2.1, n1, .inl f1_4))] → va_S A s.heap H locs → lv_has ls 5 [(0, .ref x1), (1, .int p1), (2, .int p2), (3, .int p3), (4, .int v3)] → W p l e rm_J7_fill_fda19 s m args below meth c H locs 0 0 (MQ below (QV G A [(x1, .inl (G.2.1, n1, .inl q))]) args s rm_J7_fill_fda19.cells rm_J7_fill_fda19.slots A) (F0 m 10 ls []) := by
    intro n5
    induction n5 with
    | zero => intro v3 f1_4 hm; cases hm
    | succ n5 ih6 =>
      intro v3 f1_4 hm H locs ls hP hD hS hl
      rw [M_J7_fill_fda19_L10] at hm
      refine lv_iload hx hb dJ7_fill_fda19_10 (lv_at hl 4 rfl) ?_
      refine lv_iload_n hx hb dJ7_fill_fda19_12 rfl (lv_at hl 2 rfl) ?_
      refine lv_icmp_ge (tgt := 27) hx hb dJ7_fill_fda19_13 (by decide) (fun c8 => ?_) (fun c8 => ?_)
      · replace hm := it_t c8 hm
        cases hm
        exact rt_v hx hb hr hlocks hP hD hS dJ7_fill_fda19_27
      · replace hm := it_f c8 hm
        refine lv_aload_n hx hb dJ7_fill_fda19_16 rfl (lv_at hl 0 rfl) ?_
        refine lv_iload hx hb dJ7_fill_fda19_17 (lv_at hl 4 rfl) ?_
        refine lv_iload_n hx hb dJ7_fill_fda19_19 rfl (lv_at hl 3 rfl) ?_
        obtain ⟨hi9, hm⟩ := gd_s hm
        refine va_iast hx hb hK.1 hP hD hS 0 0 rfl rfl hi9 dJ7_fill_fda19_20 (fun H locs hP hD hS => ?_)
        have hP : va_P G.1 vwCl [(x1, .inl (G.2.1, n1, .inl (upd f1_4 v3.toNatClampNeg p3)))] H := hP
        have hD : va_D A [(x1, .inl (G.2.1, n1, .inl (upd f1_4 v3.toNatClampNeg p3)))] := hD
        refine lv_iinc (v := (v3 + 1)) (lv' := [(4, .int (v3 + 1)), (0, .ref x1), (1, .int p1), (2, .int p2), (3, .int p3)]) hx hb dJ7_fill_fda19_21 hl (k := 4) rfl rfl (by decide) rfl (fun ls hl => ?_)
        refine lv_goto (tgt := 10) hx hb dJ7_fill_fda19_24 (by decide) ?_
        exact ih6 (v3 + 1) (upd f1_4 v3.toNatClampNeg p3) hm _ _ _ hP hD hS (lv_sub hl [1, 2, 3, 4, 0] rfl)
  exact L7 N p1 f1 hm _ _ _ hP hD hS (lv_sub hl [1, 2, 3, 4, 0] rfl)
def M_X4_copyRow (n1 : Nat) (n2 : Nat) (f1 : Nat → Int32) (f2 : Nat → Int32) : Option ((Nat → Int32)) :=
  gc (¬ (0 : Int32) < 0 ∧ ¬ (0 : Int32) < 0 ∧ ¬ (if (Int32.ofNat n2) < (Int32.ofNat n1) then (Int32.ofNat n2) else (Int32.ofNat n1)) < 0 ∧ (0 : Int32).toNatClampNeg + (if (Int32.ofNat n2) < (Int32.ofNat n1) then (Int32.ofNat n2) else (Int32.ofNat n1)).toNatClampNeg ≤ n1 ∧ (0 : Int32).toNatClampNeg + (if (Int32.ofNat n2) < (Int32.ofNat n1) then (Int32.ofNat n2) else (Int32.ofNat n1)).toNatClampNeg ≤ n2) (some (va_cpy f1 f2 (0 : Int32).toNatClampNeg (0 : Int32).toNatClampNeg (if (Int32.ofNat n2) < (Int32.ofNat n1) then (Int32.ofNat n2) else (Int32.ofNat n1)).toNatClampNeg))
theorem w0_X4_copyRow : Cond.methodLink RX4 194 Lib.Math.min.name ∈ wsX4_copyRow := by decide +kernel
theorem w1_X4_copyRow : Cond.static Lib.Math.min.name ∈ wsX4_copyRow := by decide +kernel
theorem w2_X4_copyRow : Cond.initialized "java/lang/Math" ∈ wsX4_copyRow := by decide +kernel
theorem w3_X4_copyRow : Cond.code Lib.Math.min.name Lib.Math.min.code 2 (some .int) ∈ wsX4_copyRow := by decide +kernel
theorem w4_X4_copyRow : Cond.methodLink RX4 197 arraycopyName ∈ wsX4_copyRow := by decide +kernel
theorem w5_X4_copyRow : Cond.native arraycopyName ∈ wsX4_copyRow := by decide +kernel
theorem w6_X4_copyRow : Cond.static arraycopyName ∈ wsX4_copyRow := by decide +kernel
theorem w7_X4_copyRow : Cond.initialized "java/lang/System" ∈ wsX4_copyRow := by decide +kernel
abbrev rm_X4_copyRow : Room := { frames := 1, cells := 0, slots := 0, locals := 18 }
set_option maxHeartbeats 4000000 in
set_option maxRecDepth 100000 in
theorem c_X4_copyRow (l : Launch) (G : GG) (x1 : Nat) (x2 : Nat) (n1 : Nat) (n2 : Nat) (f1 : Nat → Int32) (f2 : Nat → Int32) (q : (Nat → Int32)) (hm : M_X4_copyRow n1 n2 f1 f2 = some q) : CTv l yX4_copyRow wsX4_copyRow rm_X4_copyRow G [.ref x1, .ref x2] [(x1, .inl (G.2.1, n1, .inl f1)), (x2, .inl (G.2.1, n2, .inl f2))] [(x1, .inl (G.2.1, n1, .inl f1)), (x2, .inl (G.2.1, n2, .inl q))] := by
  intro sz
  refine mk_body (Qc := fun A => (QV G A [(x1, .inl (G.2.1, n1, .inl f1)), (x2, .inl (G.2.1, n2, .inl q))])) (cc := cX4_copyRow) (maxL := 2) (ret := none) (lv := [(0, .ref x1), (1, .ref x2)]) (by decide) rfl rfl (Nat.le_of_ble_eq_true rfl) ?_
  intro p e s m args below meth c A H locs ls hF hr hlocks hname hK hA hP hD hS hl
  obtain ⟨hx, hb, hml, hown, hts⟩ := id hF
  unfold M_X4_copyRow at hm
  refine lv_aload_n hx hb dX4_copyRow_0 rfl (lv_at hl 0 rfl) ?_
  refine lv_iconst (v := 0) hx hb dX4_copyRow_1 (by decide) ?_
  refine lv_aload_n hx hb dX4_copyRow_2 rfl (lv_at hl 1 rfl) ?_
  refine lv_iconst (v := 0) hx hb dX4_copyRow_3 (by decide) ?_
  refine lv_aload_n hx hb dX4_copyRow_4 rfl (lv_at hl 0 rfl) ?_
  refine va_alen hx hb hK.1 hP 0 0 rfl rfl (v := (Int32.ofNat n1)) rfl dX4_copyRow_5 ?_
  refine lv_aload_n hx hb dX4_copyRow_6 rfl (lv_at hl 1 rfl) ?_
  refine va_alen hx hb hK.1 hP 1 0 rfl rfl (v := (Int32.ofNat n2)) rfl dX4_copyRow_7 ?_
  refine va_mmin hx hb (hml.trans hl.1.symm) hown (hts _ w0_X4_copyRow) (hts _ w1_X4_copyRow) (hts _ w2_X4_copyRow) (hts _ w3_X4_copyRow) (Nat.le_of_ble_eq_true rfl) (Nat.le_of_ble_eq_true rfl) (Nat.le_of_ble_eq_true rfl) (Nat.le_of_ble_eq_true rfl) dX4_copyRow_8 ?_
  obtain ⟨hc1, hm⟩ := gc_s hm
  refine va_copyi hx hb (hml.trans hl.1.symm) hown (hts _ w4_X4_copyRow) (hts _ w5_X4_copyRow) (hts _ w6_X4_copyRow) (hts _ w7_X4_copyRow) hK.1 hP hD hS 0 1 0 0 rfl rfl rfl rfl rfl hc1.1 hc1.2.1 hc1.2.2.1 hc1.2.2.2.1 hc1.2.2.2.2 (fun _ _ => rfl) (Nat.le_of_ble_eq_true rfl) (Nat.le_of_ble_eq_true rfl) dX4_copyRow_11 (fun H locs hP hD hS => ?_)
  have hP : va_P G.1 vwCl [(x1, .inl (G.2.1, n1, .inl f1)), (x2, .inl (G.2.1, n2, .inl (va_cpy f1 f2 (0 : Int32).toNatClampNeg (0 : Int32).toNatClampNeg (if (Int32.ofNat n2) < (Int32.ofNat n1) then (Int32.ofNat n2) else (Int32.ofNat n1)).toNatClampNeg)))] H := hP
  have hD : va_D A [(x1, .inl (G.2.1, n1, .inl f1)), (x2, .inl (G.2.1, n2, .inl (va_cpy f1 f2 (0 : Int32).toNatClampNeg (0 : Int32).toNatClampNeg (if (Int32.ofNat n2) < (Int32.ofNat n1) then (Int32.ofNat n2) else (Int32.ofNat n1)).toNatClampNeg)))] := hD
  cases hm
  exact rt_v hx hb hr hlocks hP hD hS dX4_copyRow_14
def M_X4_occurrences_L4 (n1 : Nat) (f1 : Nat → Int32) (p1 : Int32) : Nat → (Int32) → (Int32) → Option (Int32)
  | 0, _, _ => none
  | n3 + 1, v1, v2 => if (Int32.ofNat n1) ≤ v2 then (some v1) else (gd v2 n1 (if (f1 v2.toNatClampNeg) = p1 then (M_X4_occurrences_L4 n1 f1 p1 n3 (v1 + 1) (v2 + 1)) else (M_X4_occurrences_L4 n1 f1 p1 n3 v1 (v2 + 1))))
def M_X4_occurrences (N : Nat) (n1 : Nat) (f1 : Nat → Int32) (p1 : Int32) : Option (Int32) :=
  M_X4_occurrences_L4 n1 f1 p1 N 0 0
abbrev rm_X4_occurrences : Room := { frames := 0, cells := 0, slots := 0, locals := 0 }
set_option maxHeartbeats 4000000 in
set_option maxRecDepth 100000 in
theorem c_X4_occurrences (l : Launch) (G : GG) (N : Nat) (x1 : Nat) (n1 : Nat) (f1 : Nat → Int32) (p1 : Int32) (q : Int32) (hm : M_X4_occurrences N n1 f1 p1 = some q) : CTi l yX4_occurrences wsX4_occurrences rm_X4_occurrences G [.ref x1, .int p1] [(x1, .inl (G.2.1, n1, .inl f1))] q [(x1, .inl (G.2.1, n1, .inl f1))] := by
  intro sz
  refine mk_body (Qc := fun A => (QI G A q [(x1, .inl (G.2.1, n1, .inl f1))])) (cc := cX4_occurrences) (maxL := 4) (ret := (some .int)) (lv := [(0, .ref x1), (1, .int p1)]) (by decide) rfl rfl (Nat.le_of_ble_eq_true rfl) ?_
  intro p e s m args below meth c A H locs ls hF hr hlocks hname hK hA hP hD hS hl
  obtain ⟨hx, hb, hml, hown, hts⟩ := id hF
  unfold M_X4_occurrences at hm
  refine lv_iconst (v := 0) hx hb dX4_occurrences_0 (by decide) ?_
  refine lv_istore_n (lv' := [(2, .int 0), (0, .ref x1), (1, .int p1)]) hx hb dX4_occurrences_1 rfl hl (by decide) rfl (fun ls hl => ?_)
  refine lv_iconst (v := 0) hx hb dX4_occurrences_2 (by decide) ?_
  refine lv_istore_n (lv' := [(3, .int 0), (2, .int 0), (0, .ref x1), (1, .int p1)]) hx hb dX4_occurrences_3 rfl hl (by decide) rfl (fun ls hl => ?_)
  have L5 : ∀ (n3 : Nat) (v1 : Int32) (v2 : Int32), M_X4_occurrences_L4 n1 f1 p1 n3 v1 v2 = some q → ∀ (H : Heap) (locs : List Loc) (ls : Array Slot), va_P G.1 vwCl [(x1, .inl (G.2.1, n1, .inl f1))] H → va_D A [(x1, .inl (G.2.1, n1, .inl f1))] → va_S A s.heap H locs → lv_has ls 4 [(0, .ref x1), (1, .int p1), (2, .int v1), (3, .int v2)] → W p l e rm_X4_occurrences s m args below meth c H locs 0 0 (MQ below (QI G A q [(x1, .inl (G.2.1, n1, .inl f1))]) args s rm_X4_occurrences.cells rm_X4_occurrences.slots A) (F0 m 4 ls []) := by
    intro n3
    induction n3 with
    | zero => intro v1 v2 hm; cases hm
    | succ n3 ih4 =>
      intro v1 v2 hm H locs ls hP hD hS hl
      rw [M_X4_occurrences_L4] at hm
      refine lv_iload_n hx hb dX4_occurrences_4 rfl (lv_at hl 3 rfl) ?_
      refine lv_aload_n hx hb dX4_occurrences_5 rfl (lv_at hl 0 rfl) ?_
      refine va_alen hx hb hK.1 hP 0 0 rfl rfl (v := (Int32.ofNat n1)) rfl dX4_occurrences_6 ?_
      refine lv_icmp_ge (tgt := 26) hx hb dX4_occurrences_7 (by decide) (fun c6 => ?_) (fun c6 => ?_)
      · replace hm := it_t c6 hm
        refine lv_iload_n hx hb dX4_occurrences_26 rfl (lv_at hl 2 rfl) ?_
        cases hm
        exact rt_i hx hb hr hlocks hP hD hS dX4_occurrences_27
      · replace hm := it_f c6 hm
        refine lv_aload_n hx hb dX4_occurrences_10 rfl (lv_at hl 0 rfl) ?_
        refine lv_iload_n hx hb dX4_occurrences_11 rfl (lv_at hl 3 rfl) ?_
        obtain ⟨hi7, hm⟩ := gd_s hm
        refine va_iald hx hb hK.1 hP 0 0 rfl rfl hi7 dX4_occurrences_12 ?_
        refine lv_iload_n hx hb dX4_occurrences_13 rfl (lv_at hl 1 rfl) ?_
        refine lv_icmp_ne (tgt := 20) hx hb dX4_occurrences_14 (by decide) (fun c8 => ?_) (fun c8 => ?_)
        · replace hm := it_f c8 hm
          refine lv_iinc (v := (v2 + 1)) (lv' := [(3, .int (v2 + 1)), (0, .ref x1), (1, .int p1), (2, .int v1)]) hx hb dX4_occurrences_20 hl (k := 3) rfl rfl (by decide) rfl (fun ls hl => ?_)
          refine lv_goto (tgt := 4) hx hb dX4_occurrences_23 (by decide) ?_
          exact ih4 v1 (v2 + 1) hm _ _ _ hP hD hS (lv_sub hl [1, 2, 3, 0] rfl)
        · replace hm := it_t c8 hm
          refine lv_iinc (v := (v1 + 1)) (lv' := [(2, .int (v1 + 1)), (0, .ref x1), (1, .int p1), (3, .int v2)]) hx hb dX4_occurrences_17 hl (k := 2) rfl rfl (by decide) rfl (fun ls hl => ?_)
          refine lv_iinc (v := (v2 + 1)) (lv' := [(3, .int (v2 + 1)), (2, .int (v1 + 1)), (0, .ref x1), (1, .int p1)]) hx hb dX4_occurrences_20 hl (k := 3) rfl rfl (by decide) rfl (fun ls hl => ?_)
          refine lv_goto (tgt := 4) hx hb dX4_occurrences_23 (by decide) ?_
          exact ih4 (v1 + 1) (v2 + 1) hm _ _ _ hP hD hS (lv_sub hl [2, 3, 1, 0] rfl)
  exact L5 N 0 0 hm _ _ _ hP hD hS (lv_sub hl [2, 3, 1, 0] rfl)
def M_X2_copyFrom (qu : Nat → Int32) (oqu : Nat → Int32) (onsz : Int32) : Option ((Nat → Int32) × Int32) :=
  (M_X4_copyRow 20 20 oqu qu).bind fun q1 => some (q1, onsz)
theorem w0_X2_copyFrom : Cond.fieldLink RX2 9 "WeakTableHeap$Notices" "queue" "[I" ∈ wsX2_copyFrom := by decide +kernel
theorem w1_X2_copyFrom : ∀ w ∈ u_ws RX2 TX2 2, w ∈ wsX2_copyFrom := by decide +kernel
theorem w2_X2_copyFrom : Cond.initialized RX4 ∈ wsX2_copyFrom := by decide +kernel
theorem w3_X2_copyFrom : Cond.static yX4_copyRow ∈ wsX2_copyFrom := by decide +kernel
theorem w4_X2_copyFrom : Cond.fieldLink RX2 19 "WeakTableHeap$Notices" "size" "I" ∈ wsX2_copyFrom := by decide +kernel
abbrev rm_X2_copyFrom : Room := { frames := 2, cells := 0, slots := 0, locals := 39 }
set_option maxHeartbeats 4000000 in
set_option maxRecDepth 100000 in
theorem c_X2_copyFrom (l : Launch) (G : GG) (a7 : Nat) (a8 : Nat) (o7 : Nat) (o8 : Nat) (qu : Nat → Int32) (nsz : Int32) (oqu : Nat → Int32) (onsz : Int32) (q : (Nat → Int32) × Int32) (hm : M_X2_copyFrom qu oqu onsz = some q) : CTv l yX2_copyFrom wsX2_copyFrom rm_X2_copyFrom G [.ref a7, .ref o7] (wNT G.2.1 a7 a8 qu nsz ++ wNT G.2.1 o7 o8 oqu onsz) (wNT G.2.1 a7 a8 q.1 q.2 ++ wNT G.2.1 o7 o8 oqu onsz) := by
  intro sz
  refine mk_body (Qc := fun A => (QV G A (wNT G.2.1 a7 a8 q.1 q.2 ++ wNT G.2.1 o7 o8 oqu onsz))) (cc := cX2_copyFrom) (maxL := 2) (ret := none) (lv := [(0, .ref a7), (1, .ref o7)]) (by decide) rfl rfl (Nat.le_of_ble_eq_true rfl) ?_
  intro p e s m args below meth c A H locs ls hF hr hlocks hname hK hA hP hD hS hl
  obtain ⟨hx, hb, hml, hown, hts⟩ := id hF
  unfold M_X2_copyFrom at hm
  refine lv_aload_n hx hb dX2_copyFrom_0 rfl (lv_at hl 1 rfl) ?_
  refine va_get (D := G.1) (ci := 2) (v := .ref o8) (C := RX2) (T := TX2) (N := 2) hx hb hts w1_X2_copyFrom hown hK.1 hP 2 rfl rfl 0 (by decide) (hts _ w0_X2_copyFrom) (fun _ h9 => h9) rfl dX2_copyFrom_1 ?_
  refine lv_aload_n hx hb dX2_copyFrom_4 rfl (lv_at hl 0 rfl) ?_
  refine va_get (D := G.1) (ci := 2) (v := .ref a8) (C := RX2) (T := TX2) (N := 2) hx hb hts w1_X2_copyFrom hown hK.1 hP 0 rfl rfl 0 (by decide) (hts _ w0_X2_copyFrom) (fun _ h9 => h9) rfl dX2_copyFrom_5 ?_
  obtain ⟨q1, hc2, hm⟩ := bd_s hm
  refine kc_v (wi := [(o8, .inl (G.2.1, 20, .inl oqu)), (a8, .inl (G.2.1, 20, .inl qu))]) (wo := [(o8, .inl (G.2.1, 20, .inl oqu)), (a8, .inl (G.2.1, 20, .inl q1))]) (wr := [(a7, .inr (2, [.ref a8, .int nsz])), (o7, .inr (2, [.ref o8, .int onsz]))]) (ws' := (wNT G.2.1 a7 a8 q1 nsz ++ wNT G.2.1 o7 o8 oqu onsz)) (rSN (As := [.ref o8, .ref a8]) (rest := []) (wi := [(o8, .inl (G.2.1, 20, .inl oqu)), (a8, .inl (G.2.1, 20, .inl qu))]) hF hK (hP.sub [3, 1] rfl) (hD.sub [3, 1] rfl rfl) (c_X4_copyRow l G o8 a8 20 20 oqu qu q1 hc2 H.size) ⟨va_cnB 2 hts gX2_copyFrom_X4_copyRow_n15 rfl rfl rfl (nw_RX2_15 hK) (hts _ w2_X2_copyFrom) (by decide +kernel) ⟨Nat.le_of_ble_eq_true rfl, Nat.le_of_ble_eq_true rfl⟩, hts _ w3_X2_copyFrom, trivial⟩ rfl hl.1 rfl (Nat.le_of_ble_eq_true rfl) dX2_copyFrom_8 ⟨Nat.le_of_ble_eq_true rfl, Nat.le_of_ble_eq_true rfl⟩) hP hD hS hA [3, 1] [0, 2] [0, 3, 1, 2] rfl rfl rfl (by decide) rfl rfl (fun H locs hP hD hS => ?_)
  refine lv_aload_n hx hb dX2_copyFrom_11 rfl (lv_at hl 0 rfl) ?_
  refine lv_aload_n hx hb dX2_copyFrom_12 rfl (lv_at hl 1 rfl) ?_
  refine va_get (D := G.1) (ci := 2) (v := .int onsz) (C := RX2) (T := TX2) (N := 2) hx hb hts w1_X2_copyFrom hown hK.1 hP 2 rfl rfl 1 (by decide) (hts _ w4_X2_copyFrom) (fun _ h9 => h9) rfl dX2_copyFrom_13 ?_
  refine va_put (D := G.1) (ci := 2) (v := .int onsz) (ty := .int) (C := RX2) (T := TX2) (N := 2) hx hb hts w1_X2_copyFrom tyX2 tyX2_ok nmX2 hown hK.1 hP hD hS 0 rfl rfl 1 (by decide) (hts _ w4_X2_copyFrom) (fun _ h9 => h9) rfl (by decide +kernel) rfl rfl (Nat.le_of_ble_eq_true rfl) dX2_copyFrom_16 (fun H locs hP hD hS => ?_)
  have hP : va_P G.1 vwCl (wNT G.2.1 a7 a8 q1 onsz ++ wNT G.2.1 o7 o8 oqu onsz) H := hP
  have hD : va_D A (wNT G.2.1 a7 a8 q1 onsz ++ wNT G.2.1 o7 o8 oqu onsz) := hD
  cases hm
  exact rt_v hx hb hr hlocks hP hD hS dX2_copyFrom_19
def M_X2_removeOldest (qu : Nat → Int32) (nsz : Int32) : Option (Int32 × (Nat → Int32) × Int32) :=
  gd 0 20 (gc (¬ (1 : Int32) < 0 ∧ ¬ (0 : Int32) < 0 ∧ ¬ (19 : Int32) < 0 ∧ (1 : Int32).toNatClampNeg + (19 : Int32).toNatClampNeg ≤ 20 ∧ (0 : Int32).toNatClampNeg + (19 : Int32).toNatClampNeg ≤ 20) (some ((qu (0 : Int32).toNatClampNeg), (va_cpy qu qu (1 : Int32).toNatClampNeg (0 : Int32).toNatClampNeg (19 : Int32).toNatClampNeg), (if (nsz - 1) < 0 then 0 else (nsz - 1)))))
theorem w0_X2_removeOldest : Cond.fieldLink RX2 9 "WeakTableHeap$Notices" "queue" "[I" ∈ wsX2_removeOldest := by decide +kernel
theorem w1_X2_removeOldest : ∀ w ∈ u_ws RX2 TX2 2, w ∈ wsX2_removeOldest := by decide +kernel
theorem w2_X2_removeOldest : Cond.methodLink RX2 31 arraycopyName ∈ wsX2_removeOldest := by decide +kernel
theorem w3_X2_removeOldest : Cond.native arraycopyName ∈ wsX2_removeOldest := by decide +kernel
theorem w4_X2_removeOldest : Cond.static arraycopyName ∈ wsX2_removeOldest := by decide +kernel
theorem w5_X2_removeOldest : Cond.initialized "java/lang/System" ∈ wsX2_removeOldest := by decide +kernel
theorem w6_X2_removeOldest : Cond.fieldLink RX2 19 "WeakTableHeap$Notices" "size" "I" ∈ wsX2_removeOldest := by decide +kernel
theorem w7_X2_removeOldest : Cond.methodLink RX2 37 Lib.Math.max.name ∈ wsX2_removeOldest := by decide +kernel
theorem w8_X2_removeOldest : Cond.static Lib.Math.max.name ∈ wsX2_removeOldest := by decide +kernel
theorem w9_X2_removeOldest : Cond.initialized "java/lang/Math" ∈ wsX2_removeOldest := by decide +kernel
theorem w10_X2_removeOldest : Cond.code Lib.Math.max.name Lib.Math.max.code 2 (some .int) ∈ wsX2_removeOldest := by decide +kernel
abbrev rm_X2_removeOldest : Room := { frames := 1, cells := 0, slots := 0, locals := 18 }
set_option maxHeartbeats 4000000 in
set_option maxRecDepth 100000 in
theorem c_X2_removeOldest (l : Launch) (G : GG) (a7 : Nat) (a8 : Nat) (qu : Nat → Int32) (nsz : Int32) (q : Int32 × (Nat → Int32) × Int32) (hm : M_X2_removeOldest qu nsz = some q) : CTi l yX2_removeOldest wsX2_removeOldest rm_X2_removeOldest G [.ref a7] (wNT G.2.1 a7 a8 qu nsz) q.1 (wNT G.2.1 a7 a8 q.2.1 q.2.2) := by
  intro sz
  refine mk_body (Qc := fun A => (QI G A q.1 (wNT G.2.1 a7 a8 q.2.1 q.2.2))) (cc := cX2_removeOldest) (maxL := 2) (ret := (some .int)) (lv := [(0, .ref a7)]) (by decide) rfl rfl (Nat.le_of_ble_eq_true rfl) ?_
  intro p e s m args below meth c A H locs ls hF hr hlocks hname hK hA hP hD hS hl
  obtain ⟨hx, hb, hml, hown, hts⟩ := id hF
  unfold M_X2_removeOldest at hm
  refine lv_aload_n hx hb dX2_removeOldest_0 rfl (lv_at hl 0 rfl) ?_
  refine va_get (D := G.1) (ci := 2) (v := .ref a8) (C := RX2) (T := TX2) (N := 2) hx hb hts w1_X2_removeOldest hown hK.1 hP 0 rfl rfl 0 (by decide) (hts _ w0_X2_removeOldest) (fun _ h9 => h9) rfl dX2_removeOldest_1 ?_
  refine lv_iconst (v := 0) hx hb dX2_removeOldest_4 (by decide) ?_
  obtain ⟨hi1, hm⟩ := gd_s hm
  refine va_iald hx hb hK.1 hP 1 0 rfl rfl hi1 dX2_removeOldest_5 ?_
  refine lv_istore_n (lv' := [(1, .int (qu (0 : Int32).toNatClampNeg)), (0, .ref a7)]) hx hb dX2_removeOldest_6 rfl hl (by decide) rfl (fun ls hl => ?_)
  refine lv_aload_n hx hb dX2_removeOldest_7 rfl (lv_at hl 1 rfl) ?_
  refine va_get (D := G.1) (ci := 2) (v := .ref a8) (C := RX2) (T := TX2) (N := 2) hx hb hts w1_X2_removeOldest hown hK.1 hP 0 rfl rfl 0 (by decide) (hts _ w0_X2_removeOldest) (fun _ h9 => h9) rfl dX2_removeOldest_8 ?_
  refine lv_iconst (v := 1) hx hb dX2_removeOldest_11 (by decide) ?_
  refine lv_aload_n hx hb dX2_removeOldest_12 rfl (lv_at hl 1 rfl) ?_
  refine va_get (D := G.1) (ci := 2) (v := .ref a8) (C := RX2) (T := TX2) (N := 2) hx hb hts w1_X2_removeOldest hown hK.1 hP 0 rfl rfl 0 (by decide) (hts _ w0_X2_removeOldest) (fun _ h9 => h9) rfl dX2_removeOldest_13 ?_
  refine lv_iconst (v := 0) hx hb dX2_removeOldest_16 (by decide) ?_
  refine lv_bipush (v := 19) hx hb dX2_removeOldest_17 (by decide) ?_
  obtain ⟨hc2, hm⟩ := gc_s hm
  refine va_copyi hx hb (hml.trans hl.1.symm) hown (hts _ w2_X2_removeOldest) (hts _ w3_X2_removeOldest) (hts _ w4_X2_removeOldest) (hts _ w5_X2_removeOldest) hK.1 hP hD hS 1 1 0 0 rfl rfl rfl rfl rfl hc2.1 hc2.2.1 hc2.2.2.1 hc2.2.2.2.1 hc2.2.2.2.2 (fun _ _ => rfl) (Nat.le_of_ble_eq_true rfl) (Nat.le_of_ble_eq_true rfl) dX2_removeOldest_19 (fun H locs hP hD hS => ?_)
  have hP : va_P G.1 vwCl (wNT G.2.1 a7 a8 (va_cpy qu qu (1 : Int32).toNatClampNeg (0 : Int32).toNatClampNeg (19 : Int32).toNatClampNeg) nsz) H := hP
  have hD : va_D A (wNT G.2.1 a7 a8 (va_cpy qu qu (1 : Int32).toNatClampNeg (0 : Int32).toNatClampNeg (19 : Int32).toNatClampNeg) nsz) := hD
  refine lv_aload_n hx hb dX2_removeOldest_22 rfl (lv_at hl 1 rfl) ?_
  refine lv_aload_n hx hb dX2_removeOldest_23 rfl (lv_at hl 1 rfl) ?_
  refine va_get (D := G.1) (ci := 2) (v := .int nsz) (C := RX2) (T := TX2) (N := 2) hx hb hts w1_X2_removeOldest hown hK.1 hP 0 rfl rfl 1 (by decide) (hts _ w6_X2_removeOldest) (fun _ h9 => h9) rfl dX2_removeOldest_24 ?_
  refine lv_iconst (v := 1) hx hb dX2_removeOldest_27 (by decide) ?_
  refine lv_isub hx hb dX2_removeOldest_28 ?_
  refine lv_iconst (v := 0) hx hb dX2_removeOldest_29 (by decide) ?_
  refine va_mmax hx hb (hml.trans hl.1.symm) hown (hts _ w7_X2_removeOldest) (hts _ w8_X2_removeOldest) (hts _ w9_X2_removeOldest) (hts _ w10_X2_removeOldest) (Nat.le_of_ble_eq_true rfl) (Nat.le_of_ble_eq_true rfl) (Nat.le_of_ble_eq_true rfl) (Nat.le_of_ble_eq_true rfl) dX2_removeOldest_30 ?_
  refine va_put (D := G.1) (ci := 2) (v := .int (if (nsz - 1) < 0 then 0 else (nsz - 1))) (ty := .int) (C := RX2) (T := TX2) (N := 2) hx hb hts w1_X2_removeOldest tyX2 tyX2_ok nmX2 hown hK.1 hP hD hS 0 rfl rfl 1 (by decide) (hts _ w6_X2_removeOldest) (fun _ h9 => h9) rfl (by decide +kernel) rfl rfl (Nat.le_of_ble_eq_true rfl) dX2_removeOldest_33 (fun H locs hP hD hS => ?_)
  have hP : va_P G.1 vwCl (wNT G.2.1 a7 a8 (va_cpy qu qu (1 : Int32).toNatClampNeg (0 : Int32).toNatClampNeg (19 : Int32).toNatClampNeg) (if (nsz - 1) < 0 then 0 else (nsz - 1))) H := hP
  have hD : va_D A (wNT G.2.1 a7 a8 (va_cpy qu qu (1 : Int32).toNatClampNeg (0 : Int32).toNatClampNeg (19 : Int32).toNatClampNeg) (if (nsz - 1) < 0 then 0 else (nsz - 1))) := hD
  refine lv_iload_n hx hb dX2_removeOldest_36 rfl (lv_at hl 0 rfl) ?_
  cases hm
  exact rt_i hx hb hr hlocks hP hD hS dX2_removeOldest_37
def M_X2_issue (qu : Nat → Int32) (nsz : Int32) (p1 : Int32) : Option ((Nat → Int32) × Int32) :=
  if nsz < 20 then ((M_X4_within nsz 20).bind fun q2 => if q2 = 0 then (some (qu, nsz)) else (gd nsz 20 (some ((upd qu nsz.toNatClampNeg p1), (nsz + 1))))) else ((M_X2_removeOldest qu nsz).bind fun q6 => (M_X4_within q6.2.2 20).bind fun q8 => if q8 = 0 then (some (q6.2.1, q6.2.2)) else (gd q6.2.2 20 (some ((upd q6.2.1 q6.2.2.toNatClampNeg p1), (q6.2.2 + 1)))))
theorem w0_X2_issue : Cond.fieldLink RX2 19 "WeakTableHeap$Notices" "size" "I" ∈ wsX2_issue := by decide +kernel
theorem w1_X2_issue : ∀ w ∈ u_ws RX2 TX2 2, w ∈ wsX2_issue := by decide +kernel
theorem w2_X2_issue : Cond.initialized RX4 ∈ wsX2_issue := by decide +kernel
theorem w3_X2_issue : Cond.static yX4_within ∈ wsX2_issue := by decide +kernel
theorem w4_X2_issue : Cond.fieldLink RX2 9 "WeakTableHeap$Notices" "queue" "[I" ∈ wsX2_issue := by decide +kernel
abbrev rm_X2_issue : Room := { frames := 2, cells := 0, slots := 0, locals := 39 }
set_option maxHeartbeats 4000000 in
set_option maxRecDepth 100000 in
theorem c_X2_issue (l : Launch) (G : GG) (a7 : Nat) (a8 : Nat) (qu : Nat → Int32) (nsz : Int32) (p1 : Int32) (q : (Nat → Int32) × Int32) (hm : M_X2_issue qu nsz p1 = some q) : CTv l yX2_issue wsX2_issue rm_X2_issue G [.ref a7, .int p1] (wNT G.2.1 a7 a8 qu nsz) (wNT G.2.1 a7 a8 q.1 q.2) := by
  intro sz
  refine mk_body (Qc := fun A => (QV G A (wNT G.2.1 a7 a8 q.1 q.2))) (cc := cX2_issue) (maxL := 2) (ret := none) (lv := [(0, .ref a7), (1, .int p1)]) (by decide) rfl rfl (Nat.le_of_ble_eq_true rfl) ?_
  intro p e s m args below meth c A H locs ls hF hr hlocks hname hK hA hP hD hS hl
  obtain ⟨hx, hb, hml, hown, hts⟩ := id hF
  unfold M_X2_issue at hm
  refine lv_aload_n hx hb dX2_issue_0 rfl (lv_at hl 0 rfl) ?_
  refine va_get (D := G.1) (ci := 2) (v := .int nsz) (C := RX2) (T := TX2) (N := 2) hx hb hts w1_X2_issue hown hK.1 hP 0 rfl rfl 1 (by decide) (hts _ w0_X2_issue) (fun _ h9 => h9) rfl dX2_issue_1 ?_
  refine lv_bipush (v := 20) hx hb dX2_issue_4 (by decide) ?_
  refine lv_icmp_lt (tgt := 14) hx hb dX2_issue_6 (by decide) (fun c1 => ?_) (fun c1 => ?_)
  · replace hm := it_t c1 hm
    refine lv_aload_n hx hb dX2_issue_14 rfl (lv_at hl 0 rfl) ?_
    refine va_get (D := G.1) (ci := 2) (v := .int nsz) (C := RX2) (T := TX2) (N := 2) hx hb hts w1_X2_issue hown hK.1 hP 0 rfl rfl 1 (by decide) (hts _ w0_X2_issue) (fun _ h9 => h9) rfl dX2_issue_15 ?_
    refine lv_bipush (v := 20) hx hb dX2_issue_18 (by decide) ?_
    obtain ⟨q2, hc3, hm⟩ := bd_s hm
    refine k0_i (ws := (wNT G.2.1 a7 a8 qu nsz)) (rSN (As := [.int nsz, .int 20]) (rest := []) (wi := ([] : va_W)) hF hK k0_P (k0_D (A := A)) (c_X4_within l G nsz 20 q2 hc3 H.size) ⟨va_cnB 2 hts gX2_issue_X4_within_n27 rfl rfl rfl (nw_RX2_27 hK) (hts _ w2_X2_issue) (by decide +kernel) ⟨Nat.le_of_ble_eq_true rfl, Nat.le_of_ble_eq_true rfl⟩, hts _ w3_X2_issue, trivial⟩ rfl hl.1 rfl (Nat.le_of_ble_eq_true rfl) dX2_issue_20 ⟨Nat.le_of_ble_eq_true rfl, Nat.le_of_ble_eq_true rfl⟩) hP hS hA (fun H locs hP hS => ?_)
    refine lv_if_eq (tgt := 46) hx hb dX2_issue_23 (by decide) (fun c4 => ?_) (fun c4 => ?_)
    · replace hm := it_t c4 hm
      cases hm
      exact rt_v hx hb hr hlocks hP hD hS dX2_issue_46
    · replace hm := it_f c4 hm
      refine lv_aload_n hx hb dX2_issue_26 rfl (lv_at hl 0 rfl) ?_
      refine va_get (D := G.1) (ci := 2) (v := .ref a8) (C := RX2) (T := TX2) (N := 2) hx hb hts w1_X2_issue hown hK.1 hP 0 rfl rfl 0 (by decide) (hts _ w4_X2_issue) (fun _ h9 => h9) rfl dX2_issue_27 ?_
      refine lv_aload_n hx hb dX2_issue_30 rfl (lv_at hl 0 rfl) ?_
      refine va_get (D := G.1) (ci := 2) (v := .int nsz) (C := RX2) (T := TX2) (N := 2) hx hb hts w1_X2_issue hown hK.1 hP 0 rfl rfl 1 (by decide) (hts _ w0_X2_issue) (fun _ h9 => h9) rfl dX2_issue_31 ?_
      refine lv_iload_n hx hb dX2_issue_34 rfl (lv_at hl 1 rfl) ?_
      obtain ⟨hi5, hm⟩ := gd_s hm
      refine va_iast hx hb hK.1 hP hD hS 1 0 rfl rfl hi5 dX2_issue_35 (fun H locs hP hD hS => ?_)
      have hP : va_P G.1 vwCl (wNT G.2.1 a7 a8 (upd qu nsz.toNatClampNeg p1) nsz) H := hP
      have hD : va_D A (wNT G.2.1 a7 a8 (upd qu nsz.toNatClampNeg p1) nsz) := hD
      refine lv_aload_n hx hb dX2_issue_36 rfl (lv_at hl 0 rfl) ?_
      refine lv_dup hx hb dX2_issue_37 rfl ?_
      refine va_get (D := G.1) (ci := 2) (v := .int nsz) (C := RX2) (T := TX2) (N := 2) hx hb hts w1_X2_issue hown hK.1 hP 0 rfl rfl 1 (by decide) (hts _ w0_X2_issue) (fun _ h9 => h9) rfl dX2_issue_38 ?_
      refine lv_iconst (v := 1) hx hb dX2_issue_41 (by decide) ?_
      refine lv_iadd hx hb dX2_issue_42 ?_
      refine va_put (D := G.1) (ci := 2) (v := .int (nsz + 1)) (ty := .int) (C := RX2) (T := TX2) (N := 2) hx hb hts w1_X2_issue tyX2 tyX2_ok nmX2 hown hK.1 hP hD hS 0 rfl rfl 1 (by decide) (hts _ w0_X2_issue) (fun _ h9 => h9) rfl (by decide +kernel) rfl rfl (Nat.le_of_ble_eq_true rfl) dX2_issue_43 (fun H locs hP hD hS => ?_)
      have hP : va_P G.1 vwCl (wNT G.2.1 a7 a8 (upd qu nsz.toNatClampNeg p1) (nsz + 1)) H := hP
      have hD : va_D A (wNT G.2.1 a7 a8 (upd qu nsz.toNatClampNeg p1) (nsz + 1)) := hD
      cases hm
      exact rt_v hx hb hr hlocks hP hD hS dX2_issue_46
  · replace hm := it_f c1 hm
    refine lv_aload_n hx hb dX2_issue_9 rfl (lv_at hl 0 rfl) ?_
    obtain ⟨q6, hc7, hm⟩ := bd_s hm
    refine ks_i (wo := (wNT G.2.1 a7 a8 q6.2.1 q6.2.2)) (rV (As := []) (rest := []) (b := a7) (wi := (wNT G.2.1 a7 a8 qu nsz)) hF hK hP hD (c_X2_removeOldest l G a7 a8 qu nsz q6 hc7 H.size) (cwV 0 hts gX2_issue_X2_removeOldest rfl rfl rfl (by decide +kernel) ⟨Nat.le_of_ble_eq_true rfl, Nat.le_of_ble_eq_true rfl⟩) (va_recv hK.1 hP (ci := 2) (q0 := 0) rfl rfl) rfl hl.1 rfl (Nat.le_of_ble_eq_true rfl) dX2_issue_10 ⟨Nat.le_of_ble_eq_true rfl, Nat.le_of_ble_eq_true rfl⟩) hD hS hA (fun H locs hP hD hS => ?_)
    have hP : va_P G.1 vwCl (wNT G.2.1 a7 a8 q6.2.1 q6.2.2) H := hP
    have hD : va_D A (wNT G.2.1 a7 a8 q6.2.1 q6.2.2) := hD
    refine lv_pop hx hb dX2_issue_13 rfl ?_
    refine lv_aload_n hx hb dX2_issue_14 rfl (lv_at hl 0 rfl) ?_
    refine va_get (D := G.1) (ci := 2) (v := .int q6.2.2) (C := RX2) (T := TX2) (N := 2) hx hb hts w1_X2_issue hown hK.1 hP 0 rfl rfl 1 (by decide) (hts _ w0_X2_issue) (fun _ h9 => h9) rfl dX2_issue_15 ?_
    refine lv_bipush (v := 20) hx hb dX2_issue_18 (by decide) ?_
    obtain ⟨q8, hc9, hm⟩ := bd_s hm
    refine k0_i (ws := (wNT G.2.1 a7 a8 q6.2.1 q6.2.2)) (rSN (As := [.int q6.2.2, .int 20]) (rest := []) (wi := ([] : va_W)) hF hK k0_P (k0_D (A := A)) (c_X4_within l G q6.2.2 20 q8 hc9 H.size) ⟨va_cnB 2 hts gX2_issue_X4_within_n27 rfl rfl rfl (nw_RX2_27 hK) (hts _ w2_X2_issue) (by decide +kernel) ⟨Nat.le_of_ble_eq_true rfl, Nat.le_of_ble_eq_true rfl⟩, hts _ w3_X2_issue, trivial⟩ rfl hl.1 rfl (Nat.le_of_ble_eq_true rfl) dX2_issue_20 ⟨Nat.le_of_ble_eq_true rfl, Nat.le_of_ble_eq_true rfl⟩) hP hS hA (fun H locs hP hS => ?_)
    refine lv_if_eq (tgt := 46) hx hb dX2_issue_23 (by decide) (fun c10 => ?_) (fun c10 => ?_)
    · replace hm := it_t c10 hm
      cases hm
      exact rt_v hx hb hr hlocks hP hD hS dX2_issue_46
    · replace hm := it_f c10 hm
      refine lv_aload_n hx hb dX2_issue_26 rfl (lv_at hl 0 rfl) ?_
      refine va_get (D := G.1) (ci := 2) (v := .ref a8) (C := RX2) (T := TX2) (N := 2) hx hb hts w1_X2_issue hown hK.1 hP 0 rfl rfl 0 (by decide) (hts _ w4_X2_issue) (fun _ h9 => h9) rfl dX2_issue_27 ?_
      refine lv_aload_n hx hb dX2_issue_30 rfl (lv_at hl 0 rfl) ?_
      refine va_get (D := G.1) (ci := 2) (v := .int q6.2.2) (C := RX2) (T := TX2) (N := 2) hx hb hts w1_X2_issue hown hK.1 hP 0 rfl rfl 1 (by decide) (hts _ w0_X2_issue) (fun _ h9 => h9) rfl dX2_issue_31 ?_
      refine lv_iload_n hx hb dX2_issue_34 rfl (lv_at hl 1 rfl) ?_
      obtain ⟨hi11, hm⟩ := gd_s hm
      refine va_iast hx hb hK.1 hP hD hS 1 0 rfl rfl hi11 dX2_issue_35 (fun H locs hP hD hS => ?_)
      have hP : va_P G.1 vwCl (wNT G.2.1 a7 a8 (upd q6.2.1 q6.2.2.toNatClampNeg p1) q6.2.2) H := hP
      have hD : va_D A (wNT G.2.1 a7 a8 (upd q6.2.1 q6.2.2.toNatClampNeg p1) q6.2.2) := hD
      refine lv_aload_n hx hb dX2_issue_36 rfl (lv_at hl 0 rfl) ?_
      refine lv_dup hx hb dX2_issue_37 rfl ?_
      refine va_get (D := G.1) (ci := 2) (v := .int q6.2.2) (C := RX2) (T := TX2) (N := 2) hx hb hts w1_X2_issue hown hK.1 hP 0 rfl rfl 1 (by decide) (hts _ w0_X2_issue) (fun _ h9 => h9) rfl dX2_issue_38 ?_
      refine lv_iconst (v := 1) hx hb dX2_issue_41 (by decide) ?_
      refine lv_iadd hx hb dX2_issue_42 ?_
      refine va_put (D := G.1) (ci := 2) (v := .int (q6.2.2 + 1)) (ty := .int) (C := RX2) (T := TX2) (N := 2) hx hb hts w1_X2_issue tyX2 tyX2_ok nmX2 hown hK.1 hP hD hS 0 rfl rfl 1 (by decide) (hts _ w0_X2_issue) (fun _ h9 => h9) rfl (by decide +kernel) rfl rfl (Nat.le_of_ble_eq_true rfl) dX2_issue_43 (fun H locs hP hD hS => ?_)
      have hP : va_P G.1 vwCl (wNT G.2.1 a7 a8 (upd q6.2.1 q6.2.2.toNatClampNeg p1) (q6.2.2 + 1)) H := hP
      have hD : va_D A (wNT G.2.1 a7 a8 (upd q6.2.1 q6.2.2.toNatClampNeg p1) (q6.2.2 + 1)) := hD
      cases hm
      exact rt_v hx hb hr hlocks hP hD hS dX2_issue_46
end
section
theorem last_0 : True := trivial
end
