/-! what all contracts share: the tables' numbers G, the words KK, a contract's start and end, calls and returns -/
abbrev GG : Type := va_G × ClassId × ClassId × ClassId
abbrev tyG (G : GG) : List (ClassId × FieldType) := [(G.2.1, .int), (G.2.2.1, .boolean), (G.2.2.2, .object RX3)]
def NWs : List (String × Nat × MethodName) := [(RX4, 18, yX0_init), (RX4, 29, yX1_init), (RX4, 9, yX3_init), (RX0, 21, yX3_init), (RX1, 52, yX4_contains), (RX2, 15, yX4_copyRow), (RX2, 27, yX4_within), (RX3, 36, yX2_init), (RX3, 41, yX4_copyRow), (RX3, 56, yX4_within), (RX3, 67, yX4_setOf), (RX3, 71, yX4_contains), (RX3, 9, yX4_emptyRow)]
def KK (G : GG) (U : State) : Prop := va_K G.1 vwCl (tyG G) U ∧ (∀ w ∈ NWs, va_Nw (.methodLinkNest w.1 w.2.1 w.2.2 RX4) U) ∧ va_AO RX3 U
theorem KK.warm {G : GG} {s U : State} (hW : s.WarmedH U.vm) (h : KK G s) : KK G U := ⟨va_K.moved hW.alike h.1, fun w hw => va_Nw.warmM hW (h.2.1 w hw), va_AO.moved hW.alike h.2.2⟩
theorem KK.call {G : GG} {U : State} {g : JFrame} {mk : MethodId} {a : Array Value} (h : KK G U) : KK G (U.calling g mk a) := ⟨va_K.moved (u := U) (U := U.calling g mk a) (Vm.Alike.refl U.vm) h.1, fun w hw => va_Nw.same rfl (u := U) (U := U.calling g mk a) rfl (h.2.1 w hw), va_AO.moved (u := U) (U := U.calling g mk a) (Vm.Alike.refl U.vm) h.2.2⟩
theorem nw_RX4_18 {G : GG} {U : State} (h : KK G U) : va_Nw (.methodLinkNest RX4 18 yX0_init RX4) U := h.2.1 (RX4, 18, yX0_init) (List.mem_of_getElem? (i := 0) rfl)
theorem nw_RX4_29 {G : GG} {U : State} (h : KK G U) : va_Nw (.methodLinkNest RX4 29 yX1_init RX4) U := h.2.1 (RX4, 29, yX1_init) (List.mem_of_getElem? (i := 1) rfl)
theorem nw_RX4_9 {G : GG} {U : State} (h : KK G U) : va_Nw (.methodLinkNest RX4 9 yX3_init RX4) U := h.2.1 (RX4, 9, yX3_init) (List.mem_of_getElem? (i := 2) rfl)
theorem nw_RX0_21 {G : GG} {U : State} (h : KK G U) : va_Nw (.methodLinkNest RX0 21 yX3_init RX4) U := h.2.1 (RX0, 21, yX3_init) (List.mem_of_getElem? (i := 3) rfl)
theorem nw_RX1_52 {G : GG} {U : State} (h : KK G U) : va_Nw (.methodLinkNest RX1 52 yX4_contains RX4) U := h.2.1 (RX1, 52, yX4_contains) (List.mem_of_getElem? (i := 4) rfl)
theorem nw_RX2_15 {G : GG} {U : State} (h : KK G U) : va_Nw (.methodLinkNest RX2 15 yX4_copyRow RX4) U := h.2.1 (RX2, 15, yX4_copyRow) (List.mem_of_getElem? (i := 5) rfl)
theorem nw_RX2_27 {G : GG} {U : State} (h : KK G U) : va_Nw (.methodLinkNest RX2 27 yX4_within RX4) U := h.2.1 (RX2, 27, yX4_within) (List.mem_of_getElem? (i := 6) rfl)
theorem nw_RX3_36 {G : GG} {U : State} (h : KK G U) : va_Nw (.methodLinkNest RX3 36 yX2_init RX4) U := h.2.1 (RX3, 36, yX2_init) (List.mem_of_getElem? (i := 7) rfl)
theorem nw_RX3_41 {G : GG} {U : State} (h : KK G U) : va_Nw (.methodLinkNest RX3 41 yX4_copyRow RX4) U := h.2.1 (RX3, 41, yX4_copyRow) (List.mem_of_getElem? (i := 8) rfl)
theorem nw_RX3_56 {G : GG} {U : State} (h : KK G U) : va_Nw (.methodLinkNest RX3 56 yX4_within RX4) U := h.2.1 (RX3, 56, yX4_within) (List.mem_of_getElem? (i := 9) rfl)
theorem nw_RX3_67 {G : GG} {U : State} (h : KK G U) : va_Nw (.methodLinkNest RX3 67 yX4_setOf RX4) U := h.2.1 (RX3, 67, yX4_setOf) (List.mem_of_getElem? (i := 10) rfl)
theorem nw_RX3_71 {G : GG} {U : State} (h : KK G U) : va_Nw (.methodLinkNest RX3 71 yX4_contains RX4) U := h.2.1 (RX3, 71, yX4_contains) (List.mem_of_getElem? (i := 11) rfl)
theorem nw_RX3_9 {G : GG} {U : State} (h : KK G U) : va_Nw (.methodLinkNest RX3 9 yX4_emptyRow RX4) U := h.2.1 (RX3, 9, yX4_emptyRow) (List.mem_of_getElem? (i := 12) rfl)

def Pcon (G : GG) (wi : va_W) (sz : Nat) (U : State) : Prop := U.heap.size = sz ∧ va_P G.1 vwCl wi U.heap ∧ KK G U ∧ va_D (fun _ => True) wi
def Bcon (G : GG) (A : Nat → Prop) (wo : va_W) (t : State) : Prop := va_P G.1 vwCl wo t.heap ∧ va_D A wo
abbrev QI (G : GG) (A : Nat → Prop) (r : Int32) (wo : va_W) : Array Value → State → Outcome → State → Prop := va_Qi (fun (r' : Int32) (_ : Unit) => r' = r) (fun _ t => Bcon G A wo t) A
abbrev QV (G : GG) (A : Nat → Prop) (wo : va_W) : Array Value → State → Outcome → State → Prop := va_Qv (fun (_ : Unit) => True) (fun _ t => Bcon G A wo t) A
abbrev QN (G : GG) {S : Type} (A : Nat → Prop) (ok : S → Prop) (wo : S → va_W) : Array Value → State → Outcome → State → Prop := va_Qv ok (fun u t => Bcon G A (wo u) t) A
abbrev QA (G : GG) (A : Nat → Prop) (wo : Nat → va_W) : Array Value → State → Outcome → State → Prop := va_Qr (fun (_ : Unit) => True) (fun _ a t => Bcon G A (wo a) t) A
abbrev QJ (G : GG) {S : Type} (A : Nat → Prop) (r : Int32) (ok : S → Prop) (wo : S → va_W) : Array Value → State → Outcome → State → Prop := va_Qi (fun (r' : Int32) (u : S) => r' = r ∧ ok u) (fun u t => Bcon G A (wo u) t) A
/-- a contract that answers the int r and turns the cells wi to wo -/
def CTi (l : Launch) (y : MethodName) (wl : List Cond) (rm : Room) (G : GG) (av : List Value) (wi : va_W) (r : Int32) (wo : va_W) : Prop :=
  ∀ sz, Met l y wl rm (va_Pc av (Pcon G wi sz)) (QI G (va_A wi sz) r wo) rm.cells rm.slots (va_A wi sz)
def CTv (l : Launch) (y : MethodName) (wl : List Cond) (rm : Room) (G : GG) (av : List Value) (wi : va_W) (wo : va_W) : Prop :=
  ∀ sz, Met l y wl rm (va_Pc av (Pcon G wi sz)) (QV G (va_A wi sz) wo) rm.cells rm.slots (va_A wi sz)
/-- .. with new cells, at addresses u -/
def CTn {S : Type} (l : Launch) (y : MethodName) (wl : List Cond) (rm : Room) (G : GG) (av : List Value) (wi : va_W) (ok : S → Prop) (wo : S → va_W) : Prop :=
  ∀ sz, Met l y wl rm (va_Pc av (Pcon G wi sz)) (QN G (va_A wi sz) ok wo) rm.cells rm.slots (va_A wi sz)
def CTj {S : Type} (l : Launch) (y : MethodName) (wl : List Cond) (rm : Room) (G : GG) (av : List Value) (wi : va_W) (r : Int32) (ok : S → Prop) (wo : S → va_W) : Prop :=
  ∀ sz, Met l y wl rm (va_Pc av (Pcon G wi sz)) (QJ G (va_A wi sz) r ok wo) rm.cells rm.slots (va_A wi sz)
def CTa (l : Launch) (y : MethodName) (wl : List Cond) (rm : Room) (G : GG) (av : List Value) (wi : va_W) (wo : Nat → va_W) : Prop :=
  ∀ sz, Met l y wl rm (va_Pc av (Pcon G wi sz)) (QA G (va_A wi sz) wo) rm.cells rm.slots (va_A wi sz)
theorem Pcon.blind {G : GG} {av : List Value} {wi : va_W} {sz : Nat} : FrameBlind (va_Pc av (Pcon G wi sz)) := fun a U g mk q => by
  obtain ⟨q0, q1, qP, qK, qD⟩ := q
  exact ⟨q0, q1, qP, qK.call, qD⟩
/-- a contract's proof: the walk of the body -/
theorem mk_body {l : Launch} {y : MethodName} {wl wl' : List Cond} {rm : Room} {G : GG} {av : List Value} {wi : va_W} {sz : Nat} {Qc : (Nat → Prop) → Array Value → State → Outcome → State → Prop} {cc : ByteArray} {maxL : Nat} {ret : Option FieldType} {lv : List (Nat × Value)}
    (hy : plainName y.cls = true) (hw : wl = Cond.code y cc maxL ret :: wl') (hlv : lv_args 0 av = lv) (hlen : (lg_sl av).length ≤ maxL)
    (body : ∀ (p : Program) (e : Env) (s : State) (m : MethodId) (args : Array Value) (below : List Frame) (meth : Method) (c : Code) (A : Nat → Prop) (H : Heap) (locs : List Loc) (ls : Array Slot),
      CallFix p m c cc maxL s args wl y.cls → meth.sig.returnType = ret → meth.locks = false → meth.name = y.name → KK G s → (∀ q, s.heap.size ≤ q → A q) → va_P G.1 vwCl wi H → va_D A wi → va_S A s.heap H locs → lv_has ls maxL lv →
      W p l e rm s m args below meth c H locs 0 0 (MQ below (Qc A) args s rm.cells rm.slots A) (F0 m 0 ls [])) :
    Met l y wl rm (va_Pc av (Pcon G wi sz)) (Qc (va_A wi sz)) rm.cells rm.slots (va_A wi sz) := by
  refine Met.ofW (cc := cc) (maxL := maxL) (ret := ret) hy hw ?_
  intro p e s m args below meth c s₁ B hml hv
  obtain ⟨rfl, hsz, hP, hK, hD0⟩ := hv
  subst hsz
  have hl := lv_entry av (n := maxL) hlen
  rw [hlv] at hl
  rw [lg_entry_eq]
  exact body p e s m _ below meth c _ _ _ _ ⟨B.exec, B.bytes, hml, findClass_of_methodNamed B.named, atoms_spec (ws := wl) B.pre⟩ B.returns B.notSynchronized (name_of_methodNamed B.named B.method).1 hK (fun q h => Or.inr h) hP (hD0.self (sz := s.heap.size)) va_S.rf hl
section KB
variable {p : Program} {l : Launch} {e : Env} {R : Room} {s : State} {m : MethodId} {args : Array Value} {below : List Frame} {meth : Method} {c : Code} {H : Heap} {locs : List Loc} {cells slots : Nat} {Q : State → Prop}
variable {cc : ByteArray} {pc nL : Nat} {ls : Array Slot} {rest st : List Value} {G : GG} {A : Nat → Prop} {H0 : Heap} {y : MethodName} {bytes : ByteArray} {maxL mc ms n index : Nat} {ret : Option FieldType} {wl Ts : List Cond} {rm : Room} {Qc : Array Value → State → Outcome → State → Prop} {fr : Addr → Prop} {own C : String} {b : Addr} {As : List Value} {wi wo wr ws ws' : va_W}
/-- returns -/
theorem rt_i {r : Int32} (hx : p.tables.exec = Jvm.exec) (hb : c.code = cc) (hr : meth.sig.returnType = some .int) (hlocks : meth.locks = false) (hP : va_P G.1 vwCl wo H) (hD : va_D A wo) (hS : va_S A s.heap H locs) (hdg : decode cc pc = .ok (.ireturn, 1)) :
    W p l e R s m args below meth c H locs cells slots (MQ below (QI G A r wo) args s cells slots A) (F0 m pc ls [.int r]) :=
  W.iret (v := r) hx hb hr (fun t ht hW => ⟨⟨r, (), rfl, rfl, by rw [ht]; exact hP, hD⟩, hS.F ht⟩) hS.2.2 hdg
theorem rt_z {r : Int32} (hx : p.tables.exec = Jvm.exec) (hb : c.code = cc) (hr : meth.sig.returnType = some .boolean) (hlocks : meth.locks = false) (hn : narrow .boolean (.int r) = .int r) (hP : va_P G.1 vwCl wo H) (hD : va_D A wo) (hS : va_S A s.heap H locs) (hdg : decode cc pc = .ok (.ireturn, 1)) :
    W p l e R s m args below meth c H locs cells slots (MQ below (QI G A r wo) args s cells slots A) (F0 m pc ls [.int r]) :=
  W.zret (v := r) hx hb hr hn (fun t ht hW => ⟨⟨r, (), rfl, rfl, by rw [ht]; exact hP, hD⟩, hS.F ht⟩) hS.2.2 hdg
theorem rt_v (hx : p.tables.exec = Jvm.exec) (hb : c.code = cc) (hr : meth.sig.returnType = none) (hlocks : meth.locks = false) (hP : va_P G.1 vwCl wo H) (hD : va_D A wo) (hS : va_S A s.heap H locs) (hdg : decode cc pc = .ok (.return_, 1)) :
    W p l e R s m args below meth c H locs cells slots (MQ below (QV G A wo) args s cells slots A) (F0 m pc ls []) :=
  W.vret hx hb hr (fun t ht hW => ⟨⟨(), rfl, trivial, by rw [ht]; exact hP, hD⟩, hS.F ht⟩) hS.2.2 hdg
theorem rt_n {S : Type} {ok : S → Prop} {wo : S → va_W} (u : S) (hok : ok u) (hx : p.tables.exec = Jvm.exec) (hb : c.code = cc) (hr : meth.sig.returnType = none) (hlocks : meth.locks = false) (hP : va_P G.1 vwCl (wo u) H) (hD : va_D A (wo u)) (hS : va_S A s.heap H locs) (hdg : decode cc pc = .ok (.return_, 1)) :
    W p l e R s m args below meth c H locs cells slots (MQ below (QN G A ok wo) args s cells slots A) (F0 m pc ls []) :=
  W.vret hx hb hr (fun t ht hW => ⟨⟨u, rfl, hok, by rw [ht]; exact hP, hD⟩, hS.F ht⟩) hS.2.2 hdg
theorem rt_j {S : Type} {r : Int32} {ok : S → Prop} {wo : S → va_W} (u : S) (hok : ok u) (hx : p.tables.exec = Jvm.exec) (hb : c.code = cc) (hr : meth.sig.returnType = some .int) (hlocks : meth.locks = false) (hP : va_P G.1 vwCl (wo u) H) (hD : va_D A (wo u)) (hS : va_S A s.heap H locs) (hdg : decode cc pc = .ok (.ireturn, 1)) :
    W p l e R s m args below meth c H locs cells slots (MQ below (QJ G A r ok wo) args s cells slots A) (F0 m pc ls [.int r]) :=
  W.iret (v := r) hx hb hr (fun t ht hW => ⟨⟨r, u, rfl, ⟨rfl, hok⟩, by rw [ht]; exact hP, hD⟩, hS.F ht⟩) hS.2.2 hdg
theorem rt_a {wo : Nat → va_W} (u : Nat) (hx : p.tables.exec = Jvm.exec) (hb : c.code = cc) {rt : FieldType} (hr : meth.sig.returnType = some rt) (hrt : (∃ n, rt = .object n) ∨ ∃ t, rt = .array t) (hlocks : meth.locks = false) (hP : va_P G.1 vwCl (wo u) H) (hD : va_D A (wo u)) (hS : va_S A s.heap H locs) (hdg : decode cc pc = .ok (.areturn, 1)) :
    W p l e R s m args below meth c H locs cells slots (MQ below (QA G A wo) args s cells slots A) (F0 m pc ls [.ref u]) :=
  W.aret hx hb hr hrt (Or.inr ⟨u, rfl⟩) (fun t ht hW => ⟨⟨(), u, rfl, trivial, by rw [ht]; exact hP, hD⟩, hS.F ht⟩) hS.2.2 hdg
/-- calls: the run -/
theorem rV (S : CallFix p m c cc nL s args Ts own) (hK : KK G s) (hPc : va_P G.1 vwCl wi H) (hDc : va_D A wi) (hM : Met l y wl rm (va_Pc (.ref b :: As) (Pcon G wi H.size)) Qc rm.cells rm.slots fr) (cw : CallW R s args own C index y bytes maxL ret wl rm rm.cells rm.slots n) (hv : ∃ cell : Cell, H[b]? = some cell ∧ cell.vm.isStatics = false ∧ s.vm.findClass C = some cell.cls)
    (hn : As.length = n) (hsize : ls.size = nL) (hst : st = As.reverse ++ .ref b :: rest) (hW : (rest.map fun v => v.category).sum ≤ 8) (hdg : decode cc pc = .ok (.invokevirtual index, 3)) (hf : cells + rm.cells ≤ R.cells ∧ slots + rm.slots ≤ R.slots) :
    va_Run p l e R s m args below meth c H locs cells slots rm.cells rm.slots (F0 m pc ls st) rest (Qc (Value.ref b :: As).toArray) fr :=
  va_runV S hM cw ⟨Pcon.blind, hv, fun U hU hW => ⟨rfl, by rw [hU], by rw [hU]; exact hPc, hK.warm hW, hDc.weaken (fun _ _ _ _ => trivial)⟩⟩ rfl hn hsize hst (lv_room hW) hdg hf
theorem rS (S : CallFix p m c cc nL s args Ts own) (hK : KK G s) (hPc : va_P G.1 vwCl wi H) (hDc : va_D A wi) (hM : Met l y wl rm (va_Pc As (Pcon G wi H.size)) Qc rm.cells rm.slots fr) (cw : CallB R s args own index y bytes maxL ret wl rm rm.cells rm.slots n ∧ (Cond.static y).before args s = true)
    (hn : As.length = n) (hsize : ls.size = nL) (hst : st = As.reverse ++ rest) (hW : (rest.map fun v => v.category).sum ≤ 8) (hdg : decode cc pc = .ok (.invokestatic index, 3)) (hf : cells + rm.cells ≤ R.cells ∧ slots + rm.slots ≤ R.slots) :
    va_Run p l e R s m args below meth c H locs cells slots rm.cells rm.slots (F0 m pc ls st) rest (Qc As.toArray) fr :=
  va_runS S hM cw ⟨Pcon.blind, fun U hU hW => ⟨rfl, by rw [hU], by rw [hU]; exact hPc, hK.warm hW, hDc.weaken (fun _ _ _ _ => trivial)⟩⟩ rfl hn hsize hst (lv_room hW) hdg hf
theorem rSN {host : String} (S : CallFix p m c cc nL s args Ts own) (hK : KK G s) (hPc : va_P G.1 vwCl wi H) (hDc : va_D A wi) (hM : Met l y wl rm (va_Pc As (Pcon G wi H.size)) Qc rm.cells rm.slots fr) (cw : va_CN R s args own index y host bytes maxL ret wl rm rm.cells rm.slots n ∧ (Cond.static y).before args s = true ∧ True)
    (hn : As.length = n) (hsize : ls.size = nL) (hst : st = As.reverse ++ rest) (hW : (rest.map fun v => v.category).sum ≤ 8) (hdg : decode cc pc = .ok (.invokestatic index, 3)) (hf : cells + rm.cells ≤ R.cells ∧ slots + rm.slots ≤ R.slots) :
    va_Run p l e R s m args below meth c H locs cells slots rm.cells rm.slots (F0 m pc ls st) rest (Qc As.toArray) fr :=
  va_runSN S hM cw ⟨Pcon.blind, fun U hU hW => ⟨rfl, by rw [hU], by rw [hU]; exact hPc, hK.warm hW, hDc.weaken (fun _ _ _ _ => trivial)⟩⟩ rfl hn hsize hst (lv_room hW) hdg hf
theorem rI (S : CallFix p m c cc nL s args Ts own) (hK : KK G s) (hPc : va_P G.1 vwCl wi H) (hDc : va_D A wi) (hM : Met l y wl rm (va_Pc (.ref b :: As) (Pcon G wi H.size)) Qc rm.cells rm.slots fr) (cw : CallB R s args own index y bytes maxL none wl rm rm.cells rm.slots n ∧ y.name = "<init>" ∧ (Cond.instanceMethod y).before args s = true)
    (hn : As.length = n) (hsize : ls.size = nL) (hst : st = As.reverse ++ .ref b :: rest) (hW : (rest.map fun v => v.category).sum ≤ 8) (hdg : decode cc pc = .ok (.invokespecial index, 3)) (hf : cells + rm.cells ≤ R.cells ∧ slots + rm.slots ≤ R.slots) :
    va_Run p l e R s m args below meth c H locs cells slots rm.cells rm.slots (F0 m pc ls st) rest (Qc (Value.ref b :: As).toArray) fr :=
  va_runI S hM cw ⟨Pcon.blind, fun U hU hW => ⟨rfl, by rw [hU], by rw [hU]; exact hPc, hK.warm hW, hDc.weaken (fun _ _ _ _ => trivial)⟩⟩ rfl hn hsize hst (lv_room hW) hdg hf
theorem rIN {host : String} (S : CallFix p m c cc nL s args Ts own) (hK : KK G s) (hPc : va_P G.1 vwCl wi H) (hDc : va_D A wi) (hM : Met l y wl rm (va_Pc (.ref b :: As) (Pcon G wi H.size)) Qc rm.cells rm.slots fr) (cw : va_CN R s args own index y host bytes maxL none wl rm rm.cells rm.slots n ∧ y.name = "<init>" ∧ (Cond.instanceMethod y).before args s = true)
    (hn : As.length = n) (hsize : ls.size = nL) (hst : st = As.reverse ++ .ref b :: rest) (hW : (rest.map fun v => v.category).sum ≤ 8) (hdg : decode cc pc = .ok (.invokespecial index, 3)) (hf : cells + rm.cells ≤ R.cells ∧ slots + rm.slots ≤ R.slots) :
    va_Run p l e R s m args below meth c H locs cells slots rm.cells rm.slots (F0 m pc ls st) rest (Qc (Value.ref b :: As).toArray) fr :=
  va_runIN S hM cw ⟨Pcon.blind, fun U hU hW => ⟨rfl, by rw [hU], by rw [hU]; exact hPc, hK.warm hW, hDc.weaken (fun _ _ _ _ => trivial)⟩⟩ rfl hn hsize hst (lv_room hW) hdg hf
theorem fm_of {α : Type} {f : Nat → Option α} : ∀ (is : List Nat) (w : List α), is.map f = w.map some → is.filterMap f = w
  | [], [], _ => rfl
  | [], _ :: _, h => by cases h
  | _ :: _, [], h => by cases h
  | i :: is, a :: w, h => by
    obtain ⟨h1, h2⟩ := List.cons.inj h
    rw [List.filterMap_cons, h1, fm_of is w h2]
/-- behind a call: what the callee had comes back, the rest stays, in the order of ws' -/
theorem kj {H1 : Heap} (isC isR isN : List Nat) (hP : va_P G.1 vwCl ws H) (hD : va_D A ws) (hC : isC.map (fun i => ws[i]?) = wi.map some) (hR : isR.map (fun i => ws[i]?) = wr.map some) (hn : va_nd isR = true) (hdis : ∀ i ∈ isR, i ∉ isC)
    (hN : isN.map (fun i => (wr ++ wo)[i]?) = ws'.map some) (hnN : va_nd isN = true) (hk : ∀ q : Nat, q < H.size → ¬ va_A wi H.size q → H1[q]? = H[q]?) (hF : ∀ q, va_A wi H.size q → A q) (hP1 : va_P G.1 vwCl wo H1) (hD1 : va_D (va_A wi H.size) wo) : va_P G.1 vwCl ws' H1 ∧ va_D A ws' := by
  obtain ⟨a, b⟩ := va_join hP hD isC isR hC hR hn hdis hk hF hP1 hD1
  exact ⟨a.sub isN (fm_of _ _ hN), b.sub isN hnN hN⟩
theorem kc_i {r : Int32} {a : Array Value} (hr : va_Run p l e R s m args below meth c H locs cells slots mc ms (F0 m pc ls st) rest (QI G (va_A wi H.size) r wo a) (va_A wi H.size)) (hP : va_P G.1 vwCl ws H) (hD : va_D A ws) (hS : va_S A H0 H locs) (hA : ∀ q, H0.size ≤ q → A q)
    (isC isR isN : List Nat) (hC : isC.map (fun i => ws[i]?) = wi.map some) (hR : isR.map (fun i => ws[i]?) = wr.map some) (hn : va_nd isR = true) (hdis : ∀ i ∈ isR, i ∉ isC) (hN : isN.map (fun i => (wr ++ wo)[i]?) = ws'.map some) (hnN : va_nd isN = true)
    (kk : ∀ (H1 : Heap) (locs1 : List Loc), va_P G.1 vwCl ws' H1 → va_D A ws' → va_S A H0 H1 locs1 → W p l e R s m args below meth c H1 locs1 (cells + mc) (slots + ms) Q (F0 m (pc + 3) ls (.int r :: rest))) : W p l e R s m args below meth c H locs cells slots Q (F0 m pc ls st) := by
  have hF := va_free hD hS hA isC hC
  refine va_calli hr hS (fun q _ h => hF q h) hF (fun r1 u t H1 locs1 ht hvm hw hB hz1 hk1 hS1 => ?_)
  obtain ⟨h1, h2⟩ := hB
  rw [ht] at h1
  obtain ⟨a1, a2⟩ := kj isC isR isN hP hD hC hR hn hdis hN hnN hk1 hF h1 h2
  subst hw
  exact kk H1 locs1 a1 a2 hS1
theorem kc_v {a : Array Value} (hr : va_Run p l e R s m args below meth c H locs cells slots mc ms (F0 m pc ls st) rest (QV G (va_A wi H.size) wo a) (va_A wi H.size)) (hP : va_P G.1 vwCl ws H) (hD : va_D A ws) (hS : va_S A H0 H locs) (hA : ∀ q, H0.size ≤ q → A q)
    (isC isR isN : List Nat) (hC : isC.map (fun i => ws[i]?) = wi.map some) (hR : isR.map (fun i => ws[i]?) = wr.map some) (hn : va_nd isR = true) (hdis : ∀ i ∈ isR, i ∉ isC) (hN : isN.map (fun i => (wr ++ wo)[i]?) = ws'.map some) (hnN : va_nd isN = true)
    (kk : ∀ (H1 : Heap) (locs1 : List Loc), va_P G.1 vwCl ws' H1 → va_D A ws' → va_S A H0 H1 locs1 → W p l e R s m args below meth c H1 locs1 (cells + mc) (slots + ms) Q (F0 m (pc + 3) ls rest)) : W p l e R s m args below meth c H locs cells slots Q (F0 m pc ls st) := by
  have hF := va_free hD hS hA isC hC
  refine va_callv hr hS (fun q _ h => hF q h) hF (fun u t H1 locs1 ht hvm hw hB hz1 hk1 hS1 => ?_)
  obtain ⟨h1, h2⟩ := hB
  rw [ht] at h1
  obtain ⟨a1, a2⟩ := kj isC isR isN hP hD hC hR hn hdis hN hnN hk1 hF h1 h2
  exact kk H1 locs1 a1 a2 hS1
/-- the callee has the caller's whole world -/
theorem ks_F (hD : va_D A ws) (hS : va_S A H0 H locs) (hA : ∀ q, H0.size ≤ q → A q) : ∀ q, va_A ws H.size q → A q := by
  intro q h
  rcases h with ⟨k, e, h⟩ | h
  · exact hD.2 k (q, e) h
  · exact hA q (Nat.le_trans hS.1 h)
theorem ks_i {r : Int32} {a : Array Value} (hr : va_Run p l e R s m args below meth c H locs cells slots mc ms (F0 m pc ls st) rest (QI G (va_A ws H.size) r wo a) (va_A ws H.size)) (hD : va_D A ws) (hS : va_S A H0 H locs) (hA : ∀ q, H0.size ≤ q → A q)
    (kk : ∀ (H1 : Heap) (locs1 : List Loc), va_P G.1 vwCl wo H1 → va_D A wo → va_S A H0 H1 locs1 → W p l e R s m args below meth c H1 locs1 (cells + mc) (slots + ms) Q (F0 m (pc + 3) ls (.int r :: rest))) : W p l e R s m args below meth c H locs cells slots Q (F0 m pc ls st) := by
  have hF := ks_F hD hS hA
  refine va_calli hr hS (fun q _ h => hF q h) hF (fun r1 u t H1 locs1 ht hvm hw hB hz1 hk1 hS1 => ?_)
  obtain ⟨h1, h2⟩ := hB
  rw [ht] at h1
  subst hw
  exact kk H1 locs1 h1 (h2.weaken (fun k q _ h => hF q.1 h)) hS1
theorem ks_v {a : Array Value} (hr : va_Run p l e R s m args below meth c H locs cells slots mc ms (F0 m pc ls st) rest (QV G (va_A ws H.size) wo a) (va_A ws H.size)) (hD : va_D A ws) (hS : va_S A H0 H locs) (hA : ∀ q, H0.size ≤ q → A q)
    (kk : ∀ (H1 : Heap) (locs1 : List Loc), va_P G.1 vwCl wo H1 → va_D A wo → va_S A H0 H1 locs1 → W p l e R s m args below meth c H1 locs1 (cells + mc) (slots + ms) Q (F0 m (pc + 3) ls rest)) : W p l e R s m args below meth c H locs cells slots Q (F0 m pc ls st) := by
  have hF := ks_F hD hS hA
  refine va_callv hr hS (fun q _ h => hF q h) hF (fun u t H1 locs1 ht hvm hw hB hz1 hk1 hS1 => ?_)
  obtain ⟨h1, h2⟩ := hB
  rw [ht] at h1
  exact kk H1 locs1 h1 (h2.weaken (fun k q _ h => hF q.1 h)) hS1
/-- the callee has no cells -/
theorem k0_P {D : va_G} {cl : List vw_C} : va_P D cl [] H := fun k q h => by cases h
theorem k0_D : va_D A [] := ⟨fun i j p q h => (by cases h), fun k q h => (by cases h)⟩
theorem k0_i {r : Int32} {a : Array Value} (hr : va_Run p l e R s m args below meth c H locs cells slots mc ms (F0 m pc ls st) rest (QI G (va_A [] H.size) r [] a) (va_A [] H.size)) (hP : va_P G.1 vwCl ws H) (hS : va_S A H0 H locs) (hA : ∀ q, H0.size ≤ q → A q)
    (kk : ∀ (H1 : Heap) (locs1 : List Loc), va_P G.1 vwCl ws H1 → va_S A H0 H1 locs1 → W p l e R s m args below meth c H1 locs1 (cells + mc) (slots + ms) Q (F0 m (pc + 3) ls (.int r :: rest))) : W p l e R s m args below meth c H locs cells slots Q (F0 m pc ls st) := by
  have hF : ∀ q, va_A [] H.size q → A q := by
    intro q h
    rcases h with ⟨k, e, h⟩ | h
    · cases h
    · exact hA q (Nat.le_trans hS.1 h)
  refine va_calli hr hS (fun q _ h => hF q h) hF (fun r1 u t H1 locs1 ht hvm hw hB hz1 hk1 hS1 => ?_)
  subst hw
  refine kk H1 locs1 (hP.kept fun k q hk => hk1 q.1 (hP k q hk).lt fun h => ?_) hS1
  rcases h with ⟨k, e, h⟩ | h
  · cases h
  · exact absurd (hP k q hk).lt (Nat.not_lt.mpr h)
theorem k0_v {a : Array Value} (hr : va_Run p l e R s m args below meth c H locs cells slots mc ms (F0 m pc ls st) rest (QV G (va_A [] H.size) [] a) (va_A [] H.size)) (hP : va_P G.1 vwCl ws H) (hS : va_S A H0 H locs) (hA : ∀ q, H0.size ≤ q → A q)
    (kk : ∀ (H1 : Heap) (locs1 : List Loc), va_P G.1 vwCl ws H1 → va_S A H0 H1 locs1 → W p l e R s m args below meth c H1 locs1 (cells + mc) (slots + ms) Q (F0 m (pc + 3) ls rest)) : W p l e R s m args below meth c H locs cells slots Q (F0 m pc ls st) := by
  have hF : ∀ q, va_A [] H.size q → A q := by
    intro q h
    rcases h with ⟨k, e, h⟩ | h
    · cases h
    · exact hA q (Nat.le_trans hS.1 h)
  refine va_callv hr hS (fun q _ h => hF q h) hF (fun u t H1 locs1 ht hvm hw hB hz1 hk1 hS1 => ?_)
  refine kk H1 locs1 (hP.kept fun k q hk => hk1 q.1 (hP k q hk).lt fun h => ?_) hS1
  rcases h with ⟨k, e, h⟩ | h
  · cases h
  · exact absurd (hP k q hk).lt (Nat.not_lt.mpr h)
end KB
/-! the mirrors: what a method computes, as a plain function; none: it would throw, or the fuel is out -/
def gd {α : Type} (i : Int32) (n : Nat) (k : Option α) : Option α := if i < 0 ∨ n ≤ i.toNatClampNeg then none else k
theorem gd_s {α : Type} {i : Int32} {n : Nat} {k : Option α} {r : α} (h : gd i n k = some r) : vp_in i n ∧ k = some r := by
  unfold gd at h
  by_cases hc : i < 0 ∨ n ≤ i.toNatClampNeg
  · rw [if_pos hc] at h; cases h
  · rw [if_neg hc] at h; exact ⟨hc, h⟩
/-- a condition that must hold -/
def gc {α : Type} (c : Prop) [Decidable c] (k : Option α) : Option α := if c then k else none
theorem gc_s {α : Type} {c : Prop} [Decidable c] {k : Option α} {r : α} (h : gc c k = some r) : c ∧ k = some r := by
  unfold gc at h
  by_cases hc : c
  · rw [if_pos hc] at h; exact ⟨hc, h⟩
  · rw [if_neg hc] at h; cases h
theorem it_t {α : Type} {c : Prop} [Decidable c] {a b : Option α} {r : α} (h : c) (hm : (if c then a else b) = some r) : a = some r := by rwa [if_pos h] at hm
theorem it_f {α : Type} {c : Prop} [Decidable c] {a b : Option α} {r : α} (h : ¬ c) (hm : (if c then a else b) = some r) : b = some r := by rwa [if_neg h] at hm
theorem bd_s {α β : Type} {x : Option α} {f : α → Option β} {r : β} (h : x.bind f = some r) : ∃ a, x = some a ∧ f a = some r := by
  cases x with
  | none => cases h
  | some a => exact ⟨a, rfl, h⟩

