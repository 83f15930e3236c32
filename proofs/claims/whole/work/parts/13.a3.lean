def M_X1_markable (mkd : Int32) (un : Int32) (p1 : Int32) : Option (Int32) :=
  some ((p1 &&& (mkd ^^^ (-1))) &&& (un ^^^ (-1)))
theorem w0_X1_markable : Cond.fieldLink RX1 21 "WeakTableHeap$Marking" "marked" "I" ∈ wsX1_markable := by decide +kernel
theorem w1_X1_markable : ∀ w ∈ u_ws RX1 TX1 4, w ∈ wsX1_markable := by decide +kernel
theorem w2_X1_markable : Cond.fieldLink RX1 25 "WeakTableHeap$Marking" "unmarkable" "I" ∈ wsX1_markable := by decide +kernel
abbrev rm_X1_markable : Room := { frames := 0, cells := 0, slots := 0, locals := 0 }
set_option maxHeartbeats 4000000 in
set_option maxRecDepth 100000 in
theorem c_X1_markable (l : Launch) (G : GG) (k : Nat → Nat) (rd : Nat → Int32) (mkd : Int32) (lr : Int32) (un : Int32) (p1 : Int32) (q : Int32) (hm : M_X1_markable mkd un p1 = some q) : CTi l yX1_markable wsX1_markable rm_X1_markable G [.ref (k 0), .int p1] (wMK G.2.1 k rd mkd lr un) q (wMK G.2.1 k rd mkd lr un) := by
  intro sz
  refine mk_body (Qc := fun A => (QI G A q (wMK G.2.1 k rd mkd lr un))) (cc := cX1_markable) (maxL := 2) (ret := (some .int)) (lv := [(0, .ref (k 0)), (1, .int p1)]) (by decide) rfl rfl (Nat.le_of_ble_eq_true rfl) ?_
  intro p e s m args below meth c A H locs ls hF hr hlocks hname hK hA hP hD hS hl
  obtain ⟨hx, hb, hml, hown, hts⟩ := id hF
  unfold M_X1_markable at hm
  refine lv_iload_n hx hb dX1_markable_0 rfl (lv_at hl 1 rfl) ?_
  refine lv_aload_n hx hb dX1_markable_1 rfl (lv_at hl 0 rfl) ?_
  refine va_get (D := G.1) (ci := 1) (v := .int mkd) (C := RX1) (T := TX1) (N := 4) hx hb hts w1_X1_markable hown hK.1 hP 0 rfl rfl 1 (by decide) (hts _ w0_X1_markable) (fun _ h9 => h9) rfl dX1_markable_2 ?_
  refine lv_iconst (v := (-1)) hx hb dX1_markable_5 (by decide) ?_
  refine lv_ixor hx hb dX1_markable_6 ?_
  refine lv_iand hx hb dX1_markable_7 ?_
  refine lv_aload_n hx hb dX1_markable_8 rfl (lv_at hl 0 rfl) ?_
  refine va_get (D := G.1) (ci := 1) (v := .int un) (C := RX1) (T := TX1) (N := 4) hx hb hts w1_X1_markable hown hK.1 hP 0 rfl rfl 3 (by decide) (hts _ w2_X1_markable) (fun _ h9 => h9) rfl dX1_markable_9 ?_
  refine lv_iconst (v := (-1)) hx hb dX1_markable_12 (by decide) ?_
  refine lv_ixor hx hb dX1_markable_13 ?_
  refine lv_iand hx hb dX1_markable_14 ?_
  cases hm
  exact rt_i hx hb hr hlocks hP hD hS dX1_markable_15
def M_X1_number_L2 (u2_1 : Int32) (lr : Int32) : Nat → (Int32) → (Nat → Int32) → Option ((Nat → Int32))
  | 0, _, _ => none
  | n2 + 1, v2_2, rd2_ => if 24 ≤ v2_2 then (some rd2_) else ((M_X4_contains u2_1 v2_2).bind fun q202 => if q202 = 0 then (M_X1_number_L2 u2_1 lr n2 (v2_2 + 1) rd2_) else (gd v2_2 24 (M_X1_number_L2 u2_1 lr n2 (v2_2 + 1) (upd rd2_ v2_2.toNatClampNeg lr))))
def M_X1_number (N : Nat) (rd : Nat → Int32) (lr : Int32) (p1 : Int32) : Option ((Nat → Int32)) :=
  M_X1_number_L2 p1 lr N 0 rd
theorem w0_X1_number : Cond.initialized RX4 ∈ wsX1_number := by decide +kernel
theorem w1_X1_number : Cond.static yX4_contains ∈ wsX1_number := by decide +kernel
theorem w2_X1_number : Cond.fieldLink RX1 9 "WeakTableHeap$Marking" "rounds" "[I" ∈ wsX1_number := by decide +kernel
theorem w3_X1_number : ∀ w ∈ u_ws RX1 TX1 4, w ∈ wsX1_number := by decide +kernel
theorem w4_X1_number : Cond.fieldLink RX1 28 "WeakTableHeap$Marking" "lastRound" "I" ∈ wsX1_number := by decide +kernel
abbrev rm_X1_number : Room := { frames := 2, cells := 0, slots := 0, locals := 41 }
set_option maxHeartbeats 4000000 in
set_option maxRecDepth 100000 in
theorem c_X1_number (l : Launch) (G : GG) (N : Nat) (k : Nat → Nat) (rd : Nat → Int32) (mkd : Int32) (lr : Int32) (un : Int32) (p1 : Int32) (q : (Nat → Int32)) (hm : M_X1_number N rd lr p1 = some q) : CTv l yX1_number wsX1_number rm_X1_number G [.ref (k 0), .int p1] (wMK G.2.1 k rd mkd lr un) (wMK G.2.1 k q mkd lr un) := by
  intro sz
  refine mk_body (Qc := fun A => (QV G A (wMK G.2.1 k q mkd lr un))) (cc := cX1_number) (maxL := 3) (ret := none) (lv := [(0, .ref (k 0)), (1, .int p1)]) (by decide) rfl rfl (Nat.le_of_ble_eq_true rfl) ?_
  intro p e s m args below meth c A H locs ls hF hr hlocks hname hK hA hP hD hS hl
  obtain ⟨hx, hb, hml, hown, hts⟩ := id hF
  unfold M_X1_number at hm
  refine lv_iconst (v := 0) hx hb dX1_number_0 (by decide) ?_
  refine lv_istore_n (lv' := [(2, .int 0), (0, .ref (k 0)), (1, .int p1)]) hx hb dX1_number_1 rfl hl (by decide) rfl (fun ls hl => ?_)
  have L2 : ∀ (u2_1 : Int32) (n2 : Nat) (v2_2 : Int32) (rd2_ : Nat → Int32), M_X1_number_L2 u2_1 lr n2 v2_2 rd2_ = some q → ∀ (H : Heap) (locs : List Loc) (ls : Array Slot), va_P G.1 vwCl (wMK G.2.1 k rd2_ mkd lr un) H → va_D A (wMK G.2.1 k rd2_ mkd lr un) → va_S A s.heap H locs → lv_has ls 3 [(0, .ref (k 0)), (1, .int u2_1), (2, .int v2_2)] → W p l e rm_X1_number s m args below meth c H locs 0 0 (MQ below (QV G A (wMK G.2.1 k q mkd lr un)) args s rm_X1_number.cells rm_X1_number.slots A) (F0 m 2 ls []) := by
    intro u2_1 n2
    induction n2 with
    | zero => intro v2_2 rd2_ hm; cases hm
    | succ n2 ih2 =>
      intro v2_2 rd2_ hm H locs ls hP hD hS hl
      rw [M_X1_number_L2] at hm
      refine lv_iload_n hx hb dX1_number_2 rfl (lv_at hl 2 rfl) ?_
      refine lv_bipush (v := 24) hx hb dX1_number_3 (by decide) ?_
      refine lv_icmp_ge (tgt := 32) hx hb dX1_number_5 (by decide) (fun c201 => ?_) (fun c201 => ?_)
      · replace hm := it_t c201 hm
        cases hm
        exact rt_v hx hb hr hlocks hP hD hS dX1_number_32
      · replace hm := it_f c201 hm
        refine lv_iload_n hx hb dX1_number_8 rfl (lv_at hl 1 rfl) ?_
        refine lv_iload_n hx hb dX1_number_9 rfl (lv_at hl 2 rfl) ?_
        obtain ⟨q202, hc203, hm⟩ := bd_s hm
        refine k0_i (ws := (wMK G.2.1 k rd2_ mkd lr un)) (rSN (As := [.int u2_1, .int v2_2]) (rest := []) (wi := ([] : va_W)) hF hK k0_P (k0_D (A := A)) (c_X4_contains l G u2_1 v2_2 q202 hc203 H.size) ⟨va_cnB 2 hts gX1_number_X4_contains_n52 rfl rfl rfl (nw_RX1_52 hK) (hts _ w0_X1_number) (by decide +kernel) ⟨Nat.le_of_ble_eq_true rfl, Nat.le_of_ble_eq_true rfl⟩, hts _ w1_X1_number, trivial⟩ rfl hl.1 rfl (Nat.le_of_ble_eq_true rfl) dX1_number_10 ⟨Nat.le_of_ble_eq_true rfl, Nat.le_of_ble_eq_true rfl⟩) hP hS hA (fun H locs hP hS => ?_)
        refine lv_if_eq (tgt := 26) hx hb dX1_number_13 (by decide) (fun c204 => ?_) (fun c204 => ?_)
        · replace hm := it_t c204 hm
          refine lv_iinc (v := (v2_2 + 1)) (lv' := [(2, .int (v2_2 + 1)), (0, .ref (k 0)), (1, .int u2_1)]) hx hb dX1_number_26 hl (k := 2) rfl rfl (by decide) rfl (fun ls hl => ?_)
          refine lv_goto (tgt := 2) hx hb dX1_number_29 (by decide) ?_
          exact ih2 (v2_2 + 1) rd2_ hm _ _ _ hP hD hS (lv_sub hl [1, 2, 0] rfl)
        · replace hm := it_f c204 hm
          refine lv_aload_n hx hb dX1_number_16 rfl (lv_at hl 0 rfl) ?_
          refine va_get (D := G.1) (ci := 1) (v := .ref (k 1)) (C := RX1) (T := TX1) (N := 4) hx hb hts w3_X1_number hown hK.1 hP 0 rfl rfl 0 (by decide) (hts _ w2_X1_number) (fun _ h9 => h9) rfl dX1_number_17 ?_
          refine lv_iload_n hx hb dX1_number_20 rfl (lv_at hl 2 rfl) ?_
          refine lv_aload_n hx hb dX1_number_21 rfl (lv_at hl 0 rfl) ?_
          refine va_get (D := G.1) (ci := 1) (v := .int lr) (C := RX1) (T := TX1) (N := 4) hx hb hts w3_X1_number hown hK.1 hP 0 rfl rfl 2 (by decide) (hts _ w4_X1_number) (fun _ h9 => h9) rfl dX1_number_22 ?_
          obtain ⟨hi205, hm⟩ := gd_s hm
          refine va_iast hx hb hK.1 hP hD hS 1 0 rfl rfl hi205 dX1_number_25 (fun H locs hP hD hS => ?_)
          have hP : va_P G.1 vwCl (wMK G.2.1 k (upd rd2_ v2_2.toNatClampNeg lr) mkd lr un) H := hP
          have hD : va_D A (wMK G.2.1 k (upd rd2_ v2_2.toNatClampNeg lr) mkd lr un) := hD
          refine lv_iinc (v := (v2_2 + 1)) (lv' := [(2, .int (v2_2 + 1)), (0, .ref (k 0)), (1, .int u2_1)]) hx hb dX1_number_26 hl (k := 2) rfl rfl (by decide) rfl (fun ls hl => ?_)
          refine lv_goto (tgt := 2) hx hb dX1_number_29 (by decide) ?_
          exact ih2 (v2_2 + 1) (upd rd2_ v2_2.toNatClampNeg lr) hm _ _ _ hP hD hS (lv_sub hl [1, 2, 0] rfl)
  exact L2 p1 N 0 rd hm _ _ _ hP hD hS (lv_sub hl [1, 2, 0] rfl)
def M_X1_markWithFields_L9 (N : Nat) (lr : Int32) (un : Int32) (fi : Nat → Int32) : Nat → (Int32) → (Int32) → (Nat → Int32) → (Int32) → Option ((Nat → Int32) × Int32)
  | 0, _, _, _, _ => none
  | n9 + 1, v9_3, v9_4, rd9_, mkd9_ => if 24 ≤ v9_4 then (some (rd9_, mkd9_)) else (if v9_3 = 0 then (some (rd9_, mkd9_)) else ((M_X1_number N rd9_ lr v9_3).bind fun q903 => (M_X3_fieldTargets N fi v9_3).bind fun q905 => (M_X1_markable (mkd9_ ||| v9_3) un q905).bind fun q907 => M_X1_markWithFields_L9 N lr un fi n9 q907 (v9_4 + 1) q903 (mkd9_ ||| v9_3)))
def M_X1_markWithFields (N : Nat) (rd : Nat → Int32) (mkd : Int32) (lr : Int32) (un : Int32) (fi : Nat → Int32) (p2 : Int32) : Option ((Nat → Int32) × Int32) :=
  (M_X1_markable mkd un p2).bind fun q1 => M_X1_markWithFields_L9 N lr un fi N q1 0 rd mkd
theorem w0_X1_markWithFields : Cond.fieldLink RX1 21 "WeakTableHeap$Marking" "marked" "I" ∈ wsX1_markWithFields := by decide +kernel
theorem w1_X1_markWithFields : ∀ w ∈ u_ws RX1 TX1 4, w ∈ wsX1_markWithFields := by decide +kernel
abbrev rm_X1_markWithFields : Room := { frames := 3, cells := 0, slots := 0, locals := 66 }
set_option maxHeartbeats 4000000 in
set_option maxRecDepth 100000 in
theorem c_X1_markWithFields (l : Launch) (G : GG) (N : Nat) (k : Nat → Nat) (a : Nat → Nat) (rd : Nat → Int32) (mkd : Int32) (lr : Int32) (un : Int32) (ki : Nat → Int32) (fi : Nat → Int32) (ke : Nat → Int32) (va : Nat → Int32) (ta : Nat → Int32) (ro : Nat → Int32) (qu : Nat → Int32) (nsz : Int32) (fin : Int32) (rnd : Int32) (p2 : Int32) (q : (Nat → Int32) × Int32) (hm : M_X1_markWithFields N rd mkd lr un fi p2 = some q) : CTv l yX1_markWithFields wsX1_markWithFields rm_X1_markWithFields G [.ref (k 0), .ref (a 0), .int p2] (wMK G.2.1 k rd mkd lr un ++ wST G.2.1 a ki fi ke va ta ro qu nsz fin rnd) (wMK G.2.1 k q.1 q.2 lr un ++ wST G.2.1 a ki fi ke va ta ro qu nsz fin rnd) := by
  intro sz
  refine mk_body (Qc := fun A => (QV G A (wMK G.2.1 k q.1 q.2 lr un ++ wST G.2.1 a ki fi ke va ta ro qu nsz fin rnd))) (cc := cX1_markWithFields) (maxL := 5) (ret := none) (lv := [(0, .ref (k 0)), (1, .ref (a 0)), (2, .int p2)]) (by decide) rfl rfl (Nat.le_of_ble_eq_true rfl) ?_
  intro p e s m args below meth c A H locs ls hF hr hlocks hname hK hA hP hD hS hl
  obtain ⟨hx, hb, hml, hown, hts⟩ := id hF
  unfold M_X1_markWithFields at hm
  refine lv_aload_n hx hb dX1_markWithFields_0 rfl (lv_at hl 0 rfl) ?_
  refine lv_iload_n hx hb dX1_markWithFields_1 rfl (lv_at hl 2 rfl) ?_
  obtain ⟨q1, hc2, hm⟩ := bd_s hm
  refine kc_i (wi := (wMK G.2.1 k rd mkd lr un)) (wo := (wMK G.2.1 k rd mkd lr un)) (wr := [((a 0), .inr (3, [.ref (a 1), .ref (a 2), .ref (a 3), .ref (a 4), .ref (a 5), .ref (a 6), .ref (a 7), .int fin, .int rnd])), ((a 1), .inl (G.2.1, 24, .inl ki)), ((a 2), .inl (G.2.1, 72, .inl fi)), ((a 3), .inl (G.2.1, 144, .inl ke)), ((a 4), .inl (G.2.1, 144, .inl va)), ((a 5), .inl (G.2.1, 24, .inl ta)), ((a 6), .inl (G.2.1, 6, .inl ro)), ((a 7), .inr (2, [.ref (a 8), .int nsz])), ((a 8), .inl (G.2.1, 20, .inl qu))]) (ws' := (wMK G.2.1 k rd mkd lr un ++ wST G.2.1 a ki fi ke va ta ro qu nsz fin rnd)) (rV (As := [.int p2]) (rest := []) (b := (k 0)) (wi := (wMK G.2.1 k rd mkd lr un)) hF hK (hP.sub [0, 1] rfl) (hD.sub [0, 1] rfl rfl) (c_X1_markable l G k rd mkd lr un p2 q1 hc2 H.size) (cwV 1 hts gX1_markWithFields_X1_markable rfl rfl rfl (by decide +kernel) ⟨Nat.le_of_ble_eq_true rfl, Nat.le_of_ble_eq_true rfl⟩) (va_recv hK.1 hP (ci := 1) (q0 := 0) rfl rfl) rfl hl.1 rfl (Nat.le_of_ble_eq_true rfl) dX1_markWithFields_2 ⟨Nat.le_of_ble_eq_true rfl, Nat.le_of_ble_eq_true rfl⟩) hP hD hS hA [0, 1] [2, 3, 4, 5, 6, 7, 8, 9, 10] [9, 10, 0, 1, 2, 3, 4, 5, 6, 7, 8] rfl rfl rfl (by decide) rfl rfl (fun H locs hP hD hS => ?_)
  refine lv_istore_n (lv' := [(3, .int q1), (0, .ref (k 0)), (1, .ref (a 0)), (2, .int p2)]) hx hb dX1_markWithFields_5 rfl hl (by decide) rfl (fun ls hl => ?_)
  refine lv_iconst (v := 0) hx hb dX1_markWithFields_6 (by decide) ?_
  refine lv_istore (lv' := [(4, .int 0), (3, .int q1), (0, .ref (k 0)), (1, .ref (a 0)), (2, .int p2)]) hx hb dX1_markWithFields_7 hl (by decide) rfl (fun ls hl => ?_)
  have L9 : ∀ (u9_2 : Int32) (n9 : Nat) (v9_3 : Int32) (v9_4 : Int32) (rd9_ : Nat → Int32) (mkd9_ : Int32), M_X1_markWithFields_L9 N lr un fi n9 v9_3 v9_4 rd9_ mkd9_ = some q → ∀ (H : Heap) (locs : List Loc) (ls : Array Slot), va_P G.1 vwCl (wMK G.2.1 k rd9_ mkd9_ lr un ++ wST G.2.1 a ki fi ke va ta ro qu nsz fin rnd) H → va_D A (wMK G.2.1 k rd9_ mkd9_ lr un ++ wST G.2.1 a ki fi ke va ta ro qu nsz fin rnd) → va_S A s.heap H locs → lv_has ls 5 [(0, .ref (k 0)), (1, .ref (a 0)), (2, .int u9_2), (3, .int v9_3), (4, .int v9_4)] → W p l e rm_X1_markWithFields s m args below meth c H locs 0 0 (MQ below (QV G A (wMK G.2.1 k q.1 q.2 lr un ++ wST G.2.1 a ki fi ke va ta ro qu nsz fin rnd)) args s rm_X1_markWithFields.cells rm_X1_markWithFields.slots A) (F0 m 9 ls []) := by
    intro u9_2 n9
    induction n9 with
    | zero => intro v9_3 v9_4 rd9_ mkd9_ hm; cases hm
    | succ n9 ih9 =>
      intro v9_3 v9_4 rd9_ mkd9_ hm H locs ls hP hD hS hl
      rw [M_X1_markWithFields_L9] at hm
      refine lv_iload hx hb dX1_markWithFields_9 (lv_at hl 4 rfl) ?_
      refine lv_bipush (v := 24) hx hb dX1_markWithFields_11 (by decide) ?_
      refine lv_icmp_ge (tgt := 51) hx hb dX1_markWithFields_13 (by decide) (fun c901 => ?_) (fun c901 => ?_)
      · replace hm := it_t c901 hm
        cases hm
        exact rt_v hx hb hr hlocks hP hD hS dX1_markWithFields_51
      · replace hm := it_f c901 hm
        refine lv_iload_n hx hb dX1_markWithFields_16 rfl (lv_at hl 3 rfl) ?_
        refine lv_if_eq (tgt := 51) hx hb dX1_markWithFields_17 (by decide) (fun c902 => ?_) (fun c902 => ?_)
        · replace hm := it_t c902 hm
          cases hm
          exact rt_v hx hb hr hlocks hP hD hS dX1_markWithFields_51
        · replace hm := it_f c902 hm
          refine lv_aload_n hx hb dX1_markWithFields_20 rfl (lv_at hl 0 rfl) ?_
          refine lv_iload_n hx hb dX1_markWithFields_21 rfl (lv_at hl 3 rfl) ?_
          obtain ⟨q903, hc904, hm⟩ := bd_s hm
          refine kc_v (wi := (wMK G.2.1 k rd9_ mkd9_ lr un)) (wo := (wMK G.2.1 k q903 mkd9_ lr un)) (wr := [((a 0), .inr (3, [.ref (a 1), .ref (a 2), .ref (a 3), .ref (a 4), .ref (a 5), .ref (a 6), .ref (a 7), .int fin, .int rnd])), ((a 1), .inl (G.2.1, 24, .inl ki)), ((a 2), .inl (G.2.1, 72, .inl fi)), ((a 3), .inl (G.2.1, 144, .inl ke)), ((a 4), .inl (G.2.1, 144, .inl va)), ((a 5), .inl (G.2.1, 24, .inl ta)), ((a 6), .inl (G.2.1, 6, .inl ro)), ((a 7), .inr (2, [.ref (a 8), .int nsz])), ((a 8), .inl (G.2.1, 20, .inl qu))]) (ws' := (wMK G.2.1 k q903 mkd9_ lr un ++ wST G.2.1 a ki fi ke va ta ro qu nsz fin rnd)) (rV (As := [.int v9_3]) (rest := []) (b := (k 0)) (wi := (wMK G.2.1 k rd9_ mkd9_ lr un)) hF hK (hP.sub [0, 1] rfl) (hD.sub [0, 1] rfl rfl) (c_X1_number l G N k rd9_ mkd9_ lr un v9_3 q903 hc904 H.size) (cwV 1 hts gX1_markWithFields_X1_number rfl rfl rfl (by decide +kernel) ⟨Nat.le_of_ble_eq_true rfl, Nat.le_of_ble_eq_true rfl⟩) (va_recv hK.1 hP (ci := 1) (q0 := 0) rfl rfl) rfl hl.1 rfl (Nat.le_of_ble_eq_true rfl) dX1_markWithFields_22 ⟨Nat.le_of_ble_eq_true rfl, Nat.le_of_ble_eq_true rfl⟩) hP hD hS hA [0, 1] [2, 3, 4, 5, 6, 7, 8, 9, 10] [9, 10, 0, 1, 2, 3, 4, 5, 6, 7, 8] rfl rfl rfl (by decide) rfl rfl (fun H locs hP hD hS => ?_)
          refine lv_aload_n hx hb dX1_markWithFields_25 rfl (lv_at hl 0 rfl) ?_
          refine lv_dup hx hb dX1_markWithFields_26 rfl ?_
          refine va_get (D := G.1) (ci := 1) (v := .int mkd9_) (C := RX1) (T := TX1) (N := 4) hx hb hts w1_X1_markWithFields hown hK.1 hP 0 rfl rfl 1 (by decide) (hts _ w0_X1_markWithFields) (fun _ h9 => h9) rfl dX1_markWithFields_27 ?_
          refine lv_iload_n hx hb dX1_markWithFields_30 rfl (lv_at hl 3 rfl) ?_
          refine lv_ior hx hb dX1_markWithFields_31 ?_
          refine va_put (D := G.1) (ci := 1) (v := .int (mkd9_ ||| v9_3)) (ty := .int) (C := RX1) (T := TX1) (N := 4) hx hb hts w1_X1_markWithFields tyX1 tyX1_ok nmX1 hown hK.1 hP hD hS 0 rfl rfl 1 (by decide) (hts _ w0_X1_markWithFields) (fun _ h9 => h9) rfl (by decide +kernel) rfl rfl (Nat.le_of_ble_eq_true rfl) dX1_markWithFields_32 (fun H locs hP hD hS => ?_)
          have hP : va_P G.1 vwCl (wMK G.2.1 k q903 (mkd9_ ||| v9_3) lr un ++ wST G.2.1 a ki fi ke va ta ro qu nsz fin rnd) H := hP
          have hD : va_D A (wMK G.2.1 k q903 (mkd9_ ||| v9_3) lr un ++ wST G.2.1 a ki fi ke va ta ro qu nsz fin rnd) := hD
          refine lv_aload_n hx hb dX1_markWithFields_35 rfl (lv_at hl 0 rfl) ?_
          refine lv_aload_n hx hb dX1_markWithFields_36 rfl (lv_at hl 1 rfl) ?_
          refine lv_iload_n hx hb dX1_markWithFields_37 rfl (lv_at hl 3 rfl) ?_
          obtain ⟨q905, hc906, hm⟩ := bd_s hm
          refine kc_i (wi := (wST G.2.1 a ki fi ke va ta ro qu nsz fin rnd)) (wo := (wST G.2.1 a ki fi ke va ta ro qu nsz fin rnd)) (wr := [((k 0), .inr (1, [.ref (k 1), .int (mkd9_ ||| v9_3), .int lr, .int un])), ((k 1), .inl (G.2.1, 24, .inl q903))]) (ws' := (wMK G.2.1 k q903 (mkd9_ ||| v9_3) lr un ++ wST G.2.1 a ki fi ke va ta ro qu nsz fin rnd)) (rV (As := [.int v9_3]) (rest := [.ref (k 0)]) (b := (a 0)) (wi := (wST G.2.1 a ki fi ke va ta ro qu nsz fin rnd)) hF hK (hP.sub [2, 3, 4, 5, 6, 7, 8, 9, 10] rfl) (hD.sub [2, 3, 4, 5, 6, 7, 8, 9, 10] rfl rfl) (c_X3_fieldTargets l G N a ki fi ke va ta ro qu nsz fin rnd v9_3 q905 hc906 H.size) (cwV 1 hts gX1_markWithFields_X3_fieldTargets rfl rfl rfl (by decide +kernel) ⟨Nat.le_of_ble_eq_true rfl, Nat.le_of_ble_eq_true rfl⟩) (va_recv hK.1 hP (ci := 3) (q0 := 2) rfl rfl) rfl hl.1 rfl (Nat.le_of_ble_eq_true rfl) dX1_markWithFields_38 ⟨Nat.le_of_ble_eq_true rfl, Nat.le_of_ble_eq_true rfl⟩) hP hD hS hA [2, 3, 4, 5, 6, 7, 8, 9, 10] [0, 1] [0, 1, 2, 3, 4, 5, 6, 7, 8, 9, 10] rfl rfl rfl (by decide) rfl rfl (fun H locs hP hD hS => ?_)
          obtain ⟨q907, hc908, hm⟩ := bd_s hm
          refine kc_i (wi := (wMK G.2.1 k q903 (mkd9_ ||| v9_3) lr un)) (wo := (wMK G.2.1 k q903 (mkd9_ ||| v9_3) lr un)) (wr := [((a 0), .inr (3, [.ref (a 1), .ref (a 2), .ref (a 3), .ref (a 4), .ref (a 5), .ref (a 6), .ref (a 7), .int fin, .int rnd])), ((a 1), .inl (G.2.1, 24, .inl ki)), ((a 2), .inl (G.2.1, 72, .inl fi)), ((a 3), .inl (G.2.1, 144, .inl ke)), ((a 4), .inl (G.2.1, 144, .inl va)), ((a 5), .inl (G.2.1, 24, .inl ta)), ((a 6), .inl (G.2.1, 6, .inl ro)), ((a 7), .inr (2, [.ref (a 8), .int nsz])), ((a 8), .inl (G.2.1, 20, .inl qu))]) (ws' := (wMK G.2.1 k q903 (mkd9_ ||| v9_3) lr un ++ wST G.2.1 a ki fi ke va ta ro qu nsz fin rnd)) (rV (As := [.int q905]) (rest := []) (b := (k 0)) (wi := (wMK G.2.1 k q903 (mkd9_ ||| v9_3) lr un)) hF hK (hP.sub [0, 1] rfl) (hD.sub [0, 1] rfl rfl) (c_X1_markable l G k q903 (mkd9_ ||| v9_3) lr un q905 q907 hc908 H.size) (cwV 1 hts gX1_markWithFields_X1_markable rfl rfl rfl (by decide +kernel) ⟨Nat.le_of_ble_eq_true rfl, Nat.le_of_ble_eq_true rfl⟩) (va_recv hK.1 hP (ci := 1) (q0 := 0) rfl rfl) rfl hl.1 rfl (Nat.le_of_ble_eq_true rfl) dX1_markWithFields_41 ⟨Nat.le_of_ble_eq_true rfl, Nat.le_of_ble_eq_true rfl⟩) hP hD hS hA [0, 1] [2, 3, 4, 5, 6, 7, 8, 9, 10] [9, 10, 0, 1, 2, 3, 4, 5, 6, 7, 8] rfl rfl rfl (by decide) rfl rfl (fun H locs hP hD hS => ?_)
          refine lv_istore_n (lv' := [(3, .int q907), (0, .ref (k 0)), (1, .ref (a 0)), (2, .int u9_2), (4, .int v9_4)]) hx hb dX1_markWithFields_44 rfl hl (by decide) rfl (fun ls hl => ?_)
          refine lv_iinc (v := (v9_4 + 1)) (lv' := [(4, .int (v9_4 + 1)), (3, .int q907), (0, .ref (k 0)), (1, .ref (a 0)), (2, .int u9_2)]) hx hb dX1_markWithFields_45 hl (k := 4) rfl rfl (by decide) rfl (fun ls hl => ?_)
          refine lv_goto (tgt := 9) hx hb dX1_markWithFields_48 (by decide) ?_
          exact ih9 q907 (v9_4 + 1) q903 (mkd9_ ||| v9_3) hm _ _ _ hP hD hS (lv_sub hl [2, 3, 4, 1, 0] rfl)
  exact L9 p2 N q1 0 rd mkd hm _ _ _ hP hD hS (lv_sub hl [2, 3, 4, 1, 0] rfl)
def M_X1_run_L33 (N : Nat) (un33u : Int32) (fi : Nat → Int32) (ke : Nat → Int32) (va : Nat → Int32) : Nat → (Int32) → (Nat → Int32) → (Int32) → (Int32) → Option ((Nat → Int32) × Int32 × Int32 × Int32)
  | 0, _, _, _, _ => none
  | n33 + 1, v33_4, rd33_, mkd33_, lr33_ => if 24 < v33_4 then (some (rd33_, mkd33_, lr33_, un33u)) else ((M_X3_valuesOfEntries N ke va mkd33_ mkd33_).bind fun q3302 => (M_X1_markable mkd33_ un33u q3302).bind fun q3304 => if q3304 = 0 then (some (rd33_, mkd33_, lr33_, un33u)) else ((M_X1_markWithFields N rd33_ mkd33_ v33_4 un33u fi q3304).bind fun q3307 => M_X1_run_L33 N un33u fi ke va n33 (v33_4 + 1) q3307.1 q3307.2 v33_4))
def M_X1_run (N : Nat) (rd : Nat → Int32) (fi : Nat → Int32) (ke : Nat → Int32) (va : Nat → Int32) (p2 : Int32) (p3 : Int32) : Option ((Nat → Int32) × Int32 × Int32 × Int32) :=
  (M_J7_fill_53178 N 24 rd (-9)).bind fun q1 => (M_X1_markWithFields N q1 0 0 p3 fi p2).bind fun q3 => M_X1_run_L33 N p3 fi ke va N 1 q3.1 q3.2 0
theorem w0_X1_run : Cond.fieldLink RX1 9 "WeakTableHeap$Marking" "rounds" "[I" ∈ wsX1_run := by decide +kernel
theorem w1_X1_run : ∀ w ∈ u_ws RX1 TX1 4, w ∈ wsX1_run := by decide +kernel
theorem w2_X1_run : Cond.fieldLink RX1 21 "WeakTableHeap$Marking" "marked" "I" ∈ wsX1_run := by decide +kernel
theorem w3_X1_run : Cond.fieldLink RX1 25 "WeakTableHeap$Marking" "unmarkable" "I" ∈ wsX1_run := by decide +kernel
theorem w4_X1_run : Cond.fieldLink RX1 28 "WeakTableHeap$Marking" "lastRound" "I" ∈ wsX1_run := by decide +kernel
abbrev rm_X1_run : Room := { frames := 4, cells := 0, slots := 0, locals := 90 }
set_option maxHeartbeats 4000000 in
set_option maxRecDepth 100000 in
theorem c_X1_run (l : Launch) (G : GG) (N : Nat) (k : Nat → Nat) (a : Nat → Nat) (rd : Nat → Int32) (mkd : Int32) (lr : Int32) (un : Int32) (ki : Nat → Int32) (fi : Nat → Int32) (ke : Nat → Int32) (va : Nat → Int32) (ta : Nat → Int32) (ro : Nat → Int32) (qu : Nat → Int32) (nsz : Int32) (fin : Int32) (rnd : Int32) (p2 : Int32) (p3 : Int32) (q : (Nat → Int32) × Int32 × Int32 × Int32) (hm : M_X1_run N rd fi ke va p2 p3 = some q) : CTv l yX1_run wsX1_run rm_X1_run G [.ref (k 0), .ref (a 0), .int p2, .int p3] (wMK G.2.1 k rd mkd lr un ++ wST G.2.1 a ki fi ke va ta ro qu nsz fin rnd) (wMK G.2.1 k q.1 q.2.1 q.2.2.1 q.2.2.2 ++ wST G.2.1 a ki fi ke va ta ro qu nsz fin rnd) := by
  intro sz
  refine mk_body (Qc := fun A => (QV G A (wMK G.2.1 k q.1 q.2.1 q.2.2.1 q.2.2.2 ++ wST G.2.1 a ki fi ke va ta ro qu nsz fin rnd))) (cc := cX1_run) (maxL := 6) (ret := none) (lv := [(0, .ref (k 0)), (1, .ref (a 0)), (2, .int p2), (3, .int p3)]) (by decide) rfl rfl (Nat.le_of_ble_eq_true rfl) ?_
  intro p e s m args below meth c A H locs ls hF hr hlocks hname hK hA hP hD hS hl
  obtain ⟨hx, hb, hml, hown, hts⟩ := id hF
  unfold M_X1_run at hm
  refine lv_aload_n hx hb dX1_run_0 rfl (lv_at hl 0 rfl) ?_
  refine va_get (D := G.1) (ci := 1) (v := .ref (k 1)) (C := RX1) (T := TX1) (N := 4) hx hb hts w1_X1_run hown hK.1 hP 0 rfl rfl 0 (by decide) (hts _ w0_X1_run) (fun _ h9 => h9) rfl dX1_run_1 ?_
  refine lv_bipush (v := (-9)) hx hb dX1_run_4 (by decide) ?_
  obtain ⟨q1, hc2, hm⟩ := bd_s hm
  refine kc_v (wi := [((k 1), .inl (G.2.1, 24, .inl rd))]) (wo := [((k 1), .inl (G.2.1, 24, .inl q1))]) (wr := [((k 0), .inr (1, [.ref (k 1), .int mkd, .int lr, .int un])), ((a 0), .inr (3, [.ref (a 1), .ref (a 2), .ref (a 3), .ref (a 4), .ref (a 5), .ref (a 6), .ref (a 7), .int fin, .int rnd])), ((a 1), .inl (G.2.1, 24, .inl ki)), ((a 2), .inl (G.2.1, 72, .inl fi)), ((a 3), .inl (G.2.1, 144, .inl ke)), ((a 4), .inl (G.2.1, 144, .inl va)), ((a 5), .inl (G.2.1, 24, .inl ta)), ((a 6), .inl (G.2.1, 6, .inl ro)), ((a 7), .inr (2, [.ref (a 8), .int nsz])), ((a 8), .inl (G.2.1, 20, .inl qu))]) (ws' := (wMK G.2.1 k q1 mkd lr un ++ wST G.2.1 a ki fi ke va ta ro qu nsz fin rnd)) (rS (As := [.ref (k 1), .int (-9)]) (rest := []) (wi := [((k 1), .inl (G.2.1, 24, .inl rd))]) hF hK (hP.sub [1] rfl) (hD.sub [1] rfl rfl) (c_J7_fill_53178 l G N (k 1) 24 rd (-9) q1 hc2 H.size) (va_cwS 2 hts gX1_run_J7_fill_53178 rfl rfl rfl (by decide +kernel) ⟨Nat.le_of_ble_eq_true rfl, Nat.le_of_ble_eq_true rfl⟩) rfl hl.1 rfl (Nat.le_of_ble_eq_true rfl) dX1_run_6 ⟨Nat.le_of_ble_eq_true rfl, Nat.le_of_ble_eq_true rfl⟩) hP hD hS hA [1] [0, 2, 3, 4, 5, 6, 7, 8, 9, 10] [0, 10, 1, 2, 3, 4, 5, 6, 7, 8, 9] rfl rfl rfl (by decide) rfl rfl (fun H locs hP hD hS => ?_)
  refine lv_aload_n hx hb dX1_run_9 rfl (lv_at hl 0 rfl) ?_
  refine lv_iconst (v := 0) hx hb dX1_run_10 (by decide) ?_
  refine va_put (D := G.1) (ci := 1) (v := .int 0) (ty := .int) (C := RX1) (T := TX1) (N := 4) hx hb hts w1_X1_run tyX1 tyX1_ok nmX1 hown hK.1 hP hD hS 0 rfl rfl 1 (by decide) (hts _ w2_X1_run) (fun _ h9 => h9) rfl (by decide +kernel) rfl rfl (Nat.le_of_ble_eq_true rfl) dX1_run_11 (fun H locs hP hD hS => ?_)
  have hP : va_P G.1 vwCl (wMK G.2.1 k q1 0 lr un ++ wST G.2.1 a ki fi ke va ta ro qu nsz fin rnd) H := hP
  have hD : va_D A (wMK G.2.1 k q1 0 lr un ++ wST G.2.1 a ki fi ke va ta ro qu nsz fin rnd) := hD
  refine lv_aload_n hx hb dX1_run_14 rfl (lv_at hl 0 rfl) ?_
  refine lv_iload_n hx hb dX1_run_15 rfl (lv_at hl 3 rfl) ?_
  refine va_put (D := G.1) (ci := 1) (v := .int p3) (ty := .int) (C := RX1) (T := TX1) (N := 4) hx hb hts w1_X1_run tyX1 tyX1_ok nmX1 hown hK.1 hP hD hS 0 rfl rfl 3 (by decide) (hts _ w3_X1_run) (fun _ h9 => h9) rfl (by decide +kernel) rfl rfl (Nat.le_of_ble_eq_true rfl) dX1_run_16 (fun H locs hP hD hS => ?_)
  have hP : va_P G.1 vwCl (wMK G.2.1 k q1 0 lr p3 ++ wST G.2.1 a ki fi ke va ta ro qu nsz fin rnd) H := hP
  have hD : va_D A (wMK G.2.1 k q1 0 lr p3 ++ wST G.2.1 a ki fi ke va ta ro qu nsz fin rnd) := hD
  refine lv_aload_n hx hb dX1_run_19 rfl (lv_at hl 0 rfl) ?_
  refine lv_iconst (v := 0) hx hb dX1_run_20 (by decide) ?_
  refine va_put (D := G.1) (ci := 1) (v := .int 0) (ty := .int) (C := RX1) (T := TX1) (N := 4) hx hb hts w1_X1_run tyX1 tyX1_ok nmX1 hown hK.1 hP hD hS 0 rfl rfl 2 (by decide) (hts _ w4_X1_run) (fun _ h9 => h9) rfl (by decide +kernel) rfl rfl (Nat.le_of_ble_eq_true rfl) dX1_run_21 (fun H locs hP hD hS => ?_)
  have hP : va_P G.1 vwCl (wMK G.2.1 k q1 0 0 p3 ++ wST G.2.1 a ki fi ke va ta ro qu nsz fin rnd) H := hP
  have hD : va_D A (wMK G.2.1 k q1 0 0 p3 ++ wST G.2.1 a ki fi ke va ta ro qu nsz fin rnd) := hD
  refine lv_aload_n hx hb dX1_run_24 rfl (lv_at hl 0 rfl) ?_
  refine lv_aload_n hx hb dX1_run_25 rfl (lv_at hl 1 rfl) ?_
  refine lv_iload_n hx hb dX1_run_26 rfl (lv_at hl 2 rfl) ?_
  obtain ⟨q3, hc4, hm⟩ := bd_s hm
  refine ks_v (wo := (wMK G.2.1 k q3.1 q3.2 0 p3 ++ wST G.2.1 a ki fi ke va ta ro qu nsz fin rnd)) (rV (As := [.ref (a 0), .int p2]) (rest := []) (b := (k 0)) (wi := (wMK G.2.1 k q1 0 0 p3 ++ wST G.2.1 a ki fi ke va ta ro qu nsz fin rnd)) hF hK hP hD (c_X1_markWithFields l G N k a q1 0 0 p3 ki fi ke va ta ro qu nsz fin rnd p2 q3 hc4 H.size) (cwV 2 hts gX1_run_X1_markWithFields rfl rfl rfl (by decide +kernel) ⟨Nat.le_of_ble_eq_true rfl, Nat.le_of_ble_eq_true rfl⟩) (va_recv hK.1 hP (ci := 1) (q0 := 0) rfl rfl) rfl hl.1 rfl (Nat.le_of_ble_eq_true rfl) dX1_run_27 ⟨Nat.le_of_ble_eq_true rfl, Nat.le_of_ble_eq_true rfl⟩) hD hS hA (fun H locs hP hD hS => ?_)
  have hP : va_P G.1 vwCl (wMK G.2.1 k q3.1 q3.2 0 p3 ++ wST G.2.1 a ki fi ke va ta ro qu nsz fin rnd) H := hP
  have hD : va_D A (wMK G.2.1 k q3.1 q3.2 0 p3 ++ wST G.2.1 a ki fi ke va ta ro qu nsz fin rnd) := hD
  refine lv_iconst (v := 1) hx hb dX1_run_30 (by decide) ?_
  refine lv_istore (lv' := [(4, .int 1), (0, .ref (k 0)), (1, .ref (a 0)), (2, .int p2), (3, .int p3)]) hx hb dX1_run_31 hl (by decide) rfl (fun ls hl => ?_)
  have L33 : ∀ (u33_2 : Int32) (u33_3 : Int32) (un33u : Int32) (n33 : Nat) (v33_4 : Int32) (rd33_ : Nat → Int32) (mkd33_ : Int32) (lr33_ : Int32), M_X1_run_L33 N un33u fi ke va n33 v33_4 rd33_ mkd33_ lr33_ = some q → ∀ (H : Heap) (locs : List Loc) (ls : Array Slot), va_P G.1 vwCl (wMK G.2.1 k rd33_ mkd33_ lr33_ un33u ++ wST G.2.1 a ki fi ke va ta ro qu nsz fin rnd) H → va_D A (wMK G.2.1 k rd33_ mkd33_ lr33_ un33u ++ wST G.2.1 a ki fi ke va ta ro qu nsz fin rnd) → va_S A s.heap H locs → lv_has ls 6 [(0, .ref (k 0)), (1, .ref (a 0)), (2, .int u33_2), (3, .int u33_3), (4, .int v33_4)] → W p l e rm_X1_run s m args below meth c H locs 0 0 (MQ below (QV G A (wMK G.2.1 k q.1 q.2.1 q.2.2.1 q.2.2.2 ++ wST G.2.1 a ki fi ke va ta ro qu nsz fin rnd)) args s rm_X1_run.cells rm_X1_run.slots A) (F0 m 33 ls []) := by
    intro u33_2 u33_3 un33u n33
    induction n33 with
    | zero => intro v33_4 rd33_ mkd33_ lr33_ hm; cases hm
    | succ n33 ih33 =>
      intro v33_4 rd33_ mkd33_ lr33_ hm H locs ls hP hD hS hl
      rw [M_X1_run_L33] at hm
      refine lv_iload hx hb dX1_run_33 (lv_at hl 4 rfl) ?_
      refine lv_bipush (v := 24) hx hb dX1_run_35 (by decide) ?_
      refine lv_icmp_gt (tgt := 83) hx hb dX1_run_37 (by decide) (fun c3301 => ?_) (fun c3301 => ?_)
      · replace hm := it_t c3301 hm
        cases hm
        exact rt_v hx hb hr hlocks hP hD hS dX1_run_83
      · replace hm := it_f c3301 hm
        refine lv_aload_n hx hb dX1_run_40 rfl (lv_at hl 0 rfl) ?_
        refine lv_aload_n hx hb dX1_run_41 rfl (lv_at hl 1 rfl) ?_
        refine lv_aload_n hx hb dX1_run_42 rfl (lv_at hl 0 rfl) ?_
        refine va_get (D := G.1) (ci := 1) (v := .int mkd33_) (C := RX1) (T := TX1) (N := 4) hx hb hts w1_X1_run hown hK.1 hP 0 rfl rfl 1 (by decide) (hts _ w2_X1_run) (fun _ h9 => h9) rfl dX1_run_43 ?_
        refine lv_aload_n hx hb dX1_run_46 rfl (lv_at hl 0 rfl) ?_
        refine va_get (D := G.1) (ci := 1) (v := .int mkd33_) (C := RX1) (T := TX1) (N := 4) hx hb hts w1_X1_run hown hK.1 hP 0 rfl rfl 1 (by decide) (hts _ w2_X1_run) (fun _ h9 => h9) rfl dX1_run_47 ?_
        obtain ⟨q3302, hc3303, hm⟩ := bd_s hm
        refine kc_i (wi := (wST G.2.1 a ki fi ke va ta ro qu nsz fin rnd)) (wo := (wST G.2.1 a ki fi ke va ta ro qu nsz fin rnd)) (wr := [((k 0), .inr (1, [.ref (k 1), .int mkd33_, .int lr33_, .int un33u])), ((k 1), .inl (G.2.1, 24, .inl rd33_))]) (ws' := (wMK G.2.1 k rd33_ mkd33_ lr33_ un33u ++ wST G.2.1 a ki fi ke va ta ro qu nsz fin rnd)) (rV (As := [.int mkd33_, .int mkd33_]) (rest := [.ref (k 0)]) (b := (a 0)) (wi := (wST G.2.1 a ki fi ke va ta ro qu nsz fin rnd)) hF hK (hP.sub [2, 3, 4, 5, 6, 7, 8, 9, 10] rfl) (hD.sub [2, 3, 4, 5, 6, 7, 8, 9, 10] rfl rfl) (c_X3_valuesOfEntries l G N a ki fi ke va ta ro qu nsz fin rnd mkd33_ mkd33_ q3302 hc3303 H.size) (cwV 2 hts gX1_run_X3_valuesOfEntries rfl rfl rfl (by decide +kernel) ⟨Nat.le_of_ble_eq_true rfl, Nat.le_of_ble_eq_true rfl⟩) (va_recv hK.1 hP (ci := 3) (q0 := 2) rfl rfl) rfl hl.1 rfl (Nat.le_of_ble_eq_true rfl) dX1_run_50 ⟨Nat.le_of_ble_eq_true rfl, Nat.le_of_ble_eq_true rfl⟩) hP hD hS hA [2, 3, 4, 5, 6, 7, 8, 9, 10] [0, 1] [0, 1, 2, 3, 4, 5, 6, 7, 8, 9, 10] rfl rfl rfl (by decide) rfl rfl (fun H locs hP hD hS => ?_)
        obtain ⟨q3304, hc3305, hm⟩ := bd_s hm
        refine kc_i (wi := (wMK G.2.1 k rd33_ mkd33_ lr33_ un33u)) (wo := (wMK G.2.1 k rd33_ mkd33_ lr33_ un33u)) (wr := [((a 0), .inr (3, [.ref (a 1), .ref (a 2), .ref (a 3), .ref (a 4), .ref (a 5), .ref (a 6), .ref (a 7), .int fin, .int rnd])), ((a 1), .inl (G.2.1, 24, .inl ki)), ((a 2), .inl (G.2.1, 72, .inl fi)), ((a 3), .inl (G.2.1, 144, .inl ke)), ((a 4), .inl (G.2.1, 144, .inl va)), ((a 5), .inl (G.2.1, 24, .inl ta)), ((a 6), .inl (G.2.1, 6, .inl ro)), ((a 7), .inr (2, [.ref (a 8), .int nsz])), ((a 8), .inl (G.2.1, 20, .inl qu))]) (ws' := (wMK G.2.1 k rd33_ mkd33_ lr33_ un33u ++ wST G.2.1 a ki fi ke va ta ro qu nsz fin rnd)) (rV (As := [.int q3302]) (rest := []) (b := (k 0)) (wi := (wMK G.2.1 k rd33_ mkd33_ lr33_ un33u)) hF hK (hP.sub [0, 1] rfl) (hD.sub [0, 1] rfl rfl) (c_X1_markable l G k rd33_ mkd33_ lr33_ un33u q3302 q3304 hc3305 H.size) (cwV 1 hts gX1_run_X1_markable rfl rfl rfl (by decide +kernel) ⟨Nat.le_of_ble_eq_true rfl, Nat.le_of_ble_eq_true rfl⟩) (va_recv hK.1 hP (ci := 1) (q0 := 0) rfl rfl) rfl hl.1 rfl (Nat.le_of_ble_eq_true rfl) dX1_run_53 ⟨Nat.le_of_ble_eq_true rfl, Nat.le_of_ble_eq_true rfl⟩) hP hD hS hA [0, 1] [2, 3, 4, 5, 6, 7, 8, 9, 10] [9, 10, 0, 1, 2, 3, 4, 5, 6, 7, 8] rfl rfl rfl (by decide) rfl rfl (fun H locs hP hD hS => ?_)
        refine lv_istore (lv' := [(5, .int q3304), (0, .ref (k 0)), (1, .ref (a 0)), (2, .int u33_2), (3, .int u33_3), (4, .int v33_4)]) hx hb dX1_run_56 hl (by decide) rfl (fun ls hl => ?_)
        refine lv_iload hx hb dX1_run_58 (lv_at hl 0 rfl) ?_
        refine lv_if_ne (tgt := 64) hx hb dX1_run_60 (by decide) (fun c3306 => ?_) (fun c3306 => ?_)
        · replace hm := it_f c3306 hm
          refine lv_aload_n hx hb dX1_run_64 rfl (lv_at hl 1 rfl) ?_
          refine lv_iload hx hb dX1_run_65 (lv_at hl 5 rfl) ?_
          refine va_put (D := G.1) (ci := 1) (v := .int v33_4) (ty := .int) (C := RX1) (T := TX1) (N := 4) hx hb hts w1_X1_run tyX1 tyX1_ok nmX1 hown hK.1 hP hD hS 0 rfl rfl 2 (by decide) (hts _ w4_X1_run) (fun _ h9 => h9) rfl (by decide +kernel) rfl rfl (Nat.le_of_ble_eq_true rfl) dX1_run_67 (fun H locs hP hD hS => ?_)
          have hP : va_P G.1 vwCl (wMK G.2.1 k rd33_ mkd33_ v33_4 un33u ++ wST G.2.1 a ki fi ke va ta ro qu nsz fin rnd) H := hP
          have hD : va_D A (wMK G.2.1 k rd33_ mkd33_ v33_4 un33u ++ wST G.2.1 a ki fi ke va ta ro qu nsz fin rnd) := hD
          refine lv_aload_n hx hb dX1_run_70 rfl (lv_at hl 1 rfl) ?_
          refine lv_aload_n hx hb dX1_run_71 rfl (lv_at hl 2 rfl) ?_
          refine lv_iload hx hb dX1_run_72 (lv_at hl 0 rfl) ?_
          obtain ⟨q3307, hc3308, hm⟩ := bd_s hm
          refine ks_v (wo := (wMK G.2.1 k q3307.1 q3307.2 v33_4 un33u ++ wST G.2.1 a ki fi ke va ta ro qu nsz fin rnd)) (rV (As := [.ref (a 0), .int q3304]) (rest := []) (b := (k 0)) (wi := (wMK G.2.1 k rd33_ mkd33_ v33_4 un33u ++ wST G.2.1 a ki fi ke va ta ro qu nsz fin rnd)) hF hK hP hD (c_X1_markWithFields l G N k a rd33_ mkd33_ v33_4 un33u ki fi ke va ta ro qu nsz fin rnd q3304 q3307 hc3308 H.size) (cwV 2 hts gX1_run_X1_markWithFields rfl rfl rfl (by decide +kernel) ⟨Nat.le_of_ble_eq_true rfl, Nat.le_of_ble_eq_true rfl⟩) (va_recv hK.1 hP (ci := 1) (q0 := 0) rfl rfl) rfl hl.1 rfl (Nat.le_of_ble_eq_true rfl) dX1_run_74 ⟨Nat.le_of_ble_eq_true rfl, Nat.le_of_ble_eq_true rfl⟩) hD hS hA (fun H locs hP hD hS => ?_)
          have hP : va_P G.1 vwCl (wMK G.2.1 k q3307.1 q3307.2 v33_4 un33u ++ wST G.2.1 a ki fi ke va ta ro qu nsz fin rnd) H := hP
          have hD : va_D A (wMK G.2.1 k q3307.1 q3307.2 v33_4 un33u ++ wST G.2.1 a ki fi ke va ta ro qu nsz fin rnd) := hD
          refine lv_iinc (v := (v33_4 + 1)) (lv' := [(4, .int (v33_4 + 1)), (5, .int q3304), (0, .ref (k 0)), (1, .ref (a 0)), (2, .int u33_2), (3, .int u33_3)]) hx hb dX1_run_77 hl (k := 5) rfl rfl (by decide) rfl (fun ls hl => ?_)
          refine lv_goto (tgt := 33) hx hb dX1_run_80 (by decide) ?_
          exact ih33 (v33_4 + 1) q3307.1 q3307.2 v33_4 hm _ _ _ hP hD hS (lv_sub hl [2, 3, 4, 5, 0] rfl)
        · replace hm := it_t c3306 hm
          cases hm
          exact rt_v hx hb hr hlocks hP hD hS dX1_run_63
  exact L33 p2 p3 p3 N 1 q3.1 q3.2 0 hm _ _ _ hP hD hS (lv_sub hl [1, 2, 3, 4, 0] rfl)
