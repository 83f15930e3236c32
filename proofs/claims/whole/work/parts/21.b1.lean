def M_X5_placeOf_L2 (u2_1 : Int32) (u2_2 : Int32) (w : Nat → Int32) : Nat → (Int32) → Option (Int32)
  | 0, _ => none
  | n2 + 1, v2_3 => (M_X5_part w u2_1 2).bind fun q201 => if q201 ≤ v2_3 then (some (-9)) else ((M_X5_part w u2_1 (3 + v2_3)).bind fun q204 => if q204 = u2_2 then (some v2_3) else (M_X5_placeOf_L2 u2_1 u2_2 w n2 (v2_3 + 1)))
def M_X5_placeOf (N : Nat) (w : Nat → Int32) (p1 : Int32) (p2 : Int32) : Option (Int32) :=
  M_X5_placeOf_L2 p1 p2 w N 0
abbrev rm_X5_placeOf : Room := { frames := 1, cells := 0, slots := 0, locals := 22 }
set_option maxHeartbeats 4000000 in
set_option maxRecDepth 100000 in
theorem c_X5_placeOf (l : Launch) (G : GG) (N : Nat) (b : Nat → Nat) (w : Nat → Int32) (dep : Int32) (kept : Nat → Int32) (mark : Nat → Int32) (start : Nat → Int32) (p1 : Int32) (p2 : Int32) (q : Int32) (hm : M_X5_placeOf N w p1 p2 = some q) : CTi l yX5_placeOf wsX5_placeOf rm_X5_placeOf G [.ref (b 0), .int p1, .int p2] (wMD G b w dep kept mark start) q (wMD G b w dep kept mark start) := by
  intro sz
  refine mk_body (Qc := fun A => (QI G A q (wMD G b w dep kept mark start))) (cc := cX5_placeOf) (maxL := 4) (ret := (some .int)) (lv := [(0, .ref (b 0)), (1, .int p1), (2, .int p2)]) (by decide) rfl rfl (Nat.le_of_ble_eq_true rfl) ?_
  intro p e s m args below meth c A H locs ls hF hr hlocks hname hK hA hP hD hS hl
  obtain ⟨hx, hb, hml, hown, hts⟩ := id hF
  unfold M_X5_placeOf at hm
  refine lv_iconst (v := 0) hx hb dX5_placeOf_0 (by decide) ?_
  refine lv_istore_n (lv' := [(3, .int 0), (0, .ref (b 0)), (1, .int p1), (2, .int p2)]) hx hb dX5_placeOf_1 rfl hl (by decide) rfl (fun ls hl => ?_)
  have L2 : ∀ (u2_1 : Int32) (u2_2 : Int32) (n2 : Nat) (v2_3 : Int32), M_X5_placeOf_L2 u2_1 u2_2 w n2 v2_3 = some q → ∀ (H : Heap) (locs : List Loc) (ls : Array Slot), va_P G.1 vwCl (wMD G b w dep kept mark start) H → va_D A (wMD G b w dep kept mark start) → va_S A s.heap H locs → lv_has ls 4 [(0, .ref (b 0)), (1, .int u2_1), (2, .int u2_2), (3, .int v2_3)] → W p l e rm_X5_placeOf s m args below meth c H locs 0 0 (MQ below (QI G A q (wMD G b w dep kept mark start)) args s rm_X5_placeOf.cells rm_X5_placeOf.slots A) (F0 m 2 ls []) := by
    intro u2_1 u2_2 n2
    induction n2 with
    | zero => intro v2_3 hm; cases hm
    | succ n2 ih2 =>
      intro v2_3 hm H locs ls hP hD hS hl
      rw [M_X5_placeOf_L2] at hm
      refine lv_iload_n hx hb dX5_placeOf_2 rfl (lv_at hl 3 rfl) ?_
      refine lv_aload_n hx hb dX5_placeOf_3 rfl (lv_at hl 0 rfl) ?_
      refine lv_iload_n hx hb dX5_placeOf_4 rfl (lv_at hl 1 rfl) ?_
      refine lv_iconst (v := 2) hx hb dX5_placeOf_5 (by decide) ?_
      obtain ⟨q201, hc202, hm⟩ := bd_s hm
      refine ks_i (wo := (wMD G b w dep kept mark start)) (rV (As := [.int u2_1, .int 2]) (rest := [.int v2_3]) (b := (b 0)) (wi := (wMD G b w dep kept mark start)) hF hK hP hD (c_X5_part l G b w dep kept mark start u2_1 2 q201 hc202 H.size) (cwV 2 hts gX5_placeOf_X5_part rfl rfl rfl (by decide +kernel) ⟨Nat.le_of_ble_eq_true rfl, Nat.le_of_ble_eq_true rfl⟩) (va_recv hK.1 hP (ci := 5) (q0 := 0) rfl rfl) rfl hl.1 rfl (Nat.le_of_ble_eq_true rfl) dX5_placeOf_6 ⟨Nat.le_of_ble_eq_true rfl, Nat.le_of_ble_eq_true rfl⟩) hD hS hA (fun H locs hP hD hS => ?_)
      have hP : va_P G.1 vwCl (wMD G b w dep kept mark start) H := hP
      have hD : va_D A (wMD G b w dep kept mark start) := hD
      refine lv_icmp_ge (tgt := 32) hx hb dX5_placeOf_9 (by decide) (fun c203 => ?_) (fun c203 => ?_)
      · replace hm := it_t c203 hm
        refine lv_bipush (v := (-9)) hx hb dX5_placeOf_32 (by decide) ?_
        cases hm
        exact rt_i hx hb hr hlocks hP hD hS dX5_placeOf_34
      · replace hm := it_f c203 hm
        refine lv_aload_n hx hb dX5_placeOf_12 rfl (lv_at hl 0 rfl) ?_
        refine lv_iload_n hx hb dX5_placeOf_13 rfl (lv_at hl 1 rfl) ?_
        refine lv_iconst (v := 3) hx hb dX5_placeOf_14 (by decide) ?_
        refine lv_iload_n hx hb dX5_placeOf_15 rfl (lv_at hl 3 rfl) ?_
        refine lv_iadd hx hb dX5_placeOf_16 ?_
        obtain ⟨q204, hc205, hm⟩ := bd_s hm
        refine ks_i (wo := (wMD G b w dep kept mark start)) (rV (As := [.int u2_1, .int (3 + v2_3)]) (rest := []) (b := (b 0)) (wi := (wMD G b w dep kept mark start)) hF hK hP hD (c_X5_part l G b w dep kept mark start u2_1 (3 + v2_3) q204 hc205 H.size) (cwV 2 hts gX5_placeOf_X5_part rfl rfl rfl (by decide +kernel) ⟨Nat.le_of_ble_eq_true rfl, Nat.le_of_ble_eq_true rfl⟩) (va_recv hK.1 hP (ci := 5) (q0 := 0) rfl rfl) rfl hl.1 rfl (Nat.le_of_ble_eq_true rfl) dX5_placeOf_17 ⟨Nat.le_of_ble_eq_true rfl, Nat.le_of_ble_eq_true rfl⟩) hD hS hA (fun H locs hP hD hS => ?_)
        have hP : va_P G.1 vwCl (wMD G b w dep kept mark start) H := hP
        have hD : va_D A (wMD G b w dep kept mark start) := hD
        refine lv_iload_n hx hb dX5_placeOf_20 rfl (lv_at hl 2 rfl) ?_
        refine lv_icmp_ne (tgt := 26) hx hb dX5_placeOf_21 (by decide) (fun c206 => ?_) (fun c206 => ?_)
        · replace hm := it_f c206 hm
          refine lv_iinc (v := (v2_3 + 1)) (lv' := [(3, .int (v2_3 + 1)), (0, .ref (b 0)), (1, .int u2_1), (2, .int u2_2)]) hx hb dX5_placeOf_26 hl (k := 3) rfl rfl (by decide) rfl (fun ls hl => ?_)
          refine lv_goto (tgt := 2) hx hb dX5_placeOf_29 (by decide) ?_
          exact ih2 (v2_3 + 1) hm _ _ _ hP hD hS (lv_sub hl [1, 2, 3, 0] rfl)
        · replace hm := it_t c206 hm
          refine lv_iload_n hx hb dX5_placeOf_24 rfl (lv_at hl 3 rfl) ?_
          cases hm
          exact rt_i hx hb hr hlocks hP hD hS dX5_placeOf_25
  exact L2 p1 p2 N 0 hm _ _ _ hP hD hS (lv_sub hl [1, 2, 3, 0] rfl)
def M_X5_removeAt_L12 (u12_1 : Int32) (u12_3 : Int32) : Nat → (Int32) → (Nat → Int32) → Option ((Nat → Int32))
  | 0, _, _ => none
  | n12 + 1, v12_4, w12_ => if u12_3 ≤ v12_4 then (gd (((15 * u12_1) + 3) + u12_3) 3880 (gd (((15 * u12_1) + 9) + u12_3) 3880 (gd ((15 * u12_1) + 2) 3880 (some (upd (upd (upd w12_ (((15 * u12_1) + 3) + u12_3).toNatClampNeg (-9)) (((15 * u12_1) + 9) + u12_3).toNatClampNeg (-9)) ((15 * u12_1) + 2).toNatClampNeg u12_3))))) else ((M_X5_part w12_ u12_1 ((3 + v12_4) + 1)).bind fun q1205 => gd (((15 * u12_1) + 3) + v12_4) 3880 ((M_X5_part (upd w12_ (((15 * u12_1) + 3) + v12_4).toNatClampNeg q1205) u12_1 ((9 + v12_4) + 1)).bind fun q1208 => gd (((15 * u12_1) + 9) + v12_4) 3880 (M_X5_removeAt_L12 u12_1 u12_3 n12 (v12_4 + 1) (upd (upd w12_ (((15 * u12_1) + 3) + v12_4).toNatClampNeg q1205) (((15 * u12_1) + 9) + v12_4).toNatClampNeg q1208))))
def M_X5_removeAt (N : Nat) (w : Nat → Int32) (p1 : Int32) (p2 : Int32) : Option ((Nat → Int32)) :=
  (M_X5_part w p1 2).bind fun q1 => M_X5_removeAt_L12 p1 (q1 - 1) N p2 w
theorem w0_X5_removeAt : Cond.fieldLink RX5 7 "WeakTableHeapModel" "w" "[I" ∈ wsX5_removeAt := by decide +kernel
theorem w1_X5_removeAt : ∀ w ∈ u_ws RX5 TX5 5, w ∈ wsX5_removeAt := by decide +kernel
abbrev rm_X5_removeAt : Room := { frames := 1, cells := 0, slots := 0, locals := 22 }
set_option maxHeartbeats 4000000 in
set_option maxRecDepth 100000 in
theorem c_X5_removeAt (l : Launch) (G : GG) (N : Nat) (b : Nat → Nat) (w : Nat → Int32) (dep : Int32) (kept : Nat → Int32) (mark : Nat → Int32) (start : Nat → Int32) (p1 : Int32) (p2 : Int32) (q : (Nat → Int32)) (hm : M_X5_removeAt N w p1 p2 = some q) : CTv l yX5_removeAt wsX5_removeAt rm_X5_removeAt G [.ref (b 0), .int p1, .int p2] (wMD G b w dep kept mark start) (wMD G b q dep kept mark start) := by
  intro sz
  refine mk_body (Qc := fun A => (QV G A (wMD G b q dep kept mark start))) (cc := cX5_removeAt) (maxL := 5) (ret := none) (lv := [(0, .ref (b 0)), (1, .int p1), (2, .int p2)]) (by decide) rfl rfl (Nat.le_of_ble_eq_true rfl) ?_
  intro p e s m args below meth c A H locs ls hF hr hlocks hname hK hA hP hD hS hl
  obtain ⟨hx, hb, hml, hown, hts⟩ := id hF
  unfold M_X5_removeAt at hm
  refine lv_aload_n hx hb dX5_removeAt_0 rfl (lv_at hl 0 rfl) ?_
  refine lv_iload_n hx hb dX5_removeAt_1 rfl (lv_at hl 1 rfl) ?_
  refine lv_iconst (v := 2) hx hb dX5_removeAt_2 (by decide) ?_
  obtain ⟨q1, hc2, hm⟩ := bd_s hm
  refine ks_i (wo := (wMD G b w dep kept mark start)) (rV (As := [.int p1, .int 2]) (rest := []) (b := (b 0)) (wi := (wMD G b w dep kept mark start)) hF hK hP hD (c_X5_part l G b w dep kept mark start p1 2 q1 hc2 H.size) (cwV 2 hts gX5_removeAt_X5_part rfl rfl rfl (by decide +kernel) ⟨Nat.le_of_ble_eq_true rfl, Nat.le_of_ble_eq_true rfl⟩) (va_recv hK.1 hP (ci := 5) (q0 := 0) rfl rfl) rfl hl.1 rfl (Nat.le_of_ble_eq_true rfl) dX5_removeAt_3 ⟨Nat.le_of_ble_eq_true rfl, Nat.le_of_ble_eq_true rfl⟩) hD hS hA (fun H locs hP hD hS => ?_)
  have hP : va_P G.1 vwCl (wMD G b w dep kept mark start) H := hP
  have hD : va_D A (wMD G b w dep kept mark start) := hD
  refine lv_iconst (v := 1) hx hb dX5_removeAt_6 (by decide) ?_
  refine lv_isub hx hb dX5_removeAt_7 ?_
  refine lv_istore_n (lv' := [(3, .int (q1 - 1)), (0, .ref (b 0)), (1, .int p1), (2, .int p2)]) hx hb dX5_removeAt_8 rfl hl (by decide) rfl (fun ls hl => ?_)
  refine lv_iload_n hx hb dX5_removeAt_9 rfl (lv_at hl 3 rfl) ?_
  refine lv_istore (lv' := [(4, .int p2), (3, .int (q1 - 1)), (0, .ref (b 0)), (1, .int p1), (2, .int p2)]) hx hb dX5_removeAt_10 hl (by decide) rfl (fun ls hl => ?_)
  have L12 : ∀ (u12_1 : Int32) (u12_2 : Int32) (u12_3 : Int32) (n12 : Nat) (v12_4 : Int32) (w12_ : Nat → Int32), M_X5_removeAt_L12 u12_1 u12_3 n12 v12_4 w12_ = some q → ∀ (H : Heap) (locs : List Loc) (ls : Array Slot), va_P G.1 vwCl (wMD G b w12_ dep kept mark start) H → va_D A (wMD G b w12_ dep kept mark start) → va_S A s.heap H locs → lv_has ls 5 [(0, .ref (b 0)), (1, .int u12_1), (2, .int u12_2), (3, .int u12_3), (4, .int v12_4)] → W p l e rm_X5_removeAt s m args below meth c H locs 0 0 (MQ below (QV G A (wMD G b q dep kept mark start)) args s rm_X5_removeAt.cells rm_X5_removeAt.slots A) (F0 m 12 ls []) := by
    intro u12_1 u12_2 u12_3 n12
    induction n12 with
    | zero => intro v12_4 w12_ hm; cases hm
    | succ n12 ih12 =>
      intro v12_4 w12_ hm H locs ls hP hD hS hl
      rw [M_X5_removeAt_L12] at hm
      refine lv_iload hx hb dX5_removeAt_12 (lv_at hl 4 rfl) ?_
      refine lv_iload_n hx hb dX5_removeAt_14 rfl (lv_at hl 3 rfl) ?_
      refine lv_icmp_ge (tgt := 76) hx hb dX5_removeAt_15 (by decide) (fun c1201 => ?_) (fun c1201 => ?_)
      · replace hm := it_t c1201 hm
        refine lv_aload_n hx hb dX5_removeAt_76 rfl (lv_at hl 0 rfl) ?_
        refine va_get (D := G.1) (ci := 5) (v := .ref (b 1)) (C := RX5) (T := TX5) (N := 5) hx hb hts w1_X5_removeAt hown hK.1 hP 0 rfl rfl 0 (by decide) (hts _ w0_X5_removeAt) (fun _ h9 => h9) rfl dX5_removeAt_77 ?_
        refine lv_bipush (v := 15) hx hb dX5_removeAt_80 (by decide) ?_
        refine lv_iload_n hx hb dX5_removeAt_82 rfl (lv_at hl 1 rfl) ?_
        refine lv_imul hx hb dX5_removeAt_83 ?_
        refine lv_iconst (v := 3) hx hb dX5_removeAt_84 (by decide) ?_
        refine lv_iadd hx hb dX5_removeAt_85 ?_
        refine lv_iload_n hx hb dX5_removeAt_86 rfl (lv_at hl 3 rfl) ?_
        refine lv_iadd hx hb dX5_removeAt_87 ?_
        refine lv_bipush (v := (-9)) hx hb dX5_removeAt_88 (by decide) ?_
        obtain ⟨hi1202, hm⟩ := gd_s hm
        refine va_iast hx hb hK.1 hP hD hS 1 0 rfl rfl hi1202 dX5_removeAt_90 (fun H locs hP hD hS => ?_)
        have hP : va_P G.1 vwCl (wMD G b (upd w12_ (((15 * u12_1) + 3) + u12_3).toNatClampNeg (-9)) dep kept mark start) H := hP
        have hD : va_D A (wMD G b (upd w12_ (((15 * u12_1) + 3) + u12_3).toNatClampNeg (-9)) dep kept mark start) := hD
        refine lv_aload_n hx hb dX5_removeAt_91 rfl (lv_at hl 0 rfl) ?_
        refine va_get (D := G.1) (ci := 5) (v := .ref (b 1)) (C := RX5) (T := TX5) (N := 5) hx hb hts w1_X5_removeAt hown hK.1 hP 0 rfl rfl 0 (by decide) (hts _ w0_X5_removeAt) (fun _ h9 => h9) rfl dX5_removeAt_92 ?_
        refine lv_bipush (v := 15) hx hb dX5_removeAt_95 (by decide) ?_
        refine lv_iload_n hx hb dX5_removeAt_97 rfl (lv_at hl 1 rfl) ?_
        refine lv_imul hx hb dX5_removeAt_98 ?_
        refine lv_bipush (v := 9) hx hb dX5_removeAt_99 (by decide) ?_
        refine lv_iadd hx hb dX5_removeAt_101 ?_
        refine lv_iload_n hx hb dX5_removeAt_102 rfl (lv_at hl 3 rfl) ?_
        refine lv_iadd hx hb dX5_removeAt_103 ?_
        refine lv_bipush (v := (-9)) hx hb dX5_removeAt_104 (by decide) ?_
        obtain ⟨hi1203, hm⟩ := gd_s hm
        refine va_iast hx hb hK.1 hP hD hS 1 0 rfl rfl hi1203 dX5_removeAt_106 (fun H locs hP hD hS => ?_)
        have hP : va_P G.1 vwCl (wMD G b (upd (upd w12_ (((15 * u12_1) + 3) + u12_3).toNatClampNeg (-9)) (((15 * u12_1) + 9) + u12_3).toNatClampNeg (-9)) dep kept mark start) H := hP
        have hD : va_D A (wMD G b (upd (upd w12_ (((15 * u12_1) + 3) + u12_3).toNatClampNeg (-9)) (((15 * u12_1) + 9) + u12_3).toNatClampNeg (-9)) dep kept mark start) := hD
        refine lv_aload_n hx hb dX5_removeAt_107 rfl (lv_at hl 0 rfl) ?_
        refine va_get (D := G.1) (ci := 5) (v := .ref (b 1)) (C := RX5) (T := TX5) (N := 5) hx hb hts w1_X5_removeAt hown hK.1 hP 0 rfl rfl 0 (by decide) (hts _ w0_X5_removeAt) (fun _ h9 => h9) rfl dX5_removeAt_108 ?_
        refine lv_bipush (v := 15) hx hb dX5_removeAt_111 (by decide) ?_
        refine lv_iload_n hx hb dX5_removeAt_113 rfl (lv_at hl 1 rfl) ?_
        refine lv_imul hx hb dX5_removeAt_114 ?_
        refine lv_iconst (v := 2) hx hb dX5_removeAt_115 (by decide) ?_
        refine lv_iadd hx hb dX5_removeAt_116 ?_
        refine lv_iload_n hx hb dX5_removeAt_117 rfl (lv_at hl 3 rfl) ?_
        obtain ⟨hi1204, hm⟩ := gd_s hm
        refine va_iast hx hb hK.1 hP hD hS 1 0 rfl rfl hi1204 dX5_removeAt_118 (fun H locs hP hD hS => ?_)
        have hP : va_P G.1 vwCl (wMD G b (upd (upd (upd w12_ (((15 * u12_1) + 3) + u12_3).toNatClampNeg (-9)) (((15 * u12_1) + 9) + u12_3).toNatClampNeg (-9)) ((15 * u12_1) + 2).toNatClampNeg u12_3) dep kept mark start) H := hP
        have hD : va_D A (wMD G b (upd (upd (upd w12_ (((15 * u12_1) + 3) + u12_3).toNatClampNeg (-9)) (((15 * u12_1) + 9) + u12_3).toNatClampNeg (-9)) ((15 * u12_1) + 2).toNatClampNeg u12_3) dep kept mark start) := hD
        cases hm
        exact rt_v hx hb hr hlocks hP hD hS dX5_removeAt_119
      · replace hm := it_f c1201 hm
        refine lv_aload_n hx hb dX5_removeAt_18 rfl (lv_at hl 0 rfl) ?_
        refine va_get (D := G.1) (ci := 5) (v := .ref (b 1)) (C := RX5) (T := TX5) (N := 5) hx hb hts w1_X5_removeAt hown hK.1 hP 0 rfl rfl 0 (by decide) (hts _ w0_X5_removeAt) (fun _ h9 => h9) rfl dX5_removeAt_19 ?_
        refine lv_bipush (v := 15) hx hb dX5_removeAt_22 (by decide) ?_
        refine lv_iload_n hx hb dX5_removeAt_24 rfl (lv_at hl 1 rfl) ?_
        refine lv_imul hx hb dX5_removeAt_25 ?_
        refine lv_iconst (v := 3) hx hb dX5_removeAt_26 (by decide) ?_
        refine lv_iadd hx hb dX5_removeAt_27 ?_
        refine lv_iload hx hb dX5_removeAt_28 (lv_at hl 4 rfl) ?_
        refine lv_iadd hx hb dX5_removeAt_30 ?_
        refine lv_aload_n hx hb dX5_removeAt_31 rfl (lv_at hl 0 rfl) ?_
        refine lv_iload_n hx hb dX5_removeAt_32 rfl (lv_at hl 1 rfl) ?_
        refine lv_iconst (v := 3) hx hb dX5_removeAt_33 (by decide) ?_
        refine lv_iload hx hb dX5_removeAt_34 (lv_at hl 4 rfl) ?_
        refine lv_iadd hx hb dX5_removeAt_36 ?_
        refine lv_iconst (v := 1) hx hb dX5_removeAt_37 (by decide) ?_
        refine lv_iadd hx hb dX5_removeAt_38 ?_
        obtain ⟨q1205, hc1206, hm⟩ := bd_s hm
        refine ks_i (wo := (wMD G b w12_ dep kept mark start)) (rV (As := [.int u12_1, .int ((3 + v12_4) + 1)]) (rest := [.int (((15 * u12_1) + 3) + v12_4), .ref (b 1)]) (b := (b 0)) (wi := (wMD G b w12_ dep kept mark start)) hF hK hP hD (c_X5_part l G b w12_ dep kept mark start u12_1 ((3 + v12_4) + 1) q1205 hc1206 H.size) (cwV 2 hts gX5_removeAt_X5_part rfl rfl rfl (by decide +kernel) ⟨Nat.le_of_ble_eq_true rfl, Nat.le_of_ble_eq_true rfl⟩) (va_recv hK.1 hP (ci := 5) (q0 := 0) rfl rfl) rfl hl.1 rfl (Nat.le_of_ble_eq_true rfl) dX5_removeAt_39 ⟨Nat.le_of_ble_eq_true rfl, Nat.le_of_ble_eq_true rfl⟩) hD hS hA (fun H locs hP hD hS => ?_)
        have hP : va_P G.1 vwCl (wMD G b w12_ dep kept mark start) H := hP
        have hD : va_D A (wMD G b w12_ dep kept mark start) := hD
        obtain ⟨hi1207, hm⟩ := gd_s hm
        refine va_iast hx hb hK.1 hP hD hS 1 0 rfl rfl hi1207 dX5_removeAt_42 (fun H locs hP hD hS => ?_)
        have hP : va_P G.1 vwCl (wMD G b (upd w12_ (((15 * u12_1) + 3) + v12_4).toNatClampNeg q1205) dep kept mark start) H := hP
        have hD : va_D A (wMD G b (upd w12_ (((15 * u12_1) + 3) + v12_4).toNatClampNeg q1205) dep kept mark start) := hD
        refine lv_aload_n hx hb dX5_removeAt_43 rfl (lv_at hl 0 rfl) ?_
        refine va_get (D := G.1) (ci := 5) (v := .ref (b 1)) (C := RX5) (T := TX5) (N := 5) hx hb hts w1_X5_removeAt hown hK.1 hP 0 rfl rfl 0 (by decide) (hts _ w0_X5_removeAt) (fun _ h9 => h9) rfl dX5_removeAt_44 ?_
        refine lv_bipush (v := 15) hx hb dX5_removeAt_47 (by decide) ?_
        refine lv_iload_n hx hb dX5_removeAt_49 rfl (lv_at hl 1 rfl) ?_
        refine lv_imul hx hb dX5_removeAt_50 ?_
        refine lv_bipush (v := 9) hx hb dX5_removeAt_51 (by decide) ?_
        refine lv_iadd hx hb dX5_removeAt_53 ?_
        refine lv_iload hx hb dX5_removeAt_54 (lv_at hl 4 rfl) ?_
        refine lv_iadd hx hb dX5_removeAt_56 ?_
        refine lv_aload_n hx hb dX5_removeAt_57 rfl (lv_at hl 0 rfl) ?_
        refine lv_iload_n hx hb dX5_removeAt_58 rfl (lv_at hl 1 rfl) ?_
        refine lv_bipush (v := 9) hx hb dX5_removeAt_59 (by decide) ?_
        refine lv_iload hx hb dX5_removeAt_61 (lv_at hl 4 rfl) ?_
        refine lv_iadd hx hb dX5_removeAt_63 ?_
        refine lv_iconst (v := 1) hx hb dX5_removeAt_64 (by decide) ?_
        refine lv_iadd hx hb dX5_removeAt_65 ?_
        obtain ⟨q1208, hc1209, hm⟩ := bd_s hm
        refine ks_i (wo := (wMD G b (upd w12_ (((15 * u12_1) + 3) + v12_4).toNatClampNeg q1205) dep kept mark start)) (rV (As := [.int u12_1, .int ((9 + v12_4) + 1)]) (rest := [.int (((15 * u12_1) + 9) + v12_4), .ref (b 1)]) (b := (b 0)) (wi := (wMD G b (upd w12_ (((15 * u12_1) + 3) + v12_4).toNatClampNeg q1205) dep kept mark start)) hF hK hP hD (c_X5_part l G b (upd w12_ (((15 * u12_1) + 3) + v12_4).toNatClampNeg q1205) dep kept mark start u12_1 ((9 + v12_4) + 1) q1208 hc1209 H.size) (cwV 2 hts gX5_removeAt_X5_part rfl rfl rfl (by decide +kernel) ⟨Nat.le_of_ble_eq_true rfl, Nat.le_of_ble_eq_true rfl⟩) (va_recv hK.1 hP (ci := 5) (q0 := 0) rfl rfl) rfl hl.1 rfl (Nat.le_of_ble_eq_true rfl) dX5_removeAt_66 ⟨Nat.le_of_ble_eq_true rfl, Nat.le_of_ble_eq_true rfl⟩) hD hS hA (fun H locs hP hD hS => ?_)
        have hP : va_P G.1 vwCl (wMD G b (upd w12_ (((15 * u12_1) + 3) + v12_4).toNatClampNeg q1205) dep kept mark start) H := hP
        have hD : va_D A (wMD G b (upd w12_ (((15 * u12_1) + 3) + v12_4).toNatClampNeg q1205) dep kept mark start) := hD
        obtain ⟨hi1210, hm⟩ := gd_s hm
        refine va_iast hx hb hK.1 hP hD hS 1 0 rfl rfl hi1210 dX5_removeAt_69 (fun H locs hP hD hS => ?_)
        have hP : va_P G.1 vwCl (wMD G b (upd (upd w12_ (((15 * u12_1) + 3) + v12_4).toNatClampNeg q1205) (((15 * u12_1) + 9) + v12_4).toNatClampNeg q1208) dep kept mark start) H := hP
        have hD : va_D A (wMD G b (upd (upd w12_ (((15 * u12_1) + 3) + v12_4).toNatClampNeg q1205) (((15 * u12_1) + 9) + v12_4).toNatClampNeg q1208) dep kept mark start) := hD
        refine lv_iinc (v := (v12_4 + 1)) (lv' := [(4, .int (v12_4 + 1)), (0, .ref (b 0)), (1, .int u12_1), (2, .int u12_2), (3, .int u12_3)]) hx hb dX5_removeAt_70 hl (k := 4) rfl rfl (by decide) rfl (fun ls hl => ?_)
        refine lv_goto (tgt := 12) hx hb dX5_removeAt_73 (by decide) ?_
        exact ih12 (v12_4 + 1) (upd (upd w12_ (((15 * u12_1) + 3) + v12_4).toNatClampNeg q1205) (((15 * u12_1) + 9) + v12_4).toNatClampNeg q1208) hm _ _ _ hP hD hS (lv_sub hl [1, 2, 3, 4, 0] rfl)
  exact L12 p1 p2 (q1 - 1) N p2 w hm _ _ _ hP hD hS (lv_sub hl [2, 3, 4, 1, 0] rfl)
def M_X5_put (N : Nat) (w : Nat → Int32) (dep : Int32) (p1 : Int32) (p2 : Int32) (p3 : Int32) : Option (Int32 × (Nat → Int32) × Int32) :=
  (M_X5_isKind w p1 1).bind fun q1 => if q1 = 0 then (some ((-1), w, dep)) else ((M_X5_isAllocated w p2).bind fun q4 => if q4 = 0 then (some ((-1), w, dep)) else ((M_X5_isAllocated w p3).bind fun q7 => if q7 = 0 then (some ((-1), w, dep)) else ((M_X5_placeOf N w p1 p2).bind fun q10 => if q10 = (-9) then ((M_X5_part w p1 2).bind fun q28 => if q28 = 6 then (some ((-3), w, dep)) else ((M_X5_saveState N w dep).bind fun q31 => if q10 = (-9) then ((M_X5_part q31.1 p1 2).bind fun q38 => gd ((15 * p1) + 2) 3880 (gd ((15 * p1) + 2) 3880 ((M_X5_part (upd q31.1 ((15 * p1) + 2).toNatClampNeg ((q31.1 ((15 * p1) + 2).toNatClampNeg) + 1)) p1 (9 + q38)).bind fun q42 => gd (((15 * p1) + 3) + q38) 3880 (gd (((15 * p1) + 9) + q38) 3880 (some (q42, (upd (upd (upd q31.1 ((15 * p1) + 2).toNatClampNeg ((q31.1 ((15 * p1) + 2).toNatClampNeg) + 1)) (((15 * p1) + 3) + q38).toNatClampNeg p2) (((15 * p1) + 9) + q38).toNatClampNeg p3), q31.2)))))) else ((M_X5_part q31.1 p1 (9 + q10)).bind fun q34 => gd (((15 * p1) + 3) + q10) 3880 (gd (((15 * p1) + 9) + q10) 3880 (some (q34, (upd (upd q31.1 (((15 * p1) + 3) + q10).toNatClampNeg p2) (((15 * p1) + 9) + q10).toNatClampNeg p3), q31.2)))))) else ((M_X5_saveState N w dep).bind fun q13 => if q10 = (-9) then ((M_X5_part q13.1 p1 2).bind fun q20 => gd ((15 * p1) + 2) 3880 (gd ((15 * p1) + 2) 3880 ((M_X5_part (upd q13.1 ((15 * p1) + 2).toNatClampNeg ((q13.1 ((15 * p1) + 2).toNatClampNeg) + 1)) p1 (9 + q20)).bind fun q24 => gd (((15 * p1) + 3) + q20) 3880 (gd (((15 * p1) + 9) + q20) 3880 (some (q24, (upd (upd (upd q13.1 ((15 * p1) + 2).toNatClampNeg ((q13.1 ((15 * p1) + 2).toNatClampNeg) + 1)) (((15 * p1) + 3) + q20).toNatClampNeg p2) (((15 * p1) + 9) + q20).toNatClampNeg p3), q13.2)))))) else ((M_X5_part q13.1 p1 (9 + q10)).bind fun q16 => gd (((15 * p1) + 3) + q10) 3880 (gd (((15 * p1) + 9) + q10) 3880 (some (q16, (upd (upd q13.1 (((15 * p1) + 3) + q10).toNatClampNeg p2) (((15 * p1) + 9) + q10).toNatClampNeg p3), q13.2))))))))
theorem w0_X5_put : Cond.fieldLink RX5 7 "WeakTableHeapModel" "w" "[I" ∈ wsX5_put := by decide +kernel
theorem w1_X5_put : ∀ w ∈ u_ws RX5 TX5 5, w ∈ wsX5_put := by decide +kernel
abbrev rm_X5_put : Room := { frames := 3, cells := 0, slots := 0, locals := 65 }
set_option maxHeartbeats 4000000 in
set_option maxRecDepth 100000 in
theorem c_X5_put (l : Launch) (G : GG) (N : Nat) (b : Nat → Nat) (w : Nat → Int32) (dep : Int32) (kept : Nat → Int32) (mark : Nat → Int32) (start : Nat → Int32) (p1 : Int32) (p2 : Int32) (p3 : Int32) (q : Int32 × (Nat → Int32) × Int32) (hm : M_X5_put N w dep p1 p2 p3 = some q) : CTi l yX5_put wsX5_put rm_X5_put G [.ref (b 0), .int p1, .int p2, .int p3] (wMD G b w dep kept mark start) q.1 (wMD G b q.2.1 q.2.2 kept mark start) := by
  intro sz
  refine mk_body (Qc := fun A => (QI G A q.1 (wMD G b q.2.1 q.2.2 kept mark start))) (cc := cX5_put) (maxL := 6) (ret := (some .int)) (lv := [(0, .ref (b 0)), (1, .int p1), (2, .int p2), (3, .int p3)]) (by decide) rfl rfl (Nat.le_of_ble_eq_true rfl) ?_
  intro p e s m args below meth c A H locs ls hF hr hlocks hname hK hA hP hD hS hl
  obtain ⟨hx, hb, hml, hown, hts⟩ := id hF
  unfold M_X5_put at hm
  refine lv_aload_n hx hb dX5_put_0 rfl (lv_at hl 0 rfl) ?_
  refine lv_iload_n hx hb dX5_put_1 rfl (lv_at hl 1 rfl) ?_
  refine lv_iconst (v := 1) hx hb dX5_put_2 (by decide) ?_
  obtain ⟨q1, hc2, hm⟩ := bd_s hm
  refine ks_i (wo := (wMD G b w dep kept mark start)) (rV (As := [.int p1, .int 1]) (rest := []) (b := (b 0)) (wi := (wMD G b w dep kept mark start)) hF hK hP hD (c_X5_isKind l G b w dep kept mark start p1 1 q1 hc2 H.size) (cwV 2 hts gX5_put_X5_isKind rfl rfl rfl (by decide +kernel) ⟨Nat.le_of_ble_eq_true rfl, Nat.le_of_ble_eq_true rfl⟩) (va_recv hK.1 hP (ci := 5) (q0 := 0) rfl rfl) rfl hl.1 rfl (Nat.le_of_ble_eq_true rfl) dX5_put_3 ⟨Nat.le_of_ble_eq_true rfl, Nat.le_of_ble_eq_true rfl⟩) hD hS hA (fun H locs hP hD hS => ?_)
  have hP : va_P G.1 vwCl (wMD G b w dep kept mark start) H := hP
  have hD : va_D A (wMD G b w dep kept mark start) := hD
  refine lv_if_eq (tgt := 25) hx hb dX5_put_6 (by decide) (fun c3 => ?_) (fun c3 => ?_)
  · replace hm := it_t c3 hm
    refine lv_iconst (v := (-1)) hx hb dX5_put_25 (by decide) ?_
    cases hm
    exact rt_i hx hb hr hlocks hP hD hS dX5_put_26
  · replace hm := it_f c3 hm
    refine lv_aload_n hx hb dX5_put_9 rfl (lv_at hl 0 rfl) ?_
    refine lv_iload_n hx hb dX5_put_10 rfl (lv_at hl 2 rfl) ?_
    obtain ⟨q4, hc5, hm⟩ := bd_s hm
    refine ks_i (wo := (wMD G b w dep kept mark start)) (rV (As := [.int p2]) (rest := []) (b := (b 0)) (wi := (wMD G b w dep kept mark start)) hF hK hP hD (c_X5_isAllocated l G b w dep kept mark start p2 q4 hc5 H.size) (cwV 1 hts gX5_put_X5_isAllocated rfl rfl rfl (by decide +kernel) ⟨Nat.le_of_ble_eq_true rfl, Nat.le_of_ble_eq_true rfl⟩) (va_recv hK.1 hP (ci := 5) (q0 := 0) rfl rfl) rfl hl.1 rfl (Nat.le_of_ble_eq_true rfl) dX5_put_11 ⟨Nat.le_of_ble_eq_true rfl, Nat.le_of_ble_eq_true rfl⟩) hD hS hA (fun H locs hP hD hS => ?_)
    have hP : va_P G.1 vwCl (wMD G b w dep kept mark start) H := hP
    have hD : va_D A (wMD G b w dep kept mark start) := hD
    refine lv_if_eq (tgt := 25) hx hb dX5_put_14 (by decide) (fun c6 => ?_) (fun c6 => ?_)
    · replace hm := it_t c6 hm
      refine lv_iconst (v := (-1)) hx hb dX5_put_25 (by decide) ?_
      cases hm
      exact rt_i hx hb hr hlocks hP hD hS dX5_put_26
    · replace hm := it_f c6 hm
      refine lv_aload_n hx hb dX5_put_17 rfl (lv_at hl 0 rfl) ?_
      refine lv_iload_n hx hb dX5_put_18 rfl (lv_at hl 3 rfl) ?_
      obtain ⟨q7, hc8, hm⟩ := bd_s hm
      refine ks_i (wo := (wMD G b w dep kept mark start)) (rV (As := [.int p3]) (rest := []) (b := (b 0)) (wi := (wMD G b w dep kept mark start)) hF hK hP hD (c_X5_isAllocated l G b w dep kept mark start p3 q7 hc8 H.size) (cwV 1 hts gX5_put_X5_isAllocated rfl rfl rfl (by decide +kernel) ⟨Nat.le_of_ble_eq_true rfl, Nat.le_of_ble_eq_true rfl⟩) (va_recv hK.1 hP (ci := 5) (q0 := 0) rfl rfl) rfl hl.1 rfl (Nat.le_of_ble_eq_true rfl) dX5_put_19 ⟨Nat.le_of_ble_eq_true rfl, Nat.le_of_ble_eq_true rfl⟩) hD hS hA (fun H locs hP hD hS => ?_)
      have hP : va_P G.1 vwCl (wMD G b w dep kept mark start) H := hP
      have hD : va_D A (wMD G b w dep kept mark start) := hD
      refine lv_if_ne (tgt := 27) hx hb dX5_put_22 (by decide) (fun c9 => ?_) (fun c9 => ?_)
      · replace hm := it_f c9 hm
        refine lv_aload_n hx hb dX5_put_27 rfl (lv_at hl 0 rfl) ?_
        refine lv_iload_n hx hb dX5_put_28 rfl (lv_at hl 1 rfl) ?_
        refine lv_iload_n hx hb dX5_put_29 rfl (lv_at hl 2 rfl) ?_
        obtain ⟨q10, hc11, hm⟩ := bd_s hm
        refine ks_i (wo := (wMD G b w dep kept mark start)) (rV (As := [.int p1, .int p2]) (rest := []) (b := (b 0)) (wi := (wMD G b w dep kept mark start)) hF hK hP hD (c_X5_placeOf l G N b w dep kept mark start p1 p2 q10 hc11 H.size) (cwV 2 hts gX5_put_X5_placeOf rfl rfl rfl (by decide +kernel) ⟨Nat.le_of_ble_eq_true rfl, Nat.le_of_ble_eq_true rfl⟩) (va_recv hK.1 hP (ci := 5) (q0 := 0) rfl rfl) rfl hl.1 rfl (Nat.le_of_ble_eq_true rfl) dX5_put_30 ⟨Nat.le_of_ble_eq_true rfl, Nat.le_of_ble_eq_true rfl⟩) hD hS hA (fun H locs hP hD hS => ?_)
        have hP : va_P G.1 vwCl (wMD G b w dep kept mark start) H := hP
        have hD : va_D A (wMD G b w dep kept mark start) := hD
        refine lv_istore (lv' := [(4, .int q10), (0, .ref (b 0)), (1, .int p1), (2, .int p2), (3, .int p3)]) hx hb dX5_put_33 hl (by decide) rfl (fun ls hl => ?_)
        refine lv_iload hx hb dX5_put_35 (lv_at hl 0 rfl) ?_
        refine lv_bipush (v := (-9)) hx hb dX5_put_37 (by decide) ?_
        refine lv_icmp_ne (tgt := 56) hx hb dX5_put_39 (by decide) (fun c12 => ?_) (fun c12 => ?_)
        · replace hm := it_f c12 hm
          refine lv_aload_n hx hb dX5_put_56 rfl (lv_at hl 1 rfl) ?_
          obtain ⟨q13, hc14, hm⟩ := bd_s hm
          refine ks_v (wo := (wMD G b q13.1 q13.2 kept mark start)) (rV (As := []) (rest := []) (b := (b 0)) (wi := (wMD G b w dep kept mark start)) hF hK hP hD (c_X5_saveState l G N b w dep kept mark start q13 hc14 H.size) (cwV 0 hts gX5_put_X5_saveState rfl rfl rfl (by decide +kernel) ⟨Nat.le_of_ble_eq_true rfl, Nat.le_of_ble_eq_true rfl⟩) (va_recv hK.1 hP (ci := 5) (q0 := 0) rfl rfl) rfl hl.1 rfl (Nat.le_of_ble_eq_true rfl) dX5_put_57 ⟨Nat.le_of_ble_eq_true rfl, Nat.le_of_ble_eq_true rfl⟩) hD hS hA (fun H locs hP hD hS => ?_)
          have hP : va_P G.1 vwCl (wMD G b q13.1 q13.2 kept mark start) H := hP
          have hD : va_D A (wMD G b q13.1 q13.2 kept mark start) := hD
          refine lv_iload hx hb dX5_put_60 (lv_at hl 0 rfl) ?_
          refine lv_bipush (v := (-9)) hx hb dX5_put_62 (by decide) ?_
          refine lv_icmp_ne (tgt := 90) hx hb dX5_put_64 (by decide) (fun c15 => ?_) (fun c15 => ?_)
          · replace hm := it_f c15 hm
            refine lv_aload_n hx hb dX5_put_90 rfl (lv_at hl 1 rfl) ?_
            refine lv_iload_n hx hb dX5_put_91 rfl (lv_at hl 2 rfl) ?_
            refine lv_bipush (v := 9) hx hb dX5_put_92 (by decide) ?_
            refine lv_iload hx hb dX5_put_94 (lv_at hl 0 rfl) ?_
            refine lv_iadd hx hb dX5_put_96 ?_
            obtain ⟨q16, hc17, hm⟩ := bd_s hm
            refine ks_i (wo := (wMD G b q13.1 q13.2 kept mark start)) (rV (As := [.int p1, .int (9 + q10)]) (rest := []) (b := (b 0)) (wi := (wMD G b q13.1 q13.2 kept mark start)) hF hK hP hD (c_X5_part l G b q13.1 q13.2 kept mark start p1 (9 + q10) q16 hc17 H.size) (cwV 2 hts gX5_put_X5_part rfl rfl rfl (by decide +kernel) ⟨Nat.le_of_ble_eq_true rfl, Nat.le_of_ble_eq_true rfl⟩) (va_recv hK.1 hP (ci := 5) (q0 := 0) rfl rfl) rfl hl.1 rfl (Nat.le_of_ble_eq_true rfl) dX5_put_97 ⟨Nat.le_of_ble_eq_true rfl, Nat.le_of_ble_eq_true rfl⟩) hD hS hA (fun H locs hP hD hS => ?_)
            have hP : va_P G.1 vwCl (wMD G b q13.1 q13.2 kept mark start) H := hP
            have hD : va_D A (wMD G b q13.1 q13.2 kept mark start) := hD
            refine lv_istore (lv' := [(5, .int q16), (4, .int q10), (0, .ref (b 0)), (1, .int p1), (2, .int p2), (3, .int p3)]) hx hb dX5_put_100 hl (by decide) rfl (fun ls hl => ?_)
            refine lv_aload_n hx hb dX5_put_102 rfl (lv_at hl 2 rfl) ?_
            refine va_get (D := G.1) (ci := 5) (v := .ref (b 1)) (C := RX5) (T := TX5) (N := 5) hx hb hts w1_X5_put hown hK.1 hP 0 rfl rfl 0 (by decide) (hts _ w0_X5_put) (fun _ h9 => h9) rfl dX5_put_103 ?_
            refine lv_bipush (v := 15) hx hb dX5_put_106 (by decide) ?_
            refine lv_iload_n hx hb dX5_put_108 rfl (lv_at hl 3 rfl) ?_
            refine lv_imul hx hb dX5_put_109 ?_
            refine lv_iconst (v := 3) hx hb dX5_put_110 (by decide) ?_
            refine lv_iadd hx hb dX5_put_111 ?_
            refine lv_iload hx hb dX5_put_112 (lv_at hl 1 rfl) ?_
            refine lv_iadd hx hb dX5_put_114 ?_
            refine lv_iload_n hx hb dX5_put_115 rfl (lv_at hl 4 rfl) ?_
            obtain ⟨hi18, hm⟩ := gd_s hm
            refine va_iast hx hb hK.1 hP hD hS 1 0 rfl rfl hi18 dX5_put_116 (fun H locs hP hD hS => ?_)
            have hP : va_P G.1 vwCl (wMD G b (upd q13.1 (((15 * p1) + 3) + q10).toNatClampNeg p2) q13.2 kept mark start) H := hP
            have hD : va_D A (wMD G b (upd q13.1 (((15 * p1) + 3) + q10).toNatClampNeg p2) q13.2 kept mark start) := hD
            refine lv_aload_n hx hb dX5_put_117 rfl (lv_at hl 2 rfl) ?_
            refine va_get (D := G.1) (ci := 5) (v := .ref (b 1)) (C := RX5) (T := TX5) (N := 5) hx hb hts w1_X5_put hown hK.1 hP 0 rfl rfl 0 (by decide) (hts _ w0_X5_put) (fun _ h9 => h9) rfl dX5_put_118 ?_
            refine lv_bipush (v := 15) hx hb dX5_put_121 (by decide) ?_
            refine lv_iload_n hx hb dX5_put_123 rfl (lv_at hl 3 rfl) ?_
            refine lv_imul hx hb dX5_put_124 ?_
            refine lv_bipush (v := 9) hx hb dX5_put_125 (by decide) ?_
            refine lv_iadd hx hb dX5_put_127 ?_
            refine lv_iload hx hb dX5_put_128 (lv_at hl 1 rfl) ?_
            refine lv_iadd hx hb dX5_put_130 ?_
            refine lv_iload_n hx hb dX5_put_131 rfl (lv_at hl 5 rfl) ?_
            obtain ⟨hi19, hm⟩ := gd_s hm
            refine va_iast hx hb hK.1 hP hD hS 1 0 rfl rfl hi19 dX5_put_132 (fun H locs hP hD hS => ?_)
            have hP : va_P G.1 vwCl (wMD G b (upd (upd q13.1 (((15 * p1) + 3) + q10).toNatClampNeg p2) (((15 * p1) + 9) + q10).toNatClampNeg p3) q13.2 kept mark start) H := hP
            have hD : va_D A (wMD G b (upd (upd q13.1 (((15 * p1) + 3) + q10).toNatClampNeg p2) (((15 * p1) + 9) + q10).toNatClampNeg p3) q13.2 kept mark start) := hD
            refine lv_iload hx hb dX5_put_133 (lv_at hl 0 rfl) ?_
            cases hm
            exact rt_i hx hb hr hlocks hP hD hS dX5_put_135
          · replace hm := it_t c15 hm
            refine lv_aload_n hx hb dX5_put_67 rfl (lv_at hl 1 rfl) ?_
            refine lv_iload_n hx hb dX5_put_68 rfl (lv_at hl 2 rfl) ?_
            refine lv_iconst (v := 2) hx hb dX5_put_69 (by decide) ?_
            obtain ⟨q20, hc21, hm⟩ := bd_s hm
            refine ks_i (wo := (wMD G b q13.1 q13.2 kept mark start)) (rV (As := [.int p1, .int 2]) (rest := []) (b := (b 0)) (wi := (wMD G b q13.1 q13.2 kept mark start)) hF hK hP hD (c_X5_part l G b q13.1 q13.2 kept mark start p1 2 q20 hc21 H.size) (cwV 2 hts gX5_put_X5_part rfl rfl rfl (by decide +kernel) ⟨Nat.le_of_ble_eq_true rfl, Nat.le_of_ble_eq_true rfl⟩) (va_recv hK.1 hP (ci := 5) (q0 := 0) rfl rfl) rfl hl.1 rfl (Nat.le_of_ble_eq_true rfl) dX5_put_70 ⟨Nat.le_of_ble_eq_true rfl, Nat.le_of_ble_eq_true rfl⟩) hD hS hA (fun H locs hP hD hS => ?_)
            have hP : va_P G.1 vwCl (wMD G b q13.1 q13.2 kept mark start) H := hP
            have hD : va_D A (wMD G b q13.1 q13.2 kept mark start) := hD
            refine lv_istore (lv' := [(4, .int q20), (0, .ref (b 0)), (1, .int p1), (2, .int p2), (3, .int p3)]) hx hb dX5_put_73 hl (by decide) rfl (fun ls hl => ?_)
            refine lv_aload_n hx hb dX5_put_75 rfl (lv_at hl 1 rfl) ?_
            refine va_get (D := G.1) (ci := 5) (v := .ref (b 1)) (C := RX5) (T := TX5) (N := 5) hx hb hts w1_X5_put hown hK.1 hP 0 rfl rfl 0 (by decide) (hts _ w0_X5_put) (fun _ h9 => h9) rfl dX5_put_76 ?_
            refine lv_bipush (v := 15) hx hb dX5_put_79 (by decide) ?_
            refine lv_iload_n hx hb dX5_put_81 rfl (lv_at hl 2 rfl) ?_
            refine lv_imul hx hb dX5_put_82 ?_
            refine lv_iconst (v := 2) hx hb dX5_put_83 (by decide) ?_
            refine lv_iadd hx hb dX5_put_84 ?_
            refine lv_dup2_11 hx hb dX5_put_85 rfl rfl ?_
            obtain ⟨hi22, hm⟩ := gd_s hm
            refine va_iald hx hb hK.1 hP 1 0 rfl rfl hi22 dX5_put_86 ?_
            refine lv_iconst (v := 1) hx hb dX5_put_87 (by decide) ?_
            refine lv_iadd hx hb dX5_put_88 ?_
            obtain ⟨hi23, hm⟩ := gd_s hm
            refine va_iast hx hb hK.1 hP hD hS 1 0 rfl rfl hi23 dX5_put_89 (fun H locs hP hD hS => ?_)
            have hP : va_P G.1 vwCl (wMD G b (upd q13.1 ((15 * p1) + 2).toNatClampNeg ((q13.1 ((15 * p1) + 2).toNatClampNeg) + 1)) q13.2 kept mark start) H := hP
            have hD : va_D A (wMD G b (upd q13.1 ((15 * p1) + 2).toNatClampNeg ((q13.1 ((15 * p1) + 2).toNatClampNeg) + 1)) q13.2 kept mark start) := hD
            refine lv_aload_n hx hb dX5_put_90 rfl (lv_at hl 1 rfl) ?_
            refine lv_iload_n hx hb dX5_put_91 rfl (lv_at hl 2 rfl) ?_
            refine lv_bipush (v := 9) hx hb dX5_put_92 (by decide) ?_
            refine lv_iload hx hb dX5_put_94 (lv_at hl 0 rfl) ?_
            refine lv_iadd hx hb dX5_put_96 ?_
            obtain ⟨q24, hc25, hm⟩ := bd_s hm
            refine ks_i (wo := (wMD G b (upd q13.1 ((15 * p1) + 2).toNatClampNeg ((q13.1 ((15 * p1) + 2).toNatClampNeg) + 1)) q13.2 kept mark start)) (rV (As := [.int p1, .int (9 + q20)]) (rest := []) (b := (b 0)) (wi := (wMD G b (upd q13.1 ((15 * p1) + 2).toNatClampNeg ((q13.1 ((15 * p1) + 2).toNatClampNeg) + 1)) q13.2 kept mark start)) hF hK hP hD (c_X5_part l G b (upd q13.1 ((15 * p1) + 2).toNatClampNeg ((q13.1 ((15 * p1) + 2).toNatClampNeg) + 1)) q13.2 kept mark start p1 (9 + q20) q24 hc25 H.size) (cwV 2 hts gX5_put_X5_part rfl rfl rfl (by decide +kernel) ⟨Nat.le_of_ble_eq_true rfl, Nat.le_of_ble_eq_true rfl⟩) (va_recv hK.1 hP (ci := 5) (q0 := 0) rfl rfl) rfl hl.1 rfl (Nat.le_of_ble_eq_true rfl) dX5_put_97 ⟨Nat.le_of_ble_eq_true rfl, Nat.le_of_ble_eq_true rfl⟩) hD hS hA (fun H locs hP hD hS => ?_)
            have hP : va_P G.1 vwCl (wMD G b (upd q13.1 ((15 * p1) + 2).toNatClampNeg ((q13.1 ((15 * p1) + 2).toNatClampNeg) + 1)) q13.2 kept mark start) H := hP
            have hD : va_D A (wMD G b (upd q13.1 ((15 * p1) + 2).toNatClampNeg ((q13.1 ((15 * p1) + 2).toNatClampNeg) + 1)) q13.2 kept mark start) := hD
            refine lv_istore (lv' := [(5, .int q24), (4, .int q20), (0, .ref (b 0)), (1, .int p1), (2, .int p2), (3, .int p3)]) hx hb dX5_put_100 hl (by decide) rfl (fun ls hl => ?_)
            refine lv_aload_n hx hb dX5_put_102 rfl (lv_at hl 2 rfl) ?_
            refine va_get (D := G.1) (ci := 5) (v := .ref (b 1)) (C := RX5) (T := TX5) (N := 5) hx hb hts w1_X5_put hown hK.1 hP 0 rfl rfl 0 (by decide) (hts _ w0_X5_put) (fun _ h9 => h9) rfl dX5_put_103 ?_
            refine lv_bipush (v := 15) hx hb dX5_put_106 (by decide) ?_
            refine lv_iload_n hx hb dX5_put_108 rfl (lv_at hl 3 rfl) ?_
            refine lv_imul hx hb dX5_put_109 ?_
            refine lv_iconst (v := 3) hx hb dX5_put_110 (by decide) ?_
            refine lv_iadd hx hb dX5_put_111 ?_
            refine lv_iload hx hb dX5_put_112 (lv_at hl 1 rfl) ?_
            refine lv_iadd hx hb dX5_put_114 ?_
            refine lv_iload_n hx hb dX5_put_115 rfl (lv_at hl 4 rfl) ?_
            obtain ⟨hi26, hm⟩ := gd_s hm
            refine va_iast hx hb hK.1 hP hD hS 1 0 rfl rfl hi26 dX5_put_116 (fun H locs hP hD hS => ?_)
            have hP : va_P G.1 vwCl (wMD G b (upd (upd q13.1 ((15 * p1) + 2).toNatClampNeg ((q13.1 ((15 * p1) + 2).toNatClampNeg) + 1)) (((15 * p1) + 3) + q20).toNatClampNeg p2) q13.2 kept mark start) H := hP
            have hD : va_D A (wMD G b (upd (upd q13.1 ((15 * p1) + 2).toNatClampNeg ((q13.1 ((15 * p1) + 2).toNatClampNeg) + 1)) (((15 * p1) + 3) + q20).toNatClampNeg p2) q13.2 kept mark start) := hD
            refine lv_aload_n hx hb dX5_put_117 rfl (lv_at hl 2 rfl) ?_
            refine va_get (D := G.1) (ci := 5) (v := .ref (b 1)) (C := RX5) (T := TX5) (N := 5) hx hb hts w1_X5_put hown hK.1 hP 0 rfl rfl 0 (by decide) (hts _ w0_X5_put) (fun _ h9 => h9) rfl dX5_put_118 ?_
            refine lv_bipush (v := 15) hx hb dX5_put_121 (by decide) ?_
            refine lv_iload_n hx hb dX5_put_123 rfl (lv_at hl 3 rfl) ?_
            refine lv_imul hx hb dX5_put_124 ?_
            refine lv_bipush (v := 9) hx hb dX5_put_125 (by decide) ?_
            refine lv_iadd hx hb dX5_put_127 ?_
            refine lv_iload hx hb dX5_put_128 (lv_at hl 1 rfl) ?_
            refine lv_iadd hx hb dX5_put_130 ?_
            refine lv_iload_n hx hb dX5_put_131 rfl (lv_at hl 5 rfl) ?_
            obtain ⟨hi27, hm⟩ := gd_s hm
            refine va_iast hx hb hK.1 hP hD hS 1 0 rfl rfl hi27 dX5_put_132 (fun H locs hP hD hS => ?_)
            have hP : va_P G.1 vwCl (wMD G b (upd (upd (upd q13.1 ((15 * p1) + 2).toNatClampNeg ((q13.1 ((15 * p1) + 2).toNatClampNeg) + 1)) (((15 * p1) + 3) + q20).toNatClampNeg p2) (((15 * p1) + 9) + q20).toNatClampNeg p3) q13.2 kept mark start) H := hP
            have hD : va_D A (wMD G b (upd (upd (upd q13.1 ((15 * p1) + 2).toNatClampNeg ((q13.1 ((15 * p1) + 2).toNatClampNeg) + 1)) (((15 * p1) + 3) + q20).toNatClampNeg p2) (((15 * p1) + 9) + q20).toNatClampNeg p3) q13.2 kept mark start) := hD
            refine lv_iload hx hb dX5_put_133 (lv_at hl 0 rfl) ?_
            cases hm
            exact rt_i hx hb hr hlocks hP hD hS dX5_put_135
        · replace hm := it_t c12 hm
          refine lv_aload_n hx hb dX5_put_42 rfl (lv_at hl 1 rfl) ?_
          refine lv_iload_n hx hb dX5_put_43 rfl (lv_at hl 2 rfl) ?_
          refine lv_iconst (v := 2) hx hb dX5_put_44 (by decide) ?_
          obtain ⟨q28, hc29, hm⟩ := bd_s hm
          refine ks_i (wo := (wMD G b w dep kept mark start)) (rV (As := [.int p1, .int 2]) (rest := []) (b := (b 0)) (wi := (wMD G b w dep kept mark start)) hF hK hP hD (c_X5_part l G b w dep kept mark start p1 2 q28 hc29 H.size) (cwV 2 hts gX5_put_X5_part rfl rfl rfl (by decide +kernel) ⟨Nat.le_of_ble_eq_true rfl, Nat.le_of_ble_eq_true rfl⟩) (va_recv hK.1 hP (ci := 5) (q0 := 0) rfl rfl) rfl hl.1 rfl (Nat.le_of_ble_eq_true rfl) dX5_put_45 ⟨Nat.le_of_ble_eq_true rfl, Nat.le_of_ble_eq_true rfl⟩) hD hS hA (fun H locs hP hD hS => ?_)
          have hP : va_P G.1 vwCl (wMD G b w dep kept mark start) H := hP
          have hD : va_D A (wMD G b w dep kept mark start) := hD
          refine lv_bipush (v := 6) hx hb dX5_put_48 (by decide) ?_
          refine lv_icmp_ne (tgt := 56) hx hb dX5_put_50 (by decide) (fun c30 => ?_) (fun c30 => ?_)
          · replace hm := it_f c30 hm
            refine lv_aload_n hx hb dX5_put_56 rfl (lv_at hl 1 rfl) ?_
            obtain ⟨q31, hc32, hm⟩ := bd_s hm
            refine ks_v (wo := (wMD G b q31.1 q31.2 kept mark start)) (rV (As := []) (rest := []) (b := (b 0)) (wi := (wMD G b w dep kept mark start)) hF hK hP hD (c_X5_saveState l G N b w dep kept mark start q31 hc32 H.size) (cwV 0 hts gX5_put_X5_saveState rfl rfl rfl (by decide +kernel) ⟨Nat.le_of_ble_eq_true rfl, Nat.le_of_ble_eq_true rfl⟩) (va_recv hK.1 hP (ci := 5) (q0 := 0) rfl rfl) rfl hl.1 rfl (Nat.le_of_ble_eq_true rfl) dX5_put_57 ⟨Nat.le_of_ble_eq_true rfl, Nat.le_of_ble_eq_true rfl⟩) hD hS hA (fun H locs hP hD hS => ?_)
            have hP : va_P G.1 vwCl (wMD G b q31.1 q31.2 kept mark start) H := hP
            have hD : va_D A (wMD G b q31.1 q31.2 kept mark start) := hD
            refine lv_iload hx hb dX5_put_60 (lv_at hl 0 rfl) ?_
            refine lv_bipush (v := (-9)) hx hb dX5_put_62 (by decide) ?_
            refine lv_icmp_ne (tgt := 90) hx hb dX5_put_64 (by decide) (fun c33 => ?_) (fun c33 => ?_)
            · replace hm := it_f c33 hm
              refine lv_aload_n hx hb dX5_put_90 rfl (lv_at hl 1 rfl) ?_
              refine lv_iload_n hx hb dX5_put_91 rfl (lv_at hl 2 rfl) ?_
              refine lv_bipush (v := 9) hx hb dX5_put_92 (by decide) ?_
              refine lv_iload hx hb dX5_put_94 (lv_at hl 0 rfl) ?_
              refine lv_iadd hx hb dX5_put_96 ?_
              obtain ⟨q34, hc35, hm⟩ := bd_s hm
              refine ks_i (wo := (wMD G b q31.1 q31.2 kept mark start)) (rV (As := [.int p1, .int (9 + q10)]) (rest := []) (b := (b 0)) (wi := (wMD G b q31.1 q31.2 kept mark start)) hF hK hP hD (c_X5_part l G b q31.1 q31.2 kept mark start p1 (9 + q10) q34 hc35 H.size) (cwV 2 hts gX5_put_X5_part rfl rfl rfl (by decide +kernel) ⟨Nat.le_of_ble_eq_true rfl, Nat.le_of_ble_eq_true rfl⟩) (va_recv hK.1 hP (ci := 5) (q0 := 0) rfl rfl) rfl hl.1 rfl (Nat.le_of_ble_eq_true rfl) dX5_put_97 ⟨Nat.le_of_ble_eq_true rfl, Nat.le_of_ble_eq_true rfl⟩) hD hS hA (fun H locs hP hD hS => ?_)
              have hP : va_P G.1 vwCl (wMD G b q31.1 q31.2 kept mark start) H := hP
              have hD : va_D A (wMD G b q31.1 q31.2 kept mark start) := hD
              refine lv_istore (lv' := [(5, .int q34), (4, .int q10), (0, .ref (b 0)), (1, .int p1), (2, .int p2), (3, .int p3)]) hx hb dX5_put_100 hl (by decide) rfl (fun ls hl => ?_)
              refine lv_aload_n hx hb dX5_put_102 rfl (lv_at hl 2 rfl) ?_
              refine va_get (D := G.1) (ci := 5) (v := .ref (b 1)) (C := RX5) (T := TX5) (N := 5) hx hb hts w1_X5_put hown hK.1 hP 0 rfl rfl 0 (by decide) (hts _ w0_X5_put) (fun _ h9 => h9) rfl dX5_put_103 ?_
              refine lv_bipush (v := 15) hx hb dX5_put_106 (by decide) ?_
              refine lv_iload_n hx hb dX5_put_108 rfl (lv_at hl 3 rfl) ?_
              refine lv_imul hx hb dX5_put_109 ?_
              refine lv_iconst (v := 3) hx hb dX5_put_110 (by decide) ?_
              refine lv_iadd hx hb dX5_put_111 ?_
              refine lv_iload hx hb dX5_put_112 (lv_at hl 1 rfl) ?_
              refine lv_iadd hx hb dX5_put_114 ?_
              refine lv_iload_n hx hb dX5_put_115 rfl (lv_at hl 4 rfl) ?_
              obtain ⟨hi36, hm⟩ := gd_s hm
              refine va_iast hx hb hK.1 hP hD hS 1 0 rfl rfl hi36 dX5_put_116 (fun H locs hP hD hS => ?_)
              have hP : va_P G.1 vwCl (wMD G b (upd q31.1 (((15 * p1) + 3) + q10).toNatClampNeg p2) q31.2 kept mark start) H := hP
              have hD : va_D A (wMD G b (upd q31.1 (((15 * p1) + 3) + q10).toNatClampNeg p2) q31.2 kept mark start) := hD
              refine lv_aload_n hx hb dX5_put_117 rfl (lv_at hl 2 rfl) ?_
              refine va_get (D := G.1) (ci := 5) (v := .ref (b 1)) (C := RX5) (T := TX5) (N := 5) hx hb hts w1_X5_put hown hK.1 hP 0 rfl rfl 0 (by decide) (hts _ w0_X5_put) (fun _ h9 => h9) rfl dX5_put_118 ?_
              refine lv_bipush (v := 15) hx hb dX5_put_121 (by decide) ?_
              refine lv_iload_n hx hb dX5_put_123 rfl (lv_at hl 3 rfl) ?_
              refine lv_imul hx hb dX5_put_124 ?_
              refine lv_bipush (v := 9) hx hb dX5_put_125 (by decide) ?_
              refine lv_iadd hx hb dX5_put_127 ?_
              refine lv_iload hx hb dX5_put_128 (lv_at hl 1 rfl) ?_
              refine lv_iadd hx hb dX5_put_130 ?_
              refine lv_iload_n hx hb dX5_put_131 rfl (lv_at hl 5 rfl) ?_
              obtain ⟨hi37, hm⟩ := gd_s hm
              refine va_iast hx hb hK.1 hP hD hS 1 0 rfl rfl hi37 dX5_put_132 (fun H locs hP hD hS => ?_)
              have hP : va_P G.1 vwCl (wMD G b (upd (upd q31.1 (((15 * p1) + 3) + q10).toNatClampNeg p2) (((15 * p1) + 9) + q10).toNatClampNeg p3) q31.2 kept mark start) H := hP
              have hD : va_D A (wMD G b (upd (upd q31.1 (((15 * p1) + 3) + q10).toNatClampNeg p2) (((15 * p1) + 9) + q10).toNatClampNeg p3) q31.2 kept mark start) := hD
              refine lv_iload hx hb dX5_put_133 (lv_at hl 0 rfl) ?_
              cases hm
              exact rt_i hx hb hr hlocks hP hD hS dX5_put_135
            · replace hm := it_t c33 hm
              refine lv_aload_n hx hb dX5_put_67 rfl (lv_at hl 1 rfl) ?_
              refine lv_iload_n hx hb dX5_put_68 rfl (lv_at hl 2 rfl) ?_
              refine lv_iconst (v := 2) hx hb dX5_put_69 (by decide) ?_
              obtain ⟨q38, hc39, hm⟩ := bd_s hm
              refine ks_i (wo := (wMD G b q31.1 q31.2 kept mark start)) (rV (As := [.int p1, .int 2]) (rest := []) (b := (b 0)) (wi := (wMD G b q31.1 q31.2 kept mark start)) hF hK hP hD (c_X5_part l G b q31.1 q31.2 kept mark start p1 2 q38 hc39 H.size) (cwV 2 hts gX5_put_X5_part rfl rfl rfl (by decide +kernel) ⟨Nat.le_of_ble_eq_true rfl, Nat.le_of_ble_eq_true rfl⟩) (va_recv hK.1 hP (ci := 5) (q0 := 0) rfl rfl) rfl hl.1 rfl (Nat.le_of_ble_eq_true rfl) dX5_put_70 ⟨Nat.le_of_ble_eq_true rfl, Nat.le_of_ble_eq_true rfl⟩) hD hS hA (fun H locs hP hD hS => ?_)
              have hP : va_P G.1 vwCl (wMD G b q31.1 q31.2 kept mark start) H := hP
              have hD : va_D A (wMD G b q31.1 q31.2 kept mark start) := hD
              refine lv_istore (lv' := [(4, .int q38), (0, .ref (b 0)), (1, .int p1), (2, .int p2), (3, .int p3)]) hx hb dX5_put_73 hl (by decide) rfl (fun ls hl => ?_)
              refine lv_aload_n hx hb dX5_put_75 rfl (lv_at hl 1 rfl) ?_
              refine va_get (D := G.1) (ci := 5) (v := .ref (b 1)) (C := RX5) (T := TX5) (N := 5) hx hb hts w1_X5_put hown hK.1 hP 0 rfl rfl 0 (by decide) (hts _ w0_X5_put) (fun _ h9 => h9) rfl dX5_put_76 ?_
              refine lv_bipush (v := 15) hx hb dX5_put_79 (by decide) ?_
              refine lv_iload_n hx hb dX5_put_81 rfl (lv_at hl 2 rfl) ?_
              refine lv_imul hx hb dX5_put_82 ?_
              refine lv_iconst (v := 2) hx hb dX5_put_83 (by decide) ?_
              refine lv_iadd hx hb dX5_put_84 ?_
              refine lv_dup2_11 hx hb dX5_put_85 rfl rfl ?_
              obtain ⟨hi40, hm⟩ := gd_s hm
              refine va_iald hx hb hK.1 hP 1 0 rfl rfl hi40 dX5_put_86 ?_
              refine lv_iconst (v := 1) hx hb dX5_put_87 (by decide) ?_
              refine lv_iadd hx hb dX5_put_88 ?_
              obtain ⟨hi41, hm⟩ := gd_s hm
              refine va_iast hx hb hK.1 hP hD hS 1 0 rfl rfl hi41 dX5_put_89 (fun H locs hP hD hS => ?_)
              have hP : va_P G.1 vwCl (wMD G b (upd q31.1 ((15 * p1) + 2).toNatClampNeg ((q31.1 ((15 * p1) + 2).toNatClampNeg) + 1)) q31.2 kept mark start) H := hP
              have hD : va_D A (wMD G b (upd q31.1 ((15 * p1) + 2).toNatClampNeg ((q31.1 ((15 * p1) + 2).toNatClampNeg) + 1)) q31.2 kept mark start) := hD
              refine lv_aload_n hx hb dX5_put_90 rfl (lv_at hl 1 rfl) ?_
              refine lv_iload_n hx hb dX5_put_91 rfl (lv_at hl 2 rfl) ?_
              refine lv_bipush (v := 9) hx hb dX5_put_92 (by decide) ?_
              refine lv_iload hx hb dX5_put_94 (lv_at hl 0 rfl) ?_
              refine lv_iadd hx hb dX5_put_96 ?_
              obtain ⟨q42, hc43, hm⟩ := bd_s hm
              refine ks_i (wo := (wMD G b (upd q31.1 ((15 * p1) + 2).toNatClampNeg ((q31.1 ((15 * p1) + 2).toNatClampNeg) + 1)) q31.2 kept mark start)) (rV (As := [.int p1, .int (9 + q38)]) (rest := []) (b := (b 0)) (wi := (wMD G b (upd q31.1 ((15 * p1) + 2).toNatClampNeg ((q31.1 ((15 * p1) + 2).toNatClampNeg) + 1)) q31.2 kept mark start)) hF hK hP hD (c_X5_part l G b (upd q31.1 ((15 * p1) + 2).toNatClampNeg ((q31.1 ((15 * p1) + 2).toNatClampNeg) + 1)) q31.2 kept mark start p1 (9 + q38) q42 hc43 H.size) (cwV 2 hts gX5_put_X5_part rfl rfl rfl (by decide +kernel) ⟨Nat.le_of_ble_eq_true rfl, Nat.le_of_ble_eq_true rfl⟩) (va_recv hK.1 hP (ci := 5) (q0 := 0) rfl rfl) rfl hl.1 rfl (Nat.le_of_ble_eq_true rfl) dX5_put_97 ⟨Nat.le_of_ble_eq_true rfl, Nat.le_of_ble_eq_true rfl⟩) hD hS hA (fun H locs hP hD hS => ?_)
              have hP : va_P G.1 vwCl (wMD G b (upd q31.1 ((15 * p1) + 2).toNatClampNeg ((q31.1 ((15 * p1) + 2).toNatClampNeg) + 1)) q31.2 kept mark start) H := hP
              have hD : va_D A (wMD G b (upd q31.1 ((15 * p1) + 2).toNatClampNeg ((q31.1 ((15 * p1) + 2).toNatClampNeg) + 1)) q31.2 kept mark start) := hD
              refine lv_istore (lv' := [(5, .int q42), (4, .int q38), (0, .ref (b 0)), (1, .int p1), (2, .int p2), (3, .int p3)]) hx hb dX5_put_100 hl (by decide) rfl (fun ls hl => ?_)
              refine lv_aload_n hx hb dX5_put_102 rfl (lv_at hl 2 rfl) ?_
              refine va_get (D := G.1) (ci := 5) (v := .ref (b 1)) (C := RX5) (T := TX5) (N := 5) hx hb hts w1_X5_put hown hK.1 hP 0 rfl rfl 0 (by decide) (hts _ w0_X5_put) (fun _ h9 => h9) rfl dX5_put_103 ?_
              refine lv_bipush (v := 15) hx hb dX5_put_106 (by decide) ?_
              refine lv_iload_n hx hb dX5_put_108 rfl (lv_at hl 3 rfl) ?_
              refine lv_imul hx hb dX5_put_109 ?_
              refine lv_iconst (v := 3) hx hb dX5_put_110 (by decide) ?_
              refine lv_iadd hx hb dX5_put_111 ?_
              refine lv_iload hx hb dX5_put_112 (lv_at hl 1 rfl) ?_
              refine lv_iadd hx hb dX5_put_114 ?_
              refine lv_iload_n hx hb dX5_put_115 rfl (lv_at hl 4 rfl) ?_
              obtain ⟨hi44, hm⟩ := gd_s hm
              refine va_iast hx hb hK.1 hP hD hS 1 0 rfl rfl hi44 dX5_put_116 (fun H locs hP hD hS => ?_)
              have hP : va_P G.1 vwCl (wMD G b (upd (upd q31.1 ((15 * p1) + 2).toNatClampNeg ((q31.1 ((15 * p1) + 2).toNatClampNeg) + 1)) (((15 * p1) + 3) + q38).toNatClampNeg p2) q31.2 kept mark start) H := hP
              have hD : va_D A (wMD G b (upd (upd q31.1 ((15 * p1) + 2).toNatClampNeg ((q31.1 ((15 * p1) + 2).toNatClampNeg) + 1)) (((15 * p1) + 3) + q38).toNatClampNeg p2) q31.2 kept mark start) := hD
              refine lv_aload_n hx hb dX5_put_117 rfl (lv_at hl 2 rfl) ?_
              refine va_get (D := G.1) (ci := 5) (v := .ref (b 1)) (C := RX5) (T := TX5) (N := 5) hx hb hts w1_X5_put hown hK.1 hP 0 rfl rfl 0 (by decide) (hts _ w0_X5_put) (fun _ h9 => h9) rfl dX5_put_118 ?_
              refine lv_bipush (v := 15) hx hb dX5_put_121 (by decide) ?_
              refine lv_iload_n hx hb dX5_put_123 rfl (lv_at hl 3 rfl) ?_
              refine lv_imul hx hb dX5_put_124 ?_
              refine lv_bipush (v := 9) hx hb dX5_put_125 (by decide) ?_
              refine lv_iadd hx hb dX5_put_127 ?_
              refine lv_iload hx hb dX5_put_128 (lv_at hl 1 rfl) ?_
              refine lv_iadd hx hb dX5_put_130 ?_
              refine lv_iload_n hx hb dX5_put_131 rfl (lv_at hl 5 rfl) ?_
              obtain ⟨hi45, hm⟩ := gd_s hm
              refine va_iast hx hb hK.1 hP hD hS 1 0 rfl rfl hi45 dX5_put_132 (fun H locs hP hD hS => ?_)
              have hP : va_P G.1 vwCl (wMD G b (upd (upd (upd q31.1 ((15 * p1) + 2).toNatClampNeg ((q31.1 ((15 * p1) + 2).toNatClampNeg) + 1)) (((15 * p1) + 3) + q38).toNatClampNeg p2) (((15 * p1) + 9) + q38).toNatClampNeg p3) q31.2 kept mark start) H := hP
              have hD : va_D A (wMD G b (upd (upd (upd q31.1 ((15 * p1) + 2).toNatClampNeg ((q31.1 ((15 * p1) + 2).toNatClampNeg) + 1)) (((15 * p1) + 3) + q38).toNatClampNeg p2) (((15 * p1) + 9) + q38).toNatClampNeg p3) q31.2 kept mark start) := hD
              refine lv_iload hx hb dX5_put_133 (lv_at hl 0 rfl) ?_
              cases hm
              exact rt_i hx hb hr hlocks hP hD hS dX5_put_135
          · replace hm := it_t c30 hm
            refine lv_bipush (v := (-3)) hx hb dX5_put_53 (by decide) ?_
            cases hm
            exact rt_i hx hb hr hlocks hP hD hS dX5_put_55
      · replace hm := it_t c9 hm
        refine lv_iconst (v := (-1)) hx hb dX5_put_25 (by decide) ?_
        cases hm
        exact rt_i hx hb hr hlocks hP hD hS dX5_put_26
def M_X5_get (N : Nat) (w : Nat → Int32) (p1 : Int32) (p2 : Int32) : Option (Int32) :=
  (M_X5_isKind w p1 1).bind fun q1 => if q1 = 0 then (some (-1)) else ((M_X5_isAllocated w p2).bind fun q4 => if q4 = 0 then (some (-1)) else ((M_X5_placeOf N w p1 p2).bind fun q7 => if q7 = (-9) then (some (-9)) else ((M_X5_part w p1 (9 + q7)).bind fun q10 => some q10)))
abbrev rm_X5_get : Room := { frames := 3, cells := 0, slots := 0, locals := 65 }
set_option maxHeartbeats 4000000 in
set_option maxRecDepth 100000 in
theorem c_X5_get (l : Launch) (G : GG) (N : Nat) (b : Nat → Nat) (w : Nat → Int32) (dep : Int32) (kept : Nat → Int32) (mark : Nat → Int32) (start : Nat → Int32) (p1 : Int32) (p2 : Int32) (q : Int32) (hm : M_X5_get N w p1 p2 = some q) : CTi l yX5_get wsX5_get rm_X5_get G [.ref (b 0), .int p1, .int p2] (wMD G b w dep kept mark start) q (wMD G b w dep kept mark start) := by
  intro sz
  refine mk_body (Qc := fun A => (QI G A q (wMD G b w dep kept mark start))) (cc := cX5_get) (maxL := 4) (ret := (some .int)) (lv := [(0, .ref (b 0)), (1, .int p1), (2, .int p2)]) (by decide) rfl rfl (Nat.le_of_ble_eq_true rfl) ?_
  intro p e s m args below meth c A H locs ls hF hr hlocks hname hK hA hP hD hS hl
  obtain ⟨hx, hb, hml, hown, hts⟩ := id hF
  unfold M_X5_get at hm
  refine lv_aload_n hx hb dX5_get_0 rfl (lv_at hl 0 rfl) ?_
  refine lv_iload_n hx hb dX5_get_1 rfl (lv_at hl 1 rfl) ?_
  refine lv_iconst (v := 1) hx hb dX5_get_2 (by decide) ?_
  obtain ⟨q1, hc2, hm⟩ := bd_s hm
  refine ks_i (wo := (wMD G b w dep kept mark start)) (rV (As := [.int p1, .int 1]) (rest := []) (b := (b 0)) (wi := (wMD G b w dep kept mark start)) hF hK hP hD (c_X5_isKind l G b w dep kept mark start p1 1 q1 hc2 H.size) (cwV 2 hts gX5_get_X5_isKind rfl rfl rfl (by decide +kernel) ⟨Nat.le_of_ble_eq_true rfl, Nat.le_of_ble_eq_true rfl⟩) (va_recv hK.1 hP (ci := 5) (q0 := 0) rfl rfl) rfl hl.1 rfl (Nat.le_of_ble_eq_true rfl) dX5_get_3 ⟨Nat.le_of_ble_eq_true rfl, Nat.le_of_ble_eq_true rfl⟩) hD hS hA (fun H locs hP hD hS => ?_)
  have hP : va_P G.1 vwCl (wMD G b w dep kept mark start) H := hP
  have hD : va_D A (wMD G b w dep kept mark start) := hD
  refine lv_if_eq (tgt := 17) hx hb dX5_get_6 (by decide) (fun c3 => ?_) (fun c3 => ?_)
  · replace hm := it_t c3 hm
    refine lv_iconst (v := (-1)) hx hb dX5_get_17 (by decide) ?_
    cases hm
    exact rt_i hx hb hr hlocks hP hD hS dX5_get_18
  · replace hm := it_f c3 hm
    refine lv_aload_n hx hb dX5_get_9 rfl (lv_at hl 0 rfl) ?_
    refine lv_iload_n hx hb dX5_get_10 rfl (lv_at hl 2 rfl) ?_
    obtain ⟨q4, hc5, hm⟩ := bd_s hm
    refine ks_i (wo := (wMD G b w dep kept mark start)) (rV (As := [.int p2]) (rest := []) (b := (b 0)) (wi := (wMD G b w dep kept mark start)) hF hK hP hD (c_X5_isAllocated l G b w dep kept mark start p2 q4 hc5 H.size) (cwV 1 hts gX5_get_X5_isAllocated rfl rfl rfl (by decide +kernel) ⟨Nat.le_of_ble_eq_true rfl, Nat.le_of_ble_eq_true rfl⟩) (va_recv hK.1 hP (ci := 5) (q0 := 0) rfl rfl) rfl hl.1 rfl (Nat.le_of_ble_eq_true rfl) dX5_get_11 ⟨Nat.le_of_ble_eq_true rfl, Nat.le_of_ble_eq_true rfl⟩) hD hS hA (fun H locs hP hD hS => ?_)
    have hP : va_P G.1 vwCl (wMD G b w dep kept mark start) H := hP
    have hD : va_D A (wMD G b w dep kept mark start) := hD
    refine lv_if_ne (tgt := 19) hx hb dX5_get_14 (by decide) (fun c6 => ?_) (fun c6 => ?_)
    · replace hm := it_f c6 hm
      refine lv_aload_n hx hb dX5_get_19 rfl (lv_at hl 0 rfl) ?_
      refine lv_iload_n hx hb dX5_get_20 rfl (lv_at hl 1 rfl) ?_
      refine lv_iload_n hx hb dX5_get_21 rfl (lv_at hl 2 rfl) ?_
      obtain ⟨q7, hc8, hm⟩ := bd_s hm
      refine ks_i (wo := (wMD G b w dep kept mark start)) (rV (As := [.int p1, .int p2]) (rest := []) (b := (b 0)) (wi := (wMD G b w dep kept mark start)) hF hK hP hD (c_X5_placeOf l G N b w dep kept mark start p1 p2 q7 hc8 H.size) (cwV 2 hts gX5_get_X5_placeOf rfl rfl rfl (by decide +kernel) ⟨Nat.le_of_ble_eq_true rfl, Nat.le_of_ble_eq_true rfl⟩) (va_recv hK.1 hP (ci := 5) (q0 := 0) rfl rfl) rfl hl.1 rfl (Nat.le_of_ble_eq_true rfl) dX5_get_22 ⟨Nat.le_of_ble_eq_true rfl, Nat.le_of_ble_eq_true rfl⟩) hD hS hA (fun H locs hP hD hS => ?_)
      have hP : va_P G.1 vwCl (wMD G b w dep kept mark start) H := hP
      have hD : va_D A (wMD G b w dep kept mark start) := hD
      refine lv_istore_n (lv' := [(3, .int q7), (0, .ref (b 0)), (1, .int p1), (2, .int p2)]) hx hb dX5_get_25 rfl hl (by decide) rfl (fun ls hl => ?_)
      refine lv_iload_n hx hb dX5_get_26 rfl (lv_at hl 0 rfl) ?_
      refine lv_bipush (v := (-9)) hx hb dX5_get_27 (by decide) ?_
      refine lv_icmp_ne (tgt := 37) hx hb dX5_get_29 (by decide) (fun c9 => ?_) (fun c9 => ?_)
      · replace hm := it_f c9 hm
        refine lv_aload_n hx hb dX5_get_37 rfl (lv_at hl 1 rfl) ?_
        refine lv_iload_n hx hb dX5_get_38 rfl (lv_at hl 2 rfl) ?_
        refine lv_bipush (v := 9) hx hb dX5_get_39 (by decide) ?_
        refine lv_iload_n hx hb dX5_get_41 rfl (lv_at hl 0 rfl) ?_
        refine lv_iadd hx hb dX5_get_42 ?_
        obtain ⟨q10, hc11, hm⟩ := bd_s hm
        refine ks_i (wo := (wMD G b w dep kept mark start)) (rV (As := [.int p1, .int (9 + q7)]) (rest := []) (b := (b 0)) (wi := (wMD G b w dep kept mark start)) hF hK hP hD (c_X5_part l G b w dep kept mark start p1 (9 + q7) q10 hc11 H.size) (cwV 2 hts gX5_get_X5_part rfl rfl rfl (by decide +kernel) ⟨Nat.le_of_ble_eq_true rfl, Nat.le_of_ble_eq_true rfl⟩) (va_recv hK.1 hP (ci := 5) (q0 := 0) rfl rfl) rfl hl.1 rfl (Nat.le_of_ble_eq_true rfl) dX5_get_43 ⟨Nat.le_of_ble_eq_true rfl, Nat.le_of_ble_eq_true rfl⟩) hD hS hA (fun H locs hP hD hS => ?_)
        have hP : va_P G.1 vwCl (wMD G b w dep kept mark start) H := hP
        have hD : va_D A (wMD G b w dep kept mark start) := hD
        cases hm
        exact rt_i hx hb hr hlocks hP hD hS dX5_get_46
      · replace hm := it_t c9 hm
        refine lv_bipush (v := (-9)) hx hb dX5_get_32 (by decide) ?_
        refine lv_goto (tgt := 46) hx hb dX5_get_34 (by decide) ?_
        cases hm
        exact rt_i hx hb hr hlocks hP hD hS dX5_get_46
    · replace hm := it_t c6 hm
      refine lv_iconst (v := (-1)) hx hb dX5_get_17 (by decide) ?_
      cases hm
      exact rt_i hx hb hr hlocks hP hD hS dX5_get_18
def M_X5_removeEntry (N : Nat) (w : Nat → Int32) (dep : Int32) (p1 : Int32) (p2 : Int32) : Option (Int32 × (Nat → Int32) × Int32) :=
  (M_X5_isKind w p1 1).bind fun q1 => if q1 = 0 then (some ((-1), w, dep)) else ((M_X5_isAllocated w p2).bind fun q4 => if q4 = 0 then (some ((-1), w, dep)) else ((M_X5_placeOf N w p1 p2).bind fun q7 => if q7 = (-9) then (some ((-2), w, dep)) else ((M_X5_saveState N w dep).bind fun q10 => (M_X5_part q10.1 p1 (9 + q7)).bind fun q12 => (M_X5_removeAt N q10.1 p1 q7).bind fun q14 => some (q12, q14, q10.2))))
abbrev rm_X5_removeEntry : Room := { frames := 3, cells := 0, slots := 0, locals := 65 }
set_option maxHeartbeats 4000000 in
set_option maxRecDepth 100000 in
theorem c_X5_removeEntry (l : Launch) (G : GG) (N : Nat) (b : Nat → Nat) (w : Nat → Int32) (dep : Int32) (kept : Nat → Int32) (mark : Nat → Int32) (start : Nat → Int32) (p1 : Int32) (p2 : Int32) (q : Int32 × (Nat → Int32) × Int32) (hm : M_X5_removeEntry N w dep p1 p2 = some q) : CTi l yX5_removeEntry wsX5_removeEntry rm_X5_removeEntry G [.ref (b 0), .int p1, .int p2] (wMD G b w dep kept mark start) q.1 (wMD G b q.2.1 q.2.2 kept mark start) := by
  intro sz
  refine mk_body (Qc := fun A => (QI G A q.1 (wMD G b q.2.1 q.2.2 kept mark start))) (cc := cX5_removeEntry) (maxL := 5) (ret := (some .int)) (lv := [(0, .ref (b 0)), (1, .int p1), (2, .int p2)]) (by decide) rfl rfl (Nat.le_of_ble_eq_true rfl) ?_
  intro p e s m args below meth c A H locs ls hF hr hlocks hname hK hA hP hD hS hl
  obtain ⟨hx, hb, hml, hown, hts⟩ := id hF
  unfold M_X5_removeEntry at hm
  refine lv_aload_n hx hb dX5_removeEntry_0 rfl (lv_at hl 0 rfl) ?_
  refine lv_iload_n hx hb dX5_removeEntry_1 rfl (lv_at hl 1 rfl) ?_
  refine lv_iconst (v := 1) hx hb dX5_removeEntry_2 (by decide) ?_
  obtain ⟨q1, hc2, hm⟩ := bd_s hm
  refine ks_i (wo := (wMD G b w dep kept mark start)) (rV (As := [.int p1, .int 1]) (rest := []) (b := (b 0)) (wi := (wMD G b w dep kept mark start)) hF hK hP hD (c_X5_isKind l G b w dep kept mark start p1 1 q1 hc2 H.size) (cwV 2 hts gX5_removeEntry_X5_isKind rfl rfl rfl (by decide +kernel) ⟨Nat.le_of_ble_eq_true rfl, Nat.le_of_ble_eq_true rfl⟩) (va_recv hK.1 hP (ci := 5) (q0 := 0) rfl rfl) rfl hl.1 rfl (Nat.le_of_ble_eq_true rfl) dX5_removeEntry_3 ⟨Nat.le_of_ble_eq_true rfl, Nat.le_of_ble_eq_true rfl⟩) hD hS hA (fun H locs hP hD hS => ?_)
  have hP : va_P G.1 vwCl (wMD G b w dep kept mark start) H := hP
  have hD : va_D A (wMD G b w dep kept mark start) := hD
  refine lv_if_eq (tgt := 17) hx hb dX5_removeEntry_6 (by decide) (fun c3 => ?_) (fun c3 => ?_)
  · replace hm := it_t c3 hm
    refine lv_iconst (v := (-1)) hx hb dX5_removeEntry_17 (by decide) ?_
    cases hm
    exact rt_i hx hb hr hlocks hP hD hS dX5_removeEntry_18
  · replace hm := it_f c3 hm
    refine lv_aload_n hx hb dX5_removeEntry_9 rfl (lv_at hl 0 rfl) ?_
    refine lv_iload_n hx hb dX5_removeEntry_10 rfl (lv_at hl 2 rfl) ?_
    obtain ⟨q4, hc5, hm⟩ := bd_s hm
    refine ks_i (wo := (wMD G b w dep kept mark start)) (rV (As := [.int p2]) (rest := []) (b := (b 0)) (wi := (wMD G b w dep kept mark start)) hF hK hP hD (c_X5_isAllocated l G b w dep kept mark start p2 q4 hc5 H.size) (cwV 1 hts gX5_removeEntry_X5_isAllocated rfl rfl rfl (by decide +kernel) ⟨Nat.le_of_ble_eq_true rfl, Nat.le_of_ble_eq_true rfl⟩) (va_recv hK.1 hP (ci := 5) (q0 := 0) rfl rfl) rfl hl.1 rfl (Nat.le_of_ble_eq_true rfl) dX5_removeEntry_11 ⟨Nat.le_of_ble_eq_true rfl, Nat.le_of_ble_eq_true rfl⟩) hD hS hA (fun H locs hP hD hS => ?_)
    have hP : va_P G.1 vwCl (wMD G b w dep kept mark start) H := hP
    have hD : va_D A (wMD G b w dep kept mark start) := hD
    refine lv_if_ne (tgt := 19) hx hb dX5_removeEntry_14 (by decide) (fun c6 => ?_) (fun c6 => ?_)
    · replace hm := it_f c6 hm
      refine lv_aload_n hx hb dX5_removeEntry_19 rfl (lv_at hl 0 rfl) ?_
      refine lv_iload_n hx hb dX5_removeEntry_20 rfl (lv_at hl 1 rfl) ?_
      refine lv_iload_n hx hb dX5_removeEntry_21 rfl (lv_at hl 2 rfl) ?_
      obtain ⟨q7, hc8, hm⟩ := bd_s hm
      refine ks_i (wo := (wMD G b w dep kept mark start)) (rV (As := [.int p1, .int p2]) (rest := []) (b := (b 0)) (wi := (wMD G b w dep kept mark start)) hF hK hP hD (c_X5_placeOf l G N b w dep kept mark start p1 p2 q7 hc8 H.size) (cwV 2 hts gX5_removeEntry_X5_placeOf rfl rfl rfl (by decide +kernel) ⟨Nat.le_of_ble_eq_true rfl, Nat.le_of_ble_eq_true rfl⟩) (va_recv hK.1 hP (ci := 5) (q0 := 0) rfl rfl) rfl hl.1 rfl (Nat.le_of_ble_eq_true rfl) dX5_removeEntry_22 ⟨Nat.le_of_ble_eq_true rfl, Nat.le_of_ble_eq_true rfl⟩) hD hS hA (fun H locs hP hD hS => ?_)
      have hP : va_P G.1 vwCl (wMD G b w dep kept mark start) H := hP
      have hD : va_D A (wMD G b w dep kept mark start) := hD
      refine lv_istore_n (lv' := [(3, .int q7), (0, .ref (b 0)), (1, .int p1), (2, .int p2)]) hx hb dX5_removeEntry_25 rfl hl (by decide) rfl (fun ls hl => ?_)
      refine lv_iload_n hx hb dX5_removeEntry_26 rfl (lv_at hl 0 rfl) ?_
      refine lv_bipush (v := (-9)) hx hb dX5_removeEntry_27 (by decide) ?_
      refine lv_icmp_ne (tgt := 35) hx hb dX5_removeEntry_29 (by decide) (fun c9 => ?_) (fun c9 => ?_)
      · replace hm := it_f c9 hm
        refine lv_aload_n hx hb dX5_removeEntry_35 rfl (lv_at hl 1 rfl) ?_
        obtain ⟨q10, hc11, hm⟩ := bd_s hm
        refine ks_v (wo := (wMD G b q10.1 q10.2 kept mark start)) (rV (As := []) (rest := []) (b := (b 0)) (wi := (wMD G b w dep kept mark start)) hF hK hP hD (c_X5_saveState l G N b w dep kept mark start q10 hc11 H.size) (cwV 0 hts gX5_removeEntry_X5_saveState rfl rfl rfl (by decide +kernel) ⟨Nat.le_of_ble_eq_true rfl, Nat.le_of_ble_eq_true rfl⟩) (va_recv hK.1 hP (ci := 5) (q0 := 0) rfl rfl) rfl hl.1 rfl (Nat.le_of_ble_eq_true rfl) dX5_removeEntry_36 ⟨Nat.le_of_ble_eq_true rfl, Nat.le_of_ble_eq_true rfl⟩) hD hS hA (fun H locs hP hD hS => ?_)
        have hP : va_P G.1 vwCl (wMD G b q10.1 q10.2 kept mark start) H := hP
        have hD : va_D A (wMD G b q10.1 q10.2 kept mark start) := hD
        refine lv_aload_n hx hb dX5_removeEntry_39 rfl (lv_at hl 1 rfl) ?_
        refine lv_iload_n hx hb dX5_removeEntry_40 rfl (lv_at hl 2 rfl) ?_
        refine lv_bipush (v := 9) hx hb dX5_removeEntry_41 (by decide) ?_
        refine lv_iload_n hx hb dX5_removeEntry_43 rfl (lv_at hl 0 rfl) ?_
        refine lv_iadd hx hb dX5_removeEntry_44 ?_
        obtain ⟨q12, hc13, hm⟩ := bd_s hm
        refine ks_i (wo := (wMD G b q10.1 q10.2 kept mark start)) (rV (As := [.int p1, .int (9 + q7)]) (rest := []) (b := (b 0)) (wi := (wMD G b q10.1 q10.2 kept mark start)) hF hK hP hD (c_X5_part l G b q10.1 q10.2 kept mark start p1 (9 + q7) q12 hc13 H.size) (cwV 2 hts gX5_removeEntry_X5_part rfl rfl rfl (by decide +kernel) ⟨Nat.le_of_ble_eq_true rfl, Nat.le_of_ble_eq_true rfl⟩) (va_recv hK.1 hP (ci := 5) (q0 := 0) rfl rfl) rfl hl.1 rfl (Nat.le_of_ble_eq_true rfl) dX5_removeEntry_45 ⟨Nat.le_of_ble_eq_true rfl, Nat.le_of_ble_eq_true rfl⟩) hD hS hA (fun H locs hP hD hS => ?_)
        have hP : va_P G.1 vwCl (wMD G b q10.1 q10.2 kept mark start) H := hP
        have hD : va_D A (wMD G b q10.1 q10.2 kept mark start) := hD
        refine lv_istore (lv' := [(4, .int q12), (3, .int q7), (0, .ref (b 0)), (1, .int p1), (2, .int p2)]) hx hb dX5_removeEntry_48 hl (by decide) rfl (fun ls hl => ?_)
        refine lv_aload_n hx hb dX5_removeEntry_50 rfl (lv_at hl 2 rfl) ?_
        refine lv_iload_n hx hb dX5_removeEntry_51 rfl (lv_at hl 3 rfl) ?_
        refine lv_iload_n hx hb dX5_removeEntry_52 rfl (lv_at hl 1 rfl) ?_
        obtain ⟨q14, hc15, hm⟩ := bd_s hm
        refine ks_v (wo := (wMD G b q14 q10.2 kept mark start)) (rV (As := [.int p1, .int q7]) (rest := []) (b := (b 0)) (wi := (wMD G b q10.1 q10.2 kept mark start)) hF hK hP hD (c_X5_removeAt l G N b q10.1 q10.2 kept mark start p1 q7 q14 hc15 H.size) (cwV 2 hts gX5_removeEntry_X5_removeAt rfl rfl rfl (by decide +kernel) ⟨Nat.le_of_ble_eq_true rfl, Nat.le_of_ble_eq_true rfl⟩) (va_recv hK.1 hP (ci := 5) (q0 := 0) rfl rfl) rfl hl.1 rfl (Nat.le_of_ble_eq_true rfl) dX5_removeEntry_53 ⟨Nat.le_of_ble_eq_true rfl, Nat.le_of_ble_eq_true rfl⟩) hD hS hA (fun H locs hP hD hS => ?_)
        have hP : va_P G.1 vwCl (wMD G b q14 q10.2 kept mark start) H := hP
        have hD : va_D A (wMD G b q14 q10.2 kept mark start) := hD
        refine lv_iload hx hb dX5_removeEntry_56 (lv_at hl 0 rfl) ?_
        cases hm
        exact rt_i hx hb hr hlocks hP hD hS dX5_removeEntry_58
      · replace hm := it_t c9 hm
        refine lv_bipush (v := (-2)) hx hb dX5_removeEntry_32 (by decide) ?_
        cases hm
        exact rt_i hx hb hr hlocks hP hD hS dX5_removeEntry_34
    · replace hm := it_t c6 hm
      refine lv_iconst (v := (-1)) hx hb dX5_removeEntry_17 (by decide) ?_
      cases hm
      exact rt_i hx hb hr hlocks hP hD hS dX5_removeEntry_18
def M_X5_entryCount (w : Nat → Int32) (p1 : Int32) : Option (Int32) :=
  (M_X5_isKind w p1 1).bind fun q1 => if q1 = 0 then (some (-1)) else ((M_X5_part w p1 2).bind fun q4 => some q4)
abbrev rm_X5_entryCount : Room := { frames := 3, cells := 0, slots := 0, locals := 65 }
set_option maxHeartbeats 4000000 in
set_option maxRecDepth 100000 in
theorem c_X5_entryCount (l : Launch) (G : GG) (b : Nat → Nat) (w : Nat → Int32) (dep : Int32) (kept : Nat → Int32) (mark : Nat → Int32) (start : Nat → Int32) (p1 : Int32) (q : Int32) (hm : M_X5_entryCount w p1 = some q) : CTi l yX5_entryCount wsX5_entryCount rm_X5_entryCount G [.ref (b 0), .int p1] (wMD G b w dep kept mark start) q (wMD G b w dep kept mark start) := by
  intro sz
  refine mk_body (Qc := fun A => (QI G A q (wMD G b w dep kept mark start))) (cc := cX5_entryCount) (maxL := 2) (ret := (some .int)) (lv := [(0, .ref (b 0)), (1, .int p1)]) (by decide) rfl rfl (Nat.le_of_ble_eq_true rfl) ?_
  intro p e s m args below meth c A H locs ls hF hr hlocks hname hK hA hP hD hS hl
  obtain ⟨hx, hb, hml, hown, hts⟩ := id hF
  unfold M_X5_entryCount at hm
  refine lv_aload_n hx hb dX5_entryCount_0 rfl (lv_at hl 0 rfl) ?_
  refine lv_iload_n hx hb dX5_entryCount_1 rfl (lv_at hl 1 rfl) ?_
  refine lv_iconst (v := 1) hx hb dX5_entryCount_2 (by decide) ?_
  obtain ⟨q1, hc2, hm⟩ := bd_s hm
  refine ks_i (wo := (wMD G b w dep kept mark start)) (rV (As := [.int p1, .int 1]) (rest := []) (b := (b 0)) (wi := (wMD G b w dep kept mark start)) hF hK hP hD (c_X5_isKind l G b w dep kept mark start p1 1 q1 hc2 H.size) (cwV 2 hts gX5_entryCount_X5_isKind rfl rfl rfl (by decide +kernel) ⟨Nat.le_of_ble_eq_true rfl, Nat.le_of_ble_eq_true rfl⟩) (va_recv hK.1 hP (ci := 5) (q0 := 0) rfl rfl) rfl hl.1 rfl (Nat.le_of_ble_eq_true rfl) dX5_entryCount_3 ⟨Nat.le_of_ble_eq_true rfl, Nat.le_of_ble_eq_true rfl⟩) hD hS hA (fun H locs hP hD hS => ?_)
  have hP : va_P G.1 vwCl (wMD G b w dep kept mark start) H := hP
  have hD : va_D A (wMD G b w dep kept mark start) := hD
  refine lv_if_eq (tgt := 18) hx hb dX5_entryCount_6 (by decide) (fun c3 => ?_) (fun c3 => ?_)
  · replace hm := it_t c3 hm
    refine lv_iconst (v := (-1)) hx hb dX5_entryCount_18 (by decide) ?_
    cases hm
    exact rt_i hx hb hr hlocks hP hD hS dX5_entryCount_19
  · replace hm := it_f c3 hm
    refine lv_aload_n hx hb dX5_entryCount_9 rfl (lv_at hl 0 rfl) ?_
    refine lv_iload_n hx hb dX5_entryCount_10 rfl (lv_at hl 1 rfl) ?_
    refine lv_iconst (v := 2) hx hb dX5_entryCount_11 (by decide) ?_
    obtain ⟨q4, hc5, hm⟩ := bd_s hm
    refine ks_i (wo := (wMD G b w dep kept mark start)) (rV (As := [.int p1, .int 2]) (rest := []) (b := (b 0)) (wi := (wMD G b w dep kept mark start)) hF hK hP hD (c_X5_part l G b w dep kept mark start p1 2 q4 hc5 H.size) (cwV 2 hts gX5_entryCount_X5_part rfl rfl rfl (by decide +kernel) ⟨Nat.le_of_ble_eq_true rfl, Nat.le_of_ble_eq_true rfl⟩) (va_recv hK.1 hP (ci := 5) (q0 := 0) rfl rfl) rfl hl.1 rfl (Nat.le_of_ble_eq_true rfl) dX5_entryCount_12 ⟨Nat.le_of_ble_eq_true rfl, Nat.le_of_ble_eq_true rfl⟩) hD hS hA (fun H locs hP hD hS => ?_)
    have hP : va_P G.1 vwCl (wMD G b w dep kept mark start) H := hP
    have hD : va_D A (wMD G b w dep kept mark start) := hD
    refine lv_goto (tgt := 19) hx hb dX5_entryCount_15 (by decide) ?_
    cases hm
    exact rt_i hx hb hr hlocks hP hD hS dX5_entryCount_19
def M_X5_entryKey (w : Nat → Int32) (p1 : Int32) (p2 : Int32) : Option (Int32) :=
  (M_X5_isKind w p1 1).bind fun q1 => if q1 = 0 then (some (-1)) else (if 0 ≤ p2 then ((M_X5_part w p1 2).bind fun q5 => if q5 ≤ p2 then (some (-9)) else ((M_X5_part w p1 (3 + p2)).bind fun q8 => some q8)) else (some (-1)))
abbrev rm_X5_entryKey : Room := { frames := 3, cells := 0, slots := 0, locals := 65 }
set_option maxHeartbeats 4000000 in
set_option maxRecDepth 100000 in
theorem c_X5_entryKey (l : Launch) (G : GG) (b : Nat → Nat) (w : Nat → Int32) (dep : Int32) (kept : Nat → Int32) (mark : Nat → Int32) (start : Nat → Int32) (p1 : Int32) (p2 : Int32) (q : Int32) (hm : M_X5_entryKey w p1 p2 = some q) : CTi l yX5_entryKey wsX5_entryKey rm_X5_entryKey G [.ref (b 0), .int p1, .int p2] (wMD G b w dep kept mark start) q (wMD G b w dep kept mark start) := by
  intro sz
  refine mk_body (Qc := fun A => (QI G A q (wMD G b w dep kept mark start))) (cc := cX5_entryKey) (maxL := 3) (ret := (some .int)) (lv := [(0, .ref (b 0)), (1, .int p1), (2, .int p2)]) (by decide) rfl rfl (Nat.le_of_ble_eq_true rfl) ?_
  intro p e s m args below meth c A H locs ls hF hr hlocks hname hK hA hP hD hS hl
  obtain ⟨hx, hb, hml, hown, hts⟩ := id hF
  unfold M_X5_entryKey at hm
  refine lv_aload_n hx hb dX5_entryKey_0 rfl (lv_at hl 0 rfl) ?_
  refine lv_iload_n hx hb dX5_entryKey_1 rfl (lv_at hl 1 rfl) ?_
  refine lv_iconst (v := 1) hx hb dX5_entryKey_2 (by decide) ?_
  obtain ⟨q1, hc2, hm⟩ := bd_s hm
  refine ks_i (wo := (wMD G b w dep kept mark start)) (rV (As := [.int p1, .int 1]) (rest := []) (b := (b 0)) (wi := (wMD G b w dep kept mark start)) hF hK hP hD (c_X5_isKind l G b w dep kept mark start p1 1 q1 hc2 H.size) (cwV 2 hts gX5_entryKey_X5_isKind rfl rfl rfl (by decide +kernel) ⟨Nat.le_of_ble_eq_true rfl, Nat.le_of_ble_eq_true rfl⟩) (va_recv hK.1 hP (ci := 5) (q0 := 0) rfl rfl) rfl hl.1 rfl (Nat.le_of_ble_eq_true rfl) dX5_entryKey_3 ⟨Nat.le_of_ble_eq_true rfl, Nat.le_of_ble_eq_true rfl⟩) hD hS hA (fun H locs hP hD hS => ?_)
  have hP : va_P G.1 vwCl (wMD G b w dep kept mark start) H := hP
  have hD : va_D A (wMD G b w dep kept mark start) := hD
  refine lv_if_eq (tgt := 13) hx hb dX5_entryKey_6 (by decide) (fun c3 => ?_) (fun c3 => ?_)
  · replace hm := it_t c3 hm
    refine lv_iconst (v := (-1)) hx hb dX5_entryKey_13 (by decide) ?_
    cases hm
    exact rt_i hx hb hr hlocks hP hD hS dX5_entryKey_14
  · replace hm := it_f c3 hm
    refine lv_iload_n hx hb dX5_entryKey_9 rfl (lv_at hl 2 rfl) ?_
    refine lv_if_ge (tgt := 15) hx hb dX5_entryKey_10 (by decide) (fun c4 => ?_) (fun c4 => ?_)
    · replace hm := it_t c4 hm
      refine lv_iload_n hx hb dX5_entryKey_15 rfl (lv_at hl 2 rfl) ?_
      refine lv_aload_n hx hb dX5_entryKey_16 rfl (lv_at hl 0 rfl) ?_
      refine lv_iload_n hx hb dX5_entryKey_17 rfl (lv_at hl 1 rfl) ?_
      refine lv_iconst (v := 2) hx hb dX5_entryKey_18 (by decide) ?_
      obtain ⟨q5, hc6, hm⟩ := bd_s hm
      refine ks_i (wo := (wMD G b w dep kept mark start)) (rV (As := [.int p1, .int 2]) (rest := [.int p2]) (b := (b 0)) (wi := (wMD G b w dep kept mark start)) hF hK hP hD (c_X5_part l G b w dep kept mark start p1 2 q5 hc6 H.size) (cwV 2 hts gX5_entryKey_X5_part rfl rfl rfl (by decide +kernel) ⟨Nat.le_of_ble_eq_true rfl, Nat.le_of_ble_eq_true rfl⟩) (va_recv hK.1 hP (ci := 5) (q0 := 0) rfl rfl) rfl hl.1 rfl (Nat.le_of_ble_eq_true rfl) dX5_entryKey_19 ⟨Nat.le_of_ble_eq_true rfl, Nat.le_of_ble_eq_true rfl⟩) hD hS hA (fun H locs hP hD hS => ?_)
      have hP : va_P G.1 vwCl (wMD G b w dep kept mark start) H := hP
      have hD : va_D A (wMD G b w dep kept mark start) := hD
      refine lv_icmp_ge (tgt := 36) hx hb dX5_entryKey_22 (by decide) (fun c7 => ?_) (fun c7 => ?_)
      · replace hm := it_t c7 hm
        refine lv_bipush (v := (-9)) hx hb dX5_entryKey_36 (by decide) ?_
        cases hm
        exact rt_i hx hb hr hlocks hP hD hS dX5_entryKey_38
      · replace hm := it_f c7 hm
        refine lv_aload_n hx hb dX5_entryKey_25 rfl (lv_at hl 0 rfl) ?_
        refine lv_iload_n hx hb dX5_entryKey_26 rfl (lv_at hl 1 rfl) ?_
        refine lv_iconst (v := 3) hx hb dX5_entryKey_27 (by decide) ?_
        refine lv_iload_n hx hb dX5_entryKey_28 rfl (lv_at hl 2 rfl) ?_
        refine lv_iadd hx hb dX5_entryKey_29 ?_
        obtain ⟨q8, hc9, hm⟩ := bd_s hm
        refine ks_i (wo := (wMD G b w dep kept mark start)) (rV (As := [.int p1, .int (3 + p2)]) (rest := []) (b := (b 0)) (wi := (wMD G b w dep kept mark start)) hF hK hP hD (c_X5_part l G b w dep kept mark start p1 (3 + p2) q8 hc9 H.size) (cwV 2 hts gX5_entryKey_X5_part rfl rfl rfl (by decide +kernel) ⟨Nat.le_of_ble_eq_true rfl, Nat.le_of_ble_eq_true rfl⟩) (va_recv hK.1 hP (ci := 5) (q0 := 0) rfl rfl) rfl hl.1 rfl (Nat.le_of_ble_eq_true rfl) dX5_entryKey_30 ⟨Nat.le_of_ble_eq_true rfl, Nat.le_of_ble_eq_true rfl⟩) hD hS hA (fun H locs hP hD hS => ?_)
        have hP : va_P G.1 vwCl (wMD G b w dep kept mark start) H := hP
        have hD : va_D A (wMD G b w dep kept mark start) := hD
        refine lv_goto (tgt := 38) hx hb dX5_entryKey_33 (by decide) ?_
        cases hm
        exact rt_i hx hb hr hlocks hP hD hS dX5_entryKey_38
    · replace hm := it_f c4 hm
      refine lv_iconst (v := (-1)) hx hb dX5_entryKey_13 (by decide) ?_
      cases hm
      exact rt_i hx hb hr hlocks hP hD hS dX5_entryKey_14
