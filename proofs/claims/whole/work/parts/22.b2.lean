def M_X5_startAtRoots_L23 (K : (Int32) → (Nat → Int32) → Option ((Nat → Int32))) (w : Nat → Int32) : Nat → (Int32) → (Nat → Int32) → Option ((Nat → Int32))
  | 0, _, _ => none
  | n9 + 1, v7, start_8 => if 6 ≤ v7 then (K v7 start_8) else (gd (360 + v7) 3880 (if (w (360 + v7).toNatClampNeg) = (-9) then (M_X5_startAtRoots_L23 K w n9 (v7 + 1) start_8) else (gd (360 + v7) 3880 (gd (w (360 + v7).toNatClampNeg) 24 (M_X5_startAtRoots_L23 K w n9 (v7 + 1) (upd start_8 (w (360 + v7).toNatClampNeg).toNatClampNeg (vp_nar .boolean 1)))))))
def M_X5_startAtRoots_L2 (N : Nat) (w : Nat → Int32) : Nat → (Int32) → (Nat → Int32) → Option ((Nat → Int32))
  | 0, _, _ => none
  | n3 + 1, v1, start_2 => if 24 ≤ v1 then (M_X5_startAtRoots_L23 (fun k12 kstart13 => some kstart13) w N 0 start_2) else (gd v1 24 (M_X5_startAtRoots_L2 N w n3 (v1 + 1) (upd start_2 v1.toNatClampNeg (vp_nar .boolean 0))))
def M_X5_startAtRoots (N : Nat) (w : Nat → Int32) (start : Nat → Int32) : Option ((Nat → Int32)) :=
  M_X5_startAtRoots_L2 N w N 0 start
theorem w0_X5_startAtRoots : Cond.fieldLink RX5 7 "WeakTableHeapModel" "w" "[I" ∈ wsX5_startAtRoots := by decide +kernel
theorem w1_X5_startAtRoots : ∀ w ∈ u_ws RX5 TX5 5, w ∈ wsX5_startAtRoots := by decide +kernel
theorem w2_X5_startAtRoots : Cond.fieldLink RX5 20 "WeakTableHeapModel" "start" "[Z" ∈ wsX5_startAtRoots := by decide +kernel
abbrev rm_X5_startAtRoots : Room := { frames := 0, cells := 0, slots := 0, locals := 0 }
set_option maxHeartbeats 4000000 in
set_option maxRecDepth 100000 in
theorem c_X5_startAtRoots (l : Launch) (G : GG) (N : Nat) (b : Nat → Nat) (w : Nat → Int32) (dep : Int32) (kept : Nat → Int32) (mark : Nat → Int32) (start : Nat → Int32) (q : (Nat → Int32)) (hm : M_X5_startAtRoots N w start = some q) : CTv l yX5_startAtRoots wsX5_startAtRoots rm_X5_startAtRoots G [.ref (b 0)] (wMD G b w dep kept mark start) (wMD G b w dep kept mark q) := by
  intro sz
  refine mk_body (Qc := fun A => (QV G A (wMD G b w dep kept mark q))) (cc := cX5_startAtRoots) (maxL := 2) (ret := none) (lv := [(0, .ref (b 0))]) (by decide) rfl rfl (Nat.le_of_ble_eq_true rfl) ?_
  intro p e s m args below meth c A H locs ls hF hr hlocks hname hK hA hP hD hS hl
  obtain ⟨hx, hb, hml, hown, hts⟩ := id hF
  unfold M_X5_startAtRoots at hm
  refine lv_iconst (v := 0) hx hb dX5_startAtRoots_0 (by decide) ?_
  refine lv_istore_n (lv' := [(1, .int 0), (0, .ref (b 0))]) hx hb dX5_startAtRoots_1 rfl hl (by decide) rfl (fun ls hl => ?_)
  have L5 : ∀ (n3 : Nat) (v1 : Int32) (start_2 : Nat → Int32), M_X5_startAtRoots_L2 N w n3 v1 start_2 = some q → ∀ (H : Heap) (locs : List Loc) (ls : Array Slot), va_P G.1 vwCl (wMD G b w dep kept mark start_2) H → va_D A (wMD G b w dep kept mark start_2) → va_S A s.heap H locs → lv_has ls 2 [(0, .ref (b 0)), (1, .int v1)] → W p l e rm_X5_startAtRoots s m args below meth c H locs 0 0 (MQ below (QV G A (wMD G b w dep kept mark q)) args s rm_X5_startAtRoots.cells rm_X5_startAtRoots.slots A) (F0 m 2 ls []) := by
    intro n3
    induction n3 with
    | zero => intro v1 start_2 hm; cases hm
    | succ n3 ih4 =>
      intro v1 start_2 hm H locs ls hP hD hS hl
      rw [M_X5_startAtRoots_L2] at hm
      refine lv_iload_n hx hb dX5_startAtRoots_2 rfl (lv_at hl 1 rfl) ?_
      refine lv_bipush (v := 24) hx hb dX5_startAtRoots_3 (by decide) ?_
      refine lv_icmp_ge (tgt := 21) hx hb dX5_startAtRoots_5 (by decide) (fun c6 => ?_) (fun c6 => ?_)
      · replace hm := it_t c6 hm
        refine lv_iconst (v := 0) hx hb dX5_startAtRoots_21 (by decide) ?_
        refine lv_istore_n (lv' := [(1, .int 0), (0, .ref (b 0))]) hx hb dX5_startAtRoots_22 rfl hl (by decide) rfl (fun ls hl => ?_)
        have L11 : ∀ (n9 : Nat) (v7 : Int32) (start_8 : Nat → Int32), M_X5_startAtRoots_L23 (fun k12 kstart13 => some kstart13) w n9 v7 start_8 = some q → ∀ (H : Heap) (locs : List Loc) (ls : Array Slot), va_P G.1 vwCl (wMD G b w dep kept mark start_8) H → va_D A (wMD G b w dep kept mark start_8) → va_S A s.heap H locs → lv_has ls 2 [(0, .ref (b 0)), (1, .int v7)] → W p l e rm_X5_startAtRoots s m args below meth c H locs 0 0 (MQ below (QV G A (wMD G b w dep kept mark q)) args s rm_X5_startAtRoots.cells rm_X5_startAtRoots.slots A) (F0 m 23 ls []) := by
          intro n9
          induction n9 with
          | zero => intro v7 start_8 hm; cases hm
          | succ n9 ih10 =>
            intro v7 start_8 hm H locs ls hP hD hS hl
            rw [M_X5_startAtRoots_L23] at hm
            refine lv_iload_n hx hb dX5_startAtRoots_23 rfl (lv_at hl 1 rfl) ?_
            refine lv_bipush (v := 6) hx hb dX5_startAtRoots_24 (by decide) ?_
            refine lv_icmp_ge (tgt := 66) hx hb dX5_startAtRoots_26 (by decide) (fun c14 => ?_) (fun c14 => ?_)
            · replace hm := it_t c14 hm
              dsimp only at hm
              cases hm
              exact rt_v hx hb hr hlocks hP hD hS dX5_startAtRoots_66
            · replace hm := it_f c14 hm
              refine lv_aload_n hx hb dX5_startAtRoots_29 rfl (lv_at hl 0 rfl) ?_
              refine va_get (D := G.1) (ci := 5) (v := .ref (b 1)) (C := RX5) (T := TX5) (N := 5) hx hb hts w1_X5_startAtRoots hown hK.1 hP 0 rfl rfl 0 (by decide) (hts _ w0_X5_startAtRoots) (fun _ h9 => h9) rfl dX5_startAtRoots_30 ?_
              refine lv_sipush (v := 360) hx hb dX5_startAtRoots_33 (by decide) ?_
              refine lv_iload_n hx hb dX5_startAtRoots_36 rfl (lv_at hl 1 rfl) ?_
              refine lv_iadd hx hb dX5_startAtRoots_37 ?_
              obtain ⟨hi15, hm⟩ := gd_s hm
              refine va_iald hx hb hK.1 hP 1 0 rfl rfl hi15 dX5_startAtRoots_38 ?_
              refine lv_bipush (v := (-9)) hx hb dX5_startAtRoots_39 (by decide) ?_
              refine lv_icmp_eq (tgt := 60) hx hb dX5_startAtRoots_41 (by decide) (fun c16 => ?_) (fun c16 => ?_)
              · replace hm := it_t c16 hm
                refine lv_iinc (v := (v7 + 1)) (lv' := [(1, .int (v7 + 1)), (0, .ref (b 0))]) hx hb dX5_startAtRoots_60 hl (k := 1) rfl rfl (by decide) rfl (fun ls hl => ?_)
                refine lv_goto (tgt := 23) hx hb dX5_startAtRoots_63 (by decide) ?_
                exact ih10 (v7 + 1) start_8 hm _ _ _ hP hD hS (lv_sub hl [1, 0] rfl)
              · replace hm := it_f c16 hm
                refine lv_aload_n hx hb dX5_startAtRoots_44 rfl (lv_at hl 0 rfl) ?_
                refine va_get (D := G.1) (ci := 5) (v := .ref (b 4)) (C := RX5) (T := TX5) (N := 5) hx hb hts w1_X5_startAtRoots hown hK.1 hP 0 rfl rfl 4 (by decide) (hts _ w2_X5_startAtRoots) (fun _ h9 => h9) rfl dX5_startAtRoots_45 ?_
                refine lv_aload_n hx hb dX5_startAtRoots_48 rfl (lv_at hl 0 rfl) ?_
                refine va_get (D := G.1) (ci := 5) (v := .ref (b 1)) (C := RX5) (T := TX5) (N := 5) hx hb hts w1_X5_startAtRoots hown hK.1 hP 0 rfl rfl 0 (by decide) (hts _ w0_X5_startAtRoots) (fun _ h9 => h9) rfl dX5_startAtRoots_49 ?_
                refine lv_sipush (v := 360) hx hb dX5_startAtRoots_52 (by decide) ?_
                refine lv_iload_n hx hb dX5_startAtRoots_55 rfl (lv_at hl 1 rfl) ?_
                refine lv_iadd hx hb dX5_startAtRoots_56 ?_
                obtain ⟨hi17, hm⟩ := gd_s hm
                refine va_iald hx hb hK.1 hP 1 0 rfl rfl hi17 dX5_startAtRoots_57 ?_
                refine lv_iconst (v := 1) hx hb dX5_startAtRoots_58 (by decide) ?_
                obtain ⟨hi18, hm⟩ := gd_s hm
                refine va_zast hx hb hK.1 hP hD hS 4 1 rfl rfl hi18 dX5_startAtRoots_59 (fun H locs hP hD hS => ?_)
                have hP : va_P G.1 vwCl (wMD G b w dep kept mark (upd start_8 (w (360 + v7).toNatClampNeg).toNatClampNeg (vp_nar .boolean 1))) H := hP
                have hD : va_D A (wMD G b w dep kept mark (upd start_8 (w (360 + v7).toNatClampNeg).toNatClampNeg (vp_nar .boolean 1))) := hD
                refine lv_iinc (v := (v7 + 1)) (lv' := [(1, .int (v7 + 1)), (0, .ref (b 0))]) hx hb dX5_startAtRoots_60 hl (k := 1) rfl rfl (by decide) rfl (fun ls hl => ?_)
                refine lv_goto (tgt := 23) hx hb dX5_startAtRoots_63 (by decide) ?_
                exact ih10 (v7 + 1) (upd start_8 (w (360 + v7).toNatClampNeg).toNatClampNeg (vp_nar .boolean 1)) hm _ _ _ hP hD hS (lv_sub hl [1, 0] rfl)
        exact L11 N 0 start_2 hm _ _ _ hP hD hS (lv_sub hl [1, 0] rfl)
      · replace hm := it_f c6 hm
        refine lv_aload_n hx hb dX5_startAtRoots_8 rfl (lv_at hl 0 rfl) ?_
        refine va_get (D := G.1) (ci := 5) (v := .ref (b 4)) (C := RX5) (T := TX5) (N := 5) hx hb hts w1_X5_startAtRoots hown hK.1 hP 0 rfl rfl 4 (by decide) (hts _ w2_X5_startAtRoots) (fun _ h9 => h9) rfl dX5_startAtRoots_9 ?_
        refine lv_iload_n hx hb dX5_startAtRoots_12 rfl (lv_at hl 1 rfl) ?_
        refine lv_iconst (v := 0) hx hb dX5_startAtRoots_13 (by decide) ?_
        obtain ⟨hi19, hm⟩ := gd_s hm
        refine va_zast hx hb hK.1 hP hD hS 4 1 rfl rfl hi19 dX5_startAtRoots_14 (fun H locs hP hD hS => ?_)
        have hP : va_P G.1 vwCl (wMD G b w dep kept mark (upd start_2 v1.toNatClampNeg (vp_nar .boolean 0))) H := hP
        have hD : va_D A (wMD G b w dep kept mark (upd start_2 v1.toNatClampNeg (vp_nar .boolean 0))) := hD
        refine lv_iinc (v := (v1 + 1)) (lv' := [(1, .int (v1 + 1)), (0, .ref (b 0))]) hx hb dX5_startAtRoots_15 hl (k := 1) rfl rfl (by decide) rfl (fun ls hl => ?_)
        refine lv_goto (tgt := 2) hx hb dX5_startAtRoots_18 (by decide) ?_
        exact ih4 (v1 + 1) (upd start_2 v1.toNatClampNeg (vp_nar .boolean 0)) hm _ _ _ hP hD hS (lv_sub hl [1, 0] rfl)
  exact L5 N 0 start hm _ _ _ hP hD hS (lv_sub hl [1, 0] rfl)
def M_X5_followFields_L11 (K : (Int32) → (Int32) → (Nat → Int32) → Option ((Nat → Int32))) (w : Nat → Int32) (p1 : Int32) (p2 : Int32) : Nat → (Int32) → (Int32) → (Nat → Int32) → Option ((Nat → Int32))
  | 0, _, _, _ => none
  | n10 + 1, v7, v8, mark_9 => if 72 ≤ v8 then (K v7 v8 mark_9) else (gd (v8 / 3) 24 (if (mark_9 (v8 / 3).toNatClampNeg) = (-9) then (M_X5_followFields_L11 K w p1 p2 n10 v7 (v8 + 1) mark_9) else ((M_X5_part w (v8 / 3) 0).bind fun q20 => if q20 = 0 then ((M_X5_part w (v8 / 3) (3 + (v8 - v8 / 3 * 3))).bind fun q24 => if q24 = (-9) then (M_X5_followFields_L11 K w p1 p2 n10 v7 (v8 + 1) mark_9) else (if q24 = p2 then (M_X5_followFields_L11 K w p1 p2 n10 v7 (v8 + 1) mark_9) else (gd q24 24 (if (mark_9 q24.toNatClampNeg) = (-9) then (gd q24 24 (M_X5_followFields_L11 K w p1 p2 n10 1 (v8 + 1) (upd mark_9 q24.toNatClampNeg p1))) else (M_X5_followFields_L11 K w p1 p2 n10 v7 (v8 + 1) mark_9))))) else (M_X5_followFields_L11 K w p1 p2 n10 v7 (v8 + 1) mark_9))))
def M_X5_followFields_L2 (N : Nat) (w : Nat → Int32) (p1 : Int32) (p2 : Int32) : Nat → (Int32) → (Nat → Int32) → Option ((Nat → Int32))
  | 0, _, _ => none
  | n3 + 1, v1, mark_2 => if v1 = 0 then (some mark_2) else (M_X5_followFields_L11 (fun k13 k14 kmark15 => M_X5_followFields_L2 N w p1 p2 n3 k13 kmark15) w p1 p2 N 0 0 mark_2)
def M_X5_followFields (N : Nat) (w : Nat → Int32) (mark : Nat → Int32) (p1 : Int32) (p2 : Int32) : Option ((Nat → Int32)) :=
  M_X5_followFields_L2 N w p1 p2 N 1 mark
theorem w0_X5_followFields : Cond.fieldLink RX5 17 "WeakTableHeapModel" "mark" "[I" ∈ wsX5_followFields := by decide +kernel
theorem w1_X5_followFields : ∀ w ∈ u_ws RX5 TX5 5, w ∈ wsX5_followFields := by decide +kernel
abbrev rm_X5_followFields : Room := { frames := 1, cells := 0, slots := 0, locals := 22 }
set_option maxHeartbeats 4000000 in
set_option maxRecDepth 100000 in
theorem c_X5_followFields (l : Launch) (G : GG) (N : Nat) (b : Nat → Nat) (w : Nat → Int32) (dep : Int32) (kept : Nat → Int32) (mark : Nat → Int32) (start : Nat → Int32) (p1 : Int32) (p2 : Int32) (q : (Nat → Int32)) (hm : M_X5_followFields N w mark p1 p2 = some q) : CTv l yX5_followFields wsX5_followFields rm_X5_followFields G [.ref (b 0), .int p1, .int p2] (wMD G b w dep kept mark start) (wMD G b w dep kept q start) := by
  intro sz
  refine mk_body (Qc := fun A => (QV G A (wMD G b w dep kept q start))) (cc := cX5_followFields) (maxL := 7) (ret := none) (lv := [(0, .ref (b 0)), (1, .int p1), (2, .int p2)]) (by decide) rfl rfl (Nat.le_of_ble_eq_true rfl) ?_
  intro p e s m args below meth c A H locs ls hF hr hlocks hname hK hA hP hD hS hl
  obtain ⟨hx, hb, hml, hown, hts⟩ := id hF
  unfold M_X5_followFields at hm
  refine lv_iconst (v := 1) hx hb dX5_followFields_0 (by decide) ?_
  refine lv_istore_n (lv' := [(3, .int 1), (0, .ref (b 0)), (1, .int p1), (2, .int p2)]) hx hb dX5_followFields_1 rfl hl (by decide) rfl (fun ls hl => ?_)
  have L5 : ∀ (n3 : Nat) (v1 : Int32) (mark_2 : Nat → Int32), M_X5_followFields_L2 N w p1 p2 n3 v1 mark_2 = some q → ∀ (H : Heap) (locs : List Loc) (ls : Array Slot), va_P G.1 vwCl (wMD G b w dep kept mark_2 start) H → va_D A (wMD G b w dep kept mark_2 start) → va_S A s.heap H locs → lv_has ls 7 [(0, .ref (b 0)), (1, .int p1), (2, .int p2), (3, .int v1)] → W p l e rm_X5_followFields s m args below meth c H locs 0 0 (MQ below (QV G A (wMD G b w dep kept q start)) args s rm_X5_followFields.cells rm_X5_followFields.slots A) (F0 m 2 ls []) := by
    intro n3
    induction n3 with
    | zero => intro v1 mark_2 hm; cases hm
    | succ n3 ih4 =>
      intro v1 mark_2 hm H locs ls hP hD hS hl
      rw [M_X5_followFields_L2] at hm
      refine lv_iload_n hx hb dX5_followFields_2 rfl (lv_at hl 3 rfl) ?_
      refine lv_if_eq (tgt := 109) hx hb dX5_followFields_3 (by decide) (fun c6 => ?_) (fun c6 => ?_)
      · replace hm := it_t c6 hm
        cases hm
        exact rt_v hx hb hr hlocks hP hD hS dX5_followFields_109
      · replace hm := it_f c6 hm
        refine lv_iconst (v := 0) hx hb dX5_followFields_6 (by decide) ?_
        refine lv_istore_n (lv' := [(3, .int 0), (0, .ref (b 0)), (1, .int p1), (2, .int p2)]) hx hb dX5_followFields_7 rfl hl (by decide) rfl (fun ls hl => ?_)
        refine lv_iconst (v := 0) hx hb dX5_followFields_8 (by decide) ?_
        refine lv_istore (lv' := [(4, .int 0), (3, .int 0), (0, .ref (b 0)), (1, .int p1), (2, .int p2)]) hx hb dX5_followFields_9 hl (by decide) rfl (fun ls hl => ?_)
        have L12 : ∀ (n10 : Nat) (v7 : Int32) (v8 : Int32) (mark_9 : Nat → Int32), M_X5_followFields_L11 (fun k13 k14 kmark15 => M_X5_followFields_L2 N w p1 p2 n3 k13 kmark15) w p1 p2 n10 v7 v8 mark_9 = some q → ∀ (H : Heap) (locs : List Loc) (ls : Array Slot), va_P G.1 vwCl (wMD G b w dep kept mark_9 start) H → va_D A (wMD G b w dep kept mark_9 start) → va_S A s.heap H locs → lv_has ls 7 [(0, .ref (b 0)), (1, .int p1), (2, .int p2), (3, .int v7), (4, .int v8)] → W p l e rm_X5_followFields s m args below meth c H locs 0 0 (MQ below (QV G A (wMD G b w dep kept q start)) args s rm_X5_followFields.cells rm_X5_followFields.slots A) (F0 m 11 ls []) := by
          intro n10
          induction n10 with
          | zero => intro v7 v8 mark_9 hm; cases hm
          | succ n10 ih11 =>
            intro v7 v8 mark_9 hm H locs ls hP hD hS hl
            rw [M_X5_followFields_L11] at hm
            refine lv_iload hx hb dX5_followFields_11 (lv_at hl 4 rfl) ?_
            refine lv_bipush (v := 72) hx hb dX5_followFields_13 (by decide) ?_
            refine lv_icmp_ge (tgt := 106) hx hb dX5_followFields_15 (by decide) (fun c16 => ?_) (fun c16 => ?_)
            · replace hm := it_t c16 hm
              dsimp only at hm
              refine lv_goto (tgt := 2) hx hb dX5_followFields_106 (by decide) ?_
              exact ih4 v7 mark_9 hm _ _ _ hP hD hS (lv_sub hl [0, 1, 2, 3] rfl)
            · replace hm := it_f c16 hm
              refine lv_iload hx hb dX5_followFields_18 (lv_at hl 4 rfl) ?_
              refine lv_iconst (v := 3) hx hb dX5_followFields_20 (by decide) ?_
              refine lv_idiv hx hb dX5_followFields_21 (by decide) ?_
              refine lv_istore (lv' := [(5, .int (v8 / 3)), (0, .ref (b 0)), (1, .int p1), (2, .int p2), (3, .int v7), (4, .int v8)]) hx hb dX5_followFields_22 hl (by decide) rfl (fun ls hl => ?_)
              refine lv_aload_n hx hb dX5_followFields_24 rfl (lv_at hl 1 rfl) ?_
              refine va_get (D := G.1) (ci := 5) (v := .ref (b 3)) (C := RX5) (T := TX5) (N := 5) hx hb hts w1_X5_followFields hown hK.1 hP 0 rfl rfl 3 (by decide) (hts _ w0_X5_followFields) (fun _ h9 => h9) rfl dX5_followFields_25 ?_
              refine lv_iload hx hb dX5_followFields_28 (lv_at hl 0 rfl) ?_
              obtain ⟨hi17, hm⟩ := gd_s hm
              refine va_iald hx hb hK.1 hP 3 0 rfl rfl hi17 dX5_followFields_30 ?_
              refine lv_bipush (v := (-9)) hx hb dX5_followFields_31 (by decide) ?_
              refine lv_icmp_eq (tgt := 61) hx hb dX5_followFields_33 (by decide) (fun c18 => ?_) (fun c18 => ?_)
              · replace hm := it_t c18 hm
                refine lv_bipush (v := (-9)) hx hb dX5_followFields_61 (by decide) ?_
                refine lv_istore (lv' := [(6, .int (-9)), (5, .int (v8 / 3)), (0, .ref (b 0)), (1, .int p1), (2, .int p2), (3, .int v7), (4, .int v8)]) hx hb dX5_followFields_63 hl (by decide) rfl (fun ls hl => ?_)
                refine lv_iload hx hb dX5_followFields_65 (lv_at hl 0 rfl) ?_
                refine lv_bipush (v := (-9)) hx hb dX5_followFields_67 (by decide) ?_
                refine lv_icmp_eq (tgt := 100) hx hb dX5_followFields_69 (by decide) (fun _ => ?_) (fun h9 => absurd (by decide) h9)
                refine lv_iinc (v := (v8 + 1)) (lv' := [(4, .int (v8 + 1)), (6, .int (-9)), (5, .int (v8 / 3)), (0, .ref (b 0)), (1, .int p1), (2, .int p2), (3, .int v7)]) hx hb dX5_followFields_100 hl (k := 6) rfl rfl (by decide) rfl (fun ls hl => ?_)
                refine lv_goto (tgt := 11) hx hb dX5_followFields_103 (by decide) ?_
                exact ih11 v7 (v8 + 1) mark_9 hm _ _ _ hP hD hS (lv_sub hl [3, 4, 5, 6, 0] rfl)
              · replace hm := it_f c18 hm
                refine lv_aload_n hx hb dX5_followFields_36 rfl (lv_at hl 1 rfl) ?_
                refine lv_iload hx hb dX5_followFields_37 (lv_at hl 0 rfl) ?_
                refine lv_iconst (v := 0) hx hb dX5_followFields_39 (by decide) ?_
                obtain ⟨q20, hc21, hm⟩ := bd_s hm
                refine ks_i (wo := (wMD G b w dep kept mark_9 start)) (rV (As := [.int (v8 / 3), .int 0]) (rest := []) (b := (b 0)) (wi := (wMD G b w dep kept mark_9 start)) hF hK hP hD (c_X5_part l G b w dep kept mark_9 start (v8 / 3) 0 q20 hc21 H.size) (cwV 2 hts gX5_followFields_X5_part rfl rfl rfl (by decide +kernel) ⟨Nat.le_of_ble_eq_true rfl, Nat.le_of_ble_eq_true rfl⟩) (va_recv hK.1 hP (ci := 5) (q0 := 0) rfl rfl) rfl hl.1 rfl (Nat.le_of_ble_eq_true rfl) dX5_followFields_40 ⟨Nat.le_of_ble_eq_true rfl, Nat.le_of_ble_eq_true rfl⟩) hD hS hA (fun H locs hP hD hS => ?_)
                have hP : va_P G.1 vwCl (wMD G b w dep kept mark_9 start) H := hP
                have hD : va_D A (wMD G b w dep kept mark_9 start) := hD
                refine lv_if_ne (tgt := 61) hx hb dX5_followFields_43 (by decide) (fun c22 => ?_) (fun c22 => ?_)
                · replace hm := it_f c22 hm
                  refine lv_bipush (v := (-9)) hx hb dX5_followFields_61 (by decide) ?_
                  refine lv_istore (lv' := [(6, .int (-9)), (5, .int (v8 / 3)), (0, .ref (b 0)), (1, .int p1), (2, .int p2), (3, .int v7), (4, .int v8)]) hx hb dX5_followFields_63 hl (by decide) rfl (fun ls hl => ?_)
                  refine lv_iload hx hb dX5_followFields_65 (lv_at hl 0 rfl) ?_
                  refine lv_bipush (v := (-9)) hx hb dX5_followFields_67 (by decide) ?_
                  refine lv_icmp_eq (tgt := 100) hx hb dX5_followFields_69 (by decide) (fun _ => ?_) (fun h9 => absurd (by decide) h9)
                  refine lv_iinc (v := (v8 + 1)) (lv' := [(4, .int (v8 + 1)), (6, .int (-9)), (5, .int (v8 / 3)), (0, .ref (b 0)), (1, .int p1), (2, .int p2), (3, .int v7)]) hx hb dX5_followFields_100 hl (k := 6) rfl rfl (by decide) rfl (fun ls hl => ?_)
                  refine lv_goto (tgt := 11) hx hb dX5_followFields_103 (by decide) ?_
                  exact ih11 v7 (v8 + 1) mark_9 hm _ _ _ hP hD hS (lv_sub hl [3, 4, 5, 6, 0] rfl)
                · replace hm := it_t c22 hm
                  refine lv_aload_n hx hb dX5_followFields_46 rfl (lv_at hl 1 rfl) ?_
                  refine lv_iload hx hb dX5_followFields_47 (lv_at hl 0 rfl) ?_
                  refine lv_iconst (v := 3) hx hb dX5_followFields_49 (by decide) ?_
                  refine lv_iload hx hb dX5_followFields_50 (lv_at hl 5 rfl) ?_
                  refine lv_iconst (v := 3) hx hb dX5_followFields_52 (by decide) ?_
                  refine lv_irem hx hb dX5_followFields_53 (by decide) ?_
                  refine lv_iadd hx hb dX5_followFields_54 ?_
                  obtain ⟨q24, hc25, hm⟩ := bd_s hm
                  refine ks_i (wo := (wMD G b w dep kept mark_9 start)) (rV (As := [.int (v8 / 3), .int (3 + (v8 - v8 / 3 * 3))]) (rest := []) (b := (b 0)) (wi := (wMD G b w dep kept mark_9 start)) hF hK hP hD (c_X5_part l G b w dep kept mark_9 start (v8 / 3) (3 + (v8 - v8 / 3 * 3)) q24 hc25 H.size) (cwV 2 hts gX5_followFields_X5_part rfl rfl rfl (by decide +kernel) ⟨Nat.le_of_ble_eq_true rfl, Nat.le_of_ble_eq_true rfl⟩) (va_recv hK.1 hP (ci := 5) (q0 := 0) rfl rfl) rfl hl.1 rfl (Nat.le_of_ble_eq_true rfl) dX5_followFields_55 ⟨Nat.le_of_ble_eq_true rfl, Nat.le_of_ble_eq_true rfl⟩) hD hS hA (fun H locs hP hD hS => ?_)
                  have hP : va_P G.1 vwCl (wMD G b w dep kept mark_9 start) H := hP
                  have hD : va_D A (wMD G b w dep kept mark_9 start) := hD
                  refine lv_goto (tgt := 63) hx hb dX5_followFields_58 (by decide) ?_
                  refine lv_istore (lv' := [(6, .int q24), (5, .int (v8 / 3)), (0, .ref (b 0)), (1, .int p1), (2, .int p2), (3, .int v7), (4, .int v8)]) hx hb dX5_followFields_63 hl (by decide) rfl (fun ls hl => ?_)
                  refine lv_iload hx hb dX5_followFields_65 (lv_at hl 0 rfl) ?_
                  refine lv_bipush (v := (-9)) hx hb dX5_followFields_67 (by decide) ?_
                  refine lv_icmp_eq (tgt := 100) hx hb dX5_followFields_69 (by decide) (fun c26 => ?_) (fun c26 => ?_)
                  · replace hm := it_t c26 hm
                    refine lv_iinc (v := (v8 + 1)) (lv' := [(4, .int (v8 + 1)), (6, .int q24), (5, .int (v8 / 3)), (0, .ref (b 0)), (1, .int p1), (2, .int p2), (3, .int v7)]) hx hb dX5_followFields_100 hl (k := 6) rfl rfl (by decide) rfl (fun ls hl => ?_)
                    refine lv_goto (tgt := 11) hx hb dX5_followFields_103 (by decide) ?_
                    exact ih11 v7 (v8 + 1) mark_9 hm _ _ _ hP hD hS (lv_sub hl [3, 4, 5, 6, 0] rfl)
                  · replace hm := it_f c26 hm
                    refine lv_iload hx hb dX5_followFields_72 (lv_at hl 0 rfl) ?_
                    refine lv_iload_n hx hb dX5_followFields_74 rfl (lv_at hl 4 rfl) ?_
                    refine lv_icmp_eq (tgt := 100) hx hb dX5_followFields_75 (by decide) (fun c27 => ?_) (fun c27 => ?_)
                    · replace hm := it_t c27 hm
                      refine lv_iinc (v := (v8 + 1)) (lv' := [(4, .int (v8 + 1)), (6, .int q24), (5, .int (v8 / 3)), (0, .ref (b 0)), (1, .int p1), (2, .int p2), (3, .int v7)]) hx hb dX5_followFields_100 hl (k := 6) rfl rfl (by decide) rfl (fun ls hl => ?_)
                      refine lv_goto (tgt := 11) hx hb dX5_followFields_103 (by decide) ?_
                      exact ih11 v7 (v8 + 1) mark_9 hm _ _ _ hP hD hS (lv_sub hl [3, 4, 5, 6, 0] rfl)
                    · replace hm := it_f c27 hm
                      refine lv_aload_n hx hb dX5_followFields_78 rfl (lv_at hl 2 rfl) ?_
                      refine va_get (D := G.1) (ci := 5) (v := .ref (b 3)) (C := RX5) (T := TX5) (N := 5) hx hb hts w1_X5_followFields hown hK.1 hP 0 rfl rfl 3 (by decide) (hts _ w0_X5_followFields) (fun _ h9 => h9) rfl dX5_followFields_79 ?_
                      refine lv_iload hx hb dX5_followFields_82 (lv_at hl 0 rfl) ?_
                      obtain ⟨hi28, hm⟩ := gd_s hm
                      refine va_iald hx hb hK.1 hP 3 0 rfl rfl hi28 dX5_followFields_84 ?_
                      refine lv_bipush (v := (-9)) hx hb dX5_followFields_85 (by decide) ?_
                      refine lv_icmp_ne (tgt := 100) hx hb dX5_followFields_87 (by decide) (fun c29 => ?_) (fun c29 => ?_)
                      · replace hm := it_f c29 hm
                        refine lv_iinc (v := (v8 + 1)) (lv' := [(4, .int (v8 + 1)), (6, .int q24), (5, .int (v8 / 3)), (0, .ref (b 0)), (1, .int p1), (2, .int p2), (3, .int v7)]) hx hb dX5_followFields_100 hl (k := 6) rfl rfl (by decide) rfl (fun ls hl => ?_)
                        refine lv_goto (tgt := 11) hx hb dX5_followFields_103 (by decide) ?_
                        exact ih11 v7 (v8 + 1) mark_9 hm _ _ _ hP hD hS (lv_sub hl [3, 4, 5, 6, 0] rfl)
                      · replace hm := it_t c29 hm
                        refine lv_aload_n hx hb dX5_followFields_90 rfl (lv_at hl 2 rfl) ?_
                        refine va_get (D := G.1) (ci := 5) (v := .ref (b 3)) (C := RX5) (T := TX5) (N := 5) hx hb hts w1_X5_followFields hown hK.1 hP 0 rfl rfl 3 (by decide) (hts _ w0_X5_followFields) (fun _ h9 => h9) rfl dX5_followFields_91 ?_
                        refine lv_iload hx hb dX5_followFields_94 (lv_at hl 0 rfl) ?_
                        refine lv_iload_n hx hb dX5_followFields_96 rfl (lv_at hl 3 rfl) ?_
                        obtain ⟨hi30, hm⟩ := gd_s hm
                        refine va_iast hx hb hK.1 hP hD hS 3 0 rfl rfl hi30 dX5_followFields_97 (fun H locs hP hD hS => ?_)
                        have hP : va_P G.1 vwCl (wMD G b w dep kept (upd mark_9 q24.toNatClampNeg p1) start) H := hP
                        have hD : va_D A (wMD G b w dep kept (upd mark_9 q24.toNatClampNeg p1) start) := hD
                        refine lv_iconst (v := 1) hx hb dX5_followFields_98 (by decide) ?_
                        refine lv_istore_n (lv' := [(3, .int 1), (6, .int q24), (5, .int (v8 / 3)), (0, .ref (b 0)), (1, .int p1), (2, .int p2), (4, .int v8)]) hx hb dX5_followFields_99 rfl hl (by decide) rfl (fun ls hl => ?_)
                        refine lv_iinc (v := (v8 + 1)) (lv' := [(4, .int (v8 + 1)), (3, .int 1), (6, .int q24), (5, .int (v8 / 3)), (0, .ref (b 0)), (1, .int p1), (2, .int p2)]) hx hb dX5_followFields_100 hl (k := 6) rfl rfl (by decide) rfl (fun ls hl => ?_)
                        refine lv_goto (tgt := 11) hx hb dX5_followFields_103 (by decide) ?_
                        exact ih11 1 (v8 + 1) (upd mark_9 q24.toNatClampNeg p1) hm _ _ _ hP hD hS (lv_sub hl [4, 5, 6, 1, 0] rfl)
        exact L12 N 0 0 mark_2 hm _ _ _ hP hD hS (lv_sub hl [2, 3, 4, 1, 0] rfl)
  exact L5 N 1 mark hm _ _ _ hP hD hS (lv_sub hl [1, 2, 3, 0] rfl)
def M_X5_followEntries_L5 (w : Nat → Int32) (p1 : Int32) (p2 : Int32) : Nat → (Int32) → (Int32) → (Nat → Int32) → Option (Int32 × (Nat → Int32))
  | 0, _, _, _ => none
  | n4 + 1, v1, v2, mark_3 => if 144 ≤ v2 then (some (v1, mark_3)) else (gd (v2 / 6) 24 (if (mark_3 (v2 / 6).toNatClampNeg) = (-9) then (M_X5_followEntries_L5 w p1 p2 n4 v1 (v2 + 1) mark_3) else (gd (v2 / 6) 24 (if p1 ≤ (mark_3 (v2 / 6).toNatClampNeg) then (M_X5_followEntries_L5 w p1 p2 n4 v1 (v2 + 1) mark_3) else ((M_X5_part w (v2 / 6) 0).bind fun q12 => if q12 = 1 then ((M_X5_part w (v2 / 6) 2).bind fun q15 => if q15 ≤ (v2 - v2 / 6 * 6) then (M_X5_followEntries_L5 w p1 p2 n4 v1 (v2 + 1) mark_3) else ((M_X5_part w (v2 / 6) (3 + (v2 - v2 / 6 * 6))).bind fun q18 => (M_X5_part w (v2 / 6) (9 + (v2 - v2 / 6 * 6))).bind fun q20 => gd q18 24 (if (mark_3 q18.toNatClampNeg) = (-9) then (M_X5_followEntries_L5 w p1 p2 n4 v1 (v2 + 1) mark_3) else (gd q18 24 (if p1 ≤ (mark_3 q18.toNatClampNeg) then (M_X5_followEntries_L5 w p1 p2 n4 v1 (v2 + 1) mark_3) else (gd q20 24 (if (mark_3 q20.toNatClampNeg) = (-9) then (if q20 = p2 then (M_X5_followEntries_L5 w p1 p2 n4 v1 (v2 + 1) mark_3) else (gd q20 24 (M_X5_followEntries_L5 w p1 p2 n4 1 (v2 + 1) (upd mark_3 q20.toNatClampNeg p1)))) else (M_X5_followEntries_L5 w p1 p2 n4 v1 (v2 + 1) mark_3)))))))) else (M_X5_followEntries_L5 w p1 p2 n4 v1 (v2 + 1) mark_3))))))
def M_X5_followEntries (N : Nat) (w : Nat → Int32) (mark : Nat → Int32) (p1 : Int32) (p2 : Int32) : Option (Int32 × (Nat → Int32)) :=
  M_X5_followEntries_L5 w p1 p2 N 0 0 mark
theorem w0_X5_followEntries : Cond.fieldLink RX5 17 "WeakTableHeapModel" "mark" "[I" ∈ wsX5_followEntries := by decide +kernel
theorem w1_X5_followEntries : ∀ w ∈ u_ws RX5 TX5 5, w ∈ wsX5_followEntries := by decide +kernel
abbrev rm_X5_followEntries : Room := { frames := 1, cells := 0, slots := 0, locals := 22 }
set_option maxHeartbeats 4000000 in
set_option maxRecDepth 100000 in
theorem c_X5_followEntries (l : Launch) (G : GG) (N : Nat) (b : Nat → Nat) (w : Nat → Int32) (dep : Int32) (kept : Nat → Int32) (mark : Nat → Int32) (start : Nat → Int32) (p1 : Int32) (p2 : Int32) (q : Int32 × (Nat → Int32)) (hm : M_X5_followEntries N w mark p1 p2 = some q) : CTi l yX5_followEntries wsX5_followEntries rm_X5_followEntries G [.ref (b 0), .int p1, .int p2] (wMD G b w dep kept mark start) q.1 (wMD G b w dep kept q.2 start) := by
  intro sz
  refine mk_body (Qc := fun A => (QI G A q.1 (wMD G b w dep kept q.2 start))) (cc := cX5_followEntries) (maxL := 9) (ret := (some .boolean)) (lv := [(0, .ref (b 0)), (1, .int p1), (2, .int p2)]) (by decide) rfl rfl (Nat.le_of_ble_eq_true rfl) ?_
  intro p e s m args below meth c A H locs ls hF hr hlocks hname hK hA hP hD hS hl
  obtain ⟨hx, hb, hml, hown, hts⟩ := id hF
  unfold M_X5_followEntries at hm
  refine lv_iconst (v := 0) hx hb dX5_followEntries_0 (by decide) ?_
  refine lv_istore_n (lv' := [(3, .int 0), (0, .ref (b 0)), (1, .int p1), (2, .int p2)]) hx hb dX5_followEntries_1 rfl hl (by decide) rfl (fun ls hl => ?_)
  refine lv_iconst (v := 0) hx hb dX5_followEntries_2 (by decide) ?_
  refine lv_istore (lv' := [(4, .int 0), (3, .int 0), (0, .ref (b 0)), (1, .int p1), (2, .int p2)]) hx hb dX5_followEntries_3 hl (by decide) rfl (fun ls hl => ?_)
  have L6 : ∀ (n4 : Nat) (v1 : Int32) (v2 : Int32) (mark_3 : Nat → Int32), M_X5_followEntries_L5 w p1 p2 n4 v1 v2 mark_3 = some q → ∀ (H : Heap) (locs : List Loc) (ls : Array Slot), va_P G.1 vwCl (wMD G b w dep kept mark_3 start) H → va_D A (wMD G b w dep kept mark_3 start) → va_S A s.heap H locs → lv_has ls 9 [(0, .ref (b 0)), (1, .int p1), (2, .int p2), (3, .int v1), (4, .int v2)] → W p l e rm_X5_followEntries s m args below meth c H locs 0 0 (MQ below (QI G A q.1 (wMD G b w dep kept q.2 start)) args s rm_X5_followEntries.cells rm_X5_followEntries.slots A) (F0 m 5 ls []) := by
    intro n4
    induction n4 with
    | zero => intro v1 v2 mark_3 hm; cases hm
    | succ n4 ih5 =>
      intro v1 v2 mark_3 hm H locs ls hP hD hS hl
      rw [M_X5_followEntries_L5] at hm
      refine lv_iload hx hb dX5_followEntries_5 (lv_at hl 4 rfl) ?_
      refine lv_sipush (v := 144) hx hb dX5_followEntries_7 (by decide) ?_
      refine lv_icmp_ge (tgt := 155) hx hb dX5_followEntries_10 (by decide) (fun c7 => ?_) (fun c7 => ?_)
      · replace hm := it_t c7 hm
        refine lv_iload_n hx hb dX5_followEntries_155 rfl (lv_at hl 3 rfl) ?_
        cases hm
        exact rt_z (r := v1) hx hb hr hlocks rfl hP hD hS dX5_followEntries_156
      · replace hm := it_f c7 hm
        refine lv_iload hx hb dX5_followEntries_13 (lv_at hl 4 rfl) ?_
        refine lv_bipush (v := 6) hx hb dX5_followEntries_15 (by decide) ?_
        refine lv_idiv hx hb dX5_followEntries_17 (by decide) ?_
        refine lv_istore (lv' := [(5, .int (v2 / 6)), (0, .ref (b 0)), (1, .int p1), (2, .int p2), (3, .int v1), (4, .int v2)]) hx hb dX5_followEntries_18 hl (by decide) rfl (fun ls hl => ?_)
        refine lv_iload hx hb dX5_followEntries_20 (lv_at hl 5 rfl) ?_
        refine lv_bipush (v := 6) hx hb dX5_followEntries_22 (by decide) ?_
        refine lv_irem hx hb dX5_followEntries_24 (by decide) ?_
        refine lv_istore (lv' := [(6, .int (v2 - v2 / 6 * 6)), (5, .int (v2 / 6)), (0, .ref (b 0)), (1, .int p1), (2, .int p2), (3, .int v1), (4, .int v2)]) hx hb dX5_followEntries_25 hl (by decide) rfl (fun ls hl => ?_)
        refine lv_aload_n hx hb dX5_followEntries_27 rfl (lv_at hl 2 rfl) ?_
        refine va_get (D := G.1) (ci := 5) (v := .ref (b 3)) (C := RX5) (T := TX5) (N := 5) hx hb hts w1_X5_followEntries hown hK.1 hP 0 rfl rfl 3 (by decide) (hts _ w0_X5_followEntries) (fun _ h9 => h9) rfl dX5_followEntries_28 ?_
        refine lv_iload hx hb dX5_followEntries_31 (lv_at hl 1 rfl) ?_
        obtain ⟨hi8, hm⟩ := gd_s hm
        refine va_iald hx hb hK.1 hP 3 0 rfl rfl hi8 dX5_followEntries_33 ?_
        refine lv_bipush (v := (-9)) hx hb dX5_followEntries_34 (by decide) ?_
        refine lv_icmp_eq (tgt := 149) hx hb dX5_followEntries_36 (by decide) (fun c9 => ?_) (fun c9 => ?_)
        · replace hm := it_t c9 hm
          refine lv_iinc (v := (v2 + 1)) (lv' := [(4, .int (v2 + 1)), (6, .int (v2 - v2 / 6 * 6)), (5, .int (v2 / 6)), (0, .ref (b 0)), (1, .int p1), (2, .int p2), (3, .int v1)]) hx hb dX5_followEntries_149 hl (k := 6) rfl rfl (by decide) rfl (fun ls hl => ?_)
          refine lv_goto (tgt := 5) hx hb dX5_followEntries_152 (by decide) ?_
          exact ih5 v1 (v2 + 1) mark_3 hm _ _ _ hP hD hS (lv_sub hl [3, 4, 5, 6, 0] rfl)
        · replace hm := it_f c9 hm
          refine lv_aload_n hx hb dX5_followEntries_39 rfl (lv_at hl 2 rfl) ?_
          refine va_get (D := G.1) (ci := 5) (v := .ref (b 3)) (C := RX5) (T := TX5) (N := 5) hx hb hts w1_X5_followEntries hown hK.1 hP 0 rfl rfl 3 (by decide) (hts _ w0_X5_followEntries) (fun _ h9 => h9) rfl dX5_followEntries_40 ?_
          refine lv_iload hx hb dX5_followEntries_43 (lv_at hl 1 rfl) ?_
          obtain ⟨hi10, hm⟩ := gd_s hm
          refine va_iald hx hb hK.1 hP 3 0 rfl rfl hi10 dX5_followEntries_45 ?_
          refine lv_iload_n hx hb dX5_followEntries_46 rfl (lv_at hl 3 rfl) ?_
          refine lv_icmp_ge (tgt := 149) hx hb dX5_followEntries_47 (by decide) (fun c11 => ?_) (fun c11 => ?_)
          · replace hm := it_t c11 hm
            refine lv_iinc (v := (v2 + 1)) (lv' := [(4, .int (v2 + 1)), (6, .int (v2 - v2 / 6 * 6)), (5, .int (v2 / 6)), (0, .ref (b 0)), (1, .int p1), (2, .int p2), (3, .int v1)]) hx hb dX5_followEntries_149 hl (k := 6) rfl rfl (by decide) rfl (fun ls hl => ?_)
            refine lv_goto (tgt := 5) hx hb dX5_followEntries_152 (by decide) ?_
            exact ih5 v1 (v2 + 1) mark_3 hm _ _ _ hP hD hS (lv_sub hl [3, 4, 5, 6, 0] rfl)
          · replace hm := it_f c11 hm
            refine lv_aload_n hx hb dX5_followEntries_50 rfl (lv_at hl 2 rfl) ?_
            refine lv_iload hx hb dX5_followEntries_51 (lv_at hl 1 rfl) ?_
            refine lv_iconst (v := 0) hx hb dX5_followEntries_53 (by decide) ?_
            obtain ⟨q12, hc13, hm⟩ := bd_s hm
            refine ks_i (wo := (wMD G b w dep kept mark_3 start)) (rV (As := [.int (v2 / 6), .int 0]) (rest := []) (b := (b 0)) (wi := (wMD G b w dep kept mark_3 start)) hF hK hP hD (c_X5_part l G b w dep kept mark_3 start (v2 / 6) 0 q12 hc13 H.size) (cwV 2 hts gX5_followEntries_X5_part rfl rfl rfl (by decide +kernel) ⟨Nat.le_of_ble_eq_true rfl, Nat.le_of_ble_eq_true rfl⟩) (va_recv hK.1 hP (ci := 5) (q0 := 0) rfl rfl) rfl hl.1 rfl (Nat.le_of_ble_eq_true rfl) dX5_followEntries_54 ⟨Nat.le_of_ble_eq_true rfl, Nat.le_of_ble_eq_true rfl⟩) hD hS hA (fun H locs hP hD hS => ?_)
            have hP : va_P G.1 vwCl (wMD G b w dep kept mark_3 start) H := hP
            have hD : va_D A (wMD G b w dep kept mark_3 start) := hD
            refine lv_iconst (v := 1) hx hb dX5_followEntries_57 (by decide) ?_
            refine lv_icmp_ne (tgt := 149) hx hb dX5_followEntries_58 (by decide) (fun c14 => ?_) (fun c14 => ?_)
            · replace hm := it_f c14 hm
              refine lv_iinc (v := (v2 + 1)) (lv' := [(4, .int (v2 + 1)), (6, .int (v2 - v2 / 6 * 6)), (5, .int (v2 / 6)), (0, .ref (b 0)), (1, .int p1), (2, .int p2), (3, .int v1)]) hx hb dX5_followEntries_149 hl (k := 6) rfl rfl (by decide) rfl (fun ls hl => ?_)
              refine lv_goto (tgt := 5) hx hb dX5_followEntries_152 (by decide) ?_
              exact ih5 v1 (v2 + 1) mark_3 hm _ _ _ hP hD hS (lv_sub hl [3, 4, 5, 6, 0] rfl)
            · replace hm := it_t c14 hm
              refine lv_iload hx hb dX5_followEntries_61 (lv_at hl 0 rfl) ?_
              refine lv_aload_n hx hb dX5_followEntries_63 rfl (lv_at hl 2 rfl) ?_
              refine lv_iload hx hb dX5_followEntries_64 (lv_at hl 1 rfl) ?_
              refine lv_iconst (v := 2) hx hb dX5_followEntries_66 (by decide) ?_
              obtain ⟨q15, hc16, hm⟩ := bd_s hm
              refine ks_i (wo := (wMD G b w dep kept mark_3 start)) (rV (As := [.int (v2 / 6), .int 2]) (rest := [.int (v2 - v2 / 6 * 6)]) (b := (b 0)) (wi := (wMD G b w dep kept mark_3 start)) hF hK hP hD (c_X5_part l G b w dep kept mark_3 start (v2 / 6) 2 q15 hc16 H.size) (cwV 2 hts gX5_followEntries_X5_part rfl rfl rfl (by decide +kernel) ⟨Nat.le_of_ble_eq_true rfl, Nat.le_of_ble_eq_true rfl⟩) (va_recv hK.1 hP (ci := 5) (q0 := 0) rfl rfl) rfl hl.1 rfl (Nat.le_of_ble_eq_true rfl) dX5_followEntries_67 ⟨Nat.le_of_ble_eq_true rfl, Nat.le_of_ble_eq_true rfl⟩) hD hS hA (fun H locs hP hD hS => ?_)
              have hP : va_P G.1 vwCl (wMD G b w dep kept mark_3 start) H := hP
              have hD : va_D A (wMD G b w dep kept mark_3 start) := hD
              refine lv_icmp_ge (tgt := 149) hx hb dX5_followEntries_70 (by decide) (fun c17 => ?_) (fun c17 => ?_)
              · replace hm := it_t c17 hm
                refine lv_iinc (v := (v2 + 1)) (lv' := [(4, .int (v2 + 1)), (6, .int (v2 - v2 / 6 * 6)), (5, .int (v2 / 6)), (0, .ref (b 0)), (1, .int p1), (2, .int p2), (3, .int v1)]) hx hb dX5_followEntries_149 hl (k := 6) rfl rfl (by decide) rfl (fun ls hl => ?_)
                refine lv_goto (tgt := 5) hx hb dX5_followEntries_152 (by decide) ?_
                exact ih5 v1 (v2 + 1) mark_3 hm _ _ _ hP hD hS (lv_sub hl [3, 4, 5, 6, 0] rfl)
              · replace hm := it_f c17 hm
                refine lv_aload_n hx hb dX5_followEntries_73 rfl (lv_at hl 2 rfl) ?_
                refine lv_iload hx hb dX5_followEntries_74 (lv_at hl 1 rfl) ?_
                refine lv_iconst (v := 3) hx hb dX5_followEntries_76 (by decide) ?_
                refine lv_iload hx hb dX5_followEntries_77 (lv_at hl 0 rfl) ?_
                refine lv_iadd hx hb dX5_followEntries_79 ?_
                obtain ⟨q18, hc19, hm⟩ := bd_s hm
                refine ks_i (wo := (wMD G b w dep kept mark_3 start)) (rV (As := [.int (v2 / 6), .int (3 + (v2 - v2 / 6 * 6))]) (rest := []) (b := (b 0)) (wi := (wMD G b w dep kept mark_3 start)) hF hK hP hD (c_X5_part l G b w dep kept mark_3 start (v2 / 6) (3 + (v2 - v2 / 6 * 6)) q18 hc19 H.size) (cwV 2 hts gX5_followEntries_X5_part rfl rfl rfl (by decide +kernel) ⟨Nat.le_of_ble_eq_true rfl, Nat.le_of_ble_eq_true rfl⟩) (va_recv hK.1 hP (ci := 5) (q0 := 0) rfl rfl) rfl hl.1 rfl (Nat.le_of_ble_eq_true rfl) dX5_followEntries_80 ⟨Nat.le_of_ble_eq_true rfl, Nat.le_of_ble_eq_true rfl⟩) hD hS hA (fun H locs hP hD hS => ?_)
                have hP : va_P G.1 vwCl (wMD G b w dep kept mark_3 start) H := hP
                have hD : va_D A (wMD G b w dep kept mark_3 start) := hD
                refine lv_istore (lv' := [(7, .int q18), (6, .int (v2 - v2 / 6 * 6)), (5, .int (v2 / 6)), (0, .ref (b 0)), (1, .int p1), (2, .int p2), (3, .int v1), (4, .int v2)]) hx hb dX5_followEntries_83 hl (by decide) rfl (fun ls hl => ?_)
                refine lv_aload_n hx hb dX5_followEntries_85 rfl (lv_at hl 3 rfl) ?_
                refine lv_iload hx hb dX5_followEntries_86 (lv_at hl 2 rfl) ?_
                refine lv_bipush (v := 9) hx hb dX5_followEntries_88 (by decide) ?_
                refine lv_iload hx hb dX5_followEntries_90 (lv_at hl 1 rfl) ?_
                refine lv_iadd hx hb dX5_followEntries_92 ?_
                obtain ⟨q20, hc21, hm⟩ := bd_s hm
                refine ks_i (wo := (wMD G b w dep kept mark_3 start)) (rV (As := [.int (v2 / 6), .int (9 + (v2 - v2 / 6 * 6))]) (rest := []) (b := (b 0)) (wi := (wMD G b w dep kept mark_3 start)) hF hK hP hD (c_X5_part l G b w dep kept mark_3 start (v2 / 6) (9 + (v2 - v2 / 6 * 6)) q20 hc21 H.size) (cwV 2 hts gX5_followEntries_X5_part rfl rfl rfl (by decide +kernel) ⟨Nat.le_of_ble_eq_true rfl, Nat.le_of_ble_eq_true rfl⟩) (va_recv hK.1 hP (ci := 5) (q0 := 0) rfl rfl) rfl hl.1 rfl (Nat.le_of_ble_eq_true rfl) dX5_followEntries_93 ⟨Nat.le_of_ble_eq_true rfl, Nat.le_of_ble_eq_true rfl⟩) hD hS hA (fun H locs hP hD hS => ?_)
                have hP : va_P G.1 vwCl (wMD G b w dep kept mark_3 start) H := hP
                have hD : va_D A (wMD G b w dep kept mark_3 start) := hD
                refine lv_istore (lv' := [(8, .int q20), (7, .int q18), (6, .int (v2 - v2 / 6 * 6)), (5, .int (v2 / 6)), (0, .ref (b 0)), (1, .int p1), (2, .int p2), (3, .int v1), (4, .int v2)]) hx hb dX5_followEntries_96 hl (by decide) rfl (fun ls hl => ?_)
                refine lv_aload_n hx hb dX5_followEntries_98 rfl (lv_at hl 4 rfl) ?_
                refine va_get (D := G.1) (ci := 5) (v := .ref (b 3)) (C := RX5) (T := TX5) (N := 5) hx hb hts w1_X5_followEntries hown hK.1 hP 0 rfl rfl 3 (by decide) (hts _ w0_X5_followEntries) (fun _ h9 => h9) rfl dX5_followEntries_99 ?_
                refine lv_iload hx hb dX5_followEntries_102 (lv_at hl 1 rfl) ?_
                obtain ⟨hi22, hm⟩ := gd_s hm
                refine va_iald hx hb hK.1 hP 3 0 rfl rfl hi22 dX5_followEntries_104 ?_
                refine lv_bipush (v := (-9)) hx hb dX5_followEntries_105 (by decide) ?_
                refine lv_icmp_eq (tgt := 149) hx hb dX5_followEntries_107 (by decide) (fun c23 => ?_) (fun c23 => ?_)
                · replace hm := it_t c23 hm
                  refine lv_iinc (v := (v2 + 1)) (lv' := [(4, .int (v2 + 1)), (8, .int q20), (7, .int q18), (6, .int (v2 - v2 / 6 * 6)), (5, .int (v2 / 6)), (0, .ref (b 0)), (1, .int p1), (2, .int p2), (3, .int v1)]) hx hb dX5_followEntries_149 hl (k := 8) rfl rfl (by decide) rfl (fun ls hl => ?_)
                  refine lv_goto (tgt := 5) hx hb dX5_followEntries_152 (by decide) ?_
                  exact ih5 v1 (v2 + 1) mark_3 hm _ _ _ hP hD hS (lv_sub hl [5, 6, 7, 8, 0] rfl)
                · replace hm := it_f c23 hm
                  refine lv_aload_n hx hb dX5_followEntries_110 rfl (lv_at hl 4 rfl) ?_
                  refine va_get (D := G.1) (ci := 5) (v := .ref (b 3)) (C := RX5) (T := TX5) (N := 5) hx hb hts w1_X5_followEntries hown hK.1 hP 0 rfl rfl 3 (by decide) (hts _ w0_X5_followEntries) (fun _ h9 => h9) rfl dX5_followEntries_111 ?_
                  refine lv_iload hx hb dX5_followEntries_114 (lv_at hl 1 rfl) ?_
                  obtain ⟨hi24, hm⟩ := gd_s hm
                  refine va_iald hx hb hK.1 hP 3 0 rfl rfl hi24 dX5_followEntries_116 ?_
                  refine lv_iload_n hx hb dX5_followEntries_117 rfl (lv_at hl 5 rfl) ?_
                  refine lv_icmp_ge (tgt := 149) hx hb dX5_followEntries_118 (by decide) (fun c25 => ?_) (fun c25 => ?_)
                  · replace hm := it_t c25 hm
                    refine lv_iinc (v := (v2 + 1)) (lv' := [(4, .int (v2 + 1)), (8, .int q20), (7, .int q18), (6, .int (v2 - v2 / 6 * 6)), (5, .int (v2 / 6)), (0, .ref (b 0)), (1, .int p1), (2, .int p2), (3, .int v1)]) hx hb dX5_followEntries_149 hl (k := 8) rfl rfl (by decide) rfl (fun ls hl => ?_)
                    refine lv_goto (tgt := 5) hx hb dX5_followEntries_152 (by decide) ?_
                    exact ih5 v1 (v2 + 1) mark_3 hm _ _ _ hP hD hS (lv_sub hl [5, 6, 7, 8, 0] rfl)
                  · replace hm := it_f c25 hm
                    refine lv_aload_n hx hb dX5_followEntries_121 rfl (lv_at hl 4 rfl) ?_
                    refine va_get (D := G.1) (ci := 5) (v := .ref (b 3)) (C := RX5) (T := TX5) (N := 5) hx hb hts w1_X5_followEntries hown hK.1 hP 0 rfl rfl 3 (by decide) (hts _ w0_X5_followEntries) (fun _ h9 => h9) rfl dX5_followEntries_122 ?_
                    refine lv_iload hx hb dX5_followEntries_125 (lv_at hl 0 rfl) ?_
                    obtain ⟨hi26, hm⟩ := gd_s hm
                    refine va_iald hx hb hK.1 hP 3 0 rfl rfl hi26 dX5_followEntries_127 ?_
                    refine lv_bipush (v := (-9)) hx hb dX5_followEntries_128 (by decide) ?_
                    refine lv_icmp_ne (tgt := 149) hx hb dX5_followEntries_130 (by decide) (fun c27 => ?_) (fun c27 => ?_)
                    · replace hm := it_f c27 hm
                      refine lv_iinc (v := (v2 + 1)) (lv' := [(4, .int (v2 + 1)), (8, .int q20), (7, .int q18), (6, .int (v2 - v2 / 6 * 6)), (5, .int (v2 / 6)), (0, .ref (b 0)), (1, .int p1), (2, .int p2), (3, .int v1)]) hx hb dX5_followEntries_149 hl (k := 8) rfl rfl (by decide) rfl (fun ls hl => ?_)
                      refine lv_goto (tgt := 5) hx hb dX5_followEntries_152 (by decide) ?_
                      exact ih5 v1 (v2 + 1) mark_3 hm _ _ _ hP hD hS (lv_sub hl [5, 6, 7, 8, 0] rfl)
                    · replace hm := it_t c27 hm
                      refine lv_iload hx hb dX5_followEntries_133 (lv_at hl 0 rfl) ?_
                      refine lv_iload_n hx hb dX5_followEntries_135 rfl (lv_at hl 6 rfl) ?_
                      refine lv_icmp_eq (tgt := 149) hx hb dX5_followEntries_136 (by decide) (fun c28 => ?_) (fun c28 => ?_)
                      · replace hm := it_t c28 hm
                        refine lv_iinc (v := (v2 + 1)) (lv' := [(4, .int (v2 + 1)), (8, .int q20), (7, .int q18), (6, .int (v2 - v2 / 6 * 6)), (5, .int (v2 / 6)), (0, .ref (b 0)), (1, .int p1), (2, .int p2), (3, .int v1)]) hx hb dX5_followEntries_149 hl (k := 8) rfl rfl (by decide) rfl (fun ls hl => ?_)
                        refine lv_goto (tgt := 5) hx hb dX5_followEntries_152 (by decide) ?_
                        exact ih5 v1 (v2 + 1) mark_3 hm _ _ _ hP hD hS (lv_sub hl [5, 6, 7, 8, 0] rfl)
                      · replace hm := it_f c28 hm
                        refine lv_aload_n hx hb dX5_followEntries_139 rfl (lv_at hl 4 rfl) ?_
                        refine va_get (D := G.1) (ci := 5) (v := .ref (b 3)) (C := RX5) (T := TX5) (N := 5) hx hb hts w1_X5_followEntries hown hK.1 hP 0 rfl rfl 3 (by decide) (hts _ w0_X5_followEntries) (fun _ h9 => h9) rfl dX5_followEntries_140 ?_
                        refine lv_iload hx hb dX5_followEntries_143 (lv_at hl 0 rfl) ?_
                        refine lv_iload_n hx hb dX5_followEntries_145 rfl (lv_at hl 5 rfl) ?_
                        obtain ⟨hi29, hm⟩ := gd_s hm
                        refine va_iast hx hb hK.1 hP hD hS 3 0 rfl rfl hi29 dX5_followEntries_146 (fun H locs hP hD hS => ?_)
                        have hP : va_P G.1 vwCl (wMD G b w dep kept (upd mark_3 q20.toNatClampNeg p1) start) H := hP
                        have hD : va_D A (wMD G b w dep kept (upd mark_3 q20.toNatClampNeg p1) start) := hD
                        refine lv_iconst (v := 1) hx hb dX5_followEntries_147 (by decide) ?_
                        refine lv_istore_n (lv' := [(3, .int 1), (8, .int q20), (7, .int q18), (6, .int (v2 - v2 / 6 * 6)), (5, .int (v2 / 6)), (0, .ref (b 0)), (1, .int p1), (2, .int p2), (4, .int v2)]) hx hb dX5_followEntries_148 rfl hl (by decide) rfl (fun ls hl => ?_)
                        refine lv_iinc (v := (v2 + 1)) (lv' := [(4, .int (v2 + 1)), (3, .int 1), (8, .int q20), (7, .int q18), (6, .int (v2 - v2 / 6 * 6)), (5, .int (v2 / 6)), (0, .ref (b 0)), (1, .int p1), (2, .int p2)]) hx hb dX5_followEntries_149 hl (k := 8) rfl rfl (by decide) rfl (fun ls hl => ?_)
                        refine lv_goto (tgt := 5) hx hb dX5_followEntries_152 (by decide) ?_
                        exact ih5 1 (v2 + 1) (upd mark_3 q20.toNatClampNeg p1) hm _ _ _ hP hD hS (lv_sub hl [6, 7, 8, 1, 0] rfl)
  exact L6 N 0 0 mark hm _ _ _ hP hD hS (lv_sub hl [2, 3, 4, 1, 0] rfl)
def M_X5_marks_L48 (K : (Int32) → (Nat → Int32) → Option (Int32 × (Nat → Int32))) (N : Nat) (w : Nat → Int32) (p1 : Int32) : Nat → (Int32) → (Nat → Int32) → Option (Int32 × (Nat → Int32))
  | 0, _, _ => none
  | n11 + 1, v9, mark_10 => (M_X5_followEntries N w mark_10 v9 p1).bind fun q16 => if q16.1 = 0 then (K v9 q16.2) else ((M_X5_followFields N w q16.2 v9 p1).bind fun q19 => M_X5_marks_L48 K N w p1 n11 (v9 + 1) q19)
def M_X5_marks_L2 (N : Nat) (w : Nat → Int32) (start : Nat → Int32) (p1 : Int32) : Nat → (Int32) → (Nat → Int32) → Option (Int32 × (Nat → Int32))
  | 0, _, _ => none
  | n3 + 1, v1, mark_2 => if 24 ≤ v1 then ((M_X5_followFields N w mark_2 0 p1).bind fun q7 => M_X5_marks_L48 (fun k14 kmark15 => some ((k14 - 1), kmark15)) N w p1 N 1 q7) else (gd v1 24 (if (start v1.toNatClampNeg) = 0 then (gd v1 24 (M_X5_marks_L2 N w start p1 n3 (v1 + 1) (upd mark_2 v1.toNatClampNeg (-9)))) else (if v1 = p1 then (gd v1 24 (M_X5_marks_L2 N w start p1 n3 (v1 + 1) (upd mark_2 v1.toNatClampNeg (-9)))) else (gd v1 24 (M_X5_marks_L2 N w start p1 n3 (v1 + 1) (upd mark_2 v1.toNatClampNeg 0))))))
def M_X5_marks (N : Nat) (w : Nat → Int32) (mark : Nat → Int32) (start : Nat → Int32) (p1 : Int32) : Option (Int32 × (Nat → Int32)) :=
  M_X5_marks_L2 N w start p1 N 0 mark
theorem w0_X5_marks : Cond.fieldLink RX5 17 "WeakTableHeapModel" "mark" "[I" ∈ wsX5_marks := by decide +kernel
theorem w1_X5_marks : ∀ w ∈ u_ws RX5 TX5 5, w ∈ wsX5_marks := by decide +kernel
theorem w2_X5_marks : Cond.fieldLink RX5 20 "WeakTableHeapModel" "start" "[Z" ∈ wsX5_marks := by decide +kernel
abbrev rm_X5_marks : Room := { frames := 2, cells := 0, slots := 0, locals := 50 }
set_option maxHeartbeats 4000000 in
set_option maxRecDepth 100000 in
theorem c_X5_marks (l : Launch) (G : GG) (N : Nat) (b : Nat → Nat) (w : Nat → Int32) (dep : Int32) (kept : Nat → Int32) (mark : Nat → Int32) (start : Nat → Int32) (p1 : Int32) (q : Int32 × (Nat → Int32)) (hm : M_X5_marks N w mark start p1 = some q) : CTi l yX5_marks wsX5_marks rm_X5_marks G [.ref (b 0), .int p1] (wMD G b w dep kept mark start) q.1 (wMD G b w dep kept q.2 start) := by
  intro sz
  refine mk_body (Qc := fun A => (QI G A q.1 (wMD G b w dep kept q.2 start))) (cc := cX5_marks) (maxL := 3) (ret := (some .int)) (lv := [(0, .ref (b 0)), (1, .int p1)]) (by decide) rfl rfl (Nat.le_of_ble_eq_true rfl) ?_
  intro p e s m args below meth c A H locs ls hF hr hlocks hname hK hA hP hD hS hl
  obtain ⟨hx, hb, hml, hown, hts⟩ := id hF
  unfold M_X5_marks at hm
  refine lv_iconst (v := 0) hx hb dX5_marks_0 (by decide) ?_
  refine lv_istore_n (lv' := [(2, .int 0), (0, .ref (b 0)), (1, .int p1)]) hx hb dX5_marks_1 rfl hl (by decide) rfl (fun ls hl => ?_)
  have L5 : ∀ (n3 : Nat) (v1 : Int32) (mark_2 : Nat → Int32), M_X5_marks_L2 N w start p1 n3 v1 mark_2 = some q → ∀ (H : Heap) (locs : List Loc) (ls : Array Slot), va_P G.1 vwCl (wMD G b w dep kept mark_2 start) H → va_D A (wMD G b w dep kept mark_2 start) → va_S A s.heap H locs → lv_has ls 3 [(0, .ref (b 0)), (1, .int p1), (2, .int v1)] → W p l e rm_X5_marks s m args below meth c H locs 0 0 (MQ below (QI G A q.1 (wMD G b w dep kept q.2 start)) args s rm_X5_marks.cells rm_X5_marks.slots A) (F0 m 2 ls []) := by
    intro n3
    induction n3 with
    | zero => intro v1 mark_2 hm; cases hm
    | succ n3 ih4 =>
      intro v1 mark_2 hm H locs ls hP hD hS hl
      rw [M_X5_marks_L2] at hm
      refine lv_iload_n hx hb dX5_marks_2 rfl (lv_at hl 2 rfl) ?_
      refine lv_bipush (v := 24) hx hb dX5_marks_3 (by decide) ?_
      refine lv_icmp_ge (tgt := 40) hx hb dX5_marks_5 (by decide) (fun c6 => ?_) (fun c6 => ?_)
      · replace hm := it_t c6 hm
        refine lv_aload_n hx hb dX5_marks_40 rfl (lv_at hl 0 rfl) ?_
        refine lv_iconst (v := 0) hx hb dX5_marks_41 (by decide) ?_
        refine lv_iload_n hx hb dX5_marks_42 rfl (lv_at hl 1 rfl) ?_
        obtain ⟨q7, hc8, hm⟩ := bd_s hm
        refine ks_v (wo := (wMD G b w dep kept q7 start)) (rV (As := [.int 0, .int p1]) (rest := []) (b := (b 0)) (wi := (wMD G b w dep kept mark_2 start)) hF hK hP hD (c_X5_followFields l G N b w dep kept mark_2 start 0 p1 q7 hc8 H.size) (cwV 2 hts gX5_marks_X5_followFields rfl rfl rfl (by decide +kernel) ⟨Nat.le_of_ble_eq_true rfl, Nat.le_of_ble_eq_true rfl⟩) (va_recv hK.1 hP (ci := 5) (q0 := 0) rfl rfl) rfl hl.1 rfl (Nat.le_of_ble_eq_true rfl) dX5_marks_43 ⟨Nat.le_of_ble_eq_true rfl, Nat.le_of_ble_eq_true rfl⟩) hD hS hA (fun H locs hP hD hS => ?_)
        have hP : va_P G.1 vwCl (wMD G b w dep kept q7 start) H := hP
        have hD : va_D A (wMD G b w dep kept q7 start) := hD
        refine lv_iconst (v := 1) hx hb dX5_marks_46 (by decide) ?_
        refine lv_istore_n (lv' := [(2, .int 1), (0, .ref (b 0)), (1, .int p1)]) hx hb dX5_marks_47 rfl hl (by decide) rfl (fun ls hl => ?_)
        have L13 : ∀ (n11 : Nat) (v9 : Int32) (mark_10 : Nat → Int32), M_X5_marks_L48 (fun k14 kmark15 => some ((k14 - 1), kmark15)) N w p1 n11 v9 mark_10 = some q → ∀ (H : Heap) (locs : List Loc) (ls : Array Slot), va_P G.1 vwCl (wMD G b w dep kept mark_10 start) H → va_D A (wMD G b w dep kept mark_10 start) → va_S A s.heap H locs → lv_has ls 3 [(0, .ref (b 0)), (1, .int p1), (2, .int v9)] → W p l e rm_X5_marks s m args below meth c H locs 0 0 (MQ below (QI G A q.1 (wMD G b w dep kept q.2 start)) args s rm_X5_marks.cells rm_X5_marks.slots A) (F0 m 48 ls []) := by
          intro n11
          induction n11 with
          | zero => intro v9 mark_10 hm; cases hm
          | succ n11 ih12 =>
            intro v9 mark_10 hm H locs ls hP hD hS hl
            rw [M_X5_marks_L48] at hm
            refine lv_aload_n hx hb dX5_marks_48 rfl (lv_at hl 0 rfl) ?_
            refine lv_iload_n hx hb dX5_marks_49 rfl (lv_at hl 2 rfl) ?_
            refine lv_iload_n hx hb dX5_marks_50 rfl (lv_at hl 1 rfl) ?_
            obtain ⟨q16, hc17, hm⟩ := bd_s hm
            refine ks_i (wo := (wMD G b w dep kept q16.2 start)) (rV (As := [.int v9, .int p1]) (rest := []) (b := (b 0)) (wi := (wMD G b w dep kept mark_10 start)) hF hK hP hD (c_X5_followEntries l G N b w dep kept mark_10 start v9 p1 q16 hc17 H.size) (cwV 2 hts gX5_marks_X5_followEntries rfl rfl rfl (by decide +kernel) ⟨Nat.le_of_ble_eq_true rfl, Nat.le_of_ble_eq_true rfl⟩) (va_recv hK.1 hP (ci := 5) (q0 := 0) rfl rfl) rfl hl.1 rfl (Nat.le_of_ble_eq_true rfl) dX5_marks_51 ⟨Nat.le_of_ble_eq_true rfl, Nat.le_of_ble_eq_true rfl⟩) hD hS hA (fun H locs hP hD hS => ?_)
            have hP : va_P G.1 vwCl (wMD G b w dep kept q16.2 start) H := hP
            have hD : va_D A (wMD G b w dep kept q16.2 start) := hD
            refine lv_if_eq (tgt := 69) hx hb dX5_marks_54 (by decide) (fun c18 => ?_) (fun c18 => ?_)
            · replace hm := it_t c18 hm
              dsimp only at hm
              refine lv_iload_n hx hb dX5_marks_69 rfl (lv_at hl 2 rfl) ?_
              refine lv_iconst (v := 1) hx hb dX5_marks_70 (by decide) ?_
              refine lv_isub hx hb dX5_marks_71 ?_
              cases hm
              exact rt_i hx hb hr hlocks hP hD hS dX5_marks_72
            · replace hm := it_f c18 hm
              refine lv_aload_n hx hb dX5_marks_57 rfl (lv_at hl 0 rfl) ?_
              refine lv_iload_n hx hb dX5_marks_58 rfl (lv_at hl 2 rfl) ?_
              refine lv_iload_n hx hb dX5_marks_59 rfl (lv_at hl 1 rfl) ?_
              obtain ⟨q19, hc20, hm⟩ := bd_s hm
              refine ks_v (wo := (wMD G b w dep kept q19 start)) (rV (As := [.int v9, .int p1]) (rest := []) (b := (b 0)) (wi := (wMD G b w dep kept q16.2 start)) hF hK hP hD (c_X5_followFields l G N b w dep kept q16.2 start v9 p1 q19 hc20 H.size) (cwV 2 hts gX5_marks_X5_followFields rfl rfl rfl (by decide +kernel) ⟨Nat.le_of_ble_eq_true rfl, Nat.le_of_ble_eq_true rfl⟩) (va_recv hK.1 hP (ci := 5) (q0 := 0) rfl rfl) rfl hl.1 rfl (Nat.le_of_ble_eq_true rfl) dX5_marks_60 ⟨Nat.le_of_ble_eq_true rfl, Nat.le_of_ble_eq_true rfl⟩) hD hS hA (fun H locs hP hD hS => ?_)
              have hP : va_P G.1 vwCl (wMD G b w dep kept q19 start) H := hP
              have hD : va_D A (wMD G b w dep kept q19 start) := hD
              refine lv_iinc (v := (v9 + 1)) (lv' := [(2, .int (v9 + 1)), (0, .ref (b 0)), (1, .int p1)]) hx hb dX5_marks_63 hl (k := 2) rfl rfl (by decide) rfl (fun ls hl => ?_)
              refine lv_goto (tgt := 48) hx hb dX5_marks_66 (by decide) ?_
              exact ih12 (v9 + 1) q19 hm _ _ _ hP hD hS (lv_sub hl [1, 2, 0] rfl)
        exact L13 N 1 q7 hm _ _ _ hP hD hS (lv_sub hl [1, 2, 0] rfl)
      · replace hm := it_f c6 hm
        refine lv_aload_n hx hb dX5_marks_8 rfl (lv_at hl 0 rfl) ?_
        refine va_get (D := G.1) (ci := 5) (v := .ref (b 3)) (C := RX5) (T := TX5) (N := 5) hx hb hts w1_X5_marks hown hK.1 hP 0 rfl rfl 3 (by decide) (hts _ w0_X5_marks) (fun _ h9 => h9) rfl dX5_marks_9 ?_
        refine lv_iload_n hx hb dX5_marks_12 rfl (lv_at hl 2 rfl) ?_
        refine lv_aload_n hx hb dX5_marks_13 rfl (lv_at hl 0 rfl) ?_
        refine va_get (D := G.1) (ci := 5) (v := .ref (b 4)) (C := RX5) (T := TX5) (N := 5) hx hb hts w1_X5_marks hown hK.1 hP 0 rfl rfl 4 (by decide) (hts _ w2_X5_marks) (fun _ h9 => h9) rfl dX5_marks_14 ?_
        refine lv_iload_n hx hb dX5_marks_17 rfl (lv_at hl 2 rfl) ?_
        obtain ⟨hi21, hm⟩ := gd_s hm
        refine va_zald hx hb hK.1 hP 4 1 rfl rfl hi21 dX5_marks_18 ?_
        refine lv_if_eq (tgt := 31) hx hb dX5_marks_19 (by decide) (fun c22 => ?_) (fun c22 => ?_)
        · replace hm := it_t c22 hm
          refine lv_bipush (v := (-9)) hx hb dX5_marks_31 (by decide) ?_
          obtain ⟨hi23, hm⟩ := gd_s hm
          refine va_iast hx hb hK.1 hP hD hS 3 0 rfl rfl hi23 dX5_marks_33 (fun H locs hP hD hS => ?_)
          have hP : va_P G.1 vwCl (wMD G b w dep kept (upd mark_2 v1.toNatClampNeg (-9)) start) H := hP
          have hD : va_D A (wMD G b w dep kept (upd mark_2 v1.toNatClampNeg (-9)) start) := hD
          refine lv_iinc (v := (v1 + 1)) (lv' := [(2, .int (v1 + 1)), (0, .ref (b 0)), (1, .int p1)]) hx hb dX5_marks_34 hl (k := 2) rfl rfl (by decide) rfl (fun ls hl => ?_)
          refine lv_goto (tgt := 2) hx hb dX5_marks_37 (by decide) ?_
          exact ih4 (v1 + 1) (upd mark_2 v1.toNatClampNeg (-9)) hm _ _ _ hP hD hS (lv_sub hl [1, 2, 0] rfl)
        · replace hm := it_f c22 hm
          refine lv_iload_n hx hb dX5_marks_22 rfl (lv_at hl 2 rfl) ?_
          refine lv_iload_n hx hb dX5_marks_23 rfl (lv_at hl 1 rfl) ?_
          refine lv_icmp_eq (tgt := 31) hx hb dX5_marks_24 (by decide) (fun c24 => ?_) (fun c24 => ?_)
          · replace hm := it_t c24 hm
            refine lv_bipush (v := (-9)) hx hb dX5_marks_31 (by decide) ?_
            obtain ⟨hi25, hm⟩ := gd_s hm
            refine va_iast hx hb hK.1 hP hD hS 3 0 rfl rfl hi25 dX5_marks_33 (fun H locs hP hD hS => ?_)
            have hP : va_P G.1 vwCl (wMD G b w dep kept (upd mark_2 v1.toNatClampNeg (-9)) start) H := hP
            have hD : va_D A (wMD G b w dep kept (upd mark_2 v1.toNatClampNeg (-9)) start) := hD
            refine lv_iinc (v := (v1 + 1)) (lv' := [(2, .int (v1 + 1)), (0, .ref (b 0)), (1, .int p1)]) hx hb dX5_marks_34 hl (k := 2) rfl rfl (by decide) rfl (fun ls hl => ?_)
            refine lv_goto (tgt := 2) hx hb dX5_marks_37 (by decide) ?_
            exact ih4 (v1 + 1) (upd mark_2 v1.toNatClampNeg (-9)) hm _ _ _ hP hD hS (lv_sub hl [1, 2, 0] rfl)
          · replace hm := it_f c24 hm
            refine lv_iconst (v := 0) hx hb dX5_marks_27 (by decide) ?_
            refine lv_goto (tgt := 33) hx hb dX5_marks_28 (by decide) ?_
            obtain ⟨hi26, hm⟩ := gd_s hm
            refine va_iast hx hb hK.1 hP hD hS 3 0 rfl rfl hi26 dX5_marks_33 (fun H locs hP hD hS => ?_)
            have hP : va_P G.1 vwCl (wMD G b w dep kept (upd mark_2 v1.toNatClampNeg 0) start) H := hP
            have hD : va_D A (wMD G b w dep kept (upd mark_2 v1.toNatClampNeg 0) start) := hD
            refine lv_iinc (v := (v1 + 1)) (lv' := [(2, .int (v1 + 1)), (0, .ref (b 0)), (1, .int p1)]) hx hb dX5_marks_34 hl (k := 2) rfl rfl (by decide) rfl (fun ls hl => ?_)
            refine lv_goto (tgt := 2) hx hb dX5_marks_37 (by decide) ?_
            exact ih4 (v1 + 1) (upd mark_2 v1.toNatClampNeg 0) hm _ _ _ hP hD hS (lv_sub hl [1, 2, 0] rfl)
  exact L5 N 0 mark hm _ _ _ hP hD hS (lv_sub hl [1, 2, 0] rfl)
def M_X5_marked_L4 (mark : Nat → Int32) : Nat → (Int32) → (Int32) → Option (Int32)
  | 0, _, _ => none
  | n3 + 1, v1, v2 => if 24 ≤ v2 then (some v1) else (gd v2 24 (if (mark v2.toNatClampNeg) = (-9) then (M_X5_marked_L4 mark n3 (v1 + 0) (v2 + 1)) else (M_X5_marked_L4 mark n3 (v1 + 1) (v2 + 1))))
def M_X5_marked (N : Nat) (mark : Nat → Int32) : Option (Int32) :=
  M_X5_marked_L4 mark N 0 0
theorem w0_X5_marked : Cond.fieldLink RX5 17 "WeakTableHeapModel" "mark" "[I" ∈ wsX5_marked := by decide +kernel
theorem w1_X5_marked : ∀ w ∈ u_ws RX5 TX5 5, w ∈ wsX5_marked := by decide +kernel
abbrev rm_X5_marked : Room := { frames := 0, cells := 0, slots := 0, locals := 0 }
set_option maxHeartbeats 4000000 in
set_option maxRecDepth 100000 in
theorem c_X5_marked (l : Launch) (G : GG) (N : Nat) (b : Nat → Nat) (w : Nat → Int32) (dep : Int32) (kept : Nat → Int32) (mark : Nat → Int32) (start : Nat → Int32) (q : Int32) (hm : M_X5_marked N mark = some q) : CTi l yX5_marked wsX5_marked rm_X5_marked G [.ref (b 0)] (wMD G b w dep kept mark start) q (wMD G b w dep kept mark start) := by
  intro sz
  refine mk_body (Qc := fun A => (QI G A q (wMD G b w dep kept mark start))) (cc := cX5_marked) (maxL := 3) (ret := (some .int)) (lv := [(0, .ref (b 0))]) (by decide) rfl rfl (Nat.le_of_ble_eq_true rfl) ?_
  intro p e s m args below meth c A H locs ls hF hr hlocks hname hK hA hP hD hS hl
  obtain ⟨hx, hb, hml, hown, hts⟩ := id hF
  unfold M_X5_marked at hm
  refine lv_iconst (v := 0) hx hb dX5_marked_0 (by decide) ?_
  refine lv_istore_n (lv' := [(1, .int 0), (0, .ref (b 0))]) hx hb dX5_marked_1 rfl hl (by decide) rfl (fun ls hl => ?_)
  refine lv_iconst (v := 0) hx hb dX5_marked_2 (by decide) ?_
  refine lv_istore_n (lv' := [(2, .int 0), (1, .int 0), (0, .ref (b 0))]) hx hb dX5_marked_3 rfl hl (by decide) rfl (fun ls hl => ?_)
  have L5 : ∀ (n3 : Nat) (v1 : Int32) (v2 : Int32), M_X5_marked_L4 mark n3 v1 v2 = some q → ∀ (H : Heap) (locs : List Loc) (ls : Array Slot), va_P G.1 vwCl (wMD G b w dep kept mark start) H → va_D A (wMD G b w dep kept mark start) → va_S A s.heap H locs → lv_has ls 3 [(0, .ref (b 0)), (1, .int v1), (2, .int v2)] → W p l e rm_X5_marked s m args below meth c H locs 0 0 (MQ below (QI G A q (wMD G b w dep kept mark start)) args s rm_X5_marked.cells rm_X5_marked.slots A) (F0 m 4 ls []) := by
    intro n3
    induction n3 with
    | zero => intro v1 v2 hm; cases hm
    | succ n3 ih4 =>
      intro v1 v2 hm H locs ls hP hD hS hl
      rw [M_X5_marked_L4] at hm
      refine lv_iload_n hx hb dX5_marked_4 rfl (lv_at hl 2 rfl) ?_
      refine lv_bipush (v := 24) hx hb dX5_marked_5 (by decide) ?_
      refine lv_icmp_ge (tgt := 35) hx hb dX5_marked_7 (by decide) (fun c6 => ?_) (fun c6 => ?_)
      · replace hm := it_t c6 hm
        refine lv_iload_n hx hb dX5_marked_35 rfl (lv_at hl 1 rfl) ?_
        cases hm
        exact rt_i hx hb hr hlocks hP hD hS dX5_marked_36
      · replace hm := it_f c6 hm
        refine lv_iload_n hx hb dX5_marked_10 rfl (lv_at hl 1 rfl) ?_
        refine lv_aload_n hx hb dX5_marked_11 rfl (lv_at hl 0 rfl) ?_
        refine va_get (D := G.1) (ci := 5) (v := .ref (b 3)) (C := RX5) (T := TX5) (N := 5) hx hb hts w1_X5_marked hown hK.1 hP 0 rfl rfl 3 (by decide) (hts _ w0_X5_marked) (fun _ h9 => h9) rfl dX5_marked_12 ?_
        refine lv_iload_n hx hb dX5_marked_15 rfl (lv_at hl 2 rfl) ?_
        obtain ⟨hi7, hm⟩ := gd_s hm
        refine va_iald hx hb hK.1 hP 3 0 rfl rfl hi7 dX5_marked_16 ?_
        refine lv_bipush (v := (-9)) hx hb dX5_marked_17 (by decide) ?_
        refine lv_icmp_ne (tgt := 26) hx hb dX5_marked_19 (by decide) (fun c8 => ?_) (fun c8 => ?_)
        · replace hm := it_f c8 hm
          refine lv_iconst (v := 1) hx hb dX5_marked_26 (by decide) ?_
          refine lv_iadd hx hb dX5_marked_27 ?_
          refine lv_istore_n (lv' := [(1, .int (v1 + 1)), (0, .ref (b 0)), (2, .int v2)]) hx hb dX5_marked_28 rfl hl (by decide) rfl (fun ls hl => ?_)
          refine lv_iinc (v := (v2 + 1)) (lv' := [(2, .int (v2 + 1)), (1, .int (v1 + 1)), (0, .ref (b 0))]) hx hb dX5_marked_29 hl (k := 2) rfl rfl (by decide) rfl (fun ls hl => ?_)
          refine lv_goto (tgt := 4) hx hb dX5_marked_32 (by decide) ?_
          exact ih4 (v1 + 1) (v2 + 1) hm _ _ _ hP hD hS (lv_sub hl [2, 1, 0] rfl)
        · replace hm := it_t c8 hm
          refine lv_iconst (v := 0) hx hb dX5_marked_22 (by decide) ?_
          refine lv_goto (tgt := 27) hx hb dX5_marked_23 (by decide) ?_
          refine lv_iadd hx hb dX5_marked_27 ?_
          refine lv_istore_n (lv' := [(1, .int (v1 + 0)), (0, .ref (b 0)), (2, .int v2)]) hx hb dX5_marked_28 rfl hl (by decide) rfl (fun ls hl => ?_)
          refine lv_iinc (v := (v2 + 1)) (lv' := [(2, .int (v2 + 1)), (1, .int (v1 + 0)), (0, .ref (b 0))]) hx hb dX5_marked_29 hl (k := 2) rfl rfl (by decide) rfl (fun ls hl => ?_)
          refine lv_goto (tgt := 4) hx hb dX5_marked_32 (by decide) ?_
          exact ih4 (v1 + 0) (v2 + 1) hm _ _ _ hP hD hS (lv_sub hl [2, 1, 0] rfl)
  exact L5 N 0 0 hm _ _ _ hP hD hS (lv_sub hl [2, 1, 0] rfl)
def M_X5_markAll (N : Nat) (w : Nat → Int32) (mark : Nat → Int32) (start : Nat → Int32) (p1 : Int32) : Option (Int32 × (Nat → Int32) × (Nat → Int32)) :=
  (M_X5_startAtRoots N w start).bind fun q1 => (M_X5_marks N w mark q1 p1).bind fun q3 => some (q3.1, q3.2, q1)
abbrev rm_X5_markAll : Room := { frames := 3, cells := 0, slots := 0, locals := 72 }
set_option maxHeartbeats 4000000 in
set_option maxRecDepth 100000 in
theorem c_X5_markAll (l : Launch) (G : GG) (N : Nat) (b : Nat → Nat) (w : Nat → Int32) (dep : Int32) (kept : Nat → Int32) (mark : Nat → Int32) (start : Nat → Int32) (p1 : Int32) (q : Int32 × (Nat → Int32) × (Nat → Int32)) (hm : M_X5_markAll N w mark start p1 = some q) : CTi l yX5_markAll wsX5_markAll rm_X5_markAll G [.ref (b 0), .int p1] (wMD G b w dep kept mark start) q.1 (wMD G b w dep kept q.2.1 q.2.2) := by
  intro sz
  refine mk_body (Qc := fun A => (QI G A q.1 (wMD G b w dep kept q.2.1 q.2.2))) (cc := cX5_markAll) (maxL := 2) (ret := (some .int)) (lv := [(0, .ref (b 0)), (1, .int p1)]) (by decide) rfl rfl (Nat.le_of_ble_eq_true rfl) ?_
  intro p e s m args below meth c A H locs ls hF hr hlocks hname hK hA hP hD hS hl
  obtain ⟨hx, hb, hml, hown, hts⟩ := id hF
  unfold M_X5_markAll at hm
  refine lv_aload_n hx hb dX5_markAll_0 rfl (lv_at hl 0 rfl) ?_
  obtain ⟨q1, hc2, hm⟩ := bd_s hm
  refine ks_v (wo := (wMD G b w dep kept mark q1)) (rV (As := []) (rest := []) (b := (b 0)) (wi := (wMD G b w dep kept mark start)) hF hK hP hD (c_X5_startAtRoots l G N b w dep kept mark start q1 hc2 H.size) (cwV 0 hts gX5_markAll_X5_startAtRoots rfl rfl rfl (by decide +kernel) ⟨Nat.le_of_ble_eq_true rfl, Nat.le_of_ble_eq_true rfl⟩) (va_recv hK.1 hP (ci := 5) (q0 := 0) rfl rfl) rfl hl.1 rfl (Nat.le_of_ble_eq_true rfl) dX5_markAll_1 ⟨Nat.le_of_ble_eq_true rfl, Nat.le_of_ble_eq_true rfl⟩) hD hS hA (fun H locs hP hD hS => ?_)
  have hP : va_P G.1 vwCl (wMD G b w dep kept mark q1) H := hP
  have hD : va_D A (wMD G b w dep kept mark q1) := hD
  refine lv_aload_n hx hb dX5_markAll_4 rfl (lv_at hl 0 rfl) ?_
  refine lv_iload_n hx hb dX5_markAll_5 rfl (lv_at hl 1 rfl) ?_
  obtain ⟨q3, hc4, hm⟩ := bd_s hm
  refine ks_i (wo := (wMD G b w dep kept q3.2 q1)) (rV (As := [.int p1]) (rest := []) (b := (b 0)) (wi := (wMD G b w dep kept mark q1)) hF hK hP hD (c_X5_marks l G N b w dep kept mark q1 p1 q3 hc4 H.size) (cwV 1 hts gX5_markAll_X5_marks rfl rfl rfl (by decide +kernel) ⟨Nat.le_of_ble_eq_true rfl, Nat.le_of_ble_eq_true rfl⟩) (va_recv hK.1 hP (ci := 5) (q0 := 0) rfl rfl) rfl hl.1 rfl (Nat.le_of_ble_eq_true rfl) dX5_markAll_6 ⟨Nat.le_of_ble_eq_true rfl, Nat.le_of_ble_eq_true rfl⟩) hD hS hA (fun H locs hP hD hS => ?_)
  have hP : va_P G.1 vwCl (wMD G b w dep kept q3.2 q1) H := hP
  have hD : va_D A (wMD G b w dep kept q3.2 q1) := hD
  cases hm
  exact rt_i hx hb hr hlocks hP hD hS dX5_markAll_9
