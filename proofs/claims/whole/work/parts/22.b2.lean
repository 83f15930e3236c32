def M_X5_startAtRoots_L23 (w : Nat → Int32) : Nat → (Int32) → (Nat → Int32) → Option ((Nat → Int32))
  | 0, _, _ => none
  | n23 + 1, v23_1, start23_ => if 6 ≤ v23_1 then (some start23_) else (gd (360 + v23_1) 3880 (if (w (360 + v23_1).toNatClampNeg) = (-9) then (M_X5_startAtRoots_L23 w n23 (v23_1 + 1) start23_) else (gd (360 + v23_1) 3880 (gd (w (360 + v23_1).toNatClampNeg) 24 (M_X5_startAtRoots_L23 w n23 (v23_1 + 1) (upd start23_ (w (360 + v23_1).toNatClampNeg).toNatClampNeg (vp_nar .boolean 1)))))))
def M_X5_startAtRoots_L2 (N : Nat) (w : Nat → Int32) : Nat → (Int32) → (Nat → Int32) → Option ((Nat → Int32))
  | 0, _, _ => none
  | n2 + 1, v2_1, start2_ => if 24 ≤ v2_1 then (M_X5_startAtRoots_L23 w N 0 start2_) else (gd v2_1 24 (M_X5_startAtRoots_L2 N w n2 (v2_1 + 1) (upd start2_ v2_1.toNatClampNeg (vp_nar .boolean 0))))
def M_X5_startAtRoots (N : Nat) (w : Nat → Int32) (start : Nat → Int32) : Option ((Nat → Int32)) :=
  M_X5_startAtRoots_L2 N w N 0 start
theorem w0_X5_startAtRoots : Cond.fieldLink RX5 7 "WeakTableHeapModel" "w" "[I" ∈ wsX5_startAtRoots := by decide +kernel
theorem w1_X5_startAtRoots : ∀ w ∈ u_ws RX5 TX5 5, w ∈ wsX5_startAtRoots := by decide +kernel
theorem w2_X5_startAtRoots : Cond.fieldLink RX5 20 "WeakTableHeapModel" "start" "[Z" ∈ wsX5_startAtRoots := by decide +kernel
abbrev rm_X5_startAtRoots : Room := { frames := 0, cells := 0, slots := 0, locals := 0 }
set_option maxHeartbeats 4000000 in
set_option maxRecDepth 100000 in
theorem c_X5_startAtRoots (l : Launch) (G : GG) (N : Nat) (b : Nat → Nat) (w : Nat → Int32) (dep : Int32) (kept : Nat → Int32) (mark : Nat → Int32) (start : Nat → Int32) (q : (Nat → Int32)) (hm : M_X5_startAtRoots N w start = some q) : CTv l yX5_startAtRoots wsX5_startAtRoots rm_X5_startAtRoots G [.ref (b 0)] (wMD G b w dep kept mark start) (wMD G b w dep kept mark q) := by
  intro sz
  refine mk_body (Qc := fun A => (QV G A (wMD G b w dep kept mark q))) (cc := cX5_startAtRoots) (maxL := 2) (ret := none) (lv := [(0, .ref (b 0))]) (by decide) rfl rfl (Nat.le_of_ble_eq_true rfl) ?_
  intro p e s m args below meth c A H locs ls hF hr hlocks hname hK hA hP hD hS hl
  obtain ⟨hx, hb, hml, hown, hts⟩ := id hF
  unfold M_X5_startAtRoots at hm
  refine lv_iconst (v := 0) hx hb dX5_startAtRoots_0 (by decide) ?_
  refine lv_istore_n (lv' := [(1, .int 0), (0, .ref (b 0))]) hx hb dX5_startAtRoots_1 rfl hl (by decide) rfl (fun ls hl => ?_)
  have L2 : ∀ (n2 : Nat) (v2_1 : Int32) (start2_ : Nat → Int32), M_X5_startAtRoots_L2 N w n2 v2_1 start2_ = some q → ∀ (H : Heap) (locs : List Loc) (ls : Array Slot), va_P G.1 vwCl (wMD G b w dep kept mark start2_) H → va_D A (wMD G b w dep kept mark start2_) → va_S A s.heap H locs → lv_has ls 2 [(0, .ref (b 0)), (1, .int v2_1)] → W p l e rm_X5_startAtRoots s m args below meth c H locs 0 0 (MQ below (QV G A (wMD G b w dep kept mark q)) args s rm_X5_startAtRoots.cells rm_X5_startAtRoots.slots A) (F0 m 2 ls []) := by
    intro  n2
    induction n2 with
    | zero => intro v2_1 start2_ hm; cases hm
    | succ n2 ih2 =>
      intro v2_1 start2_ hm H locs ls hP hD hS hl
      rw [M_X5_startAtRoots_L2] at hm
      refine lv_iload_n hx hb dX5_startAtRoots_2 rfl (lv_at hl 1 rfl) ?_
      refine lv_bipush (v := 24) hx hb dX5_startAtRoots_3 (by decide) ?_
      refine lv_icmp_ge (tgt := 21) hx hb dX5_startAtRoots_5 (by decide) (fun c201 => ?_) (fun c201 => ?_)
      · replace hm := it_t c201 hm
        refine lv_iconst (v := 0) hx hb dX5_startAtRoots_21 (by decide) ?_
        refine lv_istore_n (lv' := [(1, .int 0), (0, .ref (b 0))]) hx hb dX5_startAtRoots_22 rfl hl (by decide) rfl (fun ls hl => ?_)
        have L23 : ∀ (n23 : Nat) (v23_1 : Int32) (start23_ : Nat → Int32), M_X5_startAtRoots_L23 w n23 v23_1 start23_ = some q → ∀ (H : Heap) (locs : List Loc) (ls : Array Slot), va_P G.1 vwCl (wMD G b w dep kept mark start23_) H → va_D A (wMD G b w dep kept mark start23_) → va_S A s.heap H locs → lv_has ls 2 [(0, .ref (b 0)), (1, .int v23_1)] → W p l e rm_X5_startAtRoots s m args below meth c H locs 0 0 (MQ below (QV G A (wMD G b w dep kept mark q)) args s rm_X5_startAtRoots.cells rm_X5_startAtRoots.slots A) (F0 m 23 ls []) := by
          intro  n23
          induction n23 with
          | zero => intro v23_1 start23_ hm; cases hm
          | succ n23 ih23 =>
            intro v23_1 start23_ hm H locs ls hP hD hS hl
            rw [M_X5_startAtRoots_L23] at hm
            refine lv_iload_n hx hb dX5_startAtRoots_23 rfl (lv_at hl 1 rfl) ?_
            refine lv_bipush (v := 6) hx hb dX5_startAtRoots_24 (by decide) ?_
            refine lv_icmp_ge (tgt := 66) hx hb dX5_startAtRoots_26 (by decide) (fun c2301 => ?_) (fun c2301 => ?_)
            · replace hm := it_t c2301 hm
              cases hm
              exact rt_v hx hb hr hlocks hP hD hS dX5_startAtRoots_66
            · replace hm := it_f c2301 hm
              refine lv_aload_n hx hb dX5_startAtRoots_29 rfl (lv_at hl 0 rfl) ?_
              refine va_get (D := G.1) (ci := 5) (v := .ref (b 1)) (C := RX5) (T := TX5) (N := 5) hx hb hts w1_X5_startAtRoots hown hK.1 hP 0 rfl rfl 0 (by decide) (hts _ w0_X5_startAtRoots) (fun _ h9 => h9) rfl dX5_startAtRoots_30 ?_
              refine lv_sipush (v := 360) hx hb dX5_startAtRoots_33 (by decide) ?_
              refine lv_iload_n hx hb dX5_startAtRoots_36 rfl (lv_at hl 1 rfl) ?_
              refine lv_iadd hx hb dX5_startAtRoots_37 ?_
              obtain ⟨hi2302, hm⟩ := gd_s hm
              refine va_iald hx hb hK.1 hP 1 0 rfl rfl hi2302 dX5_startAtRoots_38 ?_
              refine lv_bipush (v := (-9)) hx hb dX5_startAtRoots_39 (by decide) ?_
              refine lv_icmp_eq (tgt := 60) hx hb dX5_startAtRoots_41 (by decide) (fun c2303 => ?_) (fun c2303 => ?_)
              · replace hm := it_t c2303 hm
                refine lv_iinc (v := (v23_1 + 1)) (lv' := [(1, .int (v23_1 + 1)), (0, .ref (b 0))]) hx hb dX5_startAtRoots_60 hl (k := 1) rfl rfl (by decide) rfl (fun ls hl => ?_)
                refine lv_goto (tgt := 23) hx hb dX5_startAtRoots_63 (by decide) ?_
                exact ih23 (v23_1 + 1) start23_ hm _ _ _ hP hD hS (lv_sub hl [1, 0] rfl)
              · replace hm := it_f c2303 hm
                refine lv_aload_n hx hb dX5_startAtRoots_44 rfl (lv_at hl 0 rfl) ?_
                refine va_get (D := G.1) (ci := 5) (v := .ref (b 4)) (C := RX5) (T := TX5) (N := 5) hx hb hts w1_X5_startAtRoots hown hK.1 hP 0 rfl rfl 4 (by decide) (hts _ w2_X5_startAtRoots) (fun _ h9 => h9) rfl dX5_startAtRoots_45 ?_
                refine lv_aload_n hx hb dX5_startAtRoots_48 rfl (lv_at hl 0 rfl) ?_
                refine va_get (D := G.1) (ci := 5) (v := .ref (b 1)) (C := RX5) (T := TX5) (N := 5) hx hb hts w1_X5_startAtRoots hown hK.1 hP 0 rfl rfl 0 (by decide) (hts _ w0_X5_startAtRoots) (fun _ h9 => h9) rfl dX5_startAtRoots_49 ?_
                refine lv_sipush (v := 360) hx hb dX5_startAtRoots_52 (by decide) ?_
                refine lv_iload_n hx hb dX5_startAtRoots_55 rfl (lv_at hl 1 rfl) ?_
                refine lv_iadd hx hb dX5_startAtRoots_56 ?_
                obtain ⟨hi2304, hm⟩ := gd_s hm
                refine va_iald hx hb hK.1 hP 1 0 rfl rfl hi2304 dX5_startAtRoots_57 ?_
                refine lv_iconst (v := 1) hx hb dX5_startAtRoots_58 (by decide) ?_
                obtain ⟨hi2305, hm⟩ := gd_s hm
                refine va_zast hx hb hK.1 hP hD hS 4 1 rfl rfl hi2305 dX5_startAtRoots_59 (fun H locs hP hD hS => ?_)
                have hP : va_P G.1 vwCl (wMD G b w dep kept mark (upd start23_ (w (360 + v23_1).toNatClampNeg).toNatClampNeg (vp_nar .boolean 1))) H := hP
                have hD : va_D A (wMD G b w dep kept mark (upd start23_ (w (360 + v23_1).toNatClampNeg).toNatClampNeg (vp_nar .boolean 1))) := hD
                refine lv_iinc (v := (v23_1 + 1)) (lv' := [(1, .int (v23_1 + 1)), (0, .ref (b 0))]) hx hb dX5_startAtRoots_60 hl (k := 1) rfl rfl (by decide) rfl (fun ls hl => ?_)
                refine lv_goto (tgt := 23) hx hb dX5_startAtRoots_63 (by decide) ?_
                exact ih23 (v23_1 + 1) (upd start23_ (w (360 + v23_1).toNatClampNeg).toNatClampNeg (vp_nar .boolean 1)) hm _ _ _ hP hD hS (lv_sub hl [1, 0] rfl)
        exact L23 N 0 start2_ hm _ _ _ hP hD hS (lv_sub hl [1, 0] rfl)
      · replace hm := it_f c201 hm
        refine lv_aload_n hx hb dX5_startAtRoots_8 rfl (lv_at hl 0 rfl) ?_
        refine va_get (D := G.1) (ci := 5) (v := .ref (b 4)) (C := RX5) (T := TX5) (N := 5) hx hb hts w1_X5_startAtRoots hown hK.1 hP 0 rfl rfl 4 (by decide) (hts _ w2_X5_startAtRoots) (fun _ h9 => h9) rfl dX5_startAtRoots_9 ?_
        refine lv_iload_n hx hb dX5_startAtRoots_12 rfl (lv_at hl 1 rfl) ?_
        refine lv_iconst (v := 0) hx hb dX5_startAtRoots_13 (by decide) ?_
        obtain ⟨hi203, hm⟩ := gd_s hm
        refine va_zast hx hb hK.1 hP hD hS 4 1 rfl rfl hi203 dX5_startAtRoots_14 (fun H locs hP hD hS => ?_)
        have hP : va_P G.1 vwCl (wMD G b w dep kept mark (upd start2_ v2_1.toNatClampNeg (vp_nar .boolean 0))) H := hP
        have hD : va_D A (wMD G b w dep kept mark (upd start2_ v2_1.toNatClampNeg (vp_nar .boolean 0))) := hD
        refine lv_iinc (v := (v2_1 + 1)) (lv' := [(1, .int (v2_1 + 1)), (0, .ref (b 0))]) hx hb dX5_startAtRoots_15 hl (k := 1) rfl rfl (by decide) rfl (fun ls hl => ?_)
        refine lv_goto (tgt := 2) hx hb dX5_startAtRoots_18 (by decide) ?_
        exact ih2 (v2_1 + 1) (upd start2_ v2_1.toNatClampNeg (vp_nar .boolean 0)) hm _ _ _ hP hD hS (lv_sub hl [1, 0] rfl)
  exact L2 N 0 start hm _ _ _ hP hD hS (lv_sub hl [1, 0] rfl)
def M_X5_followFields_L11 (K : (Int32) → (Int32) → (Nat → Int32) → Option ((Nat → Int32))) (u2_1 : Int32) (u2_2 : Int32) (w : Nat → Int32) : Nat → (Int32) → (Int32) → (Nat → Int32) → Option ((Nat → Int32))
  | 0, _, _, _ => none
  | n11 + 1, v11_3, v11_4, mark11_ => if 72 ≤ v11_4 then (K v11_3 v11_4 mark11_) else (gd (v11_4 / 3) 24 (if (mark11_ (v11_4 / 3).toNatClampNeg) = (-9) then (M_X5_followFields_L11 K u2_1 u2_2 w n11 v11_3 (v11_4 + 1) mark11_) else ((M_X5_part w (v11_4 / 3) 0).bind fun q1105 => if q1105 = 0 then ((M_X5_part w (v11_4 / 3) (3 + (v11_4 - v11_4 / 3 * 3))).bind fun q1109 => if q1109 = (-9) then (M_X5_followFields_L11 K u2_1 u2_2 w n11 v11_3 (v11_4 + 1) mark11_) else (if q1109 = u2_2 then (M_X5_followFields_L11 K u2_1 u2_2 w n11 v11_3 (v11_4 + 1) mark11_) else (gd q1109 24 (if (mark11_ q1109.toNatClampNeg) = (-9) then (gd q1109 24 (M_X5_followFields_L11 K u2_1 u2_2 w n11 1 (v11_4 + 1) (upd mark11_ q1109.toNatClampNeg u2_1))) else (M_X5_followFields_L11 K u2_1 u2_2 w n11 v11_3 (v11_4 + 1) mark11_))))) else (M_X5_followFields_L11 K u2_1 u2_2 w n11 v11_3 (v11_4 + 1) mark11_))))
def M_X5_followFields_L2 (N : Nat) (u2_1 : Int32) (u2_2 : Int32) (w : Nat → Int32) : Nat → (Int32) → (Nat → Int32) → Option ((Nat → Int32))
  | 0, _, _ => none
  | n2 + 1, v2_3, mark2_ => if v2_3 = 0 then (some mark2_) else (M_X5_followFields_L11 (fun k11_3 k11_4 kmark11 => M_X5_followFields_L2 N u2_1 u2_2 w n2 k11_3 kmark11) u2_1 u2_2 w N 0 0 mark2_)
def M_X5_followFields (N : Nat) (w : Nat → Int32) (mark : Nat → Int32) (p1 : Int32) (p2 : Int32) : Option ((Nat → Int32)) :=
  M_X5_followFields_L2 N p1 p2 w N 1 mark
theorem w0_X5_followFields : Cond.fieldLink RX5 17 "WeakTableHeapModel" "mark" "[I" ∈ wsX5_followFields := by decide +kernel
theorem w1_X5_followFields : ∀ w ∈ u_ws RX5 TX5 5, w ∈ wsX5_followFields := by decide +kernel
abbrev rm_X5_followFields : Room := { frames := 1, cells := 0, slots := 0, locals := 22 }
set_option maxHeartbeats 4000000 in
set_option maxRecDepth 100000 in
theorem c_X5_followFields (l : Launch) (G : GG) (N : Nat) (b : Nat → Nat) (w : Nat → Int32) (dep : Int32) (kept : Nat → Int32) (mark : Nat → Int32) (start : Nat → Int32) (p1 : Int32) (p2 : Int32) (q : (Nat → Int32)) (hm : M_X5_followFields N w mark p1 p2 = some q) : CTv l yX5_followFields wsX5_followFields rm_X5_followFields G [.ref (b 0), .int p1, .int p2] (wMD G b w dep kept mark start) (wMD G b w dep kept q start) := by
  intro sz
  refine mk_body (Qc := fun A => (QV G A (wMD G b w dep kept q start))) (cc := cX5_followFields) (maxL := 7) (ret := none) (lv := [(0, .ref (b 0)), (1, .int p1), (2, .int p2)]) (by decide) rfl rfl (Nat.le_of_ble_eq_true rfl) ?_
  intro p e s m args below meth c A H locs ls hF hr hlocks hname hK hA hP hD hS hl
  obtain ⟨hx, hb, hml, hown, hts⟩ := id hF
  unfold M_X5_followFields at hm
  refine lv_iconst (v := 1) hx hb dX5_followFields_0 (by decide) ?_
  refine lv_istore_n (lv' := [(3, .int 1), (0, .ref (b 0)), (1, .int p1), (2, .int p2)]) hx hb dX5_followFields_1 rfl hl (by decide) rfl (fun ls hl => ?_)
  have L2 : ∀ (u2_1 : Int32) (u2_2 : Int32) (n2 : Nat) (v2_3 : Int32) (mark2_ : Nat → Int32), M_X5_followFields_L2 N u2_1 u2_2 w n2 v2_3 mark2_ = some q → ∀ (H : Heap) (locs : List Loc) (ls : Array Slot), va_P G.1 vwCl (wMD G b w dep kept mark2_ start) H → va_D A (wMD G b w dep kept mark2_ start) → va_S A s.heap H locs → lv_has ls 7 [(0, .ref (b 0)), (1, .int u2_1), (2, .int u2_2), (3, .int v2_3)] → W p l e rm_X5_followFields s m args below meth c H locs 0 0 (MQ below (QV G A (wMD G b w dep kept q start)) args s rm_X5_followFields.cells rm_X5_followFields.slots A) (F0 m 2 ls []) := by
    intro u2_1 u2_2 n2
    induction n2 with
    | zero => intro v2_3 mark2_ hm; cases hm
    | succ n2 ih2 =>
      intro v2_3 mark2_ hm H locs ls hP hD hS hl
      rw [M_X5_followFields_L2] at hm
      refine lv_iload_n hx hb dX5_followFields_2 rfl (lv_at hl 3 rfl) ?_
      refine lv_if_eq (tgt := 109) hx hb dX5_followFields_3 (by decide) (fun c201 => ?_) (fun c201 => ?_)
      · replace hm := it_t c201 hm
        cases hm
        exact rt_v hx hb hr hlocks hP hD hS dX5_followFields_109
      · replace hm := it_f c201 hm
        refine lv_iconst (v := 0) hx hb dX5_followFields_6 (by decide) ?_
        refine lv_istore_n (lv' := [(3, .int 0), (0, .ref (b 0)), (1, .int u2_1), (2, .int u2_2)]) hx hb dX5_followFields_7 rfl hl (by decide) rfl (fun ls hl => ?_)
        refine lv_iconst (v := 0) hx hb dX5_followFields_8 (by decide) ?_
        refine lv_istore (lv' := [(4, .int 0), (3, .int 0), (0, .ref (b 0)), (1, .int u2_1), (2, .int u2_2)]) hx hb dX5_followFields_9 hl (by decide) rfl (fun ls hl => ?_)
        have L11 : ∀ (n11 : Nat) (v11_3 : Int32) (v11_4 : Int32) (mark11_ : Nat → Int32), M_X5_followFields_L11 (fun k11_3 k11_4 kmark11 => M_X5_followFields_L2 N u2_1 u2_2 w n2 k11_3 kmark11) u2_1 u2_2 w n11 v11_3 v11_4 mark11_ = some q → ∀ (H : Heap) (locs : List Loc) (ls : Array Slot), va_P G.1 vwCl (wMD G b w dep kept mark11_ start) H → va_D A (wMD G b w dep kept mark11_ start) → va_S A s.heap H locs → lv_has ls 7 [(0, .ref (b 0)), (1, .int u2_1), (2, .int u2_2), (3, .int v11_3), (4, .int v11_4)] → W p l e rm_X5_followFields s m args below meth c H locs 0 0 (MQ below (QV G A (wMD G b w dep kept q start)) args s rm_X5_followFields.cells rm_X5_followFields.slots A) (F0 m 11 ls []) := by
          intro  n11
          induction n11 with
          | zero => intro v11_3 v11_4 mark11_ hm; cases hm
          | succ n11 ih11 =>
            intro v11_3 v11_4 mark11_ hm H locs ls hP hD hS hl
            rw [M_X5_followFields_L11] at hm
            refine lv_iload hx hb dX5_followFields_11 (lv_at hl 4 rfl) ?_
            refine lv_bipush (v := 72) hx hb dX5_followFields_13 (by decide) ?_
            refine lv_icmp_ge (tgt := 106) hx hb dX5_followFields_15 (by decide) (fun c1101 => ?_) (fun c1101 => ?_)
            · replace hm := it_t c1101 hm
              try dsimp only at hm
              refine lv_goto (tgt := 2) hx hb dX5_followFields_106 (by decide) ?_
              exact ih2 v11_3 mark11_ hm _ _ _ hP hD hS (lv_sub hl [0, 1, 2, 3] rfl)
            · replace hm := it_f c1101 hm
              refine lv_iload hx hb dX5_followFields_18 (lv_at hl 4 rfl) ?_
              refine lv_iconst (v := 3) hx hb dX5_followFields_20 (by decide) ?_
              refine lv_idiv hx hb dX5_followFields_21 (by decide) ?_
              refine lv_istore (lv' := [(5, .int (v11_4 / 3)), (0, .ref (b 0)), (1, .int u2_1), (2, .int u2_2), (3, .int v11_3), (4, .int v11_4)]) hx hb dX5_followFields_22 hl (by decide) rfl (fun ls hl => ?_)
              refine lv_aload_n hx hb dX5_followFields_24 rfl (lv_at hl 1 rfl) ?_
              refine va_get (D := G.1) (ci := 5) (v := .ref (b 3)) (C := RX5) (T := TX5) (N := 5) hx hb hts w1_X5_followFields hown hK.1 hP 0 rfl rfl 3 (by decide) (hts _ w0_X5_followFields) (fun _ h9 => h9) rfl dX5_followFields_25 ?_
              refine lv_iload hx hb dX5_followFields_28 (lv_at hl 0 rfl) ?_
              obtain ⟨hi1102, hm⟩ := gd_s hm
              refine va_iald hx hb hK.1 hP 3 0 rfl rfl hi1102 dX5_followFields_30 ?_
              refine lv_bipush (v := (-9)) hx hb dX5_followFields_31 (by decide) ?_
              refine lv_icmp_eq (tgt := 61) hx hb dX5_followFields_33 (by decide) (fun c1103 => ?_) (fun c1103 => ?_)
              · replace hm := it_t c1103 hm
                refine lv_bipush (v := (-9)) hx hb dX5_followFields_61 (by decide) ?_
                refine lv_istore (lv' := [(6, .int (-9)), (5, .int (v11_4 / 3)), (0, .ref (b 0)), (1, .int u2_1), (2, .int u2_2), (3, .int v11_3), (4, .int v11_4)]) hx hb dX5_followFields_63 hl (by decide) rfl (fun ls hl => ?_)
                refine lv_iload hx hb dX5_followFields_65 (lv_at hl 0 rfl) ?_
                refine lv_bipush (v := (-9)) hx hb dX5_followFields_67 (by decide) ?_
                refine lv_icmp_eq (tgt := 100) hx hb dX5_followFields_69 (by decide) (fun _ => ?_) (fun h9 => absurd (by decide) h9)
                refine lv_iinc (v := (v11_4 + 1)) (lv' := [(4, .int (v11_4 + 1)), (6, .int (-9)), (5, .int (v11_4 / 3)), (0, .ref (b 0)), (1, .int u2_1), (2, .int u2_2), (3, .int v11_3)]) hx hb dX5_followFields_100 hl (k := 6) rfl rfl (by decide) rfl (fun ls hl => ?_)
                refine lv_goto (tgt := 11) hx hb dX5_followFields_103 (by decide) ?_
                exact ih11 v11_3 (v11_4 + 1) mark11_ hm _ _ _ hP hD hS (lv_sub hl [3, 4, 5, 6, 0] rfl)
              · replace hm := it_f c1103 hm
                refine lv_aload_n hx hb dX5_followFields_36 rfl (lv_at hl 1 rfl) ?_
                refine lv_iload hx hb dX5_followFields_37 (lv_at hl 0 rfl) ?_
                refine lv_iconst (v := 0) hx hb dX5_followFields_39 (by decide) ?_
                obtain ⟨q1105, hc1106, hm⟩ := bd_s hm
                refine ks_i (wo := (wMD G b w dep kept mark11_ start)) (rV (As := [.int (v11_4 / 3), .int 0]) (rest := []) (b := (b 0)) (wi := (wMD G b w dep kept mark11_ start)) hF hK hP hD (c_X5_part l G b w dep kept mark11_ start (v11_4 / 3) 0 q1105 hc1106 H.size) (cwV 2 hts gX5_followFields_X5_part rfl rfl rfl (by decide +kernel) ⟨Nat.le_of_ble_eq_true rfl, Nat.le_of_ble_eq_true rfl⟩) (va_recv hK.1 hP (ci := 5) (q0 := 0) rfl rfl) rfl hl.1 rfl (Nat.le_of_ble_eq_true rfl) dX5_followFields_40 ⟨Nat.le_of_ble_eq_true rfl, Nat.le_of_ble_eq_true rfl⟩) hD hS hA (fun H locs hP hD hS => ?_)
                have hP : va_P G.1 vwCl (wMD G b w dep kept mark11_ start) H := hP
                have hD : va_D A (wMD G b w dep kept mark11_ start) := hD
                refine lv_if_ne (tgt := 61) hx hb dX5_followFields_43 (by decide) (fun c1107 => ?_) (fun c1107 => ?_)
                · replace hm := it_f c1107 hm
                  refine lv_bipush (v := (-9)) hx hb dX5_followFields_61 (by decide) ?_
                  refine lv_istore (lv' := [(6, .int (-9)), (5, .int (v11_4 / 3)), (0, .ref (b 0)), (1, .int u2_1), (2, .int u2_2), (3, .int v11_3), (4, .int v11_4)]) hx hb dX5_followFields_63 hl (by decide) rfl (fun ls hl => ?_)
                  refine lv_iload hx hb dX5_followFields_65 (lv_at hl 0 rfl) ?_
                  refine lv_bipush (v := (-9)) hx hb dX5_followFields_67 (by decide) ?_
                  refine lv_icmp_eq (tgt := 100) hx hb dX5_followFields_69 (by decide) (fun _ => ?_) (fun h9 => absurd (by decide) h9)
                  refine lv_iinc (v := (v11_4 + 1)) (lv' := [(4, .int (v11_4 + 1)), (6, .int (-9)), (5, .int (v11_4 / 3)), (0, .ref (b 0)), (1, .int u2_1), (2, .int u2_2), (3, .int v11_3)]) hx hb dX5_followFields_100 hl (k := 6) rfl rfl (by decide) rfl (fun ls hl => ?_)
                  refine lv_goto (tgt := 11) hx hb dX5_followFields_103 (by decide) ?_
                  exact ih11 v11_3 (v11_4 + 1) mark11_ hm _ _ _ hP hD hS (lv_sub hl [3, 4, 5, 6, 0] rfl)
                · replace hm := it_t c1107 hm
                  refine lv_aload_n hx hb dX5_followFields_46 rfl (lv_at hl 1 rfl) ?_
                  refine lv_iload hx hb dX5_followFields_47 (lv_at hl 0 rfl) ?_
                  refine lv_iconst (v := 3) hx hb dX5_followFields_49 (by decide) ?_
                  refine lv_iload hx hb dX5_followFields_50 (lv_at hl 5 rfl) ?_
                  refine lv_iconst (v := 3) hx hb dX5_followFields_52 (by decide) ?_
                  refine lv_irem hx hb dX5_followFields_53 (by decide) ?_
                  refine lv_iadd hx hb dX5_followFields_54 ?_
                  obtain ⟨q1109, hc1110, hm⟩ := bd_s hm
                  refine ks_i (wo := (wMD G b w dep kept mark11_ start)) (rV (As := [.int (v11_4 / 3), .int (3 + (v11_4 - v11_4 / 3 * 3))]) (rest := []) (b := (b 0)) (wi := (wMD G b w dep kept mark11_ start)) hF hK hP hD (c_X5_part l G b w dep kept mark11_ start (v11_4 / 3) (3 + (v11_4 - v11_4 / 3 * 3)) q1109 hc1110 H.size) (cwV 2 hts gX5_followFields_X5_part rfl rfl rfl (by decide +kernel) ⟨Nat.le_of_ble_eq_true rfl, Nat.le_of_ble_eq_true rfl⟩) (va_recv hK.1 hP (ci := 5) (q0 := 0) rfl rfl) rfl hl.1 rfl (Nat.le_of_ble_eq_true rfl) dX5_followFields_55 ⟨Nat.le_of_ble_eq_true rfl, Nat.le_of_ble_eq_true rfl⟩) hD hS hA (fun H locs hP hD hS => ?_)
                  have hP : va_P G.1 vwCl (wMD G b w dep kept mark11_ start) H := hP
                  have hD : va_D A (wMD G b w dep kept mark11_ start) := hD
                  refine lv_goto (tgt := 63) hx hb dX5_followFields_58 (by decide) ?_
                  refine lv_istore (lv' := [(6, .int q1109), (5, .int (v11_4 / 3)), (0, .ref (b 0)), (1, .int u2_1), (2, .int u2_2), (3, .int v11_3), (4, .int v11_4)]) hx hb dX5_followFields_63 hl (by decide) rfl (fun ls hl => ?_)
                  refine lv_iload hx hb dX5_followFields_65 (lv_at hl 0 rfl) ?_
                  refine lv_bipush (v := (-9)) hx hb dX5_followFields_67 (by decide) ?_
                  refine lv_icmp_eq (tgt := 100) hx hb dX5_followFields_69 (by decide) (fun c1111 => ?_) (fun c1111 => ?_)
                  · replace hm := it_t c1111 hm
                    refine lv_iinc (v := (v11_4 + 1)) (lv' := [(4, .int (v11_4 + 1)), (6, .int q1109), (5, .int (v11_4 / 3)), (0, .ref (b 0)), (1, .int u2_1), (2, .int u2_2), (3, .int v11_3)]) hx hb dX5_followFields_100 hl (k := 6) rfl rfl (by decide) rfl (fun ls hl => ?_)
                    refine lv_goto (tgt := 11) hx hb dX5_followFields_103 (by decide) ?_
                    exact ih11 v11_3 (v11_4 + 1) mark11_ hm _ _ _ hP hD hS (lv_sub hl [3, 4, 5, 6, 0] rfl)
                  · replace hm := it_f c1111 hm
                    refine lv_iload hx hb dX5_followFields_72 (lv_at hl 0 rfl) ?_
                    refine lv_iload_n hx hb dX5_followFields_74 rfl (lv_at hl 4 rfl) ?_
                    refine lv_icmp_eq (tgt := 100) hx hb dX5_followFields_75 (by decide) (fun c1112 => ?_) (fun c1112 => ?_)
                    · replace hm := it_t c1112 hm
                      refine lv_iinc (v := (v11_4 + 1)) (lv' := [(4, .int (v11_4 + 1)), (6, .int q1109), (5, .int (v11_4 / 3)), (0, .ref (b 0)), (1, .int u2_1), (2, .int u2_2), (3, .int v11_3)]) hx hb dX5_followFields_100 hl (k := 6) rfl rfl (by decide) rfl (fun ls hl => ?_)
                      refine lv_goto (tgt := 11) hx hb dX5_followFields_103 (by decide) ?_
                      exact ih11 v11_3 (v11_4 + 1) mark11_ hm _ _ _ hP hD hS (lv_sub hl [3, 4, 5, 6, 0] rfl)
                    · replace hm := it_f c1112 hm
                      refine lv_aload_n hx hb dX5_followFields_78 rfl (lv_at hl 2 rfl) ?_
                      refine va_get (D := G.1) (ci := 5) (v := .ref (b 3)) (C := RX5) (T := TX5) (N := 5) hx hb hts w1_X5_followFields hown hK.1 hP 0 rfl rfl 3 (by decide) (hts _ w0_X5_followFields) (fun _ h9 => h9) rfl dX5_followFields_79 ?_
                      refine lv_iload hx hb dX5_followFields_82 (lv_at hl 0 rfl) ?_
                      obtain ⟨hi1113, hm⟩ := gd_s hm
                      refine va_iald hx hb hK.1 hP 3 0 rfl rfl hi1113 dX5_followFields_84 ?_
                      refine lv_bipush (v := (-9)) hx hb dX5_followFields_85 (by decide) ?_
                      refine lv_icmp_ne (tgt := 100) hx hb dX5_followFields_87 (by decide) (fun c1114 => ?_) (fun c1114 => ?_)
                      · replace hm := it_f c1114 hm
                        refine lv_iinc (v := (v11_4 + 1)) (lv' := [(4, .int (v11_4 + 1)), (6, .int q1109), (5, .int (v11_4 / 3)), (0, .ref (b 0)), (1, .int u2_1), (2, .int u2_2), (3, .int v11_3)]) hx hb dX5_followFields_100 hl (k := 6) rfl rfl (by decide) rfl (fun ls hl => ?_)
                        refine lv_goto (tgt := 11) hx hb dX5_followFields_103 (by decide) ?_
                        exact ih11 v11_3 (v11_4 + 1) mark11_ hm _ _ _ hP hD hS (lv_sub hl [3, 4, 5, 6, 0] rfl)
                      · replace hm := it_t c1114 hm
                        refine lv_aload_n hx hb dX5_followFields_90 rfl (lv_at hl 2 rfl) ?_
                        refine va_get (D := G.1) (ci := 5) (v := .ref (b 3)) (C := RX5) (T := TX5) (N := 5) hx hb hts w1_X5_followFields hown hK.1 hP 0 rfl rfl 3 (by decide) (hts _ w0_X5_followFields) (fun _ h9 => h9) rfl dX5_followFields_91 ?_
                        refine lv_iload hx hb dX5_followFields_94 (lv_at hl 0 rfl) ?_
                        refine lv_iload_n hx hb dX5_followFields_96 rfl (lv_at hl 3 rfl) ?_
                        obtain ⟨hi1115, hm⟩ := gd_s hm
                        refine va_iast hx hb hK.1 hP hD hS 3 0 rfl rfl hi1115 dX5_followFields_97 (fun H locs hP hD hS => ?_)
                        have hP : va_P G.1 vwCl (wMD G b w dep kept (upd mark11_ q1109.toNatClampNeg u2_1) start) H := hP
                        have hD : va_D A (wMD G b w dep kept (upd mark11_ q1109.toNatClampNeg u2_1) start) := hD
                        refine lv_iconst (v := 1) hx hb dX5_followFields_98 (by decide) ?_
                        refine lv_istore_n (lv' := [(3, .int 1), (6, .int q1109), (5, .int (v11_4 / 3)), (0, .ref (b 0)), (1, .int u2_1), (2, .int u2_2), (4, .int v11_4)]) hx hb dX5_followFields_99 rfl hl (by decide) rfl (fun ls hl => ?_)
                        refine lv_iinc (v := (v11_4 + 1)) (lv' := [(4, .int (v11_4 + 1)), (3, .int 1), (6, .int q1109), (5, .int (v11_4 / 3)), (0, .ref (b 0)), (1, .int u2_1), (2, .int u2_2)]) hx hb dX5_followFields_100 hl (k := 6) rfl rfl (by decide) rfl (fun ls hl => ?_)
                        refine lv_goto (tgt := 11) hx hb dX5_followFields_103 (by decide) ?_
                        exact ih11 1 (v11_4 + 1) (upd mark11_ q1109.toNatClampNeg u2_1) hm _ _ _ hP hD hS (lv_sub hl [4, 5, 6, 1, 0] rfl)
        exact L11 N 0 0 mark2_ hm _ _ _ hP hD hS (lv_sub hl [2, 3, 4, 1, 0] rfl)
  exact L2 p1 p2 N 1 mark hm _ _ _ hP hD hS (lv_sub hl [1, 2, 3, 0] rfl)
def M_X5_followEntries_L5 (u5_1 : Int32) (u5_2 : Int32) (w : Nat → Int32) : Nat → (Int32) → (Int32) → (Nat → Int32) → Option (Int32 × (Nat → Int32))
  | 0, _, _, _ => none
  | n5 + 1, v5_3, v5_4, mark5_ => if 144 ≤ v5_4 then (gc (v5_3 = 0 ∨ v5_3 = 1) (some (v5_3, mark5_))) else (gd (v5_4 / 6) 24 (if (mark5_ (v5_4 / 6).toNatClampNeg) = (-9) then (M_X5_followEntries_L5 u5_1 u5_2 w n5 v5_3 (v5_4 + 1) mark5_) else (gd (v5_4 / 6) 24 (if u5_1 ≤ (mark5_ (v5_4 / 6).toNatClampNeg) then (M_X5_followEntries_L5 u5_1 u5_2 w n5 v5_3 (v5_4 + 1) mark5_) else ((M_X5_part w (v5_4 / 6) 0).bind fun q507 => if q507 = 1 then ((M_X5_part w (v5_4 / 6) 2).bind fun q510 => if q510 ≤ (v5_4 - v5_4 / 6 * 6) then (M_X5_followEntries_L5 u5_1 u5_2 w n5 v5_3 (v5_4 + 1) mark5_) else ((M_X5_part w (v5_4 / 6) (3 + (v5_4 - v5_4 / 6 * 6))).bind fun q513 => (M_X5_part w (v5_4 / 6) (9 + (v5_4 - v5_4 / 6 * 6))).bind fun q515 => gd q513 24 (if (mark5_ q513.toNatClampNeg) = (-9) then (M_X5_followEntries_L5 u5_1 u5_2 w n5 v5_3 (v5_4 + 1) mark5_) else (gd q513 24 (if u5_1 ≤ (mark5_ q513.toNatClampNeg) then (M_X5_followEntries_L5 u5_1 u5_2 w n5 v5_3 (v5_4 + 1) mark5_) else (gd q515 24 (if (mark5_ q515.toNatClampNeg) = (-9) then (if q515 = u5_2 then (M_X5_followEntries_L5 u5_1 u5_2 w n5 v5_3 (v5_4 + 1) mark5_) else (gd q515 24 (M_X5_followEntries_L5 u5_1 u5_2 w n5 1 (v5_4 + 1) (upd mark5_ q515.toNatClampNeg u5_1)))) else (M_X5_followEntries_L5 u5_1 u5_2 w n5 v5_3 (v5_4 + 1) mark5_)))))))) else (M_X5_followEntries_L5 u5_1 u5_2 w n5 v5_3 (v5_4 + 1) mark5_))))))
def M_X5_followEntries (N : Nat) (w : Nat → Int32) (mark : Nat → Int32) (p1 : Int32) (p2 : Int32) : Option (Int32 × (Nat → Int32)) :=
  M_X5_followEntries_L5 p1 p2 w N 0 0 mark
theorem w0_X5_followEntries : Cond.fieldLink RX5 17 "WeakTableHeapModel" "mark" "[I" ∈ wsX5_followEntries := by decide +kernel
theorem w1_X5_followEntries : ∀ w ∈ u_ws RX5 TX5 5, w ∈ wsX5_followEntries := by decide +kernel
abbrev rm_X5_followEntries : Room := { frames := 1, cells := 0, slots := 0, locals := 22 }
set_option maxHeartbeats 4000000 in
set_option maxRecDepth 100000 in
theorem c_X5_followEntries (l : Launch) (G : GG) (N : Nat) (b : Nat → Nat) (w : Nat → Int32) (dep : Int32) (kept : Nat → Int32) (mark : Nat → Int32) (start : Nat → Int32) (p1 : Int32) (p2 : Int32) (q : Int32 × (Nat → Int32)) (hm : M_X5_followEntries N w mark p1 p2 = some q) : CTi l yX5_followEntries wsX5_followEntries rm_X5_followEntries G [.ref (b 0), .int p1, .int p2] (wMD G b w dep kept mark start) q.1 (wMD G b w dep kept q.2 start) := by
  intro sz
  refine mk_body (Qc := fun A => (QI G A q.1 (wMD G b w dep kept q.2 start))) (cc := cX5_followEntries) (maxL := 9) (ret := (some .boolean)) (lv := [(0, .ref (b 0)), (1, .int p1), (2, .int p2)]) (by decide) rfl rfl (Nat.le_of_ble_eq_true rfl) ?_
  intro p e s m args below meth c A H locs ls hF hr hlocks hname hK hA hP hD hS hl
  obtain ⟨hx, hb, hml, hown, hts⟩ := id hF
  unfold M_X5_followEntries at hm
  refine lv_iconst (v := 0) hx hb dX5_followEntries_0 (by decide) ?_
  refine lv_istore_n (lv' := [(3, .int 0), (0, .ref (b 0)), (1, .int p1), (2, .int p2)]) hx hb dX5_followEntries_1 rfl hl (by decide) rfl (fun ls hl => ?_)
  refine lv_iconst (v := 0) hx hb dX5_followEntries_2 (by decide) ?_
  refine lv_istore (lv' := [(4, .int 0), (3, .int 0), (0, .ref (b 0)), (1, .int p1), (2, .int p2)]) hx hb dX5_followEntries_3 hl (by decide) rfl (fun ls hl => ?_)
  have L5 : ∀ (u5_1 : Int32) (u5_2 : Int32) (n5 : Nat) (v5_3 : Int32) (v5_4 : Int32) (mark5_ : Nat → Int32), M_X5_followEntries_L5 u5_1 u5_2 w n5 v5_3 v5_4 mark5_ = some q → ∀ (H : Heap) (locs : List Loc) (ls : Array Slot), va_P G.1 vwCl (wMD G b w dep kept mark5_ start) H → va_D A (wMD G b w dep kept mark5_ start) → va_S A s.heap H locs → lv_has ls 9 [(0, .ref (b 0)), (1, .int u5_1), (2, .int u5_2), (3, .int v5_3), (4, .int v5_4)] → W p l e rm_X5_followEntries s m args below meth c H locs 0 0 (MQ below (QI G A q.1 (wMD G b w dep kept q.2 start)) args s rm_X5_followEntries.cells rm_X5_followEntries.slots A) (F0 m 5 ls []) := by
    intro u5_1 u5_2 n5
    induction n5 with
    | zero => intro v5_3 v5_4 mark5_ hm; cases hm
    | succ n5 ih5 =>
      intro v5_3 v5_4 mark5_ hm H locs ls hP hD hS hl
      rw [M_X5_followEntries_L5] at hm
      refine lv_iload hx hb dX5_followEntries_5 (lv_at hl 4 rfl) ?_
      refine lv_sipush (v := 144) hx hb dX5_followEntries_7 (by decide) ?_
      refine lv_icmp_ge (tgt := 155) hx hb dX5_followEntries_10 (by decide) (fun c501 => ?_) (fun c501 => ?_)
      · replace hm := it_t c501 hm
        refine lv_iload_n hx hb dX5_followEntries_155 rfl (lv_at hl 3 rfl) ?_
        obtain ⟨hz502, hm⟩ := gc_s hm
        cases hm
        exact rt_z (r := v5_3) hx hb hr hlocks (by rcases hz502 with h9 | h9 <;> rw [h9] <;> rfl) hP hD hS dX5_followEntries_156
      · replace hm := it_f c501 hm
        refine lv_iload hx hb dX5_followEntries_13 (lv_at hl 4 rfl) ?_
        refine lv_bipush (v := 6) hx hb dX5_followEntries_15 (by decide) ?_
        refine lv_idiv hx hb dX5_followEntries_17 (by decide) ?_
        refine lv_istore (lv' := [(5, .int (v5_4 / 6)), (0, .ref (b 0)), (1, .int u5_1), (2, .int u5_2), (3, .int v5_3), (4, .int v5_4)]) hx hb dX5_followEntries_18 hl (by decide) rfl (fun ls hl => ?_)
        refine lv_iload hx hb dX5_followEntries_20 (lv_at hl 5 rfl) ?_
        refine lv_bipush (v := 6) hx hb dX5_followEntries_22 (by decide) ?_
        refine lv_irem hx hb dX5_followEntries_24 (by decide) ?_
        refine lv_istore (lv' := [(6, .int (v5_4 - v5_4 / 6 * 6)), (5, .int (v5_4 / 6)), (0, .ref (b 0)), (1, .int u5_1), (2, .int u5_2), (3, .int v5_3), (4, .int v5_4)]) hx hb dX5_followEntries_25 hl (by decide) rfl (fun ls hl => ?_)
        refine lv_aload_n hx hb dX5_followEntries_27 rfl (lv_at hl 2 rfl) ?_
        refine va_get (D := G.1) (ci := 5) (v := .ref (b 3)) (C := RX5) (T := TX5) (N := 5) hx hb hts w1_X5_followEntries hown hK.1 hP 0 rfl rfl 3 (by decide) (hts _ w0_X5_followEntries) (fun _ h9 => h9) rfl dX5_followEntries_28 ?_
        refine lv_iload hx hb dX5_followEntries_31 (lv_at hl 1 rfl) ?_
        obtain ⟨hi503, hm⟩ := gd_s hm
        refine va_iald hx hb hK.1 hP 3 0 rfl rfl hi503 dX5_followEntries_33 ?_
        refine lv_bipush (v := (-9)) hx hb dX5_followEntries_34 (by decide) ?_
        refine lv_icmp_eq (tgt := 149) hx hb dX5_followEntries_36 (by decide) (fun c504 => ?_) (fun c504 => ?_)
        · replace hm := it_t c504 hm
          refine lv_iinc (v := (v5_4 + 1)) (lv' := [(4, .int (v5_4 + 1)), (6, .int (v5_4 - v5_4 / 6 * 6)), (5, .int (v5_4 / 6)), (0, .ref (b 0)), (1, .int u5_1), (2, .int u5_2), (3, .int v5_3)]) hx hb dX5_followEntries_149 hl (k := 6) rfl rfl (by decide) rfl (fun ls hl => ?_)
          refine lv_goto (tgt := 5) hx hb dX5_followEntries_152 (by decide) ?_
          exact ih5 v5_3 (v5_4 + 1) mark5_ hm _ _ _ hP hD hS (lv_sub hl [3, 4, 5, 6, 0] rfl)
        · replace hm := it_f c504 hm
          refine lv_aload_n hx hb dX5_followEntries_39 rfl (lv_at hl 2 rfl) ?_
          refine va_get (D := G.1) (ci := 5) (v := .ref (b 3)) (C := RX5) (T := TX5) (N := 5) hx hb hts w1_X5_followEntries hown hK.1 hP 0 rfl rfl 3 (by decide) (hts _ w0_X5_followEntries) (fun _ h9 => h9) rfl dX5_followEntries_40 ?_
          refine lv_iload hx hb dX5_followEntries_43 (lv_at hl 1 rfl) ?_
          obtain ⟨hi505, hm⟩ := gd_s hm
          refine va_iald hx hb hK.1 hP 3 0 rfl rfl hi505 dX5_followEntries_45 ?_
          refine lv_iload_n hx hb dX5_followEntries_46 rfl (lv_at hl 3 rfl) ?_
          refine lv_icmp_ge (tgt := 149) hx hb dX5_followEntries_47 (by decide) (fun c506 => ?_) (fun c506 => ?_)
          · replace hm := it_t c506 hm
            refine lv_iinc (v := (v5_4 + 1)) (lv' := [(4, .int (v5_4 + 1)), (6, .int (v5_4 - v5_4 / 6 * 6)), (5, .int (v5_4 / 6)), (0, .ref (b 0)), (1, .int u5_1), (2, .int u5_2), (3, .int v5_3)]) hx hb dX5_followEntries_149 hl (k := 6) rfl rfl (by decide) rfl (fun ls hl => ?_)
            refine lv_goto (tgt := 5) hx hb dX5_followEntries_152 (by decide) ?_
            exact ih5 v5_3 (v5_4 + 1) mark5_ hm _ _ _ hP hD hS (lv_sub hl [3, 4, 5, 6, 0] rfl)
          · replace hm := it_f c506 hm
            refine lv_aload_n hx hb dX5_followEntries_50 rfl (lv_at hl 2 rfl) ?_
            refine lv_iload hx hb dX5_followEntries_51 (lv_at hl 1 rfl) ?_
            refine lv_iconst (v := 0) hx hb dX5_followEntries_53 (by decide) ?_
            obtain ⟨q507, hc508, hm⟩ := bd_s hm
            refine ks_i (wo := (wMD G b w dep kept mark5_ start)) (rV (As := [.int (v5_4 / 6), .int 0]) (rest := []) (b := (b 0)) (wi := (wMD G b w dep kept mark5_ start)) hF hK hP hD (c_X5_part l G b w dep kept mark5_ start (v5_4 / 6) 0 q507 hc508 H.size) (cwV 2 hts gX5_followEntries_X5_part rfl rfl rfl (by decide +kernel) ⟨Nat.le_of_ble_eq_true rfl, Nat.le_of_ble_eq_true rfl⟩) (va_recv hK.1 hP (ci := 5) (q0 := 0) rfl rfl) rfl hl.1 rfl (Nat.le_of_ble_eq_true rfl) dX5_followEntries_54 ⟨Nat.le_of_ble_eq_true rfl, Nat.le_of_ble_eq_true rfl⟩) hD hS hA (fun H locs hP hD hS => ?_)
            have hP : va_P G.1 vwCl (wMD G b w dep kept mark5_ start) H := hP
            have hD : va_D A (wMD G b w dep kept mark5_ start) := hD
            refine lv_iconst (v := 1) hx hb dX5_followEntries_57 (by decide) ?_
            refine lv_icmp_ne (tgt := 149) hx hb dX5_followEntries_58 (by decide) (fun c509 => ?_) (fun c509 => ?_)
            · replace hm := it_f c509 hm
              refine lv_iinc (v := (v5_4 + 1)) (lv' := [(4, .int (v5_4 + 1)), (6, .int (v5_4 - v5_4 / 6 * 6)), (5, .int (v5_4 / 6)), (0, .ref (b 0)), (1, .int u5_1), (2, .int u5_2), (3, .int v5_3)]) hx hb dX5_followEntries_149 hl (k := 6) rfl rfl (by decide) rfl (fun ls hl => ?_)
              refine lv_goto (tgt := 5) hx hb dX5_followEntries_152 (by decide) ?_
              exact ih5 v5_3 (v5_4 + 1) mark5_ hm _ _ _ hP hD hS (lv_sub hl [3, 4, 5, 6, 0] rfl)
            · replace hm := it_t c509 hm
              refine lv_iload hx hb dX5_followEntries_61 (lv_at hl 0 rfl) ?_
              refine lv_aload_n hx hb dX5_followEntries_63 rfl (lv_at hl 2 rfl) ?_
              refine lv_iload hx hb dX5_followEntries_64 (lv_at hl 1 rfl) ?_
              refine lv_iconst (v := 2) hx hb dX5_followEntries_66 (by decide) ?_
              obtain ⟨q510, hc511, hm⟩ := bd_s hm
              refine ks_i (wo := (wMD G b w dep kept mark5_ start)) (rV (As := [.int (v5_4 / 6), .int 2]) (rest := [.int (v5_4 - v5_4 / 6 * 6)]) (b := (b 0)) (wi := (wMD G b w dep kept mark5_ start)) hF hK hP hD (c_X5_part l G b w dep kept mark5_ start (v5_4 / 6) 2 q510 hc511 H.size) (cwV 2 hts gX5_followEntries_X5_part rfl rfl rfl (by decide +kernel) ⟨Nat.le_of_ble_eq_true rfl, Nat.le_of_ble_eq_true rfl⟩) (va_recv hK.1 hP (ci := 5) (q0 := 0) rfl rfl) rfl hl.1 rfl (Nat.le_of_ble_eq_true rfl) dX5_followEntries_67 ⟨Nat.le_of_ble_eq_true rfl, Nat.le_of_ble_eq_true rfl⟩) hD hS hA (fun H locs hP hD hS => ?_)
              have hP : va_P G.1 vwCl (wMD G b w dep kept mark5_ start) H := hP
              have hD : va_D A (wMD G b w dep kept mark5_ start) := hD
              refine lv_icmp_ge (tgt := 149) hx hb dX5_followEntries_70 (by decide) (fun c512 => ?_) (fun c512 => ?_)
              · replace hm := it_t c512 hm
                refine lv_iinc (v := (v5_4 + 1)) (lv' := [(4, .int (v5_4 + 1)), (6, .int (v5_4 - v5_4 / 6 * 6)), (5, .int (v5_4 / 6)), (0, .ref (b 0)), (1, .int u5_1), (2, .int u5_2), (3, .int v5_3)]) hx hb dX5_followEntries_149 hl (k := 6) rfl rfl (by decide) rfl (fun ls hl => ?_)
                refine lv_goto (tgt := 5) hx hb dX5_followEntries_152 (by decide) ?_
                exact ih5 v5_3 (v5_4 + 1) mark5_ hm _ _ _ hP hD hS (lv_sub hl [3, 4, 5, 6, 0] rfl)
              · replace hm := it_f c512 hm
                refine lv_aload_n hx hb dX5_followEntries_73 rfl (lv_at hl 2 rfl) ?_
                refine lv_iload hx hb dX5_followEntries_74 (lv_at hl 1 rfl) ?_
                refine lv_iconst (v := 3) hx hb dX5_followEntries_76 (by decide) ?_
                refine lv_iload hx hb dX5_followEntries_77 (lv_at hl 0 rfl) ?_
                refine lv_iadd hx hb dX5_followEntries_79 ?_
                obtain ⟨q513, hc514, hm⟩ := bd_s hm
                refine ks_i (wo := (wMD G b w dep kept mark5_ start)) (rV (As := [.int (v5_4 / 6), .int (3 + (v5_4 - v5_4 / 6 * 6))]) (rest := []) (b := (b 0)) (wi := (wMD G b w dep kept mark5_ start)) hF hK hP hD (c_X5_part l G b w dep kept mark5_ start (v5_4 / 6) (3 + (v5_4 - v5_4 / 6 * 6)) q513 hc514 H.size) (cwV 2 hts gX5_followEntries_X5_part rfl rfl rfl (by decide +kernel) ⟨Nat.le_of_ble_eq_true rfl, Nat.le_of_ble_eq_true rfl⟩) (va_recv hK.1 hP (ci := 5) (q0 := 0) rfl rfl) rfl hl.1 rfl (Nat.le_of_ble_eq_true rfl) dX5_followEntries_80 ⟨Nat.le_of_ble_eq_true rfl, Nat.le_of_ble_eq_true rfl⟩) hD hS hA (fun H locs hP hD hS => ?_)
                have hP : va_P G.1 vwCl (wMD G b w dep kept mark5_ start) H := hP
                have hD : va_D A (wMD G b w dep kept mark5_ start) := hD
                refine lv_istore (lv' := [(7, .int q513), (6, .int (v5_4 - v5_4 / 6 * 6)), (5, .int (v5_4 / 6)), (0, .ref (b 0)), (1, .int u5_1), (2, .int u5_2), (3, .int v5_3), (4, .int v5_4)]) hx hb dX5_followEntries_83 hl (by decide) rfl (fun ls hl => ?_)
                refine lv_aload_n hx hb dX5_followEntries_85 rfl (lv_at hl 3 rfl) ?_
                refine lv_iload hx hb dX5_followEntries_86 (lv_at hl 2 rfl) ?_
                refine lv_bipush (v := 9) hx hb dX5_followEntries_88 (by decide) ?_
                refine lv_iload hx hb dX5_followEntries_90 (lv_at hl 1 rfl) ?_
                refine lv_iadd hx hb dX5_followEntries_92 ?_
                obtain ⟨q515, hc516, hm⟩ := bd_s hm
                refine ks_i (wo := (wMD G b w dep kept mark5_ start)) (rV (As := [.int (v5_4 / 6), .int (9 + (v5_4 - v5_4 / 6 * 6))]) (rest := []) (b := (b 0)) (wi := (wMD G b w dep kept mark5_ start)) hF hK hP hD (c_X5_part l G b w dep kept mark5_ start (v5_4 / 6) (9 + (v5_4 - v5_4 / 6 * 6)) q515 hc516 H.size) (cwV 2 hts gX5_followEntries_X5_part rfl rfl rfl (by decide +kernel) ⟨Nat.le_of_ble_eq_true rfl, Nat.le_of_ble_eq_true rfl⟩) (va_recv hK.1 hP (ci := 5) (q0 := 0) rfl rfl) rfl hl.1 rfl (Nat.le_of_ble_eq_true rfl) dX5_followEntries_93 ⟨Nat.le_of_ble_eq_true rfl, Nat.le_of_ble_eq_true rfl⟩) hD hS hA (fun H locs hP hD hS => ?_)
                have hP : va_P G.1 vwCl (wMD G b w dep kept mark5_ start) H := hP
                have hD : va_D A (wMD G b w dep kept mark5_ start) := hD
                refine lv_istore (lv' := [(8, .int q515), (7, .int q513), (6, .int (v5_4 - v5_4 / 6 * 6)), (5, .int (v5_4 / 6)), (0, .ref (b 0)), (1, .int u5_1), (2, .int u5_2), (3, .int v5_3), (4, .int v5_4)]) hx hb dX5_followEntries_96 hl (by decide) rfl (fun ls hl => ?_)
                refine lv_aload_n hx hb dX5_followEntries_98 rfl (lv_at hl 4 rfl) ?_
                refine va_get (D := G.1) (ci := 5) (v := .ref (b 3)) (C := RX5) (T := TX5) (N := 5) hx hb hts w1_X5_followEntries hown hK.1 hP 0 rfl rfl 3 (by decide) (hts _ w0_X5_followEntries) (fun _ h9 => h9) rfl dX5_followEntries_99 ?_
                refine lv_iload hx hb dX5_followEntries_102 (lv_at hl 1 rfl) ?_
                obtain ⟨hi517, hm⟩ := gd_s hm
                refine va_iald hx hb hK.1 hP 3 0 rfl rfl hi517 dX5_followEntries_104 ?_
                refine lv_bipush (v := (-9)) hx hb dX5_followEntries_105 (by decide) ?_
                refine lv_icmp_eq (tgt := 149) hx hb dX5_followEntries_107 (by decide) (fun c518 => ?_) (fun c518 => ?_)
                · replace hm := it_t c518 hm
                  refine lv_iinc (v := (v5_4 + 1)) (lv' := [(4, .int (v5_4 + 1)), (8, .int q515), (7, .int q513), (6, .int (v5_4 - v5_4 / 6 * 6)), (5, .int (v5_4 / 6)), (0, .ref (b 0)), (1, .int u5_1), (2, .int u5_2), (3, .int v5_3)]) hx hb dX5_followEntries_149 hl (k := 8) rfl rfl (by decide) rfl (fun ls hl => ?_)
                  refine lv_goto (tgt := 5) hx hb dX5_followEntries_152 (by decide) ?_
                  exact ih5 v5_3 (v5_4 + 1) mark5_ hm _ _ _ hP hD hS (lv_sub hl [5, 6, 7, 8, 0] rfl)
                · replace hm := it_f c518 hm
                  refine lv_aload_n hx hb dX5_followEntries_110 rfl (lv_at hl 4 rfl) ?_
                  refine va_get (D := G.1) (ci := 5) (v := .ref (b 3)) (C := RX5) (T := TX5) (N := 5) hx hb hts w1_X5_followEntries hown hK.1 hP 0 rfl rfl 3 (by decide) (hts _ w0_X5_followEntries) (fun _ h9 => h9) rfl dX5_followEntries_111 ?_
                  refine lv_iload hx hb dX5_followEntries_114 (lv_at hl 1 rfl) ?_
                  obtain ⟨hi519, hm⟩ := gd_s hm
                  refine va_iald hx hb hK.1 hP 3 0 rfl rfl hi519 dX5_followEntries_116 ?_
                  refine lv_iload_n hx hb dX5_followEntries_117 rfl (lv_at hl 5 rfl) ?_
                  refine lv_icmp_ge (tgt := 149) hx hb dX5_followEntries_118 (by decide) (fun c520 => ?_) (fun c520 => ?_)
                  · replace hm := it_t c520 hm
                    refine lv_iinc (v := (v5_4 + 1)) (lv' := [(4, .int (v5_4 + 1)), (8, .int q515), (7, .int q513), (6, .int (v5_4 - v5_4 / 6 * 6)), (5, .int (v5_4 / 6)), (0, .ref (b 0)), (1, .int u5_1), (2, .int u5_2), (3, .int v5_3)]) hx hb dX5_followEntries_149 hl (k := 8) rfl rfl (by decide) rfl (fun ls hl => ?_)
                    refine lv_goto (tgt := 5) hx hb dX5_followEntries_152 (by decide) ?_
                    exact ih5 v5_3 (v5_4 + 1) mark5_ hm _ _ _ hP hD hS (lv_sub hl [5, 6, 7, 8, 0] rfl)
                  · replace hm := it_f c520 hm
                    refine lv_aload_n hx hb dX5_followEntries_121 rfl (lv_at hl 4 rfl) ?_
                    refine va_get (D := G.1) (ci := 5) (v := .ref (b 3)) (C := RX5) (T := TX5) (N := 5) hx hb hts w1_X5_followEntries hown hK.1 hP 0 rfl rfl 3 (by decide) (hts _ w0_X5_followEntries) (fun _ h9 => h9) rfl dX5_followEntries_122 ?_
                    refine lv_iload hx hb dX5_followEntries_125 (lv_at hl 0 rfl) ?_
                    obtain ⟨hi521, hm⟩ := gd_s hm
                    refine va_iald hx hb hK.1 hP 3 0 rfl rfl hi521 dX5_followEntries_127 ?_
                    refine lv_bipush (v := (-9)) hx hb dX5_followEntries_128 (by decide) ?_
                    refine lv_icmp_ne (tgt := 149) hx hb dX5_followEntries_130 (by decide) (fun c522 => ?_) (fun c522 => ?_)
                    · replace hm := it_f c522 hm
                      refine lv_iinc (v := (v5_4 + 1)) (lv' := [(4, .int (v5_4 + 1)), (8, .int q515), (7, .int q513), (6, .int (v5_4 - v5_4 / 6 * 6)), (5, .int (v5_4 / 6)), (0, .ref (b 0)), (1, .int u5_1), (2, .int u5_2), (3, .int v5_3)]) hx hb dX5_followEntries_149 hl (k := 8) rfl rfl (by decide) rfl (fun ls hl => ?_)
                      refine lv_goto (tgt := 5) hx hb dX5_followEntries_152 (by decide) ?_
                      exact ih5 v5_3 (v5_4 + 1) mark5_ hm _ _ _ hP hD hS (lv_sub hl [5, 6, 7, 8, 0] rfl)
                    · replace hm := it_t c522 hm
                      refine lv_iload hx hb dX5_followEntries_133 (lv_at hl 0 rfl) ?_
                      refine lv_iload_n hx hb dX5_followEntries_135 rfl (lv_at hl 6 rfl) ?_
                      refine lv_icmp_eq (tgt := 149) hx hb dX5_followEntries_136 (by decide) (fun c523 => ?_) (fun c523 => ?_)
                      · replace hm := it_t c523 hm
                        refine lv_iinc (v := (v5_4 + 1)) (lv' := [(4, .int (v5_4 + 1)), (8, .int q515), (7, .int q513), (6, .int (v5_4 - v5_4 / 6 * 6)), (5, .int (v5_4 / 6)), (0, .ref (b 0)), (1, .int u5_1), (2, .int u5_2), (3, .int v5_3)]) hx hb dX5_followEntries_149 hl (k := 8) rfl rfl (by decide) rfl (fun ls hl => ?_)
                        refine lv_goto (tgt := 5) hx hb dX5_followEntries_152 (by decide) ?_
                        exact ih5 v5_3 (v5_4 + 1) mark5_ hm _ _ _ hP hD hS (lv_sub hl [5, 6, 7, 8, 0] rfl)
                      · replace hm := it_f c523 hm
                        refine lv_aload_n hx hb dX5_followEntries_139 rfl (lv_at hl 4 rfl) ?_
                        refine va_get (D := G.1) (ci := 5) (v := .ref (b 3)) (C := RX5) (T := TX5) (N := 5) hx hb hts w1_X5_followEntries hown hK.1 hP 0 rfl rfl 3 (by decide) (hts _ w0_X5_followEntries) (fun _ h9 => h9) rfl dX5_followEntries_140 ?_
                        refine lv_iload hx hb dX5_followEntries_143 (lv_at hl 0 rfl) ?_
                        refine lv_iload_n hx hb dX5_followEntries_145 rfl (lv_at hl 5 rfl) ?_
                        obtain ⟨hi524, hm⟩ := gd_s hm
                        refine va_iast hx hb hK.1 hP hD hS 3 0 rfl rfl hi524 dX5_followEntries_146 (fun H locs hP hD hS => ?_)
                        have hP : va_P G.1 vwCl (wMD G b w dep kept (upd mark5_ q515.toNatClampNeg u5_1) start) H := hP
                        have hD : va_D A (wMD G b w dep kept (upd mark5_ q515.toNatClampNeg u5_1) start) := hD
                        refine lv_iconst (v := 1) hx hb dX5_followEntries_147 (by decide) ?_
                        refine lv_istore_n (lv' := [(3, .int 1), (8, .int q515), (7, .int q513), (6, .int (v5_4 - v5_4 / 6 * 6)), (5, .int (v5_4 / 6)), (0, .ref (b 0)), (1, .int u5_1), (2, .int u5_2), (4, .int v5_4)]) hx hb dX5_followEntries_148 rfl hl (by decide) rfl (fun ls hl => ?_)
                        refine lv_iinc (v := (v5_4 + 1)) (lv' := [(4, .int (v5_4 + 1)), (3, .int 1), (8, .int q515), (7, .int q513), (6, .int (v5_4 - v5_4 / 6 * 6)), (5, .int (v5_4 / 6)), (0, .ref (b 0)), (1, .int u5_1), (2, .int u5_2)]) hx hb dX5_followEntries_149 hl (k := 8) rfl rfl (by decide) rfl (fun ls hl => ?_)
                        refine lv_goto (tgt := 5) hx hb dX5_followEntries_152 (by decide) ?_
                        exact ih5 1 (v5_4 + 1) (upd mark5_ q515.toNatClampNeg u5_1) hm _ _ _ hP hD hS (lv_sub hl [6, 7, 8, 1, 0] rfl)
  exact L5 p1 p2 N 0 0 mark hm _ _ _ hP hD hS (lv_sub hl [2, 3, 4, 1, 0] rfl)
def M_X5_marks_L48 (N : Nat) (u48_1 : Int32) (w : Nat → Int32) : Nat → (Int32) → (Nat → Int32) → Option (Int32 × (Nat → Int32))
  | 0, _, _ => none
  | n48 + 1, v48_2, mark48_ => (M_X5_followEntries N w mark48_ v48_2 u48_1).bind fun q4801 => if q4801.1 = 0 then (some ((v48_2 - 1), q4801.2)) else ((M_X5_followFields N w q4801.2 v48_2 u48_1).bind fun q4804 => M_X5_marks_L48 N u48_1 w n48 (v48_2 + 1) q4804)
def M_X5_marks_L2 (N : Nat) (u2_1 : Int32) (w : Nat → Int32) (start : Nat → Int32) : Nat → (Int32) → (Nat → Int32) → Option (Int32 × (Nat → Int32))
  | 0, _, _ => none
  | n2 + 1, v2_2, mark2_ => if 24 ≤ v2_2 then ((M_X5_followFields N w mark2_ 0 u2_1).bind fun q202 => M_X5_marks_L48 N u2_1 w N 1 q202) else (gd v2_2 24 (if (start v2_2.toNatClampNeg) = 0 then (gd v2_2 24 (M_X5_marks_L2 N u2_1 w start n2 (v2_2 + 1) (upd mark2_ v2_2.toNatClampNeg (-9)))) else (if v2_2 = u2_1 then (gd v2_2 24 (M_X5_marks_L2 N u2_1 w start n2 (v2_2 + 1) (upd mark2_ v2_2.toNatClampNeg (-9)))) else (gd v2_2 24 (M_X5_marks_L2 N u2_1 w start n2 (v2_2 + 1) (upd mark2_ v2_2.toNatClampNeg 0))))))
def M_X5_marks (N : Nat) (w : Nat → Int32) (mark : Nat → Int32) (start : Nat → Int32) (p1 : Int32) : Option (Int32 × (Nat → Int32)) :=
  M_X5_marks_L2 N p1 w start N 0 mark
theorem w0_X5_marks : Cond.fieldLink RX5 17 "WeakTableHeapModel" "mark" "[I" ∈ wsX5_marks := by decide +kernel
theorem w1_X5_marks : ∀ w ∈ u_ws RX5 TX5 5, w ∈ wsX5_marks := by decide +kernel
theorem w2_X5_marks : Cond.fieldLink RX5 20 "WeakTableHeapModel" "start" "[Z" ∈ wsX5_marks := by decide +kernel
abbrev rm_X5_marks : Room := { frames := 2, cells := 0, slots := 0, locals := 50 }
set_option maxHeartbeats 4000000 in
set_option maxRecDepth 100000 in
theorem c_X5_marks (l : Launch) (G : GG) (N : Nat) (b : Nat → Nat) (w : Nat → Int32) (dep : Int32) (kept : Nat → Int32) (mark : Nat → Int32) (start : Nat → Int32) (p1 : Int32) (q : Int32 × (Nat → Int32)) (hm : M_X5_marks N w mark start p1 = some q) : CTi l yX5_marks wsX5_marks rm_X5_marks G [.ref (b 0), .int p1] (wMD G b w dep kept mark start) q.1 (wMD G b w dep kept q.2 start) := by
  intro sz
  refine mk_body (Qc := fun A => (QI G A q.1 (wMD G b w dep kept q.2 start))) (cc := cX5_marks) (maxL := 3) (ret := (some .int)) (lv := [(0, .ref (b 0)), (1, .int p1)]) (by decide) rfl rfl (Nat.le_of_ble_eq_true rfl) ?_
  intro p e s m args below meth c A H locs ls hF hr hlocks hname hK hA hP hD hS hl
  obtain ⟨hx, hb, hml, hown, hts⟩ := id hF
  unfold M_X5_marks at hm
  refine lv_iconst (v := 0) hx hb dX5_marks_0 (by decide) ?_
  refine lv_istore_n (lv' := [(2, .int 0), (0, .ref (b 0)), (1, .int p1)]) hx hb dX5_marks_1 rfl hl (by decide) rfl (fun ls hl => ?_)
  have L2 : ∀ (u2_1 : Int32) (n2 : Nat) (v2_2 : Int32) (mark2_ : Nat → Int32), M_X5_marks_L2 N u2_1 w start n2 v2_2 mark2_ = some q → ∀ (H : Heap) (locs : List Loc) (ls : Array Slot), va_P G.1 vwCl (wMD G b w dep kept mark2_ start) H → va_D A (wMD G b w dep kept mark2_ start) → va_S A s.heap H locs → lv_has ls 3 [(0, .ref (b 0)), (1, .int u2_1), (2, .int v2_2)] → W p l e rm_X5_marks s m args below meth c H locs 0 0 (MQ below (QI G A q.1 (wMD G b w dep kept q.2 start)) args s rm_X5_marks.cells rm_X5_marks.slots A) (F0 m 2 ls []) := by
    intro u2_1 n2
    induction n2 with
    | zero => intro v2_2 mark2_ hm; cases hm
    | succ n2 ih2 =>
      intro v2_2 mark2_ hm H locs ls hP hD hS hl
      rw [M_X5_marks_L2] at hm
      refine lv_iload_n hx hb dX5_marks_2 rfl (lv_at hl 2 rfl) ?_
      refine lv_bipush (v := 24) hx hb dX5_marks_3 (by decide) ?_
      refine lv_icmp_ge (tgt := 40) hx hb dX5_marks_5 (by decide) (fun c201 => ?_) (fun c201 => ?_)
      · replace hm := it_t c201 hm
        refine lv_aload_n hx hb dX5_marks_40 rfl (lv_at hl 0 rfl) ?_
        refine lv_iconst (v := 0) hx hb dX5_marks_41 (by decide) ?_
        refine lv_iload_n hx hb dX5_marks_42 rfl (lv_at hl 1 rfl) ?_
        obtain ⟨q202, hc203, hm⟩ := bd_s hm
        refine ks_v (wo := (wMD G b w dep kept q202 start)) (rV (As := [.int 0, .int u2_1]) (rest := []) (b := (b 0)) (wi := (wMD G b w dep kept mark2_ start)) hF hK hP hD (c_X5_followFields l G N b w dep kept mark2_ start 0 u2_1 q202 hc203 H.size) (cwV 2 hts gX5_marks_X5_followFields rfl rfl rfl (by decide +kernel) ⟨Nat.le_of_ble_eq_true rfl, Nat.le_of_ble_eq_true rfl⟩) (va_recv hK.1 hP (ci := 5) (q0 := 0) rfl rfl) rfl hl.1 rfl (Nat.le_of_ble_eq_true rfl) dX5_marks_43 ⟨Nat.le_of_ble_eq_true rfl, Nat.le_of_ble_eq_true rfl⟩) hD hS hA (fun H locs hP hD hS => ?_)
        have hP : va_P G.1 vwCl (wMD G b w dep kept q202 start) H := hP
        have hD : va_D A (wMD G b w dep kept q202 start) := hD
        refine lv_iconst (v := 1) hx hb dX5_marks_46 (by decide) ?_
        refine lv_istore_n (lv' := [(2, .int 1), (0, .ref (b 0)), (1, .int u2_1)]) hx hb dX5_marks_47 rfl hl (by decide) rfl (fun ls hl => ?_)
        have L48 : ∀ (u48_1 : Int32) (n48 : Nat) (v48_2 : Int32) (mark48_ : Nat → Int32), M_X5_marks_L48 N u48_1 w n48 v48_2 mark48_ = some q → ∀ (H : Heap) (locs : List Loc) (ls : Array Slot), va_P G.1 vwCl (wMD G b w dep kept mark48_ start) H → va_D A (wMD G b w dep kept mark48_ start) → va_S A s.heap H locs → lv_has ls 3 [(0, .ref (b 0)), (1, .int u48_1), (2, .int v48_2)] → W p l e rm_X5_marks s m args below meth c H locs 0 0 (MQ below (QI G A q.1 (wMD G b w dep kept q.2 start)) args s rm_X5_marks.cells rm_X5_marks.slots A) (F0 m 48 ls []) := by
          intro u48_1 n48
          induction n48 with
          | zero => intro v48_2 mark48_ hm; cases hm
          | succ n48 ih48 =>
            intro v48_2 mark48_ hm H locs ls hP hD hS hl
            rw [M_X5_marks_L48] at hm
            refine lv_aload_n hx hb dX5_marks_48 rfl (lv_at hl 0 rfl) ?_
            refine lv_iload_n hx hb dX5_marks_49 rfl (lv_at hl 2 rfl) ?_
            refine lv_iload_n hx hb dX5_marks_50 rfl (lv_at hl 1 rfl) ?_
            obtain ⟨q4801, hc4802, hm⟩ := bd_s hm
            refine ks_i (wo := (wMD G b w dep kept q4801.2 start)) (rV (As := [.int v48_2, .int u48_1]) (rest := []) (b := (b 0)) (wi := (wMD G b w dep kept mark48_ start)) hF hK hP hD (c_X5_followEntries l G N b w dep kept mark48_ start v48_2 u48_1 q4801 hc4802 H.size) (cwV 2 hts gX5_marks_X5_followEntries rfl rfl rfl (by decide +kernel) ⟨Nat.le_of_ble_eq_true rfl, Nat.le_of_ble_eq_true rfl⟩) (va_recv hK.1 hP (ci := 5) (q0 := 0) rfl rfl) rfl hl.1 rfl (Nat.le_of_ble_eq_true rfl) dX5_marks_51 ⟨Nat.le_of_ble_eq_true rfl, Nat.le_of_ble_eq_true rfl⟩) hD hS hA (fun H locs hP hD hS => ?_)
            have hP : va_P G.1 vwCl (wMD G b w dep kept q4801.2 start) H := hP
            have hD : va_D A (wMD G b w dep kept q4801.2 start) := hD
            refine lv_if_eq (tgt := 69) hx hb dX5_marks_54 (by decide) (fun c4803 => ?_) (fun c4803 => ?_)
            · replace hm := it_t c4803 hm
              refine lv_iload_n hx hb dX5_marks_69 rfl (lv_at hl 2 rfl) ?_
              refine lv_iconst (v := 1) hx hb dX5_marks_70 (by decide) ?_
              refine lv_isub hx hb dX5_marks_71 ?_
              cases hm
              exact rt_i hx hb hr hlocks hP hD hS dX5_marks_72
            · replace hm := it_f c4803 hm
              refine lv_aload_n hx hb dX5_marks_57 rfl (lv_at hl 0 rfl) ?_
              refine lv_iload_n hx hb dX5_marks_58 rfl (lv_at hl 2 rfl) ?_
              refine lv_iload_n hx hb dX5_marks_59 rfl (lv_at hl 1 rfl) ?_
              obtain ⟨q4804, hc4805, hm⟩ := bd_s hm
              refine ks_v (wo := (wMD G b w dep kept q4804 start)) (rV (As := [.int v48_2, .int u48_1]) (rest := []) (b := (b 0)) (wi := (wMD G b w dep kept q4801.2 start)) hF hK hP hD (c_X5_followFields l G N b w dep kept q4801.2 start v48_2 u48_1 q4804 hc4805 H.size) (cwV 2 hts gX5_marks_X5_followFields rfl rfl rfl (by decide +kernel) ⟨Nat.le_of_ble_eq_true rfl, Nat.le_of_ble_eq_true rfl⟩) (va_recv hK.1 hP (ci := 5) (q0 := 0) rfl rfl) rfl hl.1 rfl (Nat.le_of_ble_eq_true rfl) dX5_marks_60 ⟨Nat.le_of_ble_eq_true rfl, Nat.le_of_ble_eq_true rfl⟩) hD hS hA (fun H locs hP hD hS => ?_)
              have hP : va_P G.1 vwCl (wMD G b w dep kept q4804 start) H := hP
              have hD : va_D A (wMD G b w dep kept q4804 start) := hD
              refine lv_iinc (v := (v48_2 + 1)) (lv' := [(2, .int (v48_2 + 1)), (0, .ref (b 0)), (1, .int u48_1)]) hx hb dX5_marks_63 hl (k := 2) rfl rfl (by decide) rfl (fun ls hl => ?_)
              refine lv_goto (tgt := 48) hx hb dX5_marks_66 (by decide) ?_
              exact ih48 (v48_2 + 1) q4804 hm _ _ _ hP hD hS (lv_sub hl [1, 2, 0] rfl)
        exact L48 u2_1 N 1 q202 hm _ _ _ hP hD hS (lv_sub hl [1, 2, 0] rfl)
      · replace hm := it_f c201 hm
        refine lv_aload_n hx hb dX5_marks_8 rfl (lv_at hl 0 rfl) ?_
        refine va_get (D := G.1) (ci := 5) (v := .ref (b 3)) (C := RX5) (T := TX5) (N := 5) hx hb hts w1_X5_marks hown hK.1 hP 0 rfl rfl 3 (by decide) (hts _ w0_X5_marks) (fun _ h9 => h9) rfl dX5_marks_9 ?_
        refine lv_iload_n hx hb dX5_marks_12 rfl (lv_at hl 2 rfl) ?_
        refine lv_aload_n hx hb dX5_marks_13 rfl (lv_at hl 0 rfl) ?_
        refine va_get (D := G.1) (ci := 5) (v := .ref (b 4)) (C := RX5) (T := TX5) (N := 5) hx hb hts w1_X5_marks hown hK.1 hP 0 rfl rfl 4 (by decide) (hts _ w2_X5_marks) (fun _ h9 => h9) rfl dX5_marks_14 ?_
        refine lv_iload_n hx hb dX5_marks_17 rfl (lv_at hl 2 rfl) ?_
        obtain ⟨hi205, hm⟩ := gd_s hm
        refine va_zald hx hb hK.1 hP 4 1 rfl rfl hi205 dX5_marks_18 ?_
        refine lv_if_eq (tgt := 31) hx hb dX5_marks_19 (by decide) (fun c206 => ?_) (fun c206 => ?_)
        · replace hm := it_t c206 hm
          refine lv_bipush (v := (-9)) hx hb dX5_marks_31 (by decide) ?_
          obtain ⟨hi207, hm⟩ := gd_s hm
          refine va_iast hx hb hK.1 hP hD hS 3 0 rfl rfl hi207 dX5_marks_33 (fun H locs hP hD hS => ?_)
          have hP : va_P G.1 vwCl (wMD G b w dep kept (upd mark2_ v2_2.toNatClampNeg (-9)) start) H := hP
          have hD : va_D A (wMD G b w dep kept (upd mark2_ v2_2.toNatClampNeg (-9)) start) := hD
          refine lv_iinc (v := (v2_2 + 1)) (lv' := [(2, .int (v2_2 + 1)), (0, .ref (b 0)), (1, .int u2_1)]) hx hb dX5_marks_34 hl (k := 2) rfl rfl (by decide) rfl (fun ls hl => ?_)
          refine lv_goto (tgt := 2) hx hb dX5_marks_37 (by decide) ?_
          exact ih2 (v2_2 + 1) (upd mark2_ v2_2.toNatClampNeg (-9)) hm _ _ _ hP hD hS (lv_sub hl [1, 2, 0] rfl)
        · replace hm := it_f c206 hm
          refine lv_iload_n hx hb dX5_marks_22 rfl (lv_at hl 2 rfl) ?_
          refine lv_iload_n hx hb dX5_marks_23 rfl (lv_at hl 1 rfl) ?_
          refine lv_icmp_eq (tgt := 31) hx hb dX5_marks_24 (by decide) (fun c208 => ?_) (fun c208 => ?_)
          · replace hm := it_t c208 hm
            refine lv_bipush (v := (-9)) hx hb dX5_marks_31 (by decide) ?_
            obtain ⟨hi209, hm⟩ := gd_s hm
            refine va_iast hx hb hK.1 hP hD hS 3 0 rfl rfl hi209 dX5_marks_33 (fun H locs hP hD hS => ?_)
            have hP : va_P G.1 vwCl (wMD G b w dep kept (upd mark2_ v2_2.toNatClampNeg (-9)) start) H := hP
            have hD : va_D A (wMD G b w dep kept (upd mark2_ v2_2.toNatClampNeg (-9)) start) := hD
            refine lv_iinc (v := (v2_2 + 1)) (lv' := [(2, .int (v2_2 + 1)), (0, .ref (b 0)), (1, .int u2_1)]) hx hb dX5_marks_34 hl (k := 2) rfl rfl (by decide) rfl (fun ls hl => ?_)
            refine lv_goto (tgt := 2) hx hb dX5_marks_37 (by decide) ?_
            exact ih2 (v2_2 + 1) (upd mark2_ v2_2.toNatClampNeg (-9)) hm _ _ _ hP hD hS (lv_sub hl [1, 2, 0] rfl)
          · replace hm := it_f c208 hm
            refine lv_iconst (v := 0) hx hb dX5_marks_27 (by decide) ?_
            refine lv_goto (tgt := 33) hx hb dX5_marks_28 (by decide) ?_
            obtain ⟨hi210, hm⟩ := gd_s hm
            refine va_iast hx hb hK.1 hP hD hS 3 0 rfl rfl hi210 dX5_marks_33 (fun H locs hP hD hS => ?_)
            have hP : va_P G.1 vwCl (wMD G b w dep kept (upd mark2_ v2_2.toNatClampNeg 0) start) H := hP
            have hD : va_D A (wMD G b w dep kept (upd mark2_ v2_2.toNatClampNeg 0) start) := hD
            refine lv_iinc (v := (v2_2 + 1)) (lv' := [(2, .int (v2_2 + 1)), (0, .ref (b 0)), (1, .int u2_1)]) hx hb dX5_marks_34 hl (k := 2) rfl rfl (by decide) rfl (fun ls hl => ?_)
            refine lv_goto (tgt := 2) hx hb dX5_marks_37 (by decide) ?_
            exact ih2 (v2_2 + 1) (upd mark2_ v2_2.toNatClampNeg 0) hm _ _ _ hP hD hS (lv_sub hl [1, 2, 0] rfl)
  exact L2 p1 N 0 mark hm _ _ _ hP hD hS (lv_sub hl [1, 2, 0] rfl)
def M_X5_marked_L4 (mark : Nat → Int32) : Nat → (Int32) → (Int32) → Option (Int32)
  | 0, _, _ => none
  | n4 + 1, v4_1, v4_2 => if 24 ≤ v4_2 then (some v4_1) else (gd v4_2 24 (if (mark v4_2.toNatClampNeg) = (-9) then (M_X5_marked_L4 mark n4 (v4_1 + 0) (v4_2 + 1)) else (M_X5_marked_L4 mark n4 (v4_1 + 1) (v4_2 + 1))))
def M_X5_marked (N : Nat) (mark : Nat → Int32) : Option (Int32) :=
  M_X5_marked_L4 mark N 0 0
theorem w0_X5_marked : Cond.fieldLink RX5 17 "WeakTableHeapModel" "mark" "[I" ∈ wsX5_marked := by decide +kernel
theorem w1_X5_marked : ∀ w ∈ u_ws RX5 TX5 5, w ∈ wsX5_marked := by decide +kernel
abbrev rm_X5_marked : Room := { frames := 0, cells := 0, slots := 0, locals := 0 }
set_option maxHeartbeats 4000000 in
set_option maxRecDepth 100000 in
theorem c_X5_marked (l : Launch) (G : GG) (N : Nat) (b : Nat → Nat) (w : Nat → Int32) (dep : Int32) (kept : Nat → Int32) (mark : Nat → Int32) (start : Nat → Int32) (q : Int32) (hm : M_X5_marked N mark = some q) : CTi l yX5_marked wsX5_marked rm_X5_marked G [.ref (b 0)] (wMD G b w dep kept mark start) q (wMD G b w dep kept mark start) := by
  intro sz
  refine mk_body (Qc := fun A => (QI G A q (wMD G b w dep kept mark start))) (cc := cX5_marked) (maxL := 3) (ret := (some .int)) (lv := [(0, .ref (b 0))]) (by decide) rfl rfl (Nat.le_of_ble_eq_true rfl) ?_
  intro p e s m args below meth c A H locs ls hF hr hlocks hname hK hA hP hD hS hl
  obtain ⟨hx, hb, hml, hown, hts⟩ := id hF
  unfold M_X5_marked at hm
  refine lv_iconst (v := 0) hx hb dX5_marked_0 (by decide) ?_
  refine lv_istore_n (lv' := [(1, .int 0), (0, .ref (b 0))]) hx hb dX5_marked_1 rfl hl (by decide) rfl (fun ls hl => ?_)
  refine lv_iconst (v := 0) hx hb dX5_marked_2 (by decide) ?_
  refine lv_istore_n (lv' := [(2, .int 0), (1, .int 0), (0, .ref (b 0))]) hx hb dX5_marked_3 rfl hl (by decide) rfl (fun ls hl => ?_)
  have L4 : ∀ (n4 : Nat) (v4_1 : Int32) (v4_2 : Int32), M_X5_marked_L4 mark n4 v4_1 v4_2 = some q → ∀ (H : Heap) (locs : List Loc) (ls : Array Slot), va_P G.1 vwCl (wMD G b w dep kept mark start) H → va_D A (wMD G b w dep kept mark start) → va_S A s.heap H locs → lv_has ls 3 [(0, .ref (b 0)), (1, .int v4_1), (2, .int v4_2)] → W p l e rm_X5_marked s m args below meth c H locs 0 0 (MQ below (QI G A q (wMD G b w dep kept mark start)) args s rm_X5_marked.cells rm_X5_marked.slots A) (F0 m 4 ls []) := by
    intro  n4
    induction n4 with
    | zero => intro v4_1 v4_2 hm; cases hm
    | succ n4 ih4 =>
      intro v4_1 v4_2 hm H locs ls hP hD hS hl
      rw [M_X5_marked_L4] at hm
      refine lv_iload_n hx hb dX5_marked_4 rfl (lv_at hl 2 rfl) ?_
      refine lv_bipush (v := 24) hx hb dX5_marked_5 (by decide) ?_
      refine lv_icmp_ge (tgt := 35) hx hb dX5_marked_7 (by decide) (fun c401 => ?_) (fun c401 => ?_)
      · replace hm := it_t c401 hm
        refine lv_iload_n hx hb dX5_marked_35 rfl (lv_at hl 1 rfl) ?_
        cases hm
        exact rt_i hx hb hr hlocks hP hD hS dX5_marked_36
      · replace hm := it_f c401 hm
        refine lv_iload_n hx hb dX5_marked_10 rfl (lv_at hl 1 rfl) ?_
        refine lv_aload_n hx hb dX5_marked_11 rfl (lv_at hl 0 rfl) ?_
        refine va_get (D := G.1) (ci := 5) (v := .ref (b 3)) (C := RX5) (T := TX5) (N := 5) hx hb hts w1_X5_marked hown hK.1 hP 0 rfl rfl 3 (by decide) (hts _ w0_X5_marked) (fun _ h9 => h9) rfl dX5_marked_12 ?_
        refine lv_iload_n hx hb dX5_marked_15 rfl (lv_at hl 2 rfl) ?_
        obtain ⟨hi402, hm⟩ := gd_s hm
        refine va_iald hx hb hK.1 hP 3 0 rfl rfl hi402 dX5_marked_16 ?_
        refine lv_bipush (v := (-9)) hx hb dX5_marked_17 (by decide) ?_
        refine lv_icmp_ne (tgt := 26) hx hb dX5_marked_19 (by decide) (fun c403 => ?_) (fun c403 => ?_)
        · replace hm := it_f c403 hm
          refine lv_iconst (v := 1) hx hb dX5_marked_26 (by decide) ?_
          refine lv_iadd hx hb dX5_marked_27 ?_
          refine lv_istore_n (lv' := [(1, .int (v4_1 + 1)), (0, .ref (b 0)), (2, .int v4_2)]) hx hb dX5_marked_28 rfl hl (by decide) rfl (fun ls hl => ?_)
          refine lv_iinc (v := (v4_2 + 1)) (lv' := [(2, .int (v4_2 + 1)), (1, .int (v4_1 + 1)), (0, .ref (b 0))]) hx hb dX5_marked_29 hl (k := 2) rfl rfl (by decide) rfl (fun ls hl => ?_)
          refine lv_goto (tgt := 4) hx hb dX5_marked_32 (by decide) ?_
          exact ih4 (v4_1 + 1) (v4_2 + 1) hm _ _ _ hP hD hS (lv_sub hl [2, 1, 0] rfl)
        · replace hm := it_t c403 hm
          refine lv_iconst (v := 0) hx hb dX5_marked_22 (by decide) ?_
          refine lv_goto (tgt := 27) hx hb dX5_marked_23 (by decide) ?_
          refine lv_iadd hx hb dX5_marked_27 ?_
          refine lv_istore_n (lv' := [(1, .int (v4_1 + 0)), (0, .ref (b 0)), (2, .int v4_2)]) hx hb dX5_marked_28 rfl hl (by decide) rfl (fun ls hl => ?_)
          refine lv_iinc (v := (v4_2 + 1)) (lv' := [(2, .int (v4_2 + 1)), (1, .int (v4_1 + 0)), (0, .ref (b 0))]) hx hb dX5_marked_29 hl (k := 2) rfl rfl (by decide) rfl (fun ls hl => ?_)
          refine lv_goto (tgt := 4) hx hb dX5_marked_32 (by decide) ?_
          exact ih4 (v4_1 + 0) (v4_2 + 1) hm _ _ _ hP hD hS (lv_sub hl [2, 1, 0] rfl)
  exact L4 N 0 0 hm _ _ _ hP hD hS (lv_sub hl [2, 1, 0] rfl)
def M_X5_markAll (N : Nat) (w : Nat → Int32) (mark : Nat → Int32) (start : Nat → Int32) (p1 : Int32) : Option (Int32 × (Nat → Int32) × (Nat → Int32)) :=
  (M_X5_startAtRoots N w start).bind fun q1 => (M_X5_marks N w mark q1 p1).bind fun q3 => some (q3.1, q3.2, q1)
abbrev rm_X5_markAll : Room := { frames := 3, cells := 0, slots := 0, locals := 72 }
set_option maxHeartbeats 4000000 in
set_option maxRecDepth 100000 in
theorem c_X5_markAll (l : Launch) (G : GG) (N : Nat) (b : Nat → Nat) (w : Nat → Int32) (dep : Int32) (kept : Nat → Int32) (mark : Nat → Int32) (start : Nat → Int32) (p1 : Int32) (q : Int32 × (Nat → Int32) × (Nat → Int32)) (hm : M_X5_markAll N w mark start p1 = some q) : CTi l yX5_markAll wsX5_markAll rm_X5_markAll G [.ref (b 0), .int p1] (wMD G b w dep kept mark start) q.1 (wMD G b w dep kept q.2.1 q.2.2) := by
  intro sz
  refine mk_body (Qc := fun A => (QI G A q.1 (wMD G b w dep kept q.2.1 q.2.2))) (cc := cX5_markAll) (maxL := 2) (ret := (some .int)) (lv := [(0, .ref (b 0)), (1, .int p1)]) (by decide) rfl rfl (Nat.le_of_ble_eq_true rfl) ?_
  intro p e s m args below meth c A H locs ls hF hr hlocks hname hK hA hP hD hS hl
  obtain ⟨hx, hb, hml, hown, hts⟩ := id hF
  unfold M_X5_markAll at hm
  refine lv_aload_n hx hb dX5_markAll_0 rfl (lv_at hl 0 rfl) ?_
  obtain ⟨q1, hc2, hm⟩ := bd_s hm
  refine ks_v (wo := (wMD G b w dep kept mark q1)) (rV (As := []) (rest := []) (b := (b 0)) (wi := (wMD G b w dep kept mark start)) hF hK hP hD (c_X5_startAtRoots l G N b w dep kept mark start q1 hc2 H.size) (cwV 0 hts gX5_markAll_X5_startAtRoots rfl rfl rfl (by decide +kernel) ⟨Nat.le_of_ble_eq_true rfl, Nat.le_of_ble_eq_true rfl⟩) (va_recv hK.1 hP (ci := 5) (q0 := 0) rfl rfl) rfl hl.1 rfl (Nat.le_of_ble_eq_true rfl) dX5_markAll_1 ⟨Nat.le_of_ble_eq_true rfl, Nat.le_of_ble_eq_true rfl⟩) hD hS hA (fun H locs hP hD hS => ?_)
  have hP : va_P G.1 vwCl (wMD G b w dep kept mark q1) H := hP
  have hD : va_D A (wMD G b w dep kept mark q1) := hD
  refine lv_aload_n hx hb dX5_markAll_4 rfl (lv_at hl 0 rfl) ?_
  refine lv_iload_n hx hb dX5_markAll_5 rfl (lv_at hl 1 rfl) ?_
  obtain ⟨q3, hc4, hm⟩ := bd_s hm
  refine ks_i (wo := (wMD G b w dep kept q3.2 q1)) (rV (As := [.int p1]) (rest := []) (b := (b 0)) (wi := (wMD G b w dep kept mark q1)) hF hK hP hD (c_X5_marks l G N b w dep kept mark q1 p1 q3 hc4 H.size) (cwV 1 hts gX5_markAll_X5_marks rfl rfl rfl (by decide +kernel) ⟨Nat.le_of_ble_eq_true rfl, Nat.le_of_ble_eq_true rfl⟩) (va_recv hK.1 hP (ci := 5) (q0 := 0) rfl rfl) rfl hl.1 rfl (Nat.le_of_ble_eq_true rfl) dX5_markAll_6 ⟨Nat.le_of_ble_eq_true rfl, Nat.le_of_ble_eq_true rfl⟩) hD hS hA (fun H locs hP hD hS => ?_)
  have hP : va_P G.1 vwCl (wMD G b w dep kept q3.2 q1) H := hP
  have hD : va_D A (wMD G b w dep kept q3.2 q1) := hD
  cases hm
  exact rt_i hx hb hr hlocks hP hD hS dX5_markAll_9
