def M_X5_takeNotice_L23 (w : Nat → Int32) : Nat → (Int32) → (Nat → Int32) → Option (Int32 × (Nat → Int32))
  | 0, _, _ => none
  | n6 + 1, v4, w_5 => gd 366 3880 (if (w_5 (366 : Int32).toNatClampNeg) ≤ v4 then (gd 366 3880 (gd (367 + (w_5 (366 : Int32).toNatClampNeg)) 3880 (some ((w (367 : Int32).toNatClampNeg), (upd w_5 (367 + (w_5 (366 : Int32).toNatClampNeg)).toNatClampNeg 0))))) else (gd ((367 + v4) + 1) 3880 (gd (367 + v4) 3880 (M_X5_takeNotice_L23 w n6 (v4 + 1) (upd w_5 (367 + v4).toNatClampNeg (w_5 ((367 + v4) + 1).toNatClampNeg))))))
def M_X5_takeNotice (N : Nat) (w : Nat → Int32) : Option (Int32 × (Nat → Int32)) :=
  gd 367 3880 (gd 366 3880 (gd 366 3880 (M_X5_takeNotice_L23 w N 0 (upd w (366 : Int32).toNatClampNeg ((w (366 : Int32).toNatClampNeg) - 1)))))
theorem w0_X5_takeNotice : Cond.fieldLink RX5 7 "WeakTableHeapModel" "w" "[I" ∈ wsX5_takeNotice := by decide +kernel
theorem w1_X5_takeNotice : ∀ w ∈ u_ws RX5 TX5 5, w ∈ wsX5_takeNotice := by decide +kernel
abbrev rm_X5_takeNotice : Room := { frames := 0, cells := 0, slots := 0, locals := 0 }
set_option maxHeartbeats 4000000 in
set_option maxRecDepth 100000 in
theorem c_X5_takeNotice (l : Launch) (G : GG) (N : Nat) (b : Nat → Nat) (w : Nat → Int32) (dep : Int32) (kept : Nat → Int32) (mark : Nat → Int32) (start : Nat → Int32) (q : Int32 × (Nat → Int32)) (hm : M_X5_takeNotice N w = some q) : CTi l yX5_takeNotice wsX5_takeNotice rm_X5_takeNotice G [.ref (b 0)] (wMD G b w dep kept mark start) q.1 (wMD G b q.2 dep kept mark start) := by
  intro sz
  refine mk_body (Qc := fun A => (QI G A q.1 (wMD G b q.2 dep kept mark start))) (cc := cX5_takeNotice) (maxL := 3) (ret := (some .int)) (lv := [(0, .ref (b 0))]) (by decide) rfl rfl (Nat.le_of_ble_eq_true rfl) ?_
  intro p e s m args below meth c A H locs ls hF hr hlocks hname hK hA hP hD hS hl
  obtain ⟨hx, hb, hml, hown, hts⟩ := id hF
  unfold M_X5_takeNotice at hm
  refine lv_aload_n hx hb dX5_takeNotice_0 rfl (lv_at hl 0 rfl) ?_
  refine va_get (D := G.1) (ci := 5) (v := .ref (b 1)) (C := RX5) (T := TX5) (N := 5) hx hb hts w1_X5_takeNotice hown hK.1 hP 0 rfl rfl 0 (by decide) (hts _ w0_X5_takeNotice) (fun _ h9 => h9) rfl dX5_takeNotice_1 ?_
  refine lv_sipush (v := 367) hx hb dX5_takeNotice_4 (by decide) ?_
  obtain ⟨hi1, hm⟩ := gd_s hm
  refine va_iald hx hb hK.1 hP 1 0 rfl rfl hi1 dX5_takeNotice_7 ?_
  refine lv_istore_n (lv' := [(1, .int (w (367 : Int32).toNatClampNeg)), (0, .ref (b 0))]) hx hb dX5_takeNotice_8 rfl hl (by decide) rfl (fun ls hl => ?_)
  refine lv_aload_n hx hb dX5_takeNotice_9 rfl (lv_at hl 1 rfl) ?_
  refine va_get (D := G.1) (ci := 5) (v := .ref (b 1)) (C := RX5) (T := TX5) (N := 5) hx hb hts w1_X5_takeNotice hown hK.1 hP 0 rfl rfl 0 (by decide) (hts _ w0_X5_takeNotice) (fun _ h9 => h9) rfl dX5_takeNotice_10 ?_
  refine lv_sipush (v := 366) hx hb dX5_takeNotice_13 (by decide) ?_
  refine lv_dup2_11 hx hb dX5_takeNotice_16 rfl rfl ?_
  obtain ⟨hi2, hm⟩ := gd_s hm
  refine va_iald hx hb hK.1 hP 1 0 rfl rfl hi2 dX5_takeNotice_17 ?_
  refine lv_iconst (v := 1) hx hb dX5_takeNotice_18 (by decide) ?_
  refine lv_isub hx hb dX5_takeNotice_19 ?_
  obtain ⟨hi3, hm⟩ := gd_s hm
  refine va_iast hx hb hK.1 hP hD hS 1 0 rfl rfl hi3 dX5_takeNotice_20 (fun H locs hP hD hS => ?_)
  have hP : va_P G.1 vwCl (wMD G b (upd w (366 : Int32).toNatClampNeg ((w (366 : Int32).toNatClampNeg) - 1)) dep kept mark start) H := hP
  have hD : va_D A (wMD G b (upd w (366 : Int32).toNatClampNeg ((w (366 : Int32).toNatClampNeg) - 1)) dep kept mark start) := hD
  refine lv_iconst (v := 0) hx hb dX5_takeNotice_21 (by decide) ?_
  refine lv_istore_n (lv' := [(2, .int 0), (1, .int (w (367 : Int32).toNatClampNeg)), (0, .ref (b 0))]) hx hb dX5_takeNotice_22 rfl hl (by decide) rfl (fun ls hl => ?_)
  have L8 : ∀ (n6 : Nat) (v4 : Int32) (w_5 : Nat → Int32), M_X5_takeNotice_L23 w n6 v4 w_5 = some q → ∀ (H : Heap) (locs : List Loc) (ls : Array Slot), va_P G.1 vwCl (wMD G b w_5 dep kept mark start) H → va_D A (wMD G b w_5 dep kept mark start) → va_S A s.heap H locs → lv_has ls 3 [(0, .ref (b 0)), (1, .int (w (367 : Int32).toNatClampNeg)), (2, .int v4)] → W p l e rm_X5_takeNotice s m args below meth c H locs 0 0 (MQ below (QI G A q.1 (wMD G b q.2 dep kept mark start)) args s rm_X5_takeNotice.cells rm_X5_takeNotice.slots A) (F0 m 23 ls []) := by
    intro n6
    induction n6 with
    | zero => intro v4 w_5 hm; cases hm
    | succ n6 ih7 =>
      intro v4 w_5 hm H locs ls hP hD hS hl
      rw [M_X5_takeNotice_L23] at hm
      refine lv_iload_n hx hb dX5_takeNotice_23 rfl (lv_at hl 2 rfl) ?_
      refine lv_aload_n hx hb dX5_takeNotice_24 rfl (lv_at hl 0 rfl) ?_
      refine va_get (D := G.1) (ci := 5) (v := .ref (b 1)) (C := RX5) (T := TX5) (N := 5) hx hb hts w1_X5_takeNotice hown hK.1 hP 0 rfl rfl 0 (by decide) (hts _ w0_X5_takeNotice) (fun _ h9 => h9) rfl dX5_takeNotice_25 ?_
      refine lv_sipush (v := 366) hx hb dX5_takeNotice_28 (by decide) ?_
      obtain ⟨hi9, hm⟩ := gd_s hm
      refine va_iald hx hb hK.1 hP 1 0 rfl rfl hi9 dX5_takeNotice_31 ?_
      refine lv_icmp_ge (tgt := 63) hx hb dX5_takeNotice_32 (by decide) (fun c10 => ?_) (fun c10 => ?_)
      · replace hm := it_t c10 hm
        refine lv_aload_n hx hb dX5_takeNotice_63 rfl (lv_at hl 0 rfl) ?_
        refine va_get (D := G.1) (ci := 5) (v := .ref (b 1)) (C := RX5) (T := TX5) (N := 5) hx hb hts w1_X5_takeNotice hown hK.1 hP 0 rfl rfl 0 (by decide) (hts _ w0_X5_takeNotice) (fun _ h9 => h9) rfl dX5_takeNotice_64 ?_
        refine lv_sipush (v := 367) hx hb dX5_takeNotice_67 (by decide) ?_
        refine lv_aload_n hx hb dX5_takeNotice_70 rfl (lv_at hl 0 rfl) ?_
        refine va_get (D := G.1) (ci := 5) (v := .ref (b 1)) (C := RX5) (T := TX5) (N := 5) hx hb hts w1_X5_takeNotice hown hK.1 hP 0 rfl rfl 0 (by decide) (hts _ w0_X5_takeNotice) (fun _ h9 => h9) rfl dX5_takeNotice_71 ?_
        refine lv_sipush (v := 366) hx hb dX5_takeNotice_74 (by decide) ?_
        obtain ⟨hi11, hm⟩ := gd_s hm
        refine va_iald hx hb hK.1 hP 1 0 rfl rfl hi11 dX5_takeNotice_77 ?_
        refine lv_iadd hx hb dX5_takeNotice_78 ?_
        refine lv_iconst (v := 0) hx hb dX5_takeNotice_79 (by decide) ?_
        obtain ⟨hi12, hm⟩ := gd_s hm
        refine va_iast hx hb hK.1 hP hD hS 1 0 rfl rfl hi12 dX5_takeNotice_80 (fun H locs hP hD hS => ?_)
        have hP : va_P G.1 vwCl (wMD G b (upd w_5 (367 + (w_5 (366 : Int32).toNatClampNeg)).toNatClampNeg 0) dep kept mark start) H := hP
        have hD : va_D A (wMD G b (upd w_5 (367 + (w_5 (366 : Int32).toNatClampNeg)).toNatClampNeg 0) dep kept mark start) := hD
        refine lv_iload_n hx hb dX5_takeNotice_81 rfl (lv_at hl 1 rfl) ?_
        cases hm
        exact rt_i hx hb hr hlocks hP hD hS dX5_takeNotice_82
      · replace hm := it_f c10 hm
        refine lv_aload_n hx hb dX5_takeNotice_35 rfl (lv_at hl 0 rfl) ?_
        refine va_get (D := G.1) (ci := 5) (v := .ref (b 1)) (C := RX5) (T := TX5) (N := 5) hx hb hts w1_X5_takeNotice hown hK.1 hP 0 rfl rfl 0 (by decide) (hts _ w0_X5_takeNotice) (fun _ h9 => h9) rfl dX5_takeNotice_36 ?_
        refine lv_sipush (v := 367) hx hb dX5_takeNotice_39 (by decide) ?_
        refine lv_iload_n hx hb dX5_takeNotice_42 rfl (lv_at hl 2 rfl) ?_
        refine lv_iadd hx hb dX5_takeNotice_43 ?_
        refine lv_aload_n hx hb dX5_takeNotice_44 rfl (lv_at hl 0 rfl) ?_
        refine va_get (D := G.1) (ci := 5) (v := .ref (b 1)) (C := RX5) (T := TX5) (N := 5) hx hb hts w1_X5_takeNotice hown hK.1 hP 0 rfl rfl 0 (by decide) (hts _ w0_X5_takeNotice) (fun _ h9 => h9) rfl dX5_takeNotice_45 ?_
        refine lv_sipush (v := 367) hx hb dX5_takeNotice_48 (by decide) ?_
        refine lv_iload_n hx hb dX5_takeNotice_51 rfl (lv_at hl 2 rfl) ?_
        refine lv_iadd hx hb dX5_takeNotice_52 ?_
        refine lv_iconst (v := 1) hx hb dX5_takeNotice_53 (by decide) ?_
        refine lv_iadd hx hb dX5_takeNotice_54 ?_
        obtain ⟨hi13, hm⟩ := gd_s hm
        refine va_iald hx hb hK.1 hP 1 0 rfl rfl hi13 dX5_takeNotice_55 ?_
        obtain ⟨hi14, hm⟩ := gd_s hm
        refine va_iast hx hb hK.1 hP hD hS 1 0 rfl rfl hi14 dX5_takeNotice_56 (fun H locs hP hD hS => ?_)
        have hP : va_P G.1 vwCl (wMD G b (upd w_5 (367 + v4).toNatClampNeg (w_5 ((367 + v4) + 1).toNatClampNeg)) dep kept mark start) H := hP
        have hD : va_D A (wMD G b (upd w_5 (367 + v4).toNatClampNeg (w_5 ((367 + v4) + 1).toNatClampNeg)) dep kept mark start) := hD
        refine lv_iinc (v := (v4 + 1)) (lv' := [(2, .int (v4 + 1)), (0, .ref (b 0)), (1, .int (w (367 : Int32).toNatClampNeg))]) hx hb dX5_takeNotice_57 hl (k := 2) rfl rfl (by decide) rfl (fun ls hl => ?_)
        refine lv_goto (tgt := 23) hx hb dX5_takeNotice_60 (by decide) ?_
        exact ih7 (v4 + 1) (upd w_5 (367 + v4).toNatClampNeg (w_5 ((367 + v4) + 1).toNatClampNeg)) hm _ _ _ hP hD hS (lv_sub hl [1, 2, 0] rfl)
  exact L8 N 0 (upd w (366 : Int32).toNatClampNeg ((w (366 : Int32).toNatClampNeg) - 1)) hm _ _ _ hP hD hS (lv_sub hl [2, 1, 0] rfl)
def M_X5_notice (N : Nat) (w : Nat → Int32) (p1 : Int32) : Option ((Nat → Int32)) :=
  gd 366 3880 (if (w (366 : Int32).toNatClampNeg) = 20 then ((M_X5_takeNotice N w).bind fun q7 => gd 366 3880 (gd (367 + (q7.2 (366 : Int32).toNatClampNeg)) 3880 (gd 366 3880 (gd 366 3880 (some (upd (upd q7.2 (367 + (q7.2 (366 : Int32).toNatClampNeg)).toNatClampNeg p1) (366 : Int32).toNatClampNeg (((upd q7.2 (367 + (q7.2 (366 : Int32).toNatClampNeg)).toNatClampNeg p1) (366 : Int32).toNatClampNeg) + 1))))))) else (gd 366 3880 (gd (367 + (w (366 : Int32).toNatClampNeg)) 3880 (gd 366 3880 (gd 366 3880 (some (upd (upd w (367 + (w (366 : Int32).toNatClampNeg)).toNatClampNeg p1) (366 : Int32).toNatClampNeg (((upd w (367 + (w (366 : Int32).toNatClampNeg)).toNatClampNeg p1) (366 : Int32).toNatClampNeg) + 1))))))))
theorem w0_X5_notice : Cond.fieldLink RX5 7 "WeakTableHeapModel" "w" "[I" ∈ wsX5_notice := by decide +kernel
theorem w1_X5_notice : ∀ w ∈ u_ws RX5 TX5 5, w ∈ wsX5_notice := by decide +kernel
abbrev rm_X5_notice : Room := { frames := 1, cells := 0, slots := 0, locals := 22 }
set_option maxHeartbeats 4000000 in
set_option maxRecDepth 100000 in
theorem c_X5_notice (l : Launch) (G : GG) (N : Nat) (b : Nat → Nat) (w : Nat → Int32) (dep : Int32) (kept : Nat → Int32) (mark : Nat → Int32) (start : Nat → Int32) (p1 : Int32) (q : (Nat → Int32)) (hm : M_X5_notice N w p1 = some q) : CTv l yX5_notice wsX5_notice rm_X5_notice G [.ref (b 0), .int p1] (wMD G b w dep kept mark start) (wMD G b q dep kept mark start) := by
  intro sz
  refine mk_body (Qc := fun A => (QV G A (wMD G b q dep kept mark start))) (cc := cX5_notice) (maxL := 2) (ret := none) (lv := [(0, .ref (b 0)), (1, .int p1)]) (by decide) rfl rfl (Nat.le_of_ble_eq_true rfl) ?_
  intro p e s m args below meth c A H locs ls hF hr hlocks hname hK hA hP hD hS hl
  obtain ⟨hx, hb, hml, hown, hts⟩ := id hF
  unfold M_X5_notice at hm
  refine lv_aload_n hx hb dX5_notice_0 rfl (lv_at hl 0 rfl) ?_
  refine va_get (D := G.1) (ci := 5) (v := .ref (b 1)) (C := RX5) (T := TX5) (N := 5) hx hb hts w1_X5_notice hown hK.1 hP 0 rfl rfl 0 (by decide) (hts _ w0_X5_notice) (fun _ h9 => h9) rfl dX5_notice_1 ?_
  refine lv_sipush (v := 366) hx hb dX5_notice_4 (by decide) ?_
  obtain ⟨hi1, hm⟩ := gd_s hm
  refine va_iald hx hb hK.1 hP 1 0 rfl rfl hi1 dX5_notice_7 ?_
  refine lv_bipush (v := 20) hx hb dX5_notice_8 (by decide) ?_
  refine lv_icmp_ne (tgt := 18) hx hb dX5_notice_10 (by decide) (fun c2 => ?_) (fun c2 => ?_)
  · replace hm := it_f c2 hm
    refine lv_aload_n hx hb dX5_notice_18 rfl (lv_at hl 0 rfl) ?_
    refine va_get (D := G.1) (ci := 5) (v := .ref (b 1)) (C := RX5) (T := TX5) (N := 5) hx hb hts w1_X5_notice hown hK.1 hP 0 rfl rfl 0 (by decide) (hts _ w0_X5_notice) (fun _ h9 => h9) rfl dX5_notice_19 ?_
    refine lv_sipush (v := 367) hx hb dX5_notice_22 (by decide) ?_
    refine lv_aload_n hx hb dX5_notice_25 rfl (lv_at hl 0 rfl) ?_
    refine va_get (D := G.1) (ci := 5) (v := .ref (b 1)) (C := RX5) (T := TX5) (N := 5) hx hb hts w1_X5_notice hown hK.1 hP 0 rfl rfl 0 (by decide) (hts _ w0_X5_notice) (fun _ h9 => h9) rfl dX5_notice_26 ?_
    refine lv_sipush (v := 366) hx hb dX5_notice_29 (by decide) ?_
    obtain ⟨hi3, hm⟩ := gd_s hm
    refine va_iald hx hb hK.1 hP 1 0 rfl rfl hi3 dX5_notice_32 ?_
    refine lv_iadd hx hb dX5_notice_33 ?_
    refine lv_iload_n hx hb dX5_notice_34 rfl (lv_at hl 1 rfl) ?_
    obtain ⟨hi4, hm⟩ := gd_s hm
    refine va_iast hx hb hK.1 hP hD hS 1 0 rfl rfl hi4 dX5_notice_35 (fun H locs hP hD hS => ?_)
    have hP : va_P G.1 vwCl (wMD G b (upd w (367 + (w (366 : Int32).toNatClampNeg)).toNatClampNeg p1) dep kept mark start) H := hP
    have hD : va_D A (wMD G b (upd w (367 + (w (366 : Int32).toNatClampNeg)).toNatClampNeg p1) dep kept mark start) := hD
    refine lv_aload_n hx hb dX5_notice_36 rfl (lv_at hl 0 rfl) ?_
    refine va_get (D := G.1) (ci := 5) (v := .ref (b 1)) (C := RX5) (T := TX5) (N := 5) hx hb hts w1_X5_notice hown hK.1 hP 0 rfl rfl 0 (by decide) (hts _ w0_X5_notice) (fun _ h9 => h9) rfl dX5_notice_37 ?_
    refine lv_sipush (v := 366) hx hb dX5_notice_40 (by decide) ?_
    refine lv_dup2_11 hx hb dX5_notice_43 rfl rfl ?_
    obtain ⟨hi5, hm⟩ := gd_s hm
    refine va_iald hx hb hK.1 hP 1 0 rfl rfl hi5 dX5_notice_44 ?_
    refine lv_iconst (v := 1) hx hb dX5_notice_45 (by decide) ?_
    refine lv_iadd hx hb dX5_notice_46 ?_
    obtain ⟨hi6, hm⟩ := gd_s hm
    refine va_iast hx hb hK.1 hP hD hS 1 0 rfl rfl hi6 dX5_notice_47 (fun H locs hP hD hS => ?_)
    have hP : va_P G.1 vwCl (wMD G b (upd (upd w (367 + (w (366 : Int32).toNatClampNeg)).toNatClampNeg p1) (366 : Int32).toNatClampNeg (((upd w (367 + (w (366 : Int32).toNatClampNeg)).toNatClampNeg p1) (366 : Int32).toNatClampNeg) + 1)) dep kept mark start) H := hP
    have hD : va_D A (wMD G b (upd (upd w (367 + (w (366 : Int32).toNatClampNeg)).toNatClampNeg p1) (366 : Int32).toNatClampNeg (((upd w (367 + (w (366 : Int32).toNatClampNeg)).toNatClampNeg p1) (366 : Int32).toNatClampNeg) + 1)) dep kept mark start) := hD
    cases hm
    exact rt_v hx hb hr hlocks hP hD hS dX5_notice_48
  · replace hm := it_t c2 hm
    refine lv_aload_n hx hb dX5_notice_13 rfl (lv_at hl 0 rfl) ?_
    obtain ⟨q7, hc8, hm⟩ := bd_s hm
    refine ks_i (wo := (wMD G b q7.2 dep kept mark start)) (rV (As := []) (rest := []) (b := (b 0)) (wi := (wMD G b w dep kept mark start)) hF hK hP hD (c_X5_takeNotice l G N b w dep kept mark start q7 hc8 H.size) (cwV 0 hts gX5_notice_X5_takeNotice rfl rfl rfl (by decide +kernel) ⟨Nat.le_of_ble_eq_true rfl, Nat.le_of_ble_eq_true rfl⟩) (va_recv hK.1 hP (ci := 5) (q0 := 0) rfl rfl) rfl hl.1 rfl (Nat.le_of_ble_eq_true rfl) dX5_notice_14 ⟨Nat.le_of_ble_eq_true rfl, Nat.le_of_ble_eq_true rfl⟩) hD hS hA (fun H locs hP hD hS => ?_)
    have hP : va_P G.1 vwCl (wMD G b q7.2 dep kept mark start) H := hP
    have hD : va_D A (wMD G b q7.2 dep kept mark start) := hD
    refine lv_pop hx hb dX5_notice_17 rfl ?_
    refine lv_aload_n hx hb dX5_notice_18 rfl (lv_at hl 0 rfl) ?_
    refine va_get (D := G.1) (ci := 5) (v := .ref (b 1)) (C := RX5) (T := TX5) (N := 5) hx hb hts w1_X5_notice hown hK.1 hP 0 rfl rfl 0 (by decide) (hts _ w0_X5_notice) (fun _ h9 => h9) rfl dX5_notice_19 ?_
    refine lv_sipush (v := 367) hx hb dX5_notice_22 (by decide) ?_
    refine lv_aload_n hx hb dX5_notice_25 rfl (lv_at hl 0 rfl) ?_
    refine va_get (D := G.1) (ci := 5) (v := .ref (b 1)) (C := RX5) (T := TX5) (N := 5) hx hb hts w1_X5_notice hown hK.1 hP 0 rfl rfl 0 (by decide) (hts _ w0_X5_notice) (fun _ h9 => h9) rfl dX5_notice_26 ?_
    refine lv_sipush (v := 366) hx hb dX5_notice_29 (by decide) ?_
    obtain ⟨hi9, hm⟩ := gd_s hm
    refine va_iald hx hb hK.1 hP 1 0 rfl rfl hi9 dX5_notice_32 ?_
    refine lv_iadd hx hb dX5_notice_33 ?_
    refine lv_iload_n hx hb dX5_notice_34 rfl (lv_at hl 1 rfl) ?_
    obtain ⟨hi10, hm⟩ := gd_s hm
    refine va_iast hx hb hK.1 hP hD hS 1 0 rfl rfl hi10 dX5_notice_35 (fun H locs hP hD hS => ?_)
    have hP : va_P G.1 vwCl (wMD G b (upd q7.2 (367 + (q7.2 (366 : Int32).toNatClampNeg)).toNatClampNeg p1) dep kept mark start) H := hP
    have hD : va_D A (wMD G b (upd q7.2 (367 + (q7.2 (366 : Int32).toNatClampNeg)).toNatClampNeg p1) dep kept mark start) := hD
    refine lv_aload_n hx hb dX5_notice_36 rfl (lv_at hl 0 rfl) ?_
    refine va_get (D := G.1) (ci := 5) (v := .ref (b 1)) (C := RX5) (T := TX5) (N := 5) hx hb hts w1_X5_notice hown hK.1 hP 0 rfl rfl 0 (by decide) (hts _ w0_X5_notice) (fun _ h9 => h9) rfl dX5_notice_37 ?_
    refine lv_sipush (v := 366) hx hb dX5_notice_40 (by decide) ?_
    refine lv_dup2_11 hx hb dX5_notice_43 rfl rfl ?_
    obtain ⟨hi11, hm⟩ := gd_s hm
    refine va_iald hx hb hK.1 hP 1 0 rfl rfl hi11 dX5_notice_44 ?_
    refine lv_iconst (v := 1) hx hb dX5_notice_45 (by decide) ?_
    refine lv_iadd hx hb dX5_notice_46 ?_
    obtain ⟨hi12, hm⟩ := gd_s hm
    refine va_iast hx hb hK.1 hP hD hS 1 0 rfl rfl hi12 dX5_notice_47 (fun H locs hP hD hS => ?_)
    have hP : va_P G.1 vwCl (wMD G b (upd (upd q7.2 (367 + (q7.2 (366 : Int32).toNatClampNeg)).toNatClampNeg p1) (366 : Int32).toNatClampNeg (((upd q7.2 (367 + (q7.2 (366 : Int32).toNatClampNeg)).toNatClampNeg p1) (366 : Int32).toNatClampNeg) + 1)) dep kept mark start) H := hP
    have hD : va_D A (wMD G b (upd (upd q7.2 (367 + (q7.2 (366 : Int32).toNatClampNeg)).toNatClampNeg p1) (366 : Int32).toNatClampNeg (((upd q7.2 (367 + (q7.2 (366 : Int32).toNatClampNeg)).toNatClampNeg p1) (366 : Int32).toNatClampNeg) + 1)) dep kept mark start) := hD
    cases hm
    exact rt_v hx hb hr hlocks hP hD hS dX5_notice_48
def M_X5_emptyWeak_L2 (N : Nat) (mark : Nat → Int32) (p1 : Int32) : Nat → (Int32) → (Nat → Int32) → Option ((Nat → Int32))
  | 0, _, _ => none
  | n3 + 1, v1, w_2 => if 24 ≤ v1 then (some w_2) else (gd v1 24 (if (mark v1.toNatClampNeg) = (-9) then (M_X5_emptyWeak_L2 N mark p1 n3 (v1 + 1) w_2) else ((M_X5_part w_2 v1 0).bind fun q10 => if q10 = 2 then ((M_X5_part w_2 v1 3).bind fun q14 => if q14 = (-9) then (M_X5_emptyWeak_L2 N mark p1 n3 (v1 + 1) w_2) else ((M_X5_part w_2 v1 3).bind fun q19 => gd q19 24 (if (mark q19.toNatClampNeg) = (-9) then (gd ((15 * v1) + 3) 3880 (if p1 = 0 then (M_X5_emptyWeak_L2 N mark p1 n3 (v1 + 1) (upd w_2 ((15 * v1) + 3).toNatClampNeg (-9))) else ((M_X5_notice N (upd w_2 ((15 * v1) + 3).toNatClampNeg (-9)) (1000 + v1)).bind fun q25 => M_X5_emptyWeak_L2 N mark p1 n3 (v1 + 1) q25))) else (M_X5_emptyWeak_L2 N mark p1 n3 (v1 + 1) w_2)))) else (M_X5_emptyWeak_L2 N mark p1 n3 (v1 + 1) w_2))))
def M_X5_emptyWeak (N : Nat) (w : Nat → Int32) (mark : Nat → Int32) (p1 : Int32) : Option ((Nat → Int32)) :=
  M_X5_emptyWeak_L2 N mark p1 N 0 w
theorem w0_X5_emptyWeak : Cond.fieldLink RX5 17 "WeakTableHeapModel" "mark" "[I" ∈ wsX5_emptyWeak := by decide +kernel
theorem w1_X5_emptyWeak : ∀ w ∈ u_ws RX5 TX5 5, w ∈ wsX5_emptyWeak := by decide +kernel
theorem w2_X5_emptyWeak : Cond.fieldLink RX5 7 "WeakTableHeapModel" "w" "[I" ∈ wsX5_emptyWeak := by decide +kernel
abbrev rm_X5_emptyWeak : Room := { frames := 2, cells := 0, slots := 0, locals := 43 }
set_option maxHeartbeats 4000000 in
set_option maxRecDepth 100000 in
theorem c_X5_emptyWeak (l : Launch) (G : GG) (N : Nat) (b : Nat → Nat) (w : Nat → Int32) (dep : Int32) (kept : Nat → Int32) (mark : Nat → Int32) (start : Nat → Int32) (p1 : Int32) (q : (Nat → Int32)) (hm : M_X5_emptyWeak N w mark p1 = some q) : CTv l yX5_emptyWeak wsX5_emptyWeak rm_X5_emptyWeak G [.ref (b 0), .int p1] (wMD G b w dep kept mark start) (wMD G b q dep kept mark start) := by
  intro sz
  refine mk_body (Qc := fun A => (QV G A (wMD G b q dep kept mark start))) (cc := cX5_emptyWeak) (maxL := 4) (ret := none) (lv := [(0, .ref (b 0)), (1, .int p1)]) (by decide) rfl rfl (Nat.le_of_ble_eq_true rfl) ?_
  intro p e s m args below meth c A H locs ls hF hr hlocks hname hK hA hP hD hS hl
  obtain ⟨hx, hb, hml, hown, hts⟩ := id hF
  unfold M_X5_emptyWeak at hm
  refine lv_iconst (v := 0) hx hb dX5_emptyWeak_0 (by decide) ?_
  refine lv_istore_n (lv' := [(2, .int 0), (0, .ref (b 0)), (1, .int p1)]) hx hb dX5_emptyWeak_1 rfl hl (by decide) rfl (fun ls hl => ?_)
  have L5 : ∀ (n3 : Nat) (v1 : Int32) (w_2 : Nat → Int32), M_X5_emptyWeak_L2 N mark p1 n3 v1 w_2 = some q → ∀ (H : Heap) (locs : List Loc) (ls : Array Slot), va_P G.1 vwCl (wMD G b w_2 dep kept mark start) H → va_D A (wMD G b w_2 dep kept mark start) → va_S A s.heap H locs → lv_has ls 4 [(0, .ref (b 0)), (1, .int p1), (2, .int v1)] → W p l e rm_X5_emptyWeak s m args below meth c H locs 0 0 (MQ below (QV G A (wMD G b q dep kept mark start)) args s rm_X5_emptyWeak.cells rm_X5_emptyWeak.slots A) (F0 m 2 ls []) := by
    intro n3
    induction n3 with
    | zero => intro v1 w_2 hm; cases hm
    | succ n3 ih4 =>
      intro v1 w_2 hm H locs ls hP hD hS hl
      rw [M_X5_emptyWeak_L2] at hm
      refine lv_iload_n hx hb dX5_emptyWeak_2 rfl (lv_at hl 2 rfl) ?_
      refine lv_bipush (v := 24) hx hb dX5_emptyWeak_3 (by decide) ?_
      refine lv_icmp_ge (tgt := 98) hx hb dX5_emptyWeak_5 (by decide) (fun c6 => ?_) (fun c6 => ?_)
      · replace hm := it_t c6 hm
        cases hm
        exact rt_v hx hb hr hlocks hP hD hS dX5_emptyWeak_98
      · replace hm := it_f c6 hm
        refine lv_aload_n hx hb dX5_emptyWeak_8 rfl (lv_at hl 0 rfl) ?_
        refine va_get (D := G.1) (ci := 5) (v := .ref (b 3)) (C := RX5) (T := TX5) (N := 5) hx hb hts w1_X5_emptyWeak hown hK.1 hP 0 rfl rfl 3 (by decide) (hts _ w0_X5_emptyWeak) (fun _ h9 => h9) rfl dX5_emptyWeak_9 ?_
        refine lv_iload_n hx hb dX5_emptyWeak_12 rfl (lv_at hl 2 rfl) ?_
        obtain ⟨hi7, hm⟩ := gd_s hm
        refine va_iald hx hb hK.1 hP 3 0 rfl rfl hi7 dX5_emptyWeak_13 ?_
        refine lv_bipush (v := (-9)) hx hb dX5_emptyWeak_14 (by decide) ?_
        refine lv_icmp_eq (tgt := 44) hx hb dX5_emptyWeak_16 (by decide) (fun c8 => ?_) (fun c8 => ?_)
        · replace hm := it_t c8 hm
          refine lv_iconst (v := 0) hx hb dX5_emptyWeak_44 (by decide) ?_
          refine lv_istore_n (lv' := [(3, .int 0), (0, .ref (b 0)), (1, .int p1), (2, .int v1)]) hx hb dX5_emptyWeak_45 rfl hl (by decide) rfl (fun ls hl => ?_)
          refine lv_iload_n hx hb dX5_emptyWeak_46 rfl (lv_at hl 0 rfl) ?_
          refine lv_if_eq (tgt := 92) hx hb dX5_emptyWeak_47 (by decide) (fun _ => ?_) (fun h9 => absurd (by decide) h9)
          refine lv_iinc (v := (v1 + 1)) (lv' := [(2, .int (v1 + 1)), (3, .int 0), (0, .ref (b 0)), (1, .int p1)]) hx hb dX5_emptyWeak_92 hl (k := 3) rfl rfl (by decide) rfl (fun ls hl => ?_)
          refine lv_goto (tgt := 2) hx hb dX5_emptyWeak_95 (by decide) ?_
          exact ih4 (v1 + 1) w_2 hm _ _ _ hP hD hS (lv_sub hl [2, 3, 0] rfl)
        · replace hm := it_f c8 hm
          refine lv_aload_n hx hb dX5_emptyWeak_19 rfl (lv_at hl 0 rfl) ?_
          refine lv_iload_n hx hb dX5_emptyWeak_20 rfl (lv_at hl 2 rfl) ?_
          refine lv_iconst (v := 0) hx hb dX5_emptyWeak_21 (by decide) ?_
          obtain ⟨q10, hc11, hm⟩ := bd_s hm
          refine ks_i (wo := (wMD G b w_2 dep kept mark start)) (rV (As := [.int v1, .int 0]) (rest := []) (b := (b 0)) (wi := (wMD G b w_2 dep kept mark start)) hF hK hP hD (c_X5_part l G b w_2 dep kept mark start v1 0 q10 hc11 H.size) (cwV 2 hts gX5_emptyWeak_X5_part rfl rfl rfl (by decide +kernel) ⟨Nat.le_of_ble_eq_true rfl, Nat.le_of_ble_eq_true rfl⟩) (va_recv hK.1 hP (ci := 5) (q0 := 0) rfl rfl) rfl hl.1 rfl (Nat.le_of_ble_eq_true rfl) dX5_emptyWeak_22 ⟨Nat.le_of_ble_eq_true rfl, Nat.le_of_ble_eq_true rfl⟩) hD hS hA (fun H locs hP hD hS => ?_)
          have hP : va_P G.1 vwCl (wMD G b w_2 dep kept mark start) H := hP
          have hD : va_D A (wMD G b w_2 dep kept mark start) := hD
          refine lv_iconst (v := 2) hx hb dX5_emptyWeak_25 (by decide) ?_
          refine lv_icmp_ne (tgt := 44) hx hb dX5_emptyWeak_26 (by decide) (fun c12 => ?_) (fun c12 => ?_)
          · replace hm := it_f c12 hm
            refine lv_iconst (v := 0) hx hb dX5_emptyWeak_44 (by decide) ?_
            refine lv_istore_n (lv' := [(3, .int 0), (0, .ref (b 0)), (1, .int p1), (2, .int v1)]) hx hb dX5_emptyWeak_45 rfl hl (by decide) rfl (fun ls hl => ?_)
            refine lv_iload_n hx hb dX5_emptyWeak_46 rfl (lv_at hl 0 rfl) ?_
            refine lv_if_eq (tgt := 92) hx hb dX5_emptyWeak_47 (by decide) (fun _ => ?_) (fun h9 => absurd (by decide) h9)
            refine lv_iinc (v := (v1 + 1)) (lv' := [(2, .int (v1 + 1)), (3, .int 0), (0, .ref (b 0)), (1, .int p1)]) hx hb dX5_emptyWeak_92 hl (k := 3) rfl rfl (by decide) rfl (fun ls hl => ?_)
            refine lv_goto (tgt := 2) hx hb dX5_emptyWeak_95 (by decide) ?_
            exact ih4 (v1 + 1) w_2 hm _ _ _ hP hD hS (lv_sub hl [2, 3, 0] rfl)
          · replace hm := it_t c12 hm
            refine lv_aload_n hx hb dX5_emptyWeak_29 rfl (lv_at hl 0 rfl) ?_
            refine lv_iload_n hx hb dX5_emptyWeak_30 rfl (lv_at hl 2 rfl) ?_
            refine lv_iconst (v := 3) hx hb dX5_emptyWeak_31 (by decide) ?_
            obtain ⟨q14, hc15, hm⟩ := bd_s hm
            refine ks_i (wo := (wMD G b w_2 dep kept mark start)) (rV (As := [.int v1, .int 3]) (rest := []) (b := (b 0)) (wi := (wMD G b w_2 dep kept mark start)) hF hK hP hD (c_X5_part l G b w_2 dep kept mark start v1 3 q14 hc15 H.size) (cwV 2 hts gX5_emptyWeak_X5_part rfl rfl rfl (by decide +kernel) ⟨Nat.le_of_ble_eq_true rfl, Nat.le_of_ble_eq_true rfl⟩) (va_recv hK.1 hP (ci := 5) (q0 := 0) rfl rfl) rfl hl.1 rfl (Nat.le_of_ble_eq_true rfl) dX5_emptyWeak_32 ⟨Nat.le_of_ble_eq_true rfl, Nat.le_of_ble_eq_true rfl⟩) hD hS hA (fun H locs hP hD hS => ?_)
            have hP : va_P G.1 vwCl (wMD G b w_2 dep kept mark start) H := hP
            have hD : va_D A (wMD G b w_2 dep kept mark start) := hD
            refine lv_bipush (v := (-9)) hx hb dX5_emptyWeak_35 (by decide) ?_
            refine lv_icmp_eq (tgt := 44) hx hb dX5_emptyWeak_37 (by decide) (fun c16 => ?_) (fun c16 => ?_)
            · replace hm := it_t c16 hm
              refine lv_iconst (v := 0) hx hb dX5_emptyWeak_44 (by decide) ?_
              refine lv_istore_n (lv' := [(3, .int 0), (0, .ref (b 0)), (1, .int p1), (2, .int v1)]) hx hb dX5_emptyWeak_45 rfl hl (by decide) rfl (fun ls hl => ?_)
              refine lv_iload_n hx hb dX5_emptyWeak_46 rfl (lv_at hl 0 rfl) ?_
              refine lv_if_eq (tgt := 92) hx hb dX5_emptyWeak_47 (by decide) (fun _ => ?_) (fun h9 => absurd (by decide) h9)
              refine lv_iinc (v := (v1 + 1)) (lv' := [(2, .int (v1 + 1)), (3, .int 0), (0, .ref (b 0)), (1, .int p1)]) hx hb dX5_emptyWeak_92 hl (k := 3) rfl rfl (by decide) rfl (fun ls hl => ?_)
              refine lv_goto (tgt := 2) hx hb dX5_emptyWeak_95 (by decide) ?_
              exact ih4 (v1 + 1) w_2 hm _ _ _ hP hD hS (lv_sub hl [2, 3, 0] rfl)
            · replace hm := it_f c16 hm
              refine lv_iconst (v := 1) hx hb dX5_emptyWeak_40 (by decide) ?_
              refine lv_goto (tgt := 45) hx hb dX5_emptyWeak_41 (by decide) ?_
              refine lv_istore_n (lv' := [(3, .int 1), (0, .ref (b 0)), (1, .int p1), (2, .int v1)]) hx hb dX5_emptyWeak_45 rfl hl (by decide) rfl (fun ls hl => ?_)
              refine lv_iload_n hx hb dX5_emptyWeak_46 rfl (lv_at hl 0 rfl) ?_
              refine lv_if_eq (tgt := 92) hx hb dX5_emptyWeak_47 (by decide) (fun h9 => absurd h9 (by decide)) (fun _ => ?_)
              refine lv_aload_n hx hb dX5_emptyWeak_50 rfl (lv_at hl 1 rfl) ?_
              refine va_get (D := G.1) (ci := 5) (v := .ref (b 3)) (C := RX5) (T := TX5) (N := 5) hx hb hts w1_X5_emptyWeak hown hK.1 hP 0 rfl rfl 3 (by decide) (hts _ w0_X5_emptyWeak) (fun _ h9 => h9) rfl dX5_emptyWeak_51 ?_
              refine lv_aload_n hx hb dX5_emptyWeak_54 rfl (lv_at hl 1 rfl) ?_
              refine lv_iload_n hx hb dX5_emptyWeak_55 rfl (lv_at hl 3 rfl) ?_
              refine lv_iconst (v := 3) hx hb dX5_emptyWeak_56 (by decide) ?_
              obtain ⟨q19, hc20, hm⟩ := bd_s hm
              refine ks_i (wo := (wMD G b w_2 dep kept mark start)) (rV (As := [.int v1, .int 3]) (rest := [.ref (b 3)]) (b := (b 0)) (wi := (wMD G b w_2 dep kept mark start)) hF hK hP hD (c_X5_part l G b w_2 dep kept mark start v1 3 q19 hc20 H.size) (cwV 2 hts gX5_emptyWeak_X5_part rfl rfl rfl (by decide +kernel) ⟨Nat.le_of_ble_eq_true rfl, Nat.le_of_ble_eq_true rfl⟩) (va_recv hK.1 hP (ci := 5) (q0 := 0) rfl rfl) rfl hl.1 rfl (Nat.le_of_ble_eq_true rfl) dX5_emptyWeak_57 ⟨Nat.le_of_ble_eq_true rfl, Nat.le_of_ble_eq_true rfl⟩) hD hS hA (fun H locs hP hD hS => ?_)
              have hP : va_P G.1 vwCl (wMD G b w_2 dep kept mark start) H := hP
              have hD : va_D A (wMD G b w_2 dep kept mark start) := hD
              obtain ⟨hi21, hm⟩ := gd_s hm
              refine va_iald hx hb hK.1 hP 3 0 rfl rfl hi21 dX5_emptyWeak_60 ?_
              refine lv_bipush (v := (-9)) hx hb dX5_emptyWeak_61 (by decide) ?_
              refine lv_icmp_ne (tgt := 92) hx hb dX5_emptyWeak_63 (by decide) (fun c22 => ?_) (fun c22 => ?_)
              · replace hm := it_f c22 hm
                refine lv_iinc (v := (v1 + 1)) (lv' := [(2, .int (v1 + 1)), (3, .int 1), (0, .ref (b 0)), (1, .int p1)]) hx hb dX5_emptyWeak_92 hl (k := 3) rfl rfl (by decide) rfl (fun ls hl => ?_)
                refine lv_goto (tgt := 2) hx hb dX5_emptyWeak_95 (by decide) ?_
                exact ih4 (v1 + 1) w_2 hm _ _ _ hP hD hS (lv_sub hl [2, 3, 0] rfl)
              · replace hm := it_t c22 hm
                refine lv_aload_n hx hb dX5_emptyWeak_66 rfl (lv_at hl 1 rfl) ?_
                refine va_get (D := G.1) (ci := 5) (v := .ref (b 1)) (C := RX5) (T := TX5) (N := 5) hx hb hts w1_X5_emptyWeak hown hK.1 hP 0 rfl rfl 0 (by decide) (hts _ w2_X5_emptyWeak) (fun _ h9 => h9) rfl dX5_emptyWeak_67 ?_
                refine lv_bipush (v := 15) hx hb dX5_emptyWeak_70 (by decide) ?_
                refine lv_iload_n hx hb dX5_emptyWeak_72 rfl (lv_at hl 3 rfl) ?_
                refine lv_imul hx hb dX5_emptyWeak_73 ?_
                refine lv_iconst (v := 3) hx hb dX5_emptyWeak_74 (by decide) ?_
                refine lv_iadd hx hb dX5_emptyWeak_75 ?_
                refine lv_bipush (v := (-9)) hx hb dX5_emptyWeak_76 (by decide) ?_
                obtain ⟨hi23, hm⟩ := gd_s hm
                refine va_iast hx hb hK.1 hP hD hS 1 0 rfl rfl hi23 dX5_emptyWeak_78 (fun H locs hP hD hS => ?_)
                have hP : va_P G.1 vwCl (wMD G b (upd w_2 ((15 * v1) + 3).toNatClampNeg (-9)) dep kept mark start) H := hP
                have hD : va_D A (wMD G b (upd w_2 ((15 * v1) + 3).toNatClampNeg (-9)) dep kept mark start) := hD
                refine lv_iload_n hx hb dX5_emptyWeak_79 rfl (lv_at hl 2 rfl) ?_
                refine lv_if_eq (tgt := 92) hx hb dX5_emptyWeak_80 (by decide) (fun c24 => ?_) (fun c24 => ?_)
                · replace hm := it_t c24 hm
                  refine lv_iinc (v := (v1 + 1)) (lv' := [(2, .int (v1 + 1)), (3, .int 1), (0, .ref (b 0)), (1, .int p1)]) hx hb dX5_emptyWeak_92 hl (k := 3) rfl rfl (by decide) rfl (fun ls hl => ?_)
                  refine lv_goto (tgt := 2) hx hb dX5_emptyWeak_95 (by decide) ?_
                  exact ih4 (v1 + 1) (upd w_2 ((15 * v1) + 3).toNatClampNeg (-9)) hm _ _ _ hP hD hS (lv_sub hl [2, 3, 0] rfl)
                · replace hm := it_f c24 hm
                  refine lv_aload_n hx hb dX5_emptyWeak_83 rfl (lv_at hl 1 rfl) ?_
                  refine lv_sipush (v := 1000) hx hb dX5_emptyWeak_84 (by decide) ?_
                  refine lv_iload_n hx hb dX5_emptyWeak_87 rfl (lv_at hl 3 rfl) ?_
                  refine lv_iadd hx hb dX5_emptyWeak_88 ?_
                  obtain ⟨q25, hc26, hm⟩ := bd_s hm
                  refine ks_v (wo := (wMD G b q25 dep kept mark start)) (rV (As := [.int (1000 + v1)]) (rest := []) (b := (b 0)) (wi := (wMD G b (upd w_2 ((15 * v1) + 3).toNatClampNeg (-9)) dep kept mark start)) hF hK hP hD (c_X5_notice l G N b (upd w_2 ((15 * v1) + 3).toNatClampNeg (-9)) dep kept mark start (1000 + v1) q25 hc26 H.size) (cwV 1 hts gX5_emptyWeak_X5_notice rfl rfl rfl (by decide +kernel) ⟨Nat.le_of_ble_eq_true rfl, Nat.le_of_ble_eq_true rfl⟩) (va_recv hK.1 hP (ci := 5) (q0 := 0) rfl rfl) rfl hl.1 rfl (Nat.le_of_ble_eq_true rfl) dX5_emptyWeak_89 ⟨Nat.le_of_ble_eq_true rfl, Nat.le_of_ble_eq_true rfl⟩) hD hS hA (fun H locs hP hD hS => ?_)
                  have hP : va_P G.1 vwCl (wMD G b q25 dep kept mark start) H := hP
                  have hD : va_D A (wMD G b q25 dep kept mark start) := hD
                  refine lv_iinc (v := (v1 + 1)) (lv' := [(2, .int (v1 + 1)), (3, .int 1), (0, .ref (b 0)), (1, .int p1)]) hx hb dX5_emptyWeak_92 hl (k := 3) rfl rfl (by decide) rfl (fun ls hl => ?_)
                  refine lv_goto (tgt := 2) hx hb dX5_emptyWeak_95 (by decide) ?_
                  exact ih4 (v1 + 1) q25 hm _ _ _ hP hD hS (lv_sub hl [2, 3, 0] rfl)
  exact L5 N 0 w hm _ _ _ hP hD hS (lv_sub hl [1, 2, 0] rfl)
def M_X5_finalizeAll_L2 (N : Nat) (mark : Nat → Int32) : Nat → (Int32) → (Nat → Int32) → (Nat → Int32) → Option ((Nat → Int32) × (Nat → Int32))
  | 0, _, _, _ => none
  | n4 + 1, v1, w_2, start_3 => if 24 ≤ v1 then (some (w_2, start_3)) else (gd v1 24 (if (mark v1.toNatClampNeg) = (-9) then ((M_X5_isAllocated w_2 v1).bind fun q10 => if q10 = 0 then (M_X5_finalizeAll_L2 N mark n4 (v1 + 1) w_2 start_3) else ((M_X5_part w_2 v1 1).bind fun q13 => if q13 = 1 then ((M_X5_notice N w_2 (3000 + v1)).bind fun q16 => gd ((15 * v1) + 1) 3880 (gd v1 24 (M_X5_finalizeAll_L2 N mark n4 (v1 + 1) (upd q16 ((15 * v1) + 1).toNatClampNeg 0) (upd start_3 v1.toNatClampNeg (vp_nar .boolean 1))))) else (M_X5_finalizeAll_L2 N mark n4 (v1 + 1) w_2 start_3))) else (M_X5_finalizeAll_L2 N mark n4 (v1 + 1) w_2 start_3)))
def M_X5_finalizeAll (N : Nat) (w : Nat → Int32) (mark : Nat → Int32) (start : Nat → Int32) : Option ((Nat → Int32) × (Nat → Int32)) :=
  M_X5_finalizeAll_L2 N mark N 0 w start
theorem w0_X5_finalizeAll : Cond.fieldLink RX5 17 "WeakTableHeapModel" "mark" "[I" ∈ wsX5_finalizeAll := by decide +kernel
theorem w1_X5_finalizeAll : ∀ w ∈ u_ws RX5 TX5 5, w ∈ wsX5_finalizeAll := by decide +kernel
theorem w2_X5_finalizeAll : Cond.fieldLink RX5 7 "WeakTableHeapModel" "w" "[I" ∈ wsX5_finalizeAll := by decide +kernel
theorem w3_X5_finalizeAll : Cond.fieldLink RX5 20 "WeakTableHeapModel" "start" "[Z" ∈ wsX5_finalizeAll := by decide +kernel
abbrev rm_X5_finalizeAll : Room := { frames := 2, cells := 0, slots := 0, locals := 43 }
set_option maxHeartbeats 4000000 in
set_option maxRecDepth 100000 in
theorem c_X5_finalizeAll (l : Launch) (G : GG) (N : Nat) (b : Nat → Nat) (w : Nat → Int32) (dep : Int32) (kept : Nat → Int32) (mark : Nat → Int32) (start : Nat → Int32) (q : (Nat → Int32) × (Nat → Int32)) (hm : M_X5_finalizeAll N w mark start = some q) : CTv l yX5_finalizeAll wsX5_finalizeAll rm_X5_finalizeAll G [.ref (b 0)] (wMD G b w dep kept mark start) (wMD G b q.1 dep kept mark q.2) := by
  intro sz
  refine mk_body (Qc := fun A => (QV G A (wMD G b q.1 dep kept mark q.2))) (cc := cX5_finalizeAll) (maxL := 2) (ret := none) (lv := [(0, .ref (b 0))]) (by decide) rfl rfl (Nat.le_of_ble_eq_true rfl) ?_
  intro p e s m args below meth c A H locs ls hF hr hlocks hname hK hA hP hD hS hl
  obtain ⟨hx, hb, hml, hown, hts⟩ := id hF
  unfold M_X5_finalizeAll at hm
  refine lv_iconst (v := 0) hx hb dX5_finalizeAll_0 (by decide) ?_
  refine lv_istore_n (lv' := [(1, .int 0), (0, .ref (b 0))]) hx hb dX5_finalizeAll_1 rfl hl (by decide) rfl (fun ls hl => ?_)
  have L6 : ∀ (n4 : Nat) (v1 : Int32) (w_2 : Nat → Int32) (start_3 : Nat → Int32), M_X5_finalizeAll_L2 N mark n4 v1 w_2 start_3 = some q → ∀ (H : Heap) (locs : List Loc) (ls : Array Slot), va_P G.1 vwCl (wMD G b w_2 dep kept mark start_3) H → va_D A (wMD G b w_2 dep kept mark start_3) → va_S A s.heap H locs → lv_has ls 2 [(0, .ref (b 0)), (1, .int v1)] → W p l e rm_X5_finalizeAll s m args below meth c H locs 0 0 (MQ below (QV G A (wMD G b q.1 dep kept mark q.2)) args s rm_X5_finalizeAll.cells rm_X5_finalizeAll.slots A) (F0 m 2 ls []) := by
    intro n4
    induction n4 with
    | zero => intro v1 w_2 start_3 hm; cases hm
    | succ n4 ih5 =>
      intro v1 w_2 start_3 hm H locs ls hP hD hS hl
      rw [M_X5_finalizeAll_L2] at hm
      refine lv_iload_n hx hb dX5_finalizeAll_2 rfl (lv_at hl 1 rfl) ?_
      refine lv_bipush (v := 24) hx hb dX5_finalizeAll_3 (by decide) ?_
      refine lv_icmp_ge (tgt := 71) hx hb dX5_finalizeAll_5 (by decide) (fun c7 => ?_) (fun c7 => ?_)
      · replace hm := it_t c7 hm
        cases hm
        exact rt_v hx hb hr hlocks hP hD hS dX5_finalizeAll_71
      · replace hm := it_f c7 hm
        refine lv_aload_n hx hb dX5_finalizeAll_8 rfl (lv_at hl 0 rfl) ?_
        refine va_get (D := G.1) (ci := 5) (v := .ref (b 3)) (C := RX5) (T := TX5) (N := 5) hx hb hts w1_X5_finalizeAll hown hK.1 hP 0 rfl rfl 3 (by decide) (hts _ w0_X5_finalizeAll) (fun _ h9 => h9) rfl dX5_finalizeAll_9 ?_
        refine lv_iload_n hx hb dX5_finalizeAll_12 rfl (lv_at hl 1 rfl) ?_
        obtain ⟨hi8, hm⟩ := gd_s hm
        refine va_iald hx hb hK.1 hP 3 0 rfl rfl hi8 dX5_finalizeAll_13 ?_
        refine lv_bipush (v := (-9)) hx hb dX5_finalizeAll_14 (by decide) ?_
        refine lv_icmp_ne (tgt := 65) hx hb dX5_finalizeAll_16 (by decide) (fun c9 => ?_) (fun c9 => ?_)
        · replace hm := it_f c9 hm
          refine lv_iinc (v := (v1 + 1)) (lv' := [(1, .int (v1 + 1)), (0, .ref (b 0))]) hx hb dX5_finalizeAll_65 hl (k := 1) rfl rfl (by decide) rfl (fun ls hl => ?_)
          refine lv_goto (tgt := 2) hx hb dX5_finalizeAll_68 (by decide) ?_
          exact ih5 (v1 + 1) w_2 start_3 hm _ _ _ hP hD hS (lv_sub hl [1, 0] rfl)
        · replace hm := it_t c9 hm
          refine lv_aload_n hx hb dX5_finalizeAll_19 rfl (lv_at hl 0 rfl) ?_
          refine lv_iload_n hx hb dX5_finalizeAll_20 rfl (lv_at hl 1 rfl) ?_
          obtain ⟨q10, hc11, hm⟩ := bd_s hm
          refine ks_i (wo := (wMD G b w_2 dep kept mark start_3)) (rV (As := [.int v1]) (rest := []) (b := (b 0)) (wi := (wMD G b w_2 dep kept mark start_3)) hF hK hP hD (c_X5_isAllocated l G b w_2 dep kept mark start_3 v1 q10 hc11 H.size) (cwV 1 hts gX5_finalizeAll_X5_isAllocated rfl rfl rfl (by decide +kernel) ⟨Nat.le_of_ble_eq_true rfl, Nat.le_of_ble_eq_true rfl⟩) (va_recv hK.1 hP (ci := 5) (q0 := 0) rfl rfl) rfl hl.1 rfl (Nat.le_of_ble_eq_true rfl) dX5_finalizeAll_21 ⟨Nat.le_of_ble_eq_true rfl, Nat.le_of_ble_eq_true rfl⟩) hD hS hA (fun H locs hP hD hS => ?_)
          have hP : va_P G.1 vwCl (wMD G b w_2 dep kept mark start_3) H := hP
          have hD : va_D A (wMD G b w_2 dep kept mark start_3) := hD
          refine lv_if_eq (tgt := 65) hx hb dX5_finalizeAll_24 (by decide) (fun c12 => ?_) (fun c12 => ?_)
          · replace hm := it_t c12 hm
            refine lv_iinc (v := (v1 + 1)) (lv' := [(1, .int (v1 + 1)), (0, .ref (b 0))]) hx hb dX5_finalizeAll_65 hl (k := 1) rfl rfl (by decide) rfl (fun ls hl => ?_)
            refine lv_goto (tgt := 2) hx hb dX5_finalizeAll_68 (by decide) ?_
            exact ih5 (v1 + 1) w_2 start_3 hm _ _ _ hP hD hS (lv_sub hl [1, 0] rfl)
          · replace hm := it_f c12 hm
            refine lv_aload_n hx hb dX5_finalizeAll_27 rfl (lv_at hl 0 rfl) ?_
            refine lv_iload_n hx hb dX5_finalizeAll_28 rfl (lv_at hl 1 rfl) ?_
            refine lv_iconst (v := 1) hx hb dX5_finalizeAll_29 (by decide) ?_
            obtain ⟨q13, hc14, hm⟩ := bd_s hm
            refine ks_i (wo := (wMD G b w_2 dep kept mark start_3)) (rV (As := [.int v1, .int 1]) (rest := []) (b := (b 0)) (wi := (wMD G b w_2 dep kept mark start_3)) hF hK hP hD (c_X5_part l G b w_2 dep kept mark start_3 v1 1 q13 hc14 H.size) (cwV 2 hts gX5_finalizeAll_X5_part rfl rfl rfl (by decide +kernel) ⟨Nat.le_of_ble_eq_true rfl, Nat.le_of_ble_eq_true rfl⟩) (va_recv hK.1 hP (ci := 5) (q0 := 0) rfl rfl) rfl hl.1 rfl (Nat.le_of_ble_eq_true rfl) dX5_finalizeAll_30 ⟨Nat.le_of_ble_eq_true rfl, Nat.le_of_ble_eq_true rfl⟩) hD hS hA (fun H locs hP hD hS => ?_)
            have hP : va_P G.1 vwCl (wMD G b w_2 dep kept mark start_3) H := hP
            have hD : va_D A (wMD G b w_2 dep kept mark start_3) := hD
            refine lv_iconst (v := 1) hx hb dX5_finalizeAll_33 (by decide) ?_
            refine lv_icmp_ne (tgt := 65) hx hb dX5_finalizeAll_34 (by decide) (fun c15 => ?_) (fun c15 => ?_)
            · replace hm := it_f c15 hm
              refine lv_iinc (v := (v1 + 1)) (lv' := [(1, .int (v1 + 1)), (0, .ref (b 0))]) hx hb dX5_finalizeAll_65 hl (k := 1) rfl rfl (by decide) rfl (fun ls hl => ?_)
              refine lv_goto (tgt := 2) hx hb dX5_finalizeAll_68 (by decide) ?_
              exact ih5 (v1 + 1) w_2 start_3 hm _ _ _ hP hD hS (lv_sub hl [1, 0] rfl)
            · replace hm := it_t c15 hm
              refine lv_aload_n hx hb dX5_finalizeAll_37 rfl (lv_at hl 0 rfl) ?_
              refine lv_sipush (v := 3000) hx hb dX5_finalizeAll_38 (by decide) ?_
              refine lv_iload_n hx hb dX5_finalizeAll_41 rfl (lv_at hl 1 rfl) ?_
              refine lv_iadd hx hb dX5_finalizeAll_42 ?_
              obtain ⟨q16, hc17, hm⟩ := bd_s hm
              refine ks_v (wo := (wMD G b q16 dep kept mark start_3)) (rV (As := [.int (3000 + v1)]) (rest := []) (b := (b 0)) (wi := (wMD G b w_2 dep kept mark start_3)) hF hK hP hD (c_X5_notice l G N b w_2 dep kept mark start_3 (3000 + v1) q16 hc17 H.size) (cwV 1 hts gX5_finalizeAll_X5_notice rfl rfl rfl (by decide +kernel) ⟨Nat.le_of_ble_eq_true rfl, Nat.le_of_ble_eq_true rfl⟩) (va_recv hK.1 hP (ci := 5) (q0 := 0) rfl rfl) rfl hl.1 rfl (Nat.le_of_ble_eq_true rfl) dX5_finalizeAll_43 ⟨Nat.le_of_ble_eq_true rfl, Nat.le_of_ble_eq_true rfl⟩) hD hS hA (fun H locs hP hD hS => ?_)
              have hP : va_P G.1 vwCl (wMD G b q16 dep kept mark start_3) H := hP
              have hD : va_D A (wMD G b q16 dep kept mark start_3) := hD
              refine lv_aload_n hx hb dX5_finalizeAll_46 rfl (lv_at hl 0 rfl) ?_
              refine va_get (D := G.1) (ci := 5) (v := .ref (b 1)) (C := RX5) (T := TX5) (N := 5) hx hb hts w1_X5_finalizeAll hown hK.1 hP 0 rfl rfl 0 (by decide) (hts _ w2_X5_finalizeAll) (fun _ h9 => h9) rfl dX5_finalizeAll_47 ?_
              refine lv_bipush (v := 15) hx hb dX5_finalizeAll_50 (by decide) ?_
              refine lv_iload_n hx hb dX5_finalizeAll_52 rfl (lv_at hl 1 rfl) ?_
              refine lv_imul hx hb dX5_finalizeAll_53 ?_
              refine lv_iconst (v := 1) hx hb dX5_finalizeAll_54 (by decide) ?_
              refine lv_iadd hx hb dX5_finalizeAll_55 ?_
              refine lv_iconst (v := 0) hx hb dX5_finalizeAll_56 (by decide) ?_
              obtain ⟨hi18, hm⟩ := gd_s hm
              refine va_iast hx hb hK.1 hP hD hS 1 0 rfl rfl hi18 dX5_finalizeAll_57 (fun H locs hP hD hS => ?_)
              have hP : va_P G.1 vwCl (wMD G b (upd q16 ((15 * v1) + 1).toNatClampNeg 0) dep kept mark start_3) H := hP
              have hD : va_D A (wMD G b (upd q16 ((15 * v1) + 1).toNatClampNeg 0) dep kept mark start_3) := hD
              refine lv_aload_n hx hb dX5_finalizeAll_58 rfl (lv_at hl 0 rfl) ?_
              refine va_get (D := G.1) (ci := 5) (v := .ref (b 4)) (C := RX5) (T := TX5) (N := 5) hx hb hts w1_X5_finalizeAll hown hK.1 hP 0 rfl rfl 4 (by decide) (hts _ w3_X5_finalizeAll) (fun _ h9 => h9) rfl dX5_finalizeAll_59 ?_
              refine lv_iload_n hx hb dX5_finalizeAll_62 rfl (lv_at hl 1 rfl) ?_
              refine lv_iconst (v := 1) hx hb dX5_finalizeAll_63 (by decide) ?_
              obtain ⟨hi19, hm⟩ := gd_s hm
              refine va_zast hx hb hK.1 hP hD hS 4 1 rfl rfl hi19 dX5_finalizeAll_64 (fun H locs hP hD hS => ?_)
              have hP : va_P G.1 vwCl (wMD G b (upd q16 ((15 * v1) + 1).toNatClampNeg 0) dep kept mark (upd start_3 v1.toNatClampNeg (vp_nar .boolean 1))) H := hP
              have hD : va_D A (wMD G b (upd q16 ((15 * v1) + 1).toNatClampNeg 0) dep kept mark (upd start_3 v1.toNatClampNeg (vp_nar .boolean 1))) := hD
              refine lv_iinc (v := (v1 + 1)) (lv' := [(1, .int (v1 + 1)), (0, .ref (b 0))]) hx hb dX5_finalizeAll_65 hl (k := 1) rfl rfl (by decide) rfl (fun ls hl => ?_)
              refine lv_goto (tgt := 2) hx hb dX5_finalizeAll_68 (by decide) ?_
              exact ih5 (v1 + 1) (upd q16 ((15 * v1) + 1).toNatClampNeg 0) (upd start_3 v1.toNatClampNeg (vp_nar .boolean 1)) hm _ _ _ hP hD hS (lv_sub hl [1, 0] rfl)
  exact L6 N 0 w start hm _ _ _ hP hD hS (lv_sub hl [1, 0] rfl)
def M_X5_dropEntries_L31 (K : (Int32) → (Nat → Int32) → Option ((Nat → Int32))) (N : Nat) (mark : Nat → Int32) (v1 : Int32) : Nat → (Int32) → (Nat → Int32) → Option ((Nat → Int32))
  | 0, _, _ => none
  | n14 + 1, v12, w_13 => (M_X5_part w_13 v1 2).bind fun q19 => if q19 ≤ v12 then (K v12 w_13) else ((M_X5_part w_13 v1 (3 + v12)).bind fun q22 => gd q22 24 (if (mark q22.toNatClampNeg) = (-9) then ((M_X5_notice N w_13 ((2000 + (32 * v1)) + q22)).bind fun q26 => (M_X5_removeAt N q26 v1 v12).bind fun q28 => M_X5_dropEntries_L31 K N mark v1 n14 v12 q28) else (M_X5_dropEntries_L31 K N mark v1 n14 (v12 + 1) w_13)))
def M_X5_dropEntries_L2 (N : Nat) (mark : Nat → Int32) : Nat → (Int32) → (Nat → Int32) → Option ((Nat → Int32))
  | 0, _, _ => none
  | n3 + 1, v1, w_2 => if 24 ≤ v1 then (some w_2) else (gd v1 24 (if (mark v1.toNatClampNeg) = (-9) then (M_X5_dropEntries_L2 N mark n3 (v1 + 1) w_2) else ((M_X5_part w_2 v1 0).bind fun q9 => if q9 = 1 then (M_X5_dropEntries_L31 (fun k17 kw18 => M_X5_dropEntries_L2 N mark n3 (v1 + 1) kw18) N mark v1 N 0 w_2) else (M_X5_dropEntries_L2 N mark n3 (v1 + 1) w_2))))
def M_X5_dropEntries (N : Nat) (w : Nat → Int32) (mark : Nat → Int32) : Option ((Nat → Int32)) :=
  M_X5_dropEntries_L2 N mark N 0 w
theorem w0_X5_dropEntries : Cond.fieldLink RX5 17 "WeakTableHeapModel" "mark" "[I" ∈ wsX5_dropEntries := by decide +kernel
theorem w1_X5_dropEntries : ∀ w ∈ u_ws RX5 TX5 5, w ∈ wsX5_dropEntries := by decide +kernel
abbrev rm_X5_dropEntries : Room := { frames := 2, cells := 0, slots := 0, locals := 46 }
set_option maxHeartbeats 4000000 in
set_option maxRecDepth 100000 in
theorem c_X5_dropEntries (l : Launch) (G : GG) (N : Nat) (b : Nat → Nat) (w : Nat → Int32) (dep : Int32) (kept : Nat → Int32) (mark : Nat → Int32) (start : Nat → Int32) (q : (Nat → Int32)) (hm : M_X5_dropEntries N w mark = some q) : CTv l yX5_dropEntries wsX5_dropEntries rm_X5_dropEntries G [.ref (b 0)] (wMD G b w dep kept mark start) (wMD G b q dep kept mark start) := by
  intro sz
  refine mk_body (Qc := fun A => (QV G A (wMD G b q dep kept mark start))) (cc := cX5_dropEntries) (maxL := 4) (ret := none) (lv := [(0, .ref (b 0))]) (by decide) rfl rfl (Nat.le_of_ble_eq_true rfl) ?_
  intro p e s m args below meth c A H locs ls hF hr hlocks hname hK hA hP hD hS hl
  obtain ⟨hx, hb, hml, hown, hts⟩ := id hF
  unfold M_X5_dropEntries at hm
  refine lv_iconst (v := 0) hx hb dX5_dropEntries_0 (by decide) ?_
  refine lv_istore_n (lv' := [(1, .int 0), (0, .ref (b 0))]) hx hb dX5_dropEntries_1 rfl hl (by decide) rfl (fun ls hl => ?_)
  have L5 : ∀ (n3 : Nat) (v1 : Int32) (w_2 : Nat → Int32), M_X5_dropEntries_L2 N mark n3 v1 w_2 = some q → ∀ (H : Heap) (locs : List Loc) (ls : Array Slot), va_P G.1 vwCl (wMD G b w_2 dep kept mark start) H → va_D A (wMD G b w_2 dep kept mark start) → va_S A s.heap H locs → lv_has ls 4 [(0, .ref (b 0)), (1, .int v1)] → W p l e rm_X5_dropEntries s m args below meth c H locs 0 0 (MQ below (QV G A (wMD G b q dep kept mark start)) args s rm_X5_dropEntries.cells rm_X5_dropEntries.slots A) (F0 m 2 ls []) := by
    intro n3
    induction n3 with
    | zero => intro v1 w_2 hm; cases hm
    | succ n3 ih4 =>
      intro v1 w_2 hm H locs ls hP hD hS hl
      rw [M_X5_dropEntries_L2] at hm
      refine lv_iload_n hx hb dX5_dropEntries_2 rfl (lv_at hl 1 rfl) ?_
      refine lv_bipush (v := 24) hx hb dX5_dropEntries_3 (by decide) ?_
      refine lv_icmp_ge (tgt := 96) hx hb dX5_dropEntries_5 (by decide) (fun c6 => ?_) (fun c6 => ?_)
      · replace hm := it_t c6 hm
        cases hm
        exact rt_v hx hb hr hlocks hP hD hS dX5_dropEntries_96
      · replace hm := it_f c6 hm
        refine lv_aload_n hx hb dX5_dropEntries_8 rfl (lv_at hl 0 rfl) ?_
        refine va_get (D := G.1) (ci := 5) (v := .ref (b 3)) (C := RX5) (T := TX5) (N := 5) hx hb hts w1_X5_dropEntries hown hK.1 hP 0 rfl rfl 3 (by decide) (hts _ w0_X5_dropEntries) (fun _ h9 => h9) rfl dX5_dropEntries_9 ?_
        refine lv_iload_n hx hb dX5_dropEntries_12 rfl (lv_at hl 1 rfl) ?_
        obtain ⟨hi7, hm⟩ := gd_s hm
        refine va_iald hx hb hK.1 hP 3 0 rfl rfl hi7 dX5_dropEntries_13 ?_
        refine lv_bipush (v := (-9)) hx hb dX5_dropEntries_14 (by decide) ?_
        refine lv_icmp_eq (tgt := 90) hx hb dX5_dropEntries_16 (by decide) (fun c8 => ?_) (fun c8 => ?_)
        · replace hm := it_t c8 hm
          refine lv_iinc (v := (v1 + 1)) (lv' := [(1, .int (v1 + 1)), (0, .ref (b 0))]) hx hb dX5_dropEntries_90 hl (k := 1) rfl rfl (by decide) rfl (fun ls hl => ?_)
          refine lv_goto (tgt := 2) hx hb dX5_dropEntries_93 (by decide) ?_
          exact ih4 (v1 + 1) w_2 hm _ _ _ hP hD hS (lv_sub hl [1, 0] rfl)
        · replace hm := it_f c8 hm
          refine lv_aload_n hx hb dX5_dropEntries_19 rfl (lv_at hl 0 rfl) ?_
          refine lv_iload_n hx hb dX5_dropEntries_20 rfl (lv_at hl 1 rfl) ?_
          refine lv_iconst (v := 0) hx hb dX5_dropEntries_21 (by decide) ?_
          obtain ⟨q9, hc10, hm⟩ := bd_s hm
          refine ks_i (wo := (wMD G b w_2 dep kept mark start)) (rV (As := [.int v1, .int 0]) (rest := []) (b := (b 0)) (wi := (wMD G b w_2 dep kept mark start)) hF hK hP hD (c_X5_part l G b w_2 dep kept mark start v1 0 q9 hc10 H.size) (cwV 2 hts gX5_dropEntries_X5_part rfl rfl rfl (by decide +kernel) ⟨Nat.le_of_ble_eq_true rfl, Nat.le_of_ble_eq_true rfl⟩) (va_recv hK.1 hP (ci := 5) (q0 := 0) rfl rfl) rfl hl.1 rfl (Nat.le_of_ble_eq_true rfl) dX5_dropEntries_22 ⟨Nat.le_of_ble_eq_true rfl, Nat.le_of_ble_eq_true rfl⟩) hD hS hA (fun H locs hP hD hS => ?_)
          have hP : va_P G.1 vwCl (wMD G b w_2 dep kept mark start) H := hP
          have hD : va_D A (wMD G b w_2 dep kept mark start) := hD
          refine lv_iconst (v := 1) hx hb dX5_dropEntries_25 (by decide) ?_
          refine lv_icmp_ne (tgt := 90) hx hb dX5_dropEntries_26 (by decide) (fun c11 => ?_) (fun c11 => ?_)
          · replace hm := it_f c11 hm
            refine lv_iinc (v := (v1 + 1)) (lv' := [(1, .int (v1 + 1)), (0, .ref (b 0))]) hx hb dX5_dropEntries_90 hl (k := 1) rfl rfl (by decide) rfl (fun ls hl => ?_)
            refine lv_goto (tgt := 2) hx hb dX5_dropEntries_93 (by decide) ?_
            exact ih4 (v1 + 1) w_2 hm _ _ _ hP hD hS (lv_sub hl [1, 0] rfl)
          · replace hm := it_t c11 hm
            refine lv_iconst (v := 0) hx hb dX5_dropEntries_29 (by decide) ?_
            refine lv_istore_n (lv' := [(2, .int 0), (0, .ref (b 0)), (1, .int v1)]) hx hb dX5_dropEntries_30 rfl hl (by decide) rfl (fun ls hl => ?_)
            have L16 : ∀ (n14 : Nat) (v12 : Int32) (w_13 : Nat → Int32), M_X5_dropEntries_L31 (fun k17 kw18 => M_X5_dropEntries_L2 N mark n3 (v1 + 1) kw18) N mark v1 n14 v12 w_13 = some q → ∀ (H : Heap) (locs : List Loc) (ls : Array Slot), va_P G.1 vwCl (wMD G b w_13 dep kept mark start) H → va_D A (wMD G b w_13 dep kept mark start) → va_S A s.heap H locs → lv_has ls 4 [(0, .ref (b 0)), (1, .int v1), (2, .int v12)] → W p l e rm_X5_dropEntries s m args below meth c H locs 0 0 (MQ below (QV G A (wMD G b q dep kept mark start)) args s rm_X5_dropEntries.cells rm_X5_dropEntries.slots A) (F0 m 31 ls []) := by
              intro n14
              induction n14 with
              | zero => intro v12 w_13 hm; cases hm
              | succ n14 ih15 =>
                intro v12 w_13 hm H locs ls hP hD hS hl
                rw [M_X5_dropEntries_L31] at hm
                refine lv_iload_n hx hb dX5_dropEntries_31 rfl (lv_at hl 2 rfl) ?_
                refine lv_aload_n hx hb dX5_dropEntries_32 rfl (lv_at hl 0 rfl) ?_
                refine lv_iload_n hx hb dX5_dropEntries_33 rfl (lv_at hl 1 rfl) ?_
                refine lv_iconst (v := 2) hx hb dX5_dropEntries_34 (by decide) ?_
                obtain ⟨q19, hc20, hm⟩ := bd_s hm
                refine ks_i (wo := (wMD G b w_13 dep kept mark start)) (rV (As := [.int v1, .int 2]) (rest := [.int v12]) (b := (b 0)) (wi := (wMD G b w_13 dep kept mark start)) hF hK hP hD (c_X5_part l G b w_13 dep kept mark start v1 2 q19 hc20 H.size) (cwV 2 hts gX5_dropEntries_X5_part rfl rfl rfl (by decide +kernel) ⟨Nat.le_of_ble_eq_true rfl, Nat.le_of_ble_eq_true rfl⟩) (va_recv hK.1 hP (ci := 5) (q0 := 0) rfl rfl) rfl hl.1 rfl (Nat.le_of_ble_eq_true rfl) dX5_dropEntries_35 ⟨Nat.le_of_ble_eq_true rfl, Nat.le_of_ble_eq_true rfl⟩) hD hS hA (fun H locs hP hD hS => ?_)
                have hP : va_P G.1 vwCl (wMD G b w_13 dep kept mark start) H := hP
                have hD : va_D A (wMD G b w_13 dep kept mark start) := hD
                refine lv_icmp_ge (tgt := 90) hx hb dX5_dropEntries_38 (by decide) (fun c21 => ?_) (fun c21 => ?_)
                · replace hm := it_t c21 hm
                  dsimp only at hm
                  refine lv_iinc (v := (v1 + 1)) (lv' := [(1, .int (v1 + 1)), (0, .ref (b 0)), (2, .int v12)]) hx hb dX5_dropEntries_90 hl (k := 1) rfl rfl (by decide) rfl (fun ls hl => ?_)
                  refine lv_goto (tgt := 2) hx hb dX5_dropEntries_93 (by decide) ?_
                  exact ih4 (v1 + 1) w_13 hm _ _ _ hP hD hS (lv_sub hl [1, 0] rfl)
                · replace hm := it_f c21 hm
                  refine lv_aload_n hx hb dX5_dropEntries_41 rfl (lv_at hl 0 rfl) ?_
                  refine lv_iload_n hx hb dX5_dropEntries_42 rfl (lv_at hl 1 rfl) ?_
                  refine lv_iconst (v := 3) hx hb dX5_dropEntries_43 (by decide) ?_
                  refine lv_iload_n hx hb dX5_dropEntries_44 rfl (lv_at hl 2 rfl) ?_
                  refine lv_iadd hx hb dX5_dropEntries_45 ?_
                  obtain ⟨q22, hc23, hm⟩ := bd_s hm
                  refine ks_i (wo := (wMD G b w_13 dep kept mark start)) (rV (As := [.int v1, .int (3 + v12)]) (rest := []) (b := (b 0)) (wi := (wMD G b w_13 dep kept mark start)) hF hK hP hD (c_X5_part l G b w_13 dep kept mark start v1 (3 + v12) q22 hc23 H.size) (cwV 2 hts gX5_dropEntries_X5_part rfl rfl rfl (by decide +kernel) ⟨Nat.le_of_ble_eq_true rfl, Nat.le_of_ble_eq_true rfl⟩) (va_recv hK.1 hP (ci := 5) (q0 := 0) rfl rfl) rfl hl.1 rfl (Nat.le_of_ble_eq_true rfl) dX5_dropEntries_46 ⟨Nat.le_of_ble_eq_true rfl, Nat.le_of_ble_eq_true rfl⟩) hD hS hA (fun H locs hP hD hS => ?_)
                  have hP : va_P G.1 vwCl (wMD G b w_13 dep kept mark start) H := hP
                  have hD : va_D A (wMD G b w_13 dep kept mark start) := hD
                  refine lv_istore_n (lv' := [(3, .int q22), (0, .ref (b 0)), (1, .int v1), (2, .int v12)]) hx hb dX5_dropEntries_49 rfl hl (by decide) rfl (fun ls hl => ?_)
                  refine lv_aload_n hx hb dX5_dropEntries_50 rfl (lv_at hl 1 rfl) ?_
                  refine va_get (D := G.1) (ci := 5) (v := .ref (b 3)) (C := RX5) (T := TX5) (N := 5) hx hb hts w1_X5_dropEntries hown hK.1 hP 0 rfl rfl 3 (by decide) (hts _ w0_X5_dropEntries) (fun _ h9 => h9) rfl dX5_dropEntries_51 ?_
                  refine lv_iload_n hx hb dX5_dropEntries_54 rfl (lv_at hl 0 rfl) ?_
                  obtain ⟨hi24, hm⟩ := gd_s hm
                  refine va_iald hx hb hK.1 hP 3 0 rfl rfl hi24 dX5_dropEntries_55 ?_
                  refine lv_bipush (v := (-9)) hx hb dX5_dropEntries_56 (by decide) ?_
                  refine lv_icmp_ne (tgt := 84) hx hb dX5_dropEntries_58 (by decide) (fun c25 => ?_) (fun c25 => ?_)
                  · replace hm := it_f c25 hm
                    refine lv_iinc (v := (v12 + 1)) (lv' := [(2, .int (v12 + 1)), (3, .int q22), (0, .ref (b 0)), (1, .int v1)]) hx hb dX5_dropEntries_84 hl (k := 3) rfl rfl (by decide) rfl (fun ls hl => ?_)
                    refine lv_goto (tgt := 31) hx hb dX5_dropEntries_87 (by decide) ?_
                    exact ih15 (v12 + 1) w_13 hm _ _ _ hP hD hS (lv_sub hl [2, 3, 0] rfl)
                  · replace hm := it_t c25 hm
                    refine lv_aload_n hx hb dX5_dropEntries_61 rfl (lv_at hl 1 rfl) ?_
                    refine lv_sipush (v := 2000) hx hb dX5_dropEntries_62 (by decide) ?_
                    refine lv_bipush (v := 32) hx hb dX5_dropEntries_65 (by decide) ?_
                    refine lv_iload_n hx hb dX5_dropEntries_67 rfl (lv_at hl 2 rfl) ?_
                    refine lv_imul hx hb dX5_dropEntries_68 ?_
                    refine lv_iadd hx hb dX5_dropEntries_69 ?_
                    refine lv_iload_n hx hb dX5_dropEntries_70 rfl (lv_at hl 0 rfl) ?_
                    refine lv_iadd hx hb dX5_dropEntries_71 ?_
                    obtain ⟨q26, hc27, hm⟩ := bd_s hm
                    refine ks_v (wo := (wMD G b q26 dep kept mark start)) (rV (As := [.int ((2000 + (32 * v1)) + q22)]) (rest := []) (b := (b 0)) (wi := (wMD G b w_13 dep kept mark start)) hF hK hP hD (c_X5_notice l G N b w_13 dep kept mark start ((2000 + (32 * v1)) + q22) q26 hc27 H.size) (cwV 1 hts gX5_dropEntries_X5_notice rfl rfl rfl (by decide +kernel) ⟨Nat.le_of_ble_eq_true rfl, Nat.le_of_ble_eq_true rfl⟩) (va_recv hK.1 hP (ci := 5) (q0 := 0) rfl rfl) rfl hl.1 rfl (Nat.le_of_ble_eq_true rfl) dX5_dropEntries_72 ⟨Nat.le_of_ble_eq_true rfl, Nat.le_of_ble_eq_true rfl⟩) hD hS hA (fun H locs hP hD hS => ?_)
                    have hP : va_P G.1 vwCl (wMD G b q26 dep kept mark start) H := hP
                    have hD : va_D A (wMD G b q26 dep kept mark start) := hD
                    refine lv_aload_n hx hb dX5_dropEntries_75 rfl (lv_at hl 1 rfl) ?_
                    refine lv_iload_n hx hb dX5_dropEntries_76 rfl (lv_at hl 2 rfl) ?_
                    refine lv_iload_n hx hb dX5_dropEntries_77 rfl (lv_at hl 3 rfl) ?_
                    obtain ⟨q28, hc29, hm⟩ := bd_s hm
                    refine ks_v (wo := (wMD G b q28 dep kept mark start)) (rV (As := [.int v1, .int v12]) (rest := []) (b := (b 0)) (wi := (wMD G b q26 dep kept mark start)) hF hK hP hD (c_X5_removeAt l G N b q26 dep kept mark start v1 v12 q28 hc29 H.size) (cwV 2 hts gX5_dropEntries_X5_removeAt rfl rfl rfl (by decide +kernel) ⟨Nat.le_of_ble_eq_true rfl, Nat.le_of_ble_eq_true rfl⟩) (va_recv hK.1 hP (ci := 5) (q0 := 0) rfl rfl) rfl hl.1 rfl (Nat.le_of_ble_eq_true rfl) dX5_dropEntries_78 ⟨Nat.le_of_ble_eq_true rfl, Nat.le_of_ble_eq_true rfl⟩) hD hS hA (fun H locs hP hD hS => ?_)
                    have hP : va_P G.1 vwCl (wMD G b q28 dep kept mark start) H := hP
                    have hD : va_D A (wMD G b q28 dep kept mark start) := hD
                    refine lv_goto (tgt := 87) hx hb dX5_dropEntries_81 (by decide) ?_
                    refine lv_goto (tgt := 31) hx hb dX5_dropEntries_87 (by decide) ?_
                    exact ih15 v12 q28 hm _ _ _ hP hD hS (lv_sub hl [1, 2, 3] rfl)
            exact L16 N 0 w_2 hm _ _ _ hP hD hS (lv_sub hl [1, 2, 0] rfl)
  exact L5 N 0 w hm _ _ _ hP hD hS (lv_sub hl [1, 0] rfl)
def M_X5_free_L4 (mark : Nat → Int32) : Nat → (Int32) → (Int32) → (Nat → Int32) → Option (Int32 × (Nat → Int32))
  | 0, _, _, _ => none
  | n4 + 1, v1, v2, w_3 => if 24 ≤ v2 then (some (v1, w_3)) else ((M_X5_isAllocated w_3 v2).bind fun q8 => if q8 = 0 then (M_X5_free_L4 mark n4 v1 (v2 + 1) w_3) else (gd v2 24 (if (mark v2.toNatClampNeg) = (-9) then (gd ((15 * v2) + 0) 3880 (gd ((15 * v2) + 1) 3880 (M_X5_free_L4 mark n4 (v1 + 1) (v2 + 1) (upd (upd w_3 ((15 * v2) + 0).toNatClampNeg (-9)) ((15 * v2) + 1).toNatClampNeg 0)))) else (M_X5_free_L4 mark n4 v1 (v2 + 1) w_3))))
def M_X5_free (N : Nat) (w : Nat → Int32) (mark : Nat → Int32) : Option (Int32 × (Nat → Int32)) :=
  M_X5_free_L4 mark N 0 0 w
theorem w0_X5_free : Cond.fieldLink RX5 17 "WeakTableHeapModel" "mark" "[I" ∈ wsX5_free := by decide +kernel
theorem w1_X5_free : ∀ w ∈ u_ws RX5 TX5 5, w ∈ wsX5_free := by decide +kernel
theorem w2_X5_free : Cond.fieldLink RX5 7 "WeakTableHeapModel" "w" "[I" ∈ wsX5_free := by decide +kernel
abbrev rm_X5_free : Room := { frames := 2, cells := 0, slots := 0, locals := 43 }
set_option maxHeartbeats 4000000 in
set_option maxRecDepth 100000 in
theorem c_X5_free (l : Launch) (G : GG) (N : Nat) (b : Nat → Nat) (w : Nat → Int32) (dep : Int32) (kept : Nat → Int32) (mark : Nat → Int32) (start : Nat → Int32) (q : Int32 × (Nat → Int32)) (hm : M_X5_free N w mark = some q) : CTi l yX5_free wsX5_free rm_X5_free G [.ref (b 0)] (wMD G b w dep kept mark start) q.1 (wMD G b q.2 dep kept mark start) := by
  intro sz
  refine mk_body (Qc := fun A => (QI G A q.1 (wMD G b q.2 dep kept mark start))) (cc := cX5_free) (maxL := 3) (ret := (some .int)) (lv := [(0, .ref (b 0))]) (by decide) rfl rfl (Nat.le_of_ble_eq_true rfl) ?_
  intro p e s m args below meth c A H locs ls hF hr hlocks hname hK hA hP hD hS hl
  obtain ⟨hx, hb, hml, hown, hts⟩ := id hF
  unfold M_X5_free at hm
  refine lv_iconst (v := 0) hx hb dX5_free_0 (by decide) ?_
  refine lv_istore_n (lv' := [(1, .int 0), (0, .ref (b 0))]) hx hb dX5_free_1 rfl hl (by decide) rfl (fun ls hl => ?_)
  refine lv_iconst (v := 0) hx hb dX5_free_2 (by decide) ?_
  refine lv_istore_n (lv' := [(2, .int 0), (1, .int 0), (0, .ref (b 0))]) hx hb dX5_free_3 rfl hl (by decide) rfl (fun ls hl => ?_)
  have L6 : ∀ (n4 : Nat) (v1 : Int32) (v2 : Int32) (w_3 : Nat → Int32), M_X5_free_L4 mark n4 v1 v2 w_3 = some q → ∀ (H : Heap) (locs : List Loc) (ls : Array Slot), va_P G.1 vwCl (wMD G b w_3 dep kept mark start) H → va_D A (wMD G b w_3 dep kept mark start) → va_S A s.heap H locs → lv_has ls 3 [(0, .ref (b 0)), (1, .int v1), (2, .int v2)] → W p l e rm_X5_free s m args below meth c H locs 0 0 (MQ below (QI G A q.1 (wMD G b q.2 dep kept mark start)) args s rm_X5_free.cells rm_X5_free.slots A) (F0 m 4 ls []) := by
    intro n4
    induction n4 with
    | zero => intro v1 v2 w_3 hm; cases hm
    | succ n4 ih5 =>
      intro v1 v2 w_3 hm H locs ls hP hD hS hl
      rw [M_X5_free_L4] at hm
      refine lv_iload_n hx hb dX5_free_4 rfl (lv_at hl 2 rfl) ?_
      refine lv_bipush (v := 24) hx hb dX5_free_5 (by decide) ?_
      refine lv_icmp_ge (tgt := 63) hx hb dX5_free_7 (by decide) (fun c7 => ?_) (fun c7 => ?_)
      · replace hm := it_t c7 hm
        refine lv_iload_n hx hb dX5_free_63 rfl (lv_at hl 1 rfl) ?_
        cases hm
        exact rt_i hx hb hr hlocks hP hD hS dX5_free_64
      · replace hm := it_f c7 hm
        refine lv_aload_n hx hb dX5_free_10 rfl (lv_at hl 0 rfl) ?_
        refine lv_iload_n hx hb dX5_free_11 rfl (lv_at hl 2 rfl) ?_
        obtain ⟨q8, hc9, hm⟩ := bd_s hm
        refine ks_i (wo := (wMD G b w_3 dep kept mark start)) (rV (As := [.int v2]) (rest := []) (b := (b 0)) (wi := (wMD G b w_3 dep kept mark start)) hF hK hP hD (c_X5_isAllocated l G b w_3 dep kept mark start v2 q8 hc9 H.size) (cwV 1 hts gX5_free_X5_isAllocated rfl rfl rfl (by decide +kernel) ⟨Nat.le_of_ble_eq_true rfl, Nat.le_of_ble_eq_true rfl⟩) (va_recv hK.1 hP (ci := 5) (q0 := 0) rfl rfl) rfl hl.1 rfl (Nat.le_of_ble_eq_true rfl) dX5_free_12 ⟨Nat.le_of_ble_eq_true rfl, Nat.le_of_ble_eq_true rfl⟩) hD hS hA (fun H locs hP hD hS => ?_)
        have hP : va_P G.1 vwCl (wMD G b w_3 dep kept mark start) H := hP
        have hD : va_D A (wMD G b w_3 dep kept mark start) := hD
        refine lv_if_eq (tgt := 57) hx hb dX5_free_15 (by decide) (fun c10 => ?_) (fun c10 => ?_)
        · replace hm := it_t c10 hm
          refine lv_iinc (v := (v2 + 1)) (lv' := [(2, .int (v2 + 1)), (0, .ref (b 0)), (1, .int v1)]) hx hb dX5_free_57 hl (k := 2) rfl rfl (by decide) rfl (fun ls hl => ?_)
          refine lv_goto (tgt := 4) hx hb dX5_free_60 (by decide) ?_
          exact ih5 v1 (v2 + 1) w_3 hm _ _ _ hP hD hS (lv_sub hl [1, 2, 0] rfl)
        · replace hm := it_f c10 hm
          refine lv_aload_n hx hb dX5_free_18 rfl (lv_at hl 0 rfl) ?_
          refine va_get (D := G.1) (ci := 5) (v := .ref (b 3)) (C := RX5) (T := TX5) (N := 5) hx hb hts w1_X5_free hown hK.1 hP 0 rfl rfl 3 (by decide) (hts _ w0_X5_free) (fun _ h9 => h9) rfl dX5_free_19 ?_
          refine lv_iload_n hx hb dX5_free_22 rfl (lv_at hl 2 rfl) ?_
          obtain ⟨hi11, hm⟩ := gd_s hm
          refine va_iald hx hb hK.1 hP 3 0 rfl rfl hi11 dX5_free_23 ?_
          refine lv_bipush (v := (-9)) hx hb dX5_free_24 (by decide) ?_
          refine lv_icmp_ne (tgt := 57) hx hb dX5_free_26 (by decide) (fun c12 => ?_) (fun c12 => ?_)
          · replace hm := it_f c12 hm
            refine lv_iinc (v := (v2 + 1)) (lv' := [(2, .int (v2 + 1)), (0, .ref (b 0)), (1, .int v1)]) hx hb dX5_free_57 hl (k := 2) rfl rfl (by decide) rfl (fun ls hl => ?_)
            refine lv_goto (tgt := 4) hx hb dX5_free_60 (by decide) ?_
            exact ih5 v1 (v2 + 1) w_3 hm _ _ _ hP hD hS (lv_sub hl [1, 2, 0] rfl)
          · replace hm := it_t c12 hm
            refine lv_aload_n hx hb dX5_free_29 rfl (lv_at hl 0 rfl) ?_
            refine va_get (D := G.1) (ci := 5) (v := .ref (b 1)) (C := RX5) (T := TX5) (N := 5) hx hb hts w1_X5_free hown hK.1 hP 0 rfl rfl 0 (by decide) (hts _ w2_X5_free) (fun _ h9 => h9) rfl dX5_free_30 ?_
            refine lv_bipush (v := 15) hx hb dX5_free_33 (by decide) ?_
            refine lv_iload_n hx hb dX5_free_35 rfl (lv_at hl 2 rfl) ?_
            refine lv_imul hx hb dX5_free_36 ?_
            refine lv_iconst (v := 0) hx hb dX5_free_37 (by decide) ?_
            refine lv_iadd hx hb dX5_free_38 ?_
            refine lv_bipush (v := (-9)) hx hb dX5_free_39 (by decide) ?_
            obtain ⟨hi13, hm⟩ := gd_s hm
            refine va_iast hx hb hK.1 hP hD hS 1 0 rfl rfl hi13 dX5_free_41 (fun H locs hP hD hS => ?_)
            have hP : va_P G.1 vwCl (wMD G b (upd w_3 ((15 * v2) + 0).toNatClampNeg (-9)) dep kept mark start) H := hP
            have hD : va_D A (wMD G b (upd w_3 ((15 * v2) + 0).toNatClampNeg (-9)) dep kept mark start) := hD
            refine lv_aload_n hx hb dX5_free_42 rfl (lv_at hl 0 rfl) ?_
            refine va_get (D := G.1) (ci := 5) (v := .ref (b 1)) (C := RX5) (T := TX5) (N := 5) hx hb hts w1_X5_free hown hK.1 hP 0 rfl rfl 0 (by decide) (hts _ w2_X5_free) (fun _ h9 => h9) rfl dX5_free_43 ?_
            refine lv_bipush (v := 15) hx hb dX5_free_46 (by decide) ?_
            refine lv_iload_n hx hb dX5_free_48 rfl (lv_at hl 2 rfl) ?_
            refine lv_imul hx hb dX5_free_49 ?_
            refine lv_iconst (v := 1) hx hb dX5_free_50 (by decide) ?_
            refine lv_iadd hx hb dX5_free_51 ?_
            refine lv_iconst (v := 0) hx hb dX5_free_52 (by decide) ?_
            obtain ⟨hi14, hm⟩ := gd_s hm
            refine va_iast hx hb hK.1 hP hD hS 1 0 rfl rfl hi14 dX5_free_53 (fun H locs hP hD hS => ?_)
            have hP : va_P G.1 vwCl (wMD G b (upd (upd w_3 ((15 * v2) + 0).toNatClampNeg (-9)) ((15 * v2) + 1).toNatClampNeg 0) dep kept mark start) H := hP
            have hD : va_D A (wMD G b (upd (upd w_3 ((15 * v2) + 0).toNatClampNeg (-9)) ((15 * v2) + 1).toNatClampNeg 0) dep kept mark start) := hD
            refine lv_iinc (v := (v1 + 1)) (lv' := [(1, .int (v1 + 1)), (0, .ref (b 0)), (2, .int v2)]) hx hb dX5_free_54 hl (k := 1) rfl rfl (by decide) rfl (fun ls hl => ?_)
            refine lv_iinc (v := (v2 + 1)) (lv' := [(2, .int (v2 + 1)), (1, .int (v1 + 1)), (0, .ref (b 0))]) hx hb dX5_free_57 hl (k := 2) rfl rfl (by decide) rfl (fun ls hl => ?_)
            refine lv_goto (tgt := 4) hx hb dX5_free_60 (by decide) ?_
            exact ih5 (v1 + 1) (v2 + 1) (upd (upd w_3 ((15 * v2) + 0).toNatClampNeg (-9)) ((15 * v2) + 1).toNatClampNeg 0) hm _ _ _ hP hD hS (lv_sub hl [2, 1, 0] rfl)
  exact L6 N 0 0 w hm _ _ _ hP hD hS (lv_sub hl [2, 1, 0] rfl)
def M_X5_collectNow (N : Nat) (w : Nat → Int32) (mark : Nat → Int32) (start : Nat → Int32) : Option (Int32 × (Nat → Int32) × (Nat → Int32) × (Nat → Int32)) :=
  (M_X5_markAll N w mark start (-9)).bind fun q1 => gd 387 3880 ((M_X5_emptyWeak N (upd w (387 : Int32).toNatClampNeg q1.1) q1.2.1 1).bind fun q4 => (M_X5_finalizeAll N q4 q1.2.1 q1.2.2).bind fun q6 => (M_X5_marks N q6.1 q1.2.1 q6.2 (-9)).bind fun q8 => (M_X5_dropEntries N q6.1 q8.2).bind fun q10 => (M_X5_emptyWeak N q10 q8.2 0).bind fun q12 => (M_X5_free N q12 q8.2).bind fun q14 => some (q14.1, q14.2, q8.2, q6.2))
theorem w0_X5_collectNow : Cond.fieldLink RX5 7 "WeakTableHeapModel" "w" "[I" ∈ wsX5_collectNow := by decide +kernel
theorem w1_X5_collectNow : ∀ w ∈ u_ws RX5 TX5 5, w ∈ wsX5_collectNow := by decide +kernel
abbrev rm_X5_collectNow : Room := { frames := 4, cells := 0, slots := 0, locals := 93 }
set_option maxHeartbeats 4000000 in
set_option maxRecDepth 100000 in
theorem c_X5_collectNow (l : Launch) (G : GG) (N : Nat) (b : Nat → Nat) (w : Nat → Int32) (dep : Int32) (kept : Nat → Int32) (mark : Nat → Int32) (start : Nat → Int32) (q : Int32 × (Nat → Int32) × (Nat → Int32) × (Nat → Int32)) (hm : M_X5_collectNow N w mark start = some q) : CTi l yX5_collectNow wsX5_collectNow rm_X5_collectNow G [.ref (b 0)] (wMD G b w dep kept mark start) q.1 (wMD G b q.2.1 dep kept q.2.2.1 q.2.2.2) := by
  intro sz
  refine mk_body (Qc := fun A => (QI G A q.1 (wMD G b q.2.1 dep kept q.2.2.1 q.2.2.2))) (cc := cX5_collectNow) (maxL := 1) (ret := (some .int)) (lv := [(0, .ref (b 0))]) (by decide) rfl rfl (Nat.le_of_ble_eq_true rfl) ?_
  intro p e s m args below meth c A H locs ls hF hr hlocks hname hK hA hP hD hS hl
  obtain ⟨hx, hb, hml, hown, hts⟩ := id hF
  unfold M_X5_collectNow at hm
  refine lv_aload_n hx hb dX5_collectNow_0 rfl (lv_at hl 0 rfl) ?_
  refine va_get (D := G.1) (ci := 5) (v := .ref (b 1)) (C := RX5) (T := TX5) (N := 5) hx hb hts w1_X5_collectNow hown hK.1 hP 0 rfl rfl 0 (by decide) (hts _ w0_X5_collectNow) (fun _ h9 => h9) rfl dX5_collectNow_1 ?_
  refine lv_sipush (v := 387) hx hb dX5_collectNow_4 (by decide) ?_
  refine lv_aload_n hx hb dX5_collectNow_7 rfl (lv_at hl 0 rfl) ?_
  refine lv_bipush (v := (-9)) hx hb dX5_collectNow_8 (by decide) ?_
  obtain ⟨q1, hc2, hm⟩ := bd_s hm
  refine ks_i (wo := (wMD G b w dep kept q1.2.1 q1.2.2)) (rV (As := [.int (-9)]) (rest := [.int 387, .ref (b 1)]) (b := (b 0)) (wi := (wMD G b w dep kept mark start)) hF hK hP hD (c_X5_markAll l G N b w dep kept mark start (-9) q1 hc2 H.size) (cwV 1 hts gX5_collectNow_X5_markAll rfl rfl rfl (by decide +kernel) ⟨Nat.le_of_ble_eq_true rfl, Nat.le_of_ble_eq_true rfl⟩) (va_recv hK.1 hP (ci := 5) (q0 := 0) rfl rfl) rfl hl.1 rfl (Nat.le_of_ble_eq_true rfl) dX5_collectNow_10 ⟨Nat.le_of_ble_eq_true rfl, Nat.le_of_ble_eq_true rfl⟩) hD hS hA (fun H locs hP hD hS => ?_)
  have hP : va_P G.1 vwCl (wMD G b w dep kept q1.2.1 q1.2.2) H := hP
  have hD : va_D A (wMD G b w dep kept q1.2.1 q1.2.2) := hD
  obtain ⟨hi3, hm⟩ := gd_s hm
  refine va_iast hx hb hK.1 hP hD hS 1 0 rfl rfl hi3 dX5_collectNow_13 (fun H locs hP hD hS => ?_)
  have hP : va_P G.1 vwCl (wMD G b (upd w (387 : Int32).toNatClampNeg q1.1) dep kept q1.2.1 q1.2.2) H := hP
  have hD : va_D A (wMD G b (upd w (387 : Int32).toNatClampNeg q1.1) dep kept q1.2.1 q1.2.2) := hD
  refine lv_aload_n hx hb dX5_collectNow_14 rfl (lv_at hl 0 rfl) ?_
  refine lv_iconst (v := 1) hx hb dX5_collectNow_15 (by decide) ?_
  obtain ⟨q4, hc5, hm⟩ := bd_s hm
  refine ks_v (wo := (wMD G b q4 dep kept q1.2.1 q1.2.2)) (rV (As := [.int 1]) (rest := []) (b := (b 0)) (wi := (wMD G b (upd w (387 : Int32).toNatClampNeg q1.1) dep kept q1.2.1 q1.2.2)) hF hK hP hD (c_X5_emptyWeak l G N b (upd w (387 : Int32).toNatClampNeg q1.1) dep kept q1.2.1 q1.2.2 1 q4 hc5 H.size) (cwV 1 hts gX5_collectNow_X5_emptyWeak rfl rfl rfl (by decide +kernel) ⟨Nat.le_of_ble_eq_true rfl, Nat.le_of_ble_eq_true rfl⟩) (va_recv hK.1 hP (ci := 5) (q0 := 0) rfl rfl) rfl hl.1 rfl (Nat.le_of_ble_eq_true rfl) dX5_collectNow_16 ⟨Nat.le_of_ble_eq_true rfl, Nat.le_of_ble_eq_true rfl⟩) hD hS hA (fun H locs hP hD hS => ?_)
  have hP : va_P G.1 vwCl (wMD G b q4 dep kept q1.2.1 q1.2.2) H := hP
  have hD : va_D A (wMD G b q4 dep kept q1.2.1 q1.2.2) := hD
  refine lv_aload_n hx hb dX5_collectNow_19 rfl (lv_at hl 0 rfl) ?_
  obtain ⟨q6, hc7, hm⟩ := bd_s hm
  refine ks_v (wo := (wMD G b q6.1 dep kept q1.2.1 q6.2)) (rV (As := []) (rest := []) (b := (b 0)) (wi := (wMD G b q4 dep kept q1.2.1 q1.2.2)) hF hK hP hD (c_X5_finalizeAll l G N b q4 dep kept q1.2.1 q1.2.2 q6 hc7 H.size) (cwV 0 hts gX5_collectNow_X5_finalizeAll rfl rfl rfl (by decide +kernel) ⟨Nat.le_of_ble_eq_true rfl, Nat.le_of_ble_eq_true rfl⟩) (va_recv hK.1 hP (ci := 5) (q0 := 0) rfl rfl) rfl hl.1 rfl (Nat.le_of_ble_eq_true rfl) dX5_collectNow_20 ⟨Nat.le_of_ble_eq_true rfl, Nat.le_of_ble_eq_true rfl⟩) hD hS hA (fun H locs hP hD hS => ?_)
  have hP : va_P G.1 vwCl (wMD G b q6.1 dep kept q1.2.1 q6.2) H := hP
  have hD : va_D A (wMD G b q6.1 dep kept q1.2.1 q6.2) := hD
  refine lv_aload_n hx hb dX5_collectNow_23 rfl (lv_at hl 0 rfl) ?_
  refine lv_bipush (v := (-9)) hx hb dX5_collectNow_24 (by decide) ?_
  obtain ⟨q8, hc9, hm⟩ := bd_s hm
  refine ks_i (wo := (wMD G b q6.1 dep kept q8.2 q6.2)) (rV (As := [.int (-9)]) (rest := []) (b := (b 0)) (wi := (wMD G b q6.1 dep kept q1.2.1 q6.2)) hF hK hP hD (c_X5_marks l G N b q6.1 dep kept q1.2.1 q6.2 (-9) q8 hc9 H.size) (cwV 1 hts gX5_collectNow_X5_marks rfl rfl rfl (by decide +kernel) ⟨Nat.le_of_ble_eq_true rfl, Nat.le_of_ble_eq_true rfl⟩) (va_recv hK.1 hP (ci := 5) (q0 := 0) rfl rfl) rfl hl.1 rfl (Nat.le_of_ble_eq_true rfl) dX5_collectNow_26 ⟨Nat.le_of_ble_eq_true rfl, Nat.le_of_ble_eq_true rfl⟩) hD hS hA (fun H locs hP hD hS => ?_)
  have hP : va_P G.1 vwCl (wMD G b q6.1 dep kept q8.2 q6.2) H := hP
  have hD : va_D A (wMD G b q6.1 dep kept q8.2 q6.2) := hD
  refine lv_pop hx hb dX5_collectNow_29 rfl ?_
  refine lv_aload_n hx hb dX5_collectNow_30 rfl (lv_at hl 0 rfl) ?_
  obtain ⟨q10, hc11, hm⟩ := bd_s hm
  refine ks_v (wo := (wMD G b q10 dep kept q8.2 q6.2)) (rV (As := []) (rest := []) (b := (b 0)) (wi := (wMD G b q6.1 dep kept q8.2 q6.2)) hF hK hP hD (c_X5_dropEntries l G N b q6.1 dep kept q8.2 q6.2 q10 hc11 H.size) (cwV 0 hts gX5_collectNow_X5_dropEntries rfl rfl rfl (by decide +kernel) ⟨Nat.le_of_ble_eq_true rfl, Nat.le_of_ble_eq_true rfl⟩) (va_recv hK.1 hP (ci := 5) (q0 := 0) rfl rfl) rfl hl.1 rfl (Nat.le_of_ble_eq_true rfl) dX5_collectNow_31 ⟨Nat.le_of_ble_eq_true rfl, Nat.le_of_ble_eq_true rfl⟩) hD hS hA (fun H locs hP hD hS => ?_)
  have hP : va_P G.1 vwCl (wMD G b q10 dep kept q8.2 q6.2) H := hP
  have hD : va_D A (wMD G b q10 dep kept q8.2 q6.2) := hD
  refine lv_aload_n hx hb dX5_collectNow_34 rfl (lv_at hl 0 rfl) ?_
  refine lv_iconst (v := 0) hx hb dX5_collectNow_35 (by decide) ?_
  obtain ⟨q12, hc13, hm⟩ := bd_s hm
  refine ks_v (wo := (wMD G b q12 dep kept q8.2 q6.2)) (rV (As := [.int 0]) (rest := []) (b := (b 0)) (wi := (wMD G b q10 dep kept q8.2 q6.2)) hF hK hP hD (c_X5_emptyWeak l G N b q10 dep kept q8.2 q6.2 0 q12 hc13 H.size) (cwV 1 hts gX5_collectNow_X5_emptyWeak rfl rfl rfl (by decide +kernel) ⟨Nat.le_of_ble_eq_true rfl, Nat.le_of_ble_eq_true rfl⟩) (va_recv hK.1 hP (ci := 5) (q0 := 0) rfl rfl) rfl hl.1 rfl (Nat.le_of_ble_eq_true rfl) dX5_collectNow_36 ⟨Nat.le_of_ble_eq_true rfl, Nat.le_of_ble_eq_true rfl⟩) hD hS hA (fun H locs hP hD hS => ?_)
  have hP : va_P G.1 vwCl (wMD G b q12 dep kept q8.2 q6.2) H := hP
  have hD : va_D A (wMD G b q12 dep kept q8.2 q6.2) := hD
  refine lv_aload_n hx hb dX5_collectNow_39 rfl (lv_at hl 0 rfl) ?_
  obtain ⟨q14, hc15, hm⟩ := bd_s hm
  refine ks_i (wo := (wMD G b q14.2 dep kept q8.2 q6.2)) (rV (As := []) (rest := []) (b := (b 0)) (wi := (wMD G b q12 dep kept q8.2 q6.2)) hF hK hP hD (c_X5_free l G N b q12 dep kept q8.2 q6.2 q14 hc15 H.size) (cwV 0 hts gX5_collectNow_X5_free rfl rfl rfl (by decide +kernel) ⟨Nat.le_of_ble_eq_true rfl, Nat.le_of_ble_eq_true rfl⟩) (va_recv hK.1 hP (ci := 5) (q0 := 0) rfl rfl) rfl hl.1 rfl (Nat.le_of_ble_eq_true rfl) dX5_collectNow_40 ⟨Nat.le_of_ble_eq_true rfl, Nat.le_of_ble_eq_true rfl⟩) hD hS hA (fun H locs hP hD hS => ?_)
  have hP : va_P G.1 vwCl (wMD G b q14.2 dep kept q8.2 q6.2) H := hP
  have hD : va_D A (wMD G b q14.2 dep kept q8.2 q6.2) := hD
  cases hm
  exact rt_i hx hb hr hlocks hP hD hS dX5_collectNow_43
def M_X5_collect (N : Nat) (w : Nat → Int32) (dep : Int32) (mark : Nat → Int32) (start : Nat → Int32) : Option (Int32 × (Nat → Int32) × Int32 × (Nat → Int32) × (Nat → Int32)) :=
  (M_X5_saveState N w dep).bind fun q1 => (M_X5_collectNow N q1.1 mark start).bind fun q3 => some (q3.1, q3.2.1, q1.2, q3.2.2.1, q3.2.2.2)
abbrev rm_X5_collect : Room := { frames := 5, cells := 0, slots := 0, locals := 113 }
set_option maxHeartbeats 4000000 in
set_option maxRecDepth 100000 in
theorem c_X5_collect (l : Launch) (G : GG) (N : Nat) (b : Nat → Nat) (w : Nat → Int32) (dep : Int32) (kept : Nat → Int32) (mark : Nat → Int32) (start : Nat → Int32) (q : Int32 × (Nat → Int32) × Int32 × (Nat → Int32) × (Nat → Int32)) (hm : M_X5_collect N w dep mark start = some q) : CTi l yX5_collect wsX5_collect rm_X5_collect G [.ref (b 0)] (wMD G b w dep kept mark start) q.1 (wMD G b q.2.1 q.2.2.1 kept q.2.2.2.1 q.2.2.2.2) := by
  intro sz
  refine mk_body (Qc := fun A => (QI G A q.1 (wMD G b q.2.1 q.2.2.1 kept q.2.2.2.1 q.2.2.2.2))) (cc := cX5_collect) (maxL := 1) (ret := (some .int)) (lv := [(0, .ref (b 0))]) (by decide) rfl rfl (Nat.le_of_ble_eq_true rfl) ?_
  intro p e s m args below meth c A H locs ls hF hr hlocks hname hK hA hP hD hS hl
  obtain ⟨hx, hb, hml, hown, hts⟩ := id hF
  unfold M_X5_collect at hm
  refine lv_aload_n hx hb dX5_collect_0 rfl (lv_at hl 0 rfl) ?_
  obtain ⟨q1, hc2, hm⟩ := bd_s hm
  refine ks_v (wo := (wMD G b q1.1 q1.2 kept mark start)) (rV (As := []) (rest := []) (b := (b 0)) (wi := (wMD G b w dep kept mark start)) hF hK hP hD (c_X5_saveState l G N b w dep kept mark start q1 hc2 H.size) (cwV 0 hts gX5_collect_X5_saveState rfl rfl rfl (by decide +kernel) ⟨Nat.le_of_ble_eq_true rfl, Nat.le_of_ble_eq_true rfl⟩) (va_recv hK.1 hP (ci := 5) (q0 := 0) rfl rfl) rfl hl.1 rfl (Nat.le_of_ble_eq_true rfl) dX5_collect_1 ⟨Nat.le_of_ble_eq_true rfl, Nat.le_of_ble_eq_true rfl⟩) hD hS hA (fun H locs hP hD hS => ?_)
  have hP : va_P G.1 vwCl (wMD G b q1.1 q1.2 kept mark start) H := hP
  have hD : va_D A (wMD G b q1.1 q1.2 kept mark start) := hD
  refine lv_aload_n hx hb dX5_collect_4 rfl (lv_at hl 0 rfl) ?_
  obtain ⟨q3, hc4, hm⟩ := bd_s hm
  refine ks_i (wo := (wMD G b q3.2.1 q1.2 kept q3.2.2.1 q3.2.2.2)) (rV (As := []) (rest := []) (b := (b 0)) (wi := (wMD G b q1.1 q1.2 kept mark start)) hF hK hP hD (c_X5_collectNow l G N b q1.1 q1.2 kept mark start q3 hc4 H.size) (cwV 0 hts gX5_collect_X5_collectNow rfl rfl rfl (by decide +kernel) ⟨Nat.le_of_ble_eq_true rfl, Nat.le_of_ble_eq_true rfl⟩) (va_recv hK.1 hP (ci := 5) (q0 := 0) rfl rfl) rfl hl.1 rfl (Nat.le_of_ble_eq_true rfl) dX5_collect_5 ⟨Nat.le_of_ble_eq_true rfl, Nat.le_of_ble_eq_true rfl⟩) hD hS hA (fun H locs hP hD hS => ?_)
  have hP : va_P G.1 vwCl (wMD G b q3.2.1 q1.2 kept q3.2.2.1 q3.2.2.2) H := hP
  have hD : va_D A (wMD G b q3.2.1 q1.2 kept q3.2.2.1 q3.2.2.2) := hD
  cases hm
  exact rt_i hx hb hr hlocks hP hD hS dX5_collect_8
def M_X5_wouldFree (N : Nat) (w : Nat → Int32) (mark : Nat → Int32) (start : Nat → Int32) : Option (Int32 × (Nat → Int32) × (Nat → Int32) × (Nat → Int32)) :=
  (M_X5_copyState N w 0 1).bind fun q1 => (M_X5_collectNow N q1 mark start).bind fun q3 => (M_X5_copyState N q3.2.1 1 0).bind fun q5 => some (q3.1, q5, q3.2.2.1, q3.2.2.2)
abbrev rm_X5_wouldFree : Room := { frames := 5, cells := 0, slots := 0, locals := 113 }
set_option maxHeartbeats 4000000 in
set_option maxRecDepth 100000 in
theorem c_X5_wouldFree (l : Launch) (G : GG) (N : Nat) (b : Nat → Nat) (w : Nat → Int32) (dep : Int32) (kept : Nat → Int32) (mark : Nat → Int32) (start : Nat → Int32) (q : Int32 × (Nat → Int32) × (Nat → Int32) × (Nat → Int32)) (hm : M_X5_wouldFree N w mark start = some q) : CTi l yX5_wouldFree wsX5_wouldFree rm_X5_wouldFree G [.ref (b 0)] (wMD G b w dep kept mark start) q.1 (wMD G b q.2.1 dep kept q.2.2.1 q.2.2.2) := by
  intro sz
  refine mk_body (Qc := fun A => (QI G A q.1 (wMD G b q.2.1 dep kept q.2.2.1 q.2.2.2))) (cc := cX5_wouldFree) (maxL := 2) (ret := (some .int)) (lv := [(0, .ref (b 0))]) (by decide) rfl rfl (Nat.le_of_ble_eq_true rfl) ?_
  intro p e s m args below meth c A H locs ls hF hr hlocks hname hK hA hP hD hS hl
  obtain ⟨hx, hb, hml, hown, hts⟩ := id hF
  unfold M_X5_wouldFree at hm
  refine lv_aload_n hx hb dX5_wouldFree_0 rfl (lv_at hl 0 rfl) ?_
  refine lv_iconst (v := 0) hx hb dX5_wouldFree_1 (by decide) ?_
  refine lv_iconst (v := 1) hx hb dX5_wouldFree_2 (by decide) ?_
  obtain ⟨q1, hc2, hm⟩ := bd_s hm
  refine ks_v (wo := (wMD G b q1 dep kept mark start)) (rV (As := [.int 0, .int 1]) (rest := []) (b := (b 0)) (wi := (wMD G b w dep kept mark start)) hF hK hP hD (c_X5_copyState l G N b w dep kept mark start 0 1 q1 hc2 H.size) (cwV 2 hts gX5_wouldFree_X5_copyState rfl rfl rfl (by decide +kernel) ⟨Nat.le_of_ble_eq_true rfl, Nat.le_of_ble_eq_true rfl⟩) (va_recv hK.1 hP (ci := 5) (q0 := 0) rfl rfl) rfl hl.1 rfl (Nat.le_of_ble_eq_true rfl) dX5_wouldFree_3 ⟨Nat.le_of_ble_eq_true rfl, Nat.le_of_ble_eq_true rfl⟩) hD hS hA (fun H locs hP hD hS => ?_)
  have hP : va_P G.1 vwCl (wMD G b q1 dep kept mark start) H := hP
  have hD : va_D A (wMD G b q1 dep kept mark start) := hD
  refine lv_aload_n hx hb dX5_wouldFree_6 rfl (lv_at hl 0 rfl) ?_
  obtain ⟨q3, hc4, hm⟩ := bd_s hm
  refine ks_i (wo := (wMD G b q3.2.1 dep kept q3.2.2.1 q3.2.2.2)) (rV (As := []) (rest := []) (b := (b 0)) (wi := (wMD G b q1 dep kept mark start)) hF hK hP hD (c_X5_collectNow l G N b q1 dep kept mark start q3 hc4 H.size) (cwV 0 hts gX5_wouldFree_X5_collectNow rfl rfl rfl (by decide +kernel) ⟨Nat.le_of_ble_eq_true rfl, Nat.le_of_ble_eq_true rfl⟩) (va_recv hK.1 hP (ci := 5) (q0 := 0) rfl rfl) rfl hl.1 rfl (Nat.le_of_ble_eq_true rfl) dX5_wouldFree_7 ⟨Nat.le_of_ble_eq_true rfl, Nat.le_of_ble_eq_true rfl⟩) hD hS hA (fun H locs hP hD hS => ?_)
  have hP : va_P G.1 vwCl (wMD G b q3.2.1 dep kept q3.2.2.1 q3.2.2.2) H := hP
  have hD : va_D A (wMD G b q3.2.1 dep kept q3.2.2.1 q3.2.2.2) := hD
  refine lv_istore_n (lv' := [(1, .int q3.1), (0, .ref (b 0))]) hx hb dX5_wouldFree_10 rfl hl (by decide) rfl (fun ls hl => ?_)
  refine lv_aload_n hx hb dX5_wouldFree_11 rfl (lv_at hl 1 rfl) ?_
  refine lv_iconst (v := 1) hx hb dX5_wouldFree_12 (by decide) ?_
  refine lv_iconst (v := 0) hx hb dX5_wouldFree_13 (by decide) ?_
  obtain ⟨q5, hc6, hm⟩ := bd_s hm
  refine ks_v (wo := (wMD G b q5 dep kept q3.2.2.1 q3.2.2.2)) (rV (As := [.int 1, .int 0]) (rest := []) (b := (b 0)) (wi := (wMD G b q3.2.1 dep kept q3.2.2.1 q3.2.2.2)) hF hK hP hD (c_X5_copyState l G N b q3.2.1 dep kept q3.2.2.1 q3.2.2.2 1 0 q5 hc6 H.size) (cwV 2 hts gX5_wouldFree_X5_copyState rfl rfl rfl (by decide +kernel) ⟨Nat.le_of_ble_eq_true rfl, Nat.le_of_ble_eq_true rfl⟩) (va_recv hK.1 hP (ci := 5) (q0 := 0) rfl rfl) rfl hl.1 rfl (Nat.le_of_ble_eq_true rfl) dX5_wouldFree_14 ⟨Nat.le_of_ble_eq_true rfl, Nat.le_of_ble_eq_true rfl⟩) hD hS hA (fun H locs hP hD hS => ?_)
  have hP : va_P G.1 vwCl (wMD G b q5 dep kept q3.2.2.1 q3.2.2.2) H := hP
  have hD : va_D A (wMD G b q5 dep kept q3.2.2.1 q3.2.2.2) := hD
  refine lv_iload_n hx hb dX5_wouldFree_17 rfl (lv_at hl 0 rfl) ?_
  cases hm
  exact rt_i hx hb hr hlocks hP hD hS dX5_wouldFree_18
def M_X5_lastRounds (w : Nat → Int32) : Option (Int32) :=
  gd 387 3880 (some (w (387 : Int32).toNatClampNeg))
theorem w0_X5_lastRounds : Cond.fieldLink RX5 7 "WeakTableHeapModel" "w" "[I" ∈ wsX5_lastRounds := by decide +kernel
theorem w1_X5_lastRounds : ∀ w ∈ u_ws RX5 TX5 5, w ∈ wsX5_lastRounds := by decide +kernel
abbrev rm_X5_lastRounds : Room := { frames := 0, cells := 0, slots := 0, locals := 0 }
set_option maxHeartbeats 4000000 in
set_option maxRecDepth 100000 in
theorem c_X5_lastRounds (l : Launch) (G : GG) (b : Nat → Nat) (w : Nat → Int32) (dep : Int32) (kept : Nat → Int32) (mark : Nat → Int32) (start : Nat → Int32) (q : Int32) (hm : M_X5_lastRounds w = some q) : CTi l yX5_lastRounds wsX5_lastRounds rm_X5_lastRounds G [.ref (b 0)] (wMD G b w dep kept mark start) q (wMD G b w dep kept mark start) := by
  intro sz
  refine mk_body (Qc := fun A => (QI G A q (wMD G b w dep kept mark start))) (cc := cX5_lastRounds) (maxL := 1) (ret := (some .int)) (lv := [(0, .ref (b 0))]) (by decide) rfl rfl (Nat.le_of_ble_eq_true rfl) ?_
  intro p e s m args below meth c A H locs ls hF hr hlocks hname hK hA hP hD hS hl
  obtain ⟨hx, hb, hml, hown, hts⟩ := id hF
  unfold M_X5_lastRounds at hm
  refine lv_aload_n hx hb dX5_lastRounds_0 rfl (lv_at hl 0 rfl) ?_
  refine va_get (D := G.1) (ci := 5) (v := .ref (b 1)) (C := RX5) (T := TX5) (N := 5) hx hb hts w1_X5_lastRounds hown hK.1 hP 0 rfl rfl 0 (by decide) (hts _ w0_X5_lastRounds) (fun _ h9 => h9) rfl dX5_lastRounds_1 ?_
  refine lv_sipush (v := 387) hx hb dX5_lastRounds_4 (by decide) ?_
  obtain ⟨hi1, hm⟩ := gd_s hm
  refine va_iald hx hb hK.1 hP 1 0 rfl rfl hi1 dX5_lastRounds_7 ?_
  cases hm
  exact rt_i hx hb hr hlocks hP hD hS dX5_lastRounds_8
def M_X5_pollNotice (N : Nat) (w : Nat → Int32) (dep : Int32) : Option (Int32 × (Nat → Int32) × Int32) :=
  gd 366 3880 (if (w (366 : Int32).toNatClampNeg) = 0 then (some ((-2), w, dep)) else ((M_X5_saveState N w dep).bind fun q3 => (M_X5_takeNotice N q3.1).bind fun q5 => some (q5.1, q5.2, q3.2)))
theorem w0_X5_pollNotice : Cond.fieldLink RX5 7 "WeakTableHeapModel" "w" "[I" ∈ wsX5_pollNotice := by decide +kernel
theorem w1_X5_pollNotice : ∀ w ∈ u_ws RX5 TX5 5, w ∈ wsX5_pollNotice := by decide +kernel
abbrev rm_X5_pollNotice : Room := { frames := 2, cells := 0, slots := 0, locals := 44 }
set_option maxHeartbeats 4000000 in
set_option maxRecDepth 100000 in
theorem c_X5_pollNotice (l : Launch) (G : GG) (N : Nat) (b : Nat → Nat) (w : Nat → Int32) (dep : Int32) (kept : Nat → Int32) (mark : Nat → Int32) (start : Nat → Int32) (q : Int32 × (Nat → Int32) × Int32) (hm : M_X5_pollNotice N w dep = some q) : CTi l yX5_pollNotice wsX5_pollNotice rm_X5_pollNotice G [.ref (b 0)] (wMD G b w dep kept mark start) q.1 (wMD G b q.2.1 q.2.2 kept mark start) := by
  intro sz
  refine mk_body (Qc := fun A => (QI G A q.1 (wMD G b q.2.1 q.2.2 kept mark start))) (cc := cX5_pollNotice) (maxL := 1) (ret := (some .int)) (lv := [(0, .ref (b 0))]) (by decide) rfl rfl (Nat.le_of_ble_eq_true rfl) ?_
  intro p e s m args below meth c A H locs ls hF hr hlocks hname hK hA hP hD hS hl
  obtain ⟨hx, hb, hml, hown, hts⟩ := id hF
  unfold M_X5_pollNotice at hm
  refine lv_aload_n hx hb dX5_pollNotice_0 rfl (lv_at hl 0 rfl) ?_
  refine va_get (D := G.1) (ci := 5) (v := .ref (b 1)) (C := RX5) (T := TX5) (N := 5) hx hb hts w1_X5_pollNotice hown hK.1 hP 0 rfl rfl 0 (by decide) (hts _ w0_X5_pollNotice) (fun _ h9 => h9) rfl dX5_pollNotice_1 ?_
  refine lv_sipush (v := 366) hx hb dX5_pollNotice_4 (by decide) ?_
  obtain ⟨hi1, hm⟩ := gd_s hm
  refine va_iald hx hb hK.1 hP 1 0 rfl rfl hi1 dX5_pollNotice_7 ?_
  refine lv_if_ne (tgt := 14) hx hb dX5_pollNotice_8 (by decide) (fun c2 => ?_) (fun c2 => ?_)
  · replace hm := it_f c2 hm
    refine lv_aload_n hx hb dX5_pollNotice_14 rfl (lv_at hl 0 rfl) ?_
    obtain ⟨q3, hc4, hm⟩ := bd_s hm
    refine ks_v (wo := (wMD G b q3.1 q3.2 kept mark start)) (rV (As := []) (rest := []) (b := (b 0)) (wi := (wMD G b w dep kept mark start)) hF hK hP hD (c_X5_saveState l G N b w dep kept mark start q3 hc4 H.size) (cwV 0 hts gX5_pollNotice_X5_saveState rfl rfl rfl (by decide +kernel) ⟨Nat.le_of_ble_eq_true rfl, Nat.le_of_ble_eq_true rfl⟩) (va_recv hK.1 hP (ci := 5) (q0 := 0) rfl rfl) rfl hl.1 rfl (Nat.le_of_ble_eq_true rfl) dX5_pollNotice_15 ⟨Nat.le_of_ble_eq_true rfl, Nat.le_of_ble_eq_true rfl⟩) hD hS hA (fun H locs hP hD hS => ?_)
    have hP : va_P G.1 vwCl (wMD G b q3.1 q3.2 kept mark start) H := hP
    have hD : va_D A (wMD G b q3.1 q3.2 kept mark start) := hD
    refine lv_aload_n hx hb dX5_pollNotice_18 rfl (lv_at hl 0 rfl) ?_
    obtain ⟨q5, hc6, hm⟩ := bd_s hm
    refine ks_i (wo := (wMD G b q5.2 q3.2 kept mark start)) (rV (As := []) (rest := []) (b := (b 0)) (wi := (wMD G b q3.1 q3.2 kept mark start)) hF hK hP hD (c_X5_takeNotice l G N b q3.1 q3.2 kept mark start q5 hc6 H.size) (cwV 0 hts gX5_pollNotice_X5_takeNotice rfl rfl rfl (by decide +kernel) ⟨Nat.le_of_ble_eq_true rfl, Nat.le_of_ble_eq_true rfl⟩) (va_recv hK.1 hP (ci := 5) (q0 := 0) rfl rfl) rfl hl.1 rfl (Nat.le_of_ble_eq_true rfl) dX5_pollNotice_19 ⟨Nat.le_of_ble_eq_true rfl, Nat.le_of_ble_eq_true rfl⟩) hD hS hA (fun H locs hP hD hS => ?_)
    have hP : va_P G.1 vwCl (wMD G b q5.2 q3.2 kept mark start) H := hP
    have hD : va_D A (wMD G b q5.2 q3.2 kept mark start) := hD
    cases hm
    exact rt_i hx hb hr hlocks hP hD hS dX5_pollNotice_22
  · replace hm := it_t c2 hm
    refine lv_bipush (v := (-2)) hx hb dX5_pollNotice_11 (by decide) ?_
    cases hm
    exact rt_i hx hb hr hlocks hP hD hS dX5_pollNotice_13
def M_X5_noticeCount (w : Nat → Int32) : Option (Int32) :=
  gd 366 3880 (some (w (366 : Int32).toNatClampNeg))
theorem w0_X5_noticeCount : Cond.fieldLink RX5 7 "WeakTableHeapModel" "w" "[I" ∈ wsX5_noticeCount := by decide +kernel
theorem w1_X5_noticeCount : ∀ w ∈ u_ws RX5 TX5 5, w ∈ wsX5_noticeCount := by decide +kernel
abbrev rm_X5_noticeCount : Room := { frames := 0, cells := 0, slots := 0, locals := 0 }
set_option maxHeartbeats 4000000 in
set_option maxRecDepth 100000 in
theorem c_X5_noticeCount (l : Launch) (G : GG) (b : Nat → Nat) (w : Nat → Int32) (dep : Int32) (kept : Nat → Int32) (mark : Nat → Int32) (start : Nat → Int32) (q : Int32) (hm : M_X5_noticeCount w = some q) : CTi l yX5_noticeCount wsX5_noticeCount rm_X5_noticeCount G [.ref (b 0)] (wMD G b w dep kept mark start) q (wMD G b w dep kept mark start) := by
  intro sz
  refine mk_body (Qc := fun A => (QI G A q (wMD G b w dep kept mark start))) (cc := cX5_noticeCount) (maxL := 1) (ret := (some .int)) (lv := [(0, .ref (b 0))]) (by decide) rfl rfl (Nat.le_of_ble_eq_true rfl) ?_
  intro p e s m args below meth c A H locs ls hF hr hlocks hname hK hA hP hD hS hl
  obtain ⟨hx, hb, hml, hown, hts⟩ := id hF
  unfold M_X5_noticeCount at hm
  refine lv_aload_n hx hb dX5_noticeCount_0 rfl (lv_at hl 0 rfl) ?_
  refine va_get (D := G.1) (ci := 5) (v := .ref (b 1)) (C := RX5) (T := TX5) (N := 5) hx hb hts w1_X5_noticeCount hown hK.1 hP 0 rfl rfl 0 (by decide) (hts _ w0_X5_noticeCount) (fun _ h9 => h9) rfl dX5_noticeCount_1 ?_
  refine lv_sipush (v := 366) hx hb dX5_noticeCount_4 (by decide) ?_
  obtain ⟨hi1, hm⟩ := gd_s hm
  refine va_iald hx hb hK.1 hP 1 0 rfl rfl hi1 dX5_noticeCount_7 ?_
  cases hm
  exact rt_i hx hb hr hlocks hP hD hS dX5_noticeCount_8
def M_X5_reachableCount (N : Nat) (w : Nat → Int32) (mark : Nat → Int32) (start : Nat → Int32) : Option (Int32 × (Nat → Int32) × (Nat → Int32)) :=
  (M_X5_markAll N w mark start (-9)).bind fun q1 => (M_X5_marked N q1.2.1).bind fun q3 => some (q3, q1.2.1, q1.2.2)
abbrev rm_X5_reachableCount : Room := { frames := 4, cells := 0, slots := 0, locals := 93 }
set_option maxHeartbeats 4000000 in
set_option maxRecDepth 100000 in
theorem c_X5_reachableCount (l : Launch) (G : GG) (N : Nat) (b : Nat → Nat) (w : Nat → Int32) (dep : Int32) (kept : Nat → Int32) (mark : Nat → Int32) (start : Nat → Int32) (q : Int32 × (Nat → Int32) × (Nat → Int32)) (hm : M_X5_reachableCount N w mark start = some q) : CTi l yX5_reachableCount wsX5_reachableCount rm_X5_reachableCount G [.ref (b 0)] (wMD G b w dep kept mark start) q.1 (wMD G b w dep kept q.2.1 q.2.2) := by
  intro sz
  refine mk_body (Qc := fun A => (QI G A q.1 (wMD G b w dep kept q.2.1 q.2.2))) (cc := cX5_reachableCount) (maxL := 1) (ret := (some .int)) (lv := [(0, .ref (b 0))]) (by decide) rfl rfl (Nat.le_of_ble_eq_true rfl) ?_
  intro p e s m args below meth c A H locs ls hF hr hlocks hname hK hA hP hD hS hl
  obtain ⟨hx, hb, hml, hown, hts⟩ := id hF
  unfold M_X5_reachableCount at hm
  refine lv_aload_n hx hb dX5_reachableCount_0 rfl (lv_at hl 0 rfl) ?_
  refine lv_bipush (v := (-9)) hx hb dX5_reachableCount_1 (by decide) ?_
  obtain ⟨q1, hc2, hm⟩ := bd_s hm
  refine ks_i (wo := (wMD G b w dep kept q1.2.1 q1.2.2)) (rV (As := [.int (-9)]) (rest := []) (b := (b 0)) (wi := (wMD G b w dep kept mark start)) hF hK hP hD (c_X5_markAll l G N b w dep kept mark start (-9) q1 hc2 H.size) (cwV 1 hts gX5_reachableCount_X5_markAll rfl rfl rfl (by decide +kernel) ⟨Nat.le_of_ble_eq_true rfl, Nat.le_of_ble_eq_true rfl⟩) (va_recv hK.1 hP (ci := 5) (q0 := 0) rfl rfl) rfl hl.1 rfl (Nat.le_of_ble_eq_true rfl) dX5_reachableCount_3 ⟨Nat.le_of_ble_eq_true rfl, Nat.le_of_ble_eq_true rfl⟩) hD hS hA (fun H locs hP hD hS => ?_)
  have hP : va_P G.1 vwCl (wMD G b w dep kept q1.2.1 q1.2.2) H := hP
  have hD : va_D A (wMD G b w dep kept q1.2.1 q1.2.2) := hD
  refine lv_pop hx hb dX5_reachableCount_6 rfl ?_
  refine lv_aload_n hx hb dX5_reachableCount_7 rfl (lv_at hl 0 rfl) ?_
  obtain ⟨q3, hc4, hm⟩ := bd_s hm
  refine ks_i (wo := (wMD G b w dep kept q1.2.1 q1.2.2)) (rV (As := []) (rest := []) (b := (b 0)) (wi := (wMD G b w dep kept q1.2.1 q1.2.2)) hF hK hP hD (c_X5_marked l G N b w dep kept q1.2.1 q1.2.2 q3 hc4 H.size) (cwV 0 hts gX5_reachableCount_X5_marked rfl rfl rfl (by decide +kernel) ⟨Nat.le_of_ble_eq_true rfl, Nat.le_of_ble_eq_true rfl⟩) (va_recv hK.1 hP (ci := 5) (q0 := 0) rfl rfl) rfl hl.1 rfl (Nat.le_of_ble_eq_true rfl) dX5_reachableCount_8 ⟨Nat.le_of_ble_eq_true rfl, Nat.le_of_ble_eq_true rfl⟩) hD hS hA (fun H locs hP hD hS => ?_)
  have hP : va_P G.1 vwCl (wMD G b w dep kept q1.2.1 q1.2.2) H := hP
  have hD : va_D A (wMD G b w dep kept q1.2.1 q1.2.2) := hD
  cases hm
  exact rt_i hx hb hr hlocks hP hD hS dX5_reachableCount_11
def M_X5_markRound (N : Nat) (w : Nat → Int32) (mark : Nat → Int32) (start : Nat → Int32) (p1 : Int32) : Option (Int32 × (Nat → Int32) × (Nat → Int32)) :=
  (M_X5_isAllocated w p1).bind fun q1 => if q1 = 0 then (some ((-1), mark, start)) else ((M_X5_markAll N w mark start (-9)).bind fun q4 => gd p1 24 (some ((q4.2.1 p1.toNatClampNeg), q4.2.1, q4.2.2)))
theorem w0_X5_markRound : Cond.fieldLink RX5 17 "WeakTableHeapModel" "mark" "[I" ∈ wsX5_markRound := by decide +kernel
theorem w1_X5_markRound : ∀ w ∈ u_ws RX5 TX5 5, w ∈ wsX5_markRound := by decide +kernel
abbrev rm_X5_markRound : Room := { frames := 4, cells := 0, slots := 0, locals := 93 }
set_option maxHeartbeats 4000000 in
set_option maxRecDepth 100000 in
theorem c_X5_markRound (l : Launch) (G : GG) (N : Nat) (b : Nat → Nat) (w : Nat → Int32) (dep : Int32) (kept : Nat → Int32) (mark : Nat → Int32) (start : Nat → Int32) (p1 : Int32) (q : Int32 × (Nat → Int32) × (Nat → Int32)) (hm : M_X5_markRound N w mark start p1 = some q) : CTi l yX5_markRound wsX5_markRound rm_X5_markRound G [.ref (b 0), .int p1] (wMD G b w dep kept mark start) q.1 (wMD G b w dep kept q.2.1 q.2.2) := by
  intro sz
  refine mk_body (Qc := fun A => (QI G A q.1 (wMD G b w dep kept q.2.1 q.2.2))) (cc := cX5_markRound) (maxL := 2) (ret := (some .int)) (lv := [(0, .ref (b 0)), (1, .int p1)]) (by decide) rfl rfl (Nat.le_of_ble_eq_true rfl) ?_
  intro p e s m args below meth c A H locs ls hF hr hlocks hname hK hA hP hD hS hl
  obtain ⟨hx, hb, hml, hown, hts⟩ := id hF
  unfold M_X5_markRound at hm
  refine lv_aload_n hx hb dX5_markRound_0 rfl (lv_at hl 0 rfl) ?_
  refine lv_iload_n hx hb dX5_markRound_1 rfl (lv_at hl 1 rfl) ?_
  obtain ⟨q1, hc2, hm⟩ := bd_s hm
  refine ks_i (wo := (wMD G b w dep kept mark start)) (rV (As := [.int p1]) (rest := []) (b := (b 0)) (wi := (wMD G b w dep kept mark start)) hF hK hP hD (c_X5_isAllocated l G b w dep kept mark start p1 q1 hc2 H.size) (cwV 1 hts gX5_markRound_X5_isAllocated rfl rfl rfl (by decide +kernel) ⟨Nat.le_of_ble_eq_true rfl, Nat.le_of_ble_eq_true rfl⟩) (va_recv hK.1 hP (ci := 5) (q0 := 0) rfl rfl) rfl hl.1 rfl (Nat.le_of_ble_eq_true rfl) dX5_markRound_2 ⟨Nat.le_of_ble_eq_true rfl, Nat.le_of_ble_eq_true rfl⟩) hD hS hA (fun H locs hP hD hS => ?_)
  have hP : va_P G.1 vwCl (wMD G b w dep kept mark start) H := hP
  have hD : va_D A (wMD G b w dep kept mark start) := hD
  refine lv_if_ne (tgt := 10) hx hb dX5_markRound_5 (by decide) (fun c3 => ?_) (fun c3 => ?_)
  · replace hm := it_f c3 hm
    refine lv_aload_n hx hb dX5_markRound_10 rfl (lv_at hl 0 rfl) ?_
    refine lv_bipush (v := (-9)) hx hb dX5_markRound_11 (by decide) ?_
    obtain ⟨q4, hc5, hm⟩ := bd_s hm
    refine ks_i (wo := (wMD G b w dep kept q4.2.1 q4.2.2)) (rV (As := [.int (-9)]) (rest := []) (b := (b 0)) (wi := (wMD G b w dep kept mark start)) hF hK hP hD (c_X5_markAll l G N b w dep kept mark start (-9) q4 hc5 H.size) (cwV 1 hts gX5_markRound_X5_markAll rfl rfl rfl (by decide +kernel) ⟨Nat.le_of_ble_eq_true rfl, Nat.le_of_ble_eq_true rfl⟩) (va_recv hK.1 hP (ci := 5) (q0 := 0) rfl rfl) rfl hl.1 rfl (Nat.le_of_ble_eq_true rfl) dX5_markRound_13 ⟨Nat.le_of_ble_eq_true rfl, Nat.le_of_ble_eq_true rfl⟩) hD hS hA (fun H locs hP hD hS => ?_)
    have hP : va_P G.1 vwCl (wMD G b w dep kept q4.2.1 q4.2.2) H := hP
    have hD : va_D A (wMD G b w dep kept q4.2.1 q4.2.2) := hD
    refine lv_pop hx hb dX5_markRound_16 rfl ?_
    refine lv_aload_n hx hb dX5_markRound_17 rfl (lv_at hl 0 rfl) ?_
    refine va_get (D := G.1) (ci := 5) (v := .ref (b 3)) (C := RX5) (T := TX5) (N := 5) hx hb hts w1_X5_markRound hown hK.1 hP 0 rfl rfl 3 (by decide) (hts _ w0_X5_markRound) (fun _ h9 => h9) rfl dX5_markRound_18 ?_
    refine lv_iload_n hx hb dX5_markRound_21 rfl (lv_at hl 1 rfl) ?_
    obtain ⟨hi6, hm⟩ := gd_s hm
    refine va_iald hx hb hK.1 hP 3 0 rfl rfl hi6 dX5_markRound_22 ?_
    cases hm
    exact rt_i hx hb hr hlocks hP hD hS dX5_markRound_23
  · replace hm := it_t c3 hm
    refine lv_iconst (v := (-1)) hx hb dX5_markRound_8 (by decide) ?_
    cases hm
    exact rt_i hx hb hr hlocks hP hD hS dX5_markRound_9
def M_X5_retainedSize (N : Nat) (w : Nat → Int32) (mark : Nat → Int32) (start : Nat → Int32) (p1 : Int32) : Option (Int32 × (Nat → Int32) × (Nat → Int32)) :=
  (M_X5_isAllocated w p1).bind fun q1 => if q1 = 0 then (some ((-1), mark, start)) else ((M_X5_reachableCount N w mark start).bind fun q4 => (M_X5_markAll N w q4.2.1 q4.2.2 p1).bind fun q6 => (M_X5_marked N q6.2.1).bind fun q8 => some ((q4.1 - q8), q6.2.1, q6.2.2))
abbrev rm_X5_retainedSize : Room := { frames := 5, cells := 0, slots := 0, locals := 113 }
set_option maxHeartbeats 4000000 in
set_option maxRecDepth 100000 in
theorem c_X5_retainedSize (l : Launch) (G : GG) (N : Nat) (b : Nat → Nat) (w : Nat → Int32) (dep : Int32) (kept : Nat → Int32) (mark : Nat → Int32) (start : Nat → Int32) (p1 : Int32) (q : Int32 × (Nat → Int32) × (Nat → Int32)) (hm : M_X5_retainedSize N w mark start p1 = some q) : CTi l yX5_retainedSize wsX5_retainedSize rm_X5_retainedSize G [.ref (b 0), .int p1] (wMD G b w dep kept mark start) q.1 (wMD G b w dep kept q.2.1 q.2.2) := by
  intro sz
  refine mk_body (Qc := fun A => (QI G A q.1 (wMD G b w dep kept q.2.1 q.2.2))) (cc := cX5_retainedSize) (maxL := 3) (ret := (some .int)) (lv := [(0, .ref (b 0)), (1, .int p1)]) (by decide) rfl rfl (Nat.le_of_ble_eq_true rfl) ?_
  intro p e s m args below meth c A H locs ls hF hr hlocks hname hK hA hP hD hS hl
  obtain ⟨hx, hb, hml, hown, hts⟩ := id hF
  unfold M_X5_retainedSize at hm
  refine lv_aload_n hx hb dX5_retainedSize_0 rfl (lv_at hl 0 rfl) ?_
  refine lv_iload_n hx hb dX5_retainedSize_1 rfl (lv_at hl 1 rfl) ?_
  obtain ⟨q1, hc2, hm⟩ := bd_s hm
  refine ks_i (wo := (wMD G b w dep kept mark start)) (rV (As := [.int p1]) (rest := []) (b := (b 0)) (wi := (wMD G b w dep kept mark start)) hF hK hP hD (c_X5_isAllocated l G b w dep kept mark start p1 q1 hc2 H.size) (cwV 1 hts gX5_retainedSize_X5_isAllocated rfl rfl rfl (by decide +kernel) ⟨Nat.le_of_ble_eq_true rfl, Nat.le_of_ble_eq_true rfl⟩) (va_recv hK.1 hP (ci := 5) (q0 := 0) rfl rfl) rfl hl.1 rfl (Nat.le_of_ble_eq_true rfl) dX5_retainedSize_2 ⟨Nat.le_of_ble_eq_true rfl, Nat.le_of_ble_eq_true rfl⟩) hD hS hA (fun H locs hP hD hS => ?_)
  have hP : va_P G.1 vwCl (wMD G b w dep kept mark start) H := hP
  have hD : va_D A (wMD G b w dep kept mark start) := hD
  refine lv_if_ne (tgt := 10) hx hb dX5_retainedSize_5 (by decide) (fun c3 => ?_) (fun c3 => ?_)
  · replace hm := it_f c3 hm
    refine lv_aload_n hx hb dX5_retainedSize_10 rfl (lv_at hl 0 rfl) ?_
    obtain ⟨q4, hc5, hm⟩ := bd_s hm
    refine ks_i (wo := (wMD G b w dep kept q4.2.1 q4.2.2)) (rV (As := []) (rest := []) (b := (b 0)) (wi := (wMD G b w dep kept mark start)) hF hK hP hD (c_X5_reachableCount l G N b w dep kept mark start q4 hc5 H.size) (cwV 0 hts gX5_retainedSize_X5_reachableCount rfl rfl rfl (by decide +kernel) ⟨Nat.le_of_ble_eq_true rfl, Nat.le_of_ble_eq_true rfl⟩) (va_recv hK.1 hP (ci := 5) (q0 := 0) rfl rfl) rfl hl.1 rfl (Nat.le_of_ble_eq_true rfl) dX5_retainedSize_11 ⟨Nat.le_of_ble_eq_true rfl, Nat.le_of_ble_eq_true rfl⟩) hD hS hA (fun H locs hP hD hS => ?_)
    have hP : va_P G.1 vwCl (wMD G b w dep kept q4.2.1 q4.2.2) H := hP
    have hD : va_D A (wMD G b w dep kept q4.2.1 q4.2.2) := hD
    refine lv_istore_n (lv' := [(2, .int q4.1), (0, .ref (b 0)), (1, .int p1)]) hx hb dX5_retainedSize_14 rfl hl (by decide) rfl (fun ls hl => ?_)
    refine lv_aload_n hx hb dX5_retainedSize_15 rfl (lv_at hl 1 rfl) ?_
    refine lv_iload_n hx hb dX5_retainedSize_16 rfl (lv_at hl 2 rfl) ?_
    obtain ⟨q6, hc7, hm⟩ := bd_s hm
    refine ks_i (wo := (wMD G b w dep kept q6.2.1 q6.2.2)) (rV (As := [.int p1]) (rest := []) (b := (b 0)) (wi := (wMD G b w dep kept q4.2.1 q4.2.2)) hF hK hP hD (c_X5_markAll l G N b w dep kept q4.2.1 q4.2.2 p1 q6 hc7 H.size) (cwV 1 hts gX5_retainedSize_X5_markAll rfl rfl rfl (by decide +kernel) ⟨Nat.le_of_ble_eq_true rfl, Nat.le_of_ble_eq_true rfl⟩) (va_recv hK.1 hP (ci := 5) (q0 := 0) rfl rfl) rfl hl.1 rfl (Nat.le_of_ble_eq_true rfl) dX5_retainedSize_17 ⟨Nat.le_of_ble_eq_true rfl, Nat.le_of_ble_eq_true rfl⟩) hD hS hA (fun H locs hP hD hS => ?_)
    have hP : va_P G.1 vwCl (wMD G b w dep kept q6.2.1 q6.2.2) H := hP
    have hD : va_D A (wMD G b w dep kept q6.2.1 q6.2.2) := hD
    refine lv_pop hx hb dX5_retainedSize_20 rfl ?_
    refine lv_iload_n hx hb dX5_retainedSize_21 rfl (lv_at hl 0 rfl) ?_
    refine lv_aload_n hx hb dX5_retainedSize_22 rfl (lv_at hl 1 rfl) ?_
    obtain ⟨q8, hc9, hm⟩ := bd_s hm
    refine ks_i (wo := (wMD G b w dep kept q6.2.1 q6.2.2)) (rV (As := []) (rest := [.int q4.1]) (b := (b 0)) (wi := (wMD G b w dep kept q6.2.1 q6.2.2)) hF hK hP hD (c_X5_marked l G N b w dep kept q6.2.1 q6.2.2 q8 hc9 H.size) (cwV 0 hts gX5_retainedSize_X5_marked rfl rfl rfl (by decide +kernel) ⟨Nat.le_of_ble_eq_true rfl, Nat.le_of_ble_eq_true rfl⟩) (va_recv hK.1 hP (ci := 5) (q0 := 0) rfl rfl) rfl hl.1 rfl (Nat.le_of_ble_eq_true rfl) dX5_retainedSize_23 ⟨Nat.le_of_ble_eq_true rfl, Nat.le_of_ble_eq_true rfl⟩) hD hS hA (fun H locs hP hD hS => ?_)
    have hP : va_P G.1 vwCl (wMD G b w dep kept q6.2.1 q6.2.2) H := hP
    have hD : va_D A (wMD G b w dep kept q6.2.1 q6.2.2) := hD
    refine lv_isub hx hb dX5_retainedSize_26 ?_
    cases hm
    exact rt_i hx hb hr hlocks hP hD hS dX5_retainedSize_27
  · replace hm := it_t c3 hm
    refine lv_iconst (v := (-1)) hx hb dX5_retainedSize_8 (by decide) ?_
    cases hm
    exact rt_i hx hb hr hlocks hP hD hS dX5_retainedSize_9
def M_X5_waitingEntries_L21 (N : Nat) (w : Nat → Int32) (p1 : Int32) : Nat → (Int32) → (Int32) → Option (Int32 × (Nat → Int32) × (Nat → Int32))
  | 0, _, _ => none
  | n8 + 1, v6, v7 => if 24 ≤ v7 then (some (v6, q4.2.1, q4.2.2)) else (gd p1 24 (if (q4.2.1 p1.toNatClampNeg) = (-9) then (gd v7 24 (if (q4.2.1 v7.toNatClampNeg) = (-9) then (M_X5_waitingEntries_L21 N w p1 n8 (v6 + 0) (v7 + 1)) else ((M_X5_part w v7 0).bind fun q16 => if q16 = 1 then ((M_X5_placeOf N w v7 p1).bind fun q19 => if q19 = (-9) then (M_X5_waitingEntries_L21 N w p1 n8 (v6 + 0) (v7 + 1)) else (M_X5_waitingEntries_L21 N w p1 n8 (v6 + 1) (v7 + 1))) else (M_X5_waitingEntries_L21 N w p1 n8 (v6 + 0) (v7 + 1))))) else (some (v6, q4.2.1, q4.2.2))))
def M_X5_waitingEntries (N : Nat) (w : Nat → Int32) (mark : Nat → Int32) (start : Nat → Int32) (p1 : Int32) : Option (Int32 × (Nat → Int32) × (Nat → Int32)) :=
  (M_X5_isAllocated w p1).bind fun q1 => if q1 = 0 then (some ((-1), mark, start)) else ((M_X5_markAll N w mark start (-9)).bind fun q4 => M_X5_waitingEntries_L21 N w p1 N 0 0)
theorem w0_X5_waitingEntries : Cond.fieldLink RX5 17 "WeakTableHeapModel" "mark" "[I" ∈ wsX5_waitingEntries := by decide +kernel
theorem w1_X5_waitingEntries : ∀ w ∈ u_ws RX5 TX5 5, w ∈ wsX5_waitingEntries := by decide +kernel
abbrev rm_X5_waitingEntries : Room := { frames := 4, cells := 0, slots := 0, locals := 93 }
set_option maxHeartbeats 4000000 in
set_option maxRecDepth 100000 in
theorem c_X5_waitingEntries (l : Launch) (G : GG) (N : Nat) (b : Nat → Nat) (w : Nat → Int32) (dep : Int32) (kept : Nat → Int32) (mark : Nat → Int32) (start : Nat → Int32) (p1 : Int32) (q : Int32 × (Nat → Int32) × (Nat → Int32)) (hm : M_X5_waitingEntries N w mark start p1 = some q) : CTi l yX5_waitingEntries wsX5_waitingEntries rm_X5_waitingEntries G [.ref (b 0), .int p1] (wMD G b w dep kept mark start) q.1 (wMD G b w dep kept q.2.1 q.2.2) := by
  intro sz
  refine mk_body (Qc := fun A => (QI G A q.1 (wMD G b w dep kept q.2.1 q.2.2))) (cc := cX5_waitingEntries) (maxL := 4) (ret := (some .int)) (lv := [(0, .ref (b 0)), (1, .int p1)]) (by decide) rfl rfl (Nat.le_of_ble_eq_true rfl) ?_
  intro p e s m args below meth c A H locs ls hF hr hlocks hname hK hA hP hD hS hl
  obtain ⟨hx, hb, hml, hown, hts⟩ := id hF
  unfold M_X5_waitingEntries at hm
  refine lv_aload_n hx hb dX5_waitingEntries_0 rfl (lv_at hl 0 rfl) ?_
  refine lv_iload_n hx hb dX5_waitingEntries_1 rfl (lv_at hl 1 rfl) ?_
  obtain ⟨q1, hc2, hm⟩ := bd_s hm
  refine ks_i (wo := (wMD G b w dep kept mark start)) (rV (As := [.int p1]) (rest := []) (b := (b 0)) (wi := (wMD G b w dep kept mark start)) hF hK hP hD (c_X5_isAllocated l G b w dep kept mark start p1 q1 hc2 H.size) (cwV 1 hts gX5_waitingEntries_X5_isAllocated rfl rfl rfl (by decide +kernel) ⟨Nat.le_of_ble_eq_true rfl, Nat.le_of_ble_eq_true rfl⟩) (va_recv hK.1 hP (ci := 5) (q0 := 0) rfl rfl) rfl hl.1 rfl (Nat.le_of_ble_eq_true rfl) dX5_waitingEntries_2 ⟨Nat.le_of_ble_eq_true rfl, Nat.le_of_ble_eq_true rfl⟩) hD hS hA (fun H locs hP hD hS => ?_)
  have hP : va_P G.1 vwCl (wMD G b w dep kept mark start) H := hP
  have hD : va_D A (wMD G b w dep kept mark start) := hD
  refine lv_if_ne (tgt := 10) hx hb dX5_waitingEntries_5 (by decide) (fun c3 => ?_) (fun c3 => ?_)
  · replace hm := it_f c3 hm
    refine lv_aload_n hx hb dX5_waitingEntries_10 rfl (lv_at hl 0 rfl) ?_
    refine lv_bipush (v := (-9)) hx hb dX5_waitingEntries_11 (by decide) ?_
    obtain ⟨q4, hc5, hm⟩ := bd_s hm
    refine ks_i (wo := (wMD G b w dep kept q4.2.1 q4.2.2)) (rV (As := [.int (-9)]) (rest := []) (b := (b 0)) (wi := (wMD G b w dep kept mark start)) hF hK hP hD (c_X5_markAll l G N b w dep kept mark start (-9) q4 hc5 H.size) (cwV 1 hts gX5_waitingEntries_X5_markAll rfl rfl rfl (by decide +kernel) ⟨Nat.le_of_ble_eq_true rfl, Nat.le_of_ble_eq_true rfl⟩) (va_recv hK.1 hP (ci := 5) (q0 := 0) rfl rfl) rfl hl.1 rfl (Nat.le_of_ble_eq_true rfl) dX5_waitingEntries_13 ⟨Nat.le_of_ble_eq_true rfl, Nat.le_of_ble_eq_true rfl⟩) hD hS hA (fun H locs hP hD hS => ?_)
    have hP : va_P G.1 vwCl (wMD G b w dep kept q4.2.1 q4.2.2) H := hP
    have hD : va_D A (wMD G b w dep kept q4.2.1 q4.2.2) := hD
    refine lv_pop hx hb dX5_waitingEntries_16 rfl ?_
    refine lv_iconst (v := 0) hx hb dX5_waitingEntries_17 (by decide) ?_
    refine lv_istore_n (lv' := [(2, .int 0), (0, .ref (b 0)), (1, .int p1)]) hx hb dX5_waitingEntries_18 rfl hl (by decide) rfl (fun ls hl => ?_)
    refine lv_iconst (v := 0) hx hb dX5_waitingEntries_19 (by decide) ?_
    refine lv_istore_n (lv' := [(3, .int 0), (2, .int 0), (0, .ref (b 0)), (1, .int p1)]) hx hb dX5_waitingEntries_20 rfl hl (by decide) rfl (fun ls hl => ?_)
    have L10 : ∀ (n8 : Nat) (v6 : Int32) (v7 : Int32), M_X5_waitingEntries_L21 N w p1 n8 v6 v7 = some q → ∀ (H : Heap) (locs : List Loc) (ls : Array Slot), va_P G.1 vwCl (wMD G b w dep kept q4.2.1 q4.2.2) H → va_D A (wMD G b w dep kept q4.2.1 q4.2.2) → va_S A s.heap H locs → lv_has ls 4 [(0, .ref (b 0)), (1, .int p1), (2, .int v6), (3, .int v7)] → W p l e rm_X5_waitingEntries s m args below meth c H locs 0 0 (MQ below (QI G A q.1 (wMD G b w dep kept q.2.1 q.2.2)) args s rm_X5_waitingEntries.cells rm_X5_waitingEntries.slots A) (F0 m 21 ls []) := by
      intro n8
      induction n8 with
      | zero => intro v6 v7 hm; cases hm
      | succ n8 ih9 =>
        intro v6 v7 hm H locs ls hP hD hS hl
        rw [M_X5_waitingEntries_L21] at hm
        refine lv_iload_n hx hb dX5_waitingEntries_21 rfl (lv_at hl 3 rfl) ?_
        refine lv_bipush (v := 24) hx hb dX5_waitingEntries_22 (by decide) ?_
        refine lv_icmp_ge (tgt := 84) hx hb dX5_waitingEntries_24 (by decide) (fun c11 => ?_) (fun c11 => ?_)
        · replace hm := it_t c11 hm
          refine lv_iload_n hx hb dX5_waitingEntries_84 rfl (lv_at hl 2 rfl) ?_
          cases hm
          exact rt_i hx hb hr hlocks hP hD hS dX5_waitingEntries_85
        · replace hm := it_f c11 hm
          refine lv_aload_n hx hb dX5_waitingEntries_27 rfl (lv_at hl 0 rfl) ?_
          refine va_get (D := G.1) (ci := 5) (v := .ref (b 3)) (C := RX5) (T := TX5) (N := 5) hx hb hts w1_X5_waitingEntries hown hK.1 hP 0 rfl rfl 3 (by decide) (hts _ w0_X5_waitingEntries) (fun _ h9 => h9) rfl dX5_waitingEntries_28 ?_
          refine lv_iload_n hx hb dX5_waitingEntries_31 rfl (lv_at hl 1 rfl) ?_
          obtain ⟨hi12, hm⟩ := gd_s hm
          refine va_iald hx hb hK.1 hP 3 0 rfl rfl hi12 dX5_waitingEntries_32 ?_
          refine lv_bipush (v := (-9)) hx hb dX5_waitingEntries_33 (by decide) ?_
          refine lv_icmp_ne (tgt := 84) hx hb dX5_waitingEntries_35 (by decide) (fun c13 => ?_) (fun c13 => ?_)
          · replace hm := it_f c13 hm
            refine lv_iload_n hx hb dX5_waitingEntries_84 rfl (lv_at hl 2 rfl) ?_
            cases hm
            exact rt_i hx hb hr hlocks hP hD hS dX5_waitingEntries_85
          · replace hm := it_t c13 hm
            refine lv_iload_n hx hb dX5_waitingEntries_38 rfl (lv_at hl 2 rfl) ?_
            refine lv_aload_n hx hb dX5_waitingEntries_39 rfl (lv_at hl 0 rfl) ?_
            refine va_get (D := G.1) (ci := 5) (v := .ref (b 3)) (C := RX5) (T := TX5) (N := 5) hx hb hts w1_X5_waitingEntries hown hK.1 hP 0 rfl rfl 3 (by decide) (hts _ w0_X5_waitingEntries) (fun _ h9 => h9) rfl dX5_waitingEntries_40 ?_
            refine lv_iload_n hx hb dX5_waitingEntries_43 rfl (lv_at hl 3 rfl) ?_
            obtain ⟨hi14, hm⟩ := gd_s hm
            refine va_iald hx hb hK.1 hP 3 0 rfl rfl hi14 dX5_waitingEntries_44 ?_
            refine lv_bipush (v := (-9)) hx hb dX5_waitingEntries_45 (by decide) ?_
            refine lv_icmp_eq (tgt := 75) hx hb dX5_waitingEntries_47 (by decide) (fun c15 => ?_) (fun c15 => ?_)
            · replace hm := it_t c15 hm
              refine lv_iconst (v := 0) hx hb dX5_waitingEntries_75 (by decide) ?_
              refine lv_iadd hx hb dX5_waitingEntries_76 ?_
              refine lv_istore_n (lv' := [(2, .int (v6 + 0)), (0, .ref (b 0)), (1, .int p1), (3, .int v7)]) hx hb dX5_waitingEntries_77 rfl hl (by decide) rfl (fun ls hl => ?_)
              refine lv_iinc (v := (v7 + 1)) (lv' := [(3, .int (v7 + 1)), (2, .int (v6 + 0)), (0, .ref (b 0)), (1, .int p1)]) hx hb dX5_waitingEntries_78 hl (k := 3) rfl rfl (by decide) rfl (fun ls hl => ?_)
              refine lv_goto (tgt := 21) hx hb dX5_waitingEntries_81 (by decide) ?_
              exact ih9 (v6 + 0) (v7 + 1) hm _ _ _ hP hD hS (lv_sub hl [2, 3, 1, 0] rfl)
            · replace hm := it_f c15 hm
              refine lv_aload_n hx hb dX5_waitingEntries_50 rfl (lv_at hl 0 rfl) ?_
              refine lv_iload_n hx hb dX5_waitingEntries_51 rfl (lv_at hl 3 rfl) ?_
              refine lv_iconst (v := 0) hx hb dX5_waitingEntries_52 (by decide) ?_
              obtain ⟨q16, hc17, hm⟩ := bd_s hm
              refine ks_i (wo := (wMD G b w dep kept q4.2.1 q4.2.2)) (rV (As := [.int v7, .int 0]) (rest := [.int v6]) (b := (b 0)) (wi := (wMD G b w dep kept q4.2.1 q4.2.2)) hF hK hP hD (c_X5_part l G b w dep kept q4.2.1 q4.2.2 v7 0 q16 hc17 H.size) (cwV 2 hts gX5_waitingEntries_X5_part rfl rfl rfl (by decide +kernel) ⟨Nat.le_of_ble_eq_true rfl, Nat.le_of_ble_eq_true rfl⟩) (va_recv hK.1 hP (ci := 5) (q0 := 0) rfl rfl) rfl hl.1 rfl (Nat.le_of_ble_eq_true rfl) dX5_waitingEntries_53 ⟨Nat.le_of_ble_eq_true rfl, Nat.le_of_ble_eq_true rfl⟩) hD hS hA (fun H locs hP hD hS => ?_)
              have hP : va_P G.1 vwCl (wMD G b w dep kept q4.2.1 q4.2.2) H := hP
              have hD : va_D A (wMD G b w dep kept q4.2.1 q4.2.2) := hD
              refine lv_iconst (v := 1) hx hb dX5_waitingEntries_56 (by decide) ?_
              refine lv_icmp_ne (tgt := 75) hx hb dX5_waitingEntries_57 (by decide) (fun c18 => ?_) (fun c18 => ?_)
              · replace hm := it_f c18 hm
                refine lv_iconst (v := 0) hx hb dX5_waitingEntries_75 (by decide) ?_
                refine lv_iadd hx hb dX5_waitingEntries_76 ?_
                refine lv_istore_n (lv' := [(2, .int (v6 + 0)), (0, .ref (b 0)), (1, .int p1), (3, .int v7)]) hx hb dX5_waitingEntries_77 rfl hl (by decide) rfl (fun ls hl => ?_)
                refine lv_iinc (v := (v7 + 1)) (lv' := [(3, .int (v7 + 1)), (2, .int (v6 + 0)), (0, .ref (b 0)), (1, .int p1)]) hx hb dX5_waitingEntries_78 hl (k := 3) rfl rfl (by decide) rfl (fun ls hl => ?_)
                refine lv_goto (tgt := 21) hx hb dX5_waitingEntries_81 (by decide) ?_
                exact ih9 (v6 + 0) (v7 + 1) hm _ _ _ hP hD hS (lv_sub hl [2, 3, 1, 0] rfl)
              · replace hm := it_t c18 hm
                refine lv_aload_n hx hb dX5_waitingEntries_60 rfl (lv_at hl 0 rfl) ?_
                refine lv_iload_n hx hb dX5_waitingEntries_61 rfl (lv_at hl 3 rfl) ?_
                refine lv_iload_n hx hb dX5_waitingEntries_62 rfl (lv_at hl 1 rfl) ?_
                obtain ⟨q19, hc20, hm⟩ := bd_s hm
                refine ks_i (wo := (wMD G b w dep kept q4.2.1 q4.2.2)) (rV (As := [.int v7, .int p1]) (rest := [.int v6]) (b := (b 0)) (wi := (wMD G b w dep kept q4.2.1 q4.2.2)) hF hK hP hD (c_X5_placeOf l G N b w dep kept q4.2.1 q4.2.2 v7 p1 q19 hc20 H.size) (cwV 2 hts gX5_waitingEntries_X5_placeOf rfl rfl rfl (by decide +kernel) ⟨Nat.le_of_ble_eq_true rfl, Nat.le_of_ble_eq_true rfl⟩) (va_recv hK.1 hP (ci := 5) (q0 := 0) rfl rfl) rfl hl.1 rfl (Nat.le_of_ble_eq_true rfl) dX5_waitingEntries_63 ⟨Nat.le_of_ble_eq_true rfl, Nat.le_of_ble_eq_true rfl⟩) hD hS hA (fun H locs hP hD hS => ?_)
                have hP : va_P G.1 vwCl (wMD G b w dep kept q4.2.1 q4.2.2) H := hP
                have hD : va_D A (wMD G b w dep kept q4.2.1 q4.2.2) := hD
                refine lv_bipush (v := (-9)) hx hb dX5_waitingEntries_66 (by decide) ?_
                refine lv_icmp_eq (tgt := 75) hx hb dX5_waitingEntries_68 (by decide) (fun c21 => ?_) (fun c21 => ?_)
                · replace hm := it_t c21 hm
                  refine lv_iconst (v := 0) hx hb dX5_waitingEntries_75 (by decide) ?_
                  refine lv_iadd hx hb dX5_waitingEntries_76 ?_
                  refine lv_istore_n (lv' := [(2, .int (v6 + 0)), (0, .ref (b 0)), (1, .int p1), (3, .int v7)]) hx hb dX5_waitingEntries_77 rfl hl (by decide) rfl (fun ls hl => ?_)
                  refine lv_iinc (v := (v7 + 1)) (lv' := [(3, .int (v7 + 1)), (2, .int (v6 + 0)), (0, .ref (b 0)), (1, .int p1)]) hx hb dX5_waitingEntries_78 hl (k := 3) rfl rfl (by decide) rfl (fun ls hl => ?_)
                  refine lv_goto (tgt := 21) hx hb dX5_waitingEntries_81 (by decide) ?_
                  exact ih9 (v6 + 0) (v7 + 1) hm _ _ _ hP hD hS (lv_sub hl [2, 3, 1, 0] rfl)
                · replace hm := it_f c21 hm
                  refine lv_iconst (v := 1) hx hb dX5_waitingEntries_71 (by decide) ?_
                  refine lv_goto (tgt := 76) hx hb dX5_waitingEntries_72 (by decide) ?_
                  refine lv_iadd hx hb dX5_waitingEntries_76 ?_
                  refine lv_istore_n (lv' := [(2, .int (v6 + 1)), (0, .ref (b 0)), (1, .int p1), (3, .int v7)]) hx hb dX5_waitingEntries_77 rfl hl (by decide) rfl (fun ls hl => ?_)
                  refine lv_iinc (v := (v7 + 1)) (lv' := [(3, .int (v7 + 1)), (2, .int (v6 + 1)), (0, .ref (b 0)), (1, .int p1)]) hx hb dX5_waitingEntries_78 hl (k := 3) rfl rfl (by decide) rfl (fun ls hl => ?_)
                  refine lv_goto (tgt := 21) hx hb dX5_waitingEntries_81 (by decide) ?_
                  exact ih9 (v6 + 1) (v7 + 1) hm _ _ _ hP hD hS (lv_sub hl [2, 3, 1, 0] rfl)
    exact L10 N 0 0 hm _ _ _ hP hD hS (lv_sub hl [2, 3, 1, 0] rfl)
  · replace hm := it_t c3 hm
    refine lv_iconst (v := (-1)) hx hb dX5_waitingEntries_8 (by decide) ?_
    cases hm
    exact rt_i hx hb hr hlocks hP hD hS dX5_waitingEntries_9
def M_X5_referenceCount_L59 (K : (Int32) → (Int32) → Option (Int32)) (w : Nat → Int32) (p1 : Int32) (v11 : Int32) : Nat → (Int32) → (Int32) → Option (Int32)
  | 0, _, _ => none
  | n20 + 1, v18, v19 => if 15 ≤ v19 then (K v18 v19) else ((M_X5_isAllocated w v11).bind fun q26 => if q26 = 0 then (K v18 v19) else ((M_X5_part w v11 v19).bind fun q29 => if q29 = p1 then (M_X5_referenceCount_L59 K w p1 v11 n20 (v18 + 1) (v19 + 1)) else (M_X5_referenceCount_L59 K w p1 v11 n20 (v18 + 0) (v19 + 1))))
def M_X5_referenceCount_L50 (K : (Int32) → (Int32) → Option (Int32)) (N : Nat) (w : Nat → Int32) (p1 : Int32) : Nat → (Int32) → (Int32) → Option (Int32)
  | 0, _, _ => none
  | n12 + 1, v10, v11 => if 24 ≤ v11 then (K v10 v11) else (M_X5_referenceCount_L59 (fun k23 k24 => M_X5_referenceCount_L50 K N w p1 n12 k23 (v11 + 1)) w p1 v11 N v10 3)
def M_X5_referenceCount_L14 (N : Nat) (w : Nat → Int32) (p1 : Int32) : Nat → (Int32) → (Int32) → Option (Int32)
  | 0, _, _ => none
  | n6 + 1, v4, v5 => if 6 ≤ v5 then (M_X5_referenceCount_L50 (fun k15 k16 => some k15) N w p1 N v4 0) else (gd (360 + v5) 3880 (if (w (360 + v5).toNatClampNeg) = p1 then (M_X5_referenceCount_L14 N w p1 n6 (v4 + 1) (v5 + 1)) else (M_X5_referenceCount_L14 N w p1 n6 (v4 + 0) (v5 + 1))))
def M_X5_referenceCount (N : Nat) (w : Nat → Int32) (p1 : Int32) : Option (Int32) :=
  (M_X5_isAllocated w p1).bind fun q1 => if q1 = 0 then (some (-1)) else (M_X5_referenceCount_L14 N w p1 N 0 0)
theorem w0_X5_referenceCount : Cond.fieldLink RX5 7 "WeakTableHeapModel" "w" "[I" ∈ wsX5_referenceCount := by decide +kernel
theorem w1_X5_referenceCount : ∀ w ∈ u_ws RX5 TX5 5, w ∈ wsX5_referenceCount := by decide +kernel
abbrev rm_X5_referenceCount : Room := { frames := 2, cells := 0, slots := 0, locals := 43 }
set_option maxHeartbeats 4000000 in
set_option maxRecDepth 100000 in
theorem c_X5_referenceCount (l : Launch) (G : GG) (N : Nat) (b : Nat → Nat) (w : Nat → Int32) (dep : Int32) (kept : Nat → Int32) (mark : Nat → Int32) (start : Nat → Int32) (p1 : Int32) (q : Int32) (hm : M_X5_referenceCount N w p1 = some q) : CTi l yX5_referenceCount wsX5_referenceCount rm_X5_referenceCount G [.ref (b 0), .int p1] (wMD G b w dep kept mark start) q (wMD G b w dep kept mark start) := by
  intro sz
  refine mk_body (Qc := fun A => (QI G A q (wMD G b w dep kept mark start))) (cc := cX5_referenceCount) (maxL := 5) (ret := (some .int)) (lv := [(0, .ref (b 0)), (1, .int p1)]) (by decide) rfl rfl (Nat.le_of_ble_eq_true rfl) ?_
  intro p e s m args below meth c A H locs ls hF hr hlocks hname hK hA hP hD hS hl
  obtain ⟨hx, hb, hml, hown, hts⟩ := id hF
  unfold M_X5_referenceCount at hm
  refine lv_aload_n hx hb dX5_referenceCount_0 rfl (lv_at hl 0 rfl) ?_
  refine lv_iload_n hx hb dX5_referenceCount_1 rfl (lv_at hl 1 rfl) ?_
  obtain ⟨q1, hc2, hm⟩ := bd_s hm
  refine ks_i (wo := (wMD G b w dep kept mark start)) (rV (As := [.int p1]) (rest := []) (b := (b 0)) (wi := (wMD G b w dep kept mark start)) hF hK hP hD (c_X5_isAllocated l G b w dep kept mark start p1 q1 hc2 H.size) (cwV 1 hts gX5_referenceCount_X5_isAllocated rfl rfl rfl (by decide +kernel) ⟨Nat.le_of_ble_eq_true rfl, Nat.le_of_ble_eq_true rfl⟩) (va_recv hK.1 hP (ci := 5) (q0 := 0) rfl rfl) rfl hl.1 rfl (Nat.le_of_ble_eq_true rfl) dX5_referenceCount_2 ⟨Nat.le_of_ble_eq_true rfl, Nat.le_of_ble_eq_true rfl⟩) hD hS hA (fun H locs hP hD hS => ?_)
  have hP : va_P G.1 vwCl (wMD G b w dep kept mark start) H := hP
  have hD : va_D A (wMD G b w dep kept mark start) := hD
  refine lv_if_ne (tgt := 10) hx hb dX5_referenceCount_5 (by decide) (fun c3 => ?_) (fun c3 => ?_)
  · replace hm := it_f c3 hm
    refine lv_iconst (v := 0) hx hb dX5_referenceCount_10 (by decide) ?_
    refine lv_istore_n (lv' := [(2, .int 0), (0, .ref (b 0)), (1, .int p1)]) hx hb dX5_referenceCount_11 rfl hl (by decide) rfl (fun ls hl => ?_)
    refine lv_iconst (v := 0) hx hb dX5_referenceCount_12 (by decide) ?_
    refine lv_istore_n (lv' := [(3, .int 0), (2, .int 0), (0, .ref (b 0)), (1, .int p1)]) hx hb dX5_referenceCount_13 rfl hl (by decide) rfl (fun ls hl => ?_)
    have L8 : ∀ (n6 : Nat) (v4 : Int32) (v5 : Int32), M_X5_referenceCount_L14 N w p1 n6 v4 v5 = some q → ∀ (H : Heap) (locs : List Loc) (ls : Array Slot), va_P G.1 vwCl (wMD G b w dep kept mark start) H → va_D A (wMD G b w dep kept mark start) → va_S A s.heap H locs → lv_has ls 5 [(0, .ref (b 0)), (1, .int p1), (2, .int v4), (3, .int v5)] → W p l e rm_X5_referenceCount s m args below meth c H locs 0 0 (MQ below (QI G A q (wMD G b w dep kept mark start)) args s rm_X5_referenceCount.cells rm_X5_referenceCount.slots A) (F0 m 14 ls []) := by
      intro n6
      induction n6 with
      | zero => intro v4 v5 hm; cases hm
      | succ n6 ih7 =>
        intro v4 v5 hm H locs ls hP hD hS hl
        rw [M_X5_referenceCount_L14] at hm
        refine lv_iload_n hx hb dX5_referenceCount_14 rfl (lv_at hl 3 rfl) ?_
        refine lv_bipush (v := 6) hx hb dX5_referenceCount_15 (by decide) ?_
        refine lv_icmp_ge (tgt := 48) hx hb dX5_referenceCount_17 (by decide) (fun c9 => ?_) (fun c9 => ?_)
        · replace hm := it_t c9 hm
          refine lv_iconst (v := 0) hx hb dX5_referenceCount_48 (by decide) ?_
          refine lv_istore_n (lv' := [(3, .int 0), (0, .ref (b 0)), (1, .int p1), (2, .int v4)]) hx hb dX5_referenceCount_49 rfl hl (by decide) rfl (fun ls hl => ?_)
          have L14 : ∀ (n12 : Nat) (v10 : Int32) (v11 : Int32), M_X5_referenceCount_L50 (fun k15 k16 => some k15) N w p1 n12 v10 v11 = some q → ∀ (H : Heap) (locs : List Loc) (ls : Array Slot), va_P G.1 vwCl (wMD G b w dep kept mark start) H → va_D A (wMD G b w dep kept mark start) → va_S A s.heap H locs → lv_has ls 5 [(0, .ref (b 0)), (1, .int p1), (2, .int v10), (3, .int v11)] → W p l e rm_X5_referenceCount s m args below meth c H locs 0 0 (MQ below (QI G A q (wMD G b w dep kept mark start)) args s rm_X5_referenceCount.cells rm_X5_referenceCount.slots A) (F0 m 50 ls []) := by
            intro n12
            induction n12 with
            | zero => intro v10 v11 hm; cases hm
            | succ n12 ih13 =>
              intro v10 v11 hm H locs ls hP hD hS hl
              rw [M_X5_referenceCount_L50] at hm
              refine lv_iload_n hx hb dX5_referenceCount_50 rfl (lv_at hl 3 rfl) ?_
              refine lv_bipush (v := 24) hx hb dX5_referenceCount_51 (by decide) ?_
              refine lv_icmp_ge (tgt := 105) hx hb dX5_referenceCount_53 (by decide) (fun c17 => ?_) (fun c17 => ?_)
              · replace hm := it_t c17 hm
                dsimp only at hm
                refine lv_iload_n hx hb dX5_referenceCount_105 rfl (lv_at hl 2 rfl) ?_
                cases hm
                exact rt_i hx hb hr hlocks hP hD hS dX5_referenceCount_106
              · replace hm := it_f c17 hm
                refine lv_iconst (v := 3) hx hb dX5_referenceCount_56 (by decide) ?_
                refine lv_istore (lv' := [(4, .int 3), (0, .ref (b 0)), (1, .int p1), (2, .int v10), (3, .int v11)]) hx hb dX5_referenceCount_57 hl (by decide) rfl (fun ls hl => ?_)
                have L22 : ∀ (n20 : Nat) (v18 : Int32) (v19 : Int32), M_X5_referenceCount_L59 (fun k23 k24 => M_X5_referenceCount_L50 K N w p1 n12 k23 (v11 + 1)) w p1 v11 n20 v18 v19 = some q → ∀ (H : Heap) (locs : List Loc) (ls : Array Slot), va_P G.1 vwCl (wMD G b w dep kept mark start) H → va_D A (wMD G b w dep kept mark start) → va_S A s.heap H locs → lv_has ls 5 [(0, .ref (b 0)), (1, .int p1), (2, .int v18), (3, .int v11), (4, .int v19)] → W p l e rm_X5_referenceCount s m args below meth c H locs 0 0 (MQ below (QI G A q (wMD G b w dep kept mark start)) args s rm_X5_referenceCount.cells rm_X5_referenceCount.slots A) (F0 m 59 ls []) := by
                  intro n20
                  induction n20 with
                  | zero => intro v18 v19 hm; cases hm
                  | succ n20 ih21 =>
                    intro v18 v19 hm H locs ls hP hD hS hl
                    rw [M_X5_referenceCount_L59] at hm
                    refine lv_iload hx hb dX5_referenceCount_59 (lv_at hl 4 rfl) ?_
                    refine lv_bipush (v := 15) hx hb dX5_referenceCount_61 (by decide) ?_
                    refine lv_icmp_ge (tgt := 99) hx hb dX5_referenceCount_63 (by decide) (fun c25 => ?_) (fun c25 => ?_)
                    · replace hm := it_t c25 hm
                      dsimp only at hm
                      refine lv_iinc (v := (v11 + 1)) (lv' := [(3, .int (v11 + 1)), (0, .ref (b 0)), (1, .int p1), (2, .int v18), (4, .int v19)]) hx hb dX5_referenceCount_99 hl (k := 3) rfl rfl (by decide) rfl (fun ls hl => ?_)
                      refine lv_goto (tgt := 50) hx hb dX5_referenceCount_102 (by decide) ?_
                      exact ih13 v18 (v11 + 1) hm _ _ _ hP hD hS (lv_sub hl [1, 2, 3, 0] rfl)
                    · replace hm := it_f c25 hm
                      refine lv_aload_n hx hb dX5_referenceCount_66 rfl (lv_at hl 0 rfl) ?_
                      refine lv_iload_n hx hb dX5_referenceCount_67 rfl (lv_at hl 3 rfl) ?_
                      obtain ⟨q26, hc27, hm⟩ := bd_s hm
                      refine ks_i (wo := (wMD G b w dep kept mark start)) (rV (As := [.int v11]) (rest := []) (b := (b 0)) (wi := (wMD G b w dep kept mark start)) hF hK hP hD (c_X5_isAllocated l G b w dep kept mark start v11 q26 hc27 H.size) (cwV 1 hts gX5_referenceCount_X5_isAllocated rfl rfl rfl (by decide +kernel) ⟨Nat.le_of_ble_eq_true rfl, Nat.le_of_ble_eq_true rfl⟩) (va_recv hK.1 hP (ci := 5) (q0 := 0) rfl rfl) rfl hl.1 rfl (Nat.le_of_ble_eq_true rfl) dX5_referenceCount_68 ⟨Nat.le_of_ble_eq_true rfl, Nat.le_of_ble_eq_true rfl⟩) hD hS hA (fun H locs hP hD hS => ?_)
                      have hP : va_P G.1 vwCl (wMD G b w dep kept mark start) H := hP
                      have hD : va_D A (wMD G b w dep kept mark start) := hD
                      refine lv_if_eq (tgt := 99) hx hb dX5_referenceCount_71 (by decide) (fun c28 => ?_) (fun c28 => ?_)
                      · replace hm := it_t c28 hm
                        dsimp only at hm
                        refine lv_iinc (v := (v11 + 1)) (lv' := [(3, .int (v11 + 1)), (0, .ref (b 0)), (1, .int p1), (2, .int v18), (4, .int v19)]) hx hb dX5_referenceCount_99 hl (k := 3) rfl rfl (by decide) rfl (fun ls hl => ?_)
                        refine lv_goto (tgt := 50) hx hb dX5_referenceCount_102 (by decide) ?_
                        exact ih13 v18 (v11 + 1) hm _ _ _ hP hD hS (lv_sub hl [1, 2, 3, 0] rfl)
                      · replace hm := it_f c28 hm
                        refine lv_iload_n hx hb dX5_referenceCount_74 rfl (lv_at hl 2 rfl) ?_
                        refine lv_aload_n hx hb dX5_referenceCount_75 rfl (lv_at hl 0 rfl) ?_
                        refine lv_iload_n hx hb dX5_referenceCount_76 rfl (lv_at hl 3 rfl) ?_
                        refine lv_iload hx hb dX5_referenceCount_77 (lv_at hl 4 rfl) ?_
                        obtain ⟨q29, hc30, hm⟩ := bd_s hm
                        refine ks_i (wo := (wMD G b w dep kept mark start)) (rV (As := [.int v11, .int v19]) (rest := [.int v18]) (b := (b 0)) (wi := (wMD G b w dep kept mark start)) hF hK hP hD (c_X5_part l G b w dep kept mark start v11 v19 q29 hc30 H.size) (cwV 2 hts gX5_referenceCount_X5_part rfl rfl rfl (by decide +kernel) ⟨Nat.le_of_ble_eq_true rfl, Nat.le_of_ble_eq_true rfl⟩) (va_recv hK.1 hP (ci := 5) (q0 := 0) rfl rfl) rfl hl.1 rfl (Nat.le_of_ble_eq_true rfl) dX5_referenceCount_79 ⟨Nat.le_of_ble_eq_true rfl, Nat.le_of_ble_eq_true rfl⟩) hD hS hA (fun H locs hP hD hS => ?_)
                        have hP : va_P G.1 vwCl (wMD G b w dep kept mark start) H := hP
                        have hD : va_D A (wMD G b w dep kept mark start) := hD
                        refine lv_iload_n hx hb dX5_referenceCount_82 rfl (lv_at hl 1 rfl) ?_
                        refine lv_icmp_ne (tgt := 90) hx hb dX5_referenceCount_83 (by decide) (fun c31 => ?_) (fun c31 => ?_)
                        · replace hm := it_f c31 hm
                          refine lv_iconst (v := 0) hx hb dX5_referenceCount_90 (by decide) ?_
                          refine lv_iadd hx hb dX5_referenceCount_91 ?_
                          refine lv_istore_n (lv' := [(2, .int (v18 + 0)), (0, .ref (b 0)), (1, .int p1), (3, .int v11), (4, .int v19)]) hx hb dX5_referenceCount_92 rfl hl (by decide) rfl (fun ls hl => ?_)
                          refine lv_iinc (v := (v19 + 1)) (lv' := [(4, .int (v19 + 1)), (2, .int (v18 + 0)), (0, .ref (b 0)), (1, .int p1), (3, .int v11)]) hx hb dX5_referenceCount_93 hl (k := 4) rfl rfl (by decide) rfl (fun ls hl => ?_)
                          refine lv_goto (tgt := 59) hx hb dX5_referenceCount_96 (by decide) ?_
                          exact ih21 (v18 + 0) (v19 + 1) hm _ _ _ hP hD hS (lv_sub hl [2, 3, 1, 4, 0] rfl)
                        · replace hm := it_t c31 hm
                          refine lv_iconst (v := 1) hx hb dX5_referenceCount_86 (by decide) ?_
                          refine lv_goto (tgt := 91) hx hb dX5_referenceCount_87 (by decide) ?_
                          refine lv_iadd hx hb dX5_referenceCount_91 ?_
                          refine lv_istore_n (lv' := [(2, .int (v18 + 1)), (0, .ref (b 0)), (1, .int p1), (3, .int v11), (4, .int v19)]) hx hb dX5_referenceCount_92 rfl hl (by decide) rfl (fun ls hl => ?_)
                          refine lv_iinc (v := (v19 + 1)) (lv' := [(4, .int (v19 + 1)), (2, .int (v18 + 1)), (0, .ref (b 0)), (1, .int p1), (3, .int v11)]) hx hb dX5_referenceCount_93 hl (k := 4) rfl rfl (by decide) rfl (fun ls hl => ?_)
                          refine lv_goto (tgt := 59) hx hb dX5_referenceCount_96 (by decide) ?_
                          exact ih21 (v18 + 1) (v19 + 1) hm _ _ _ hP hD hS (lv_sub hl [2, 3, 1, 4, 0] rfl)
                exact L22 N v10 3 hm _ _ _ hP hD hS (lv_sub hl [1, 2, 3, 4, 0] rfl)
          exact L14 N v4 0 hm _ _ _ hP hD hS (lv_sub hl [1, 2, 3, 0] rfl)
        · replace hm := it_f c9 hm
          refine lv_iload_n hx hb dX5_referenceCount_20 rfl (lv_at hl 2 rfl) ?_
          refine lv_aload_n hx hb dX5_referenceCount_21 rfl (lv_at hl 0 rfl) ?_
          refine va_get (D := G.1) (ci := 5) (v := .ref (b 1)) (C := RX5) (T := TX5) (N := 5) hx hb hts w1_X5_referenceCount hown hK.1 hP 0 rfl rfl 0 (by decide) (hts _ w0_X5_referenceCount) (fun _ h9 => h9) rfl dX5_referenceCount_22 ?_
          refine lv_sipush (v := 360) hx hb dX5_referenceCount_25 (by decide) ?_
          refine lv_iload_n hx hb dX5_referenceCount_28 rfl (lv_at hl 3 rfl) ?_
          refine lv_iadd hx hb dX5_referenceCount_29 ?_
          obtain ⟨hi32, hm⟩ := gd_s hm
          refine va_iald hx hb hK.1 hP 1 0 rfl rfl hi32 dX5_referenceCount_30 ?_
          refine lv_iload_n hx hb dX5_referenceCount_31 rfl (lv_at hl 1 rfl) ?_
          refine lv_icmp_ne (tgt := 39) hx hb dX5_referenceCount_32 (by decide) (fun c33 => ?_) (fun c33 => ?_)
          · replace hm := it_f c33 hm
            refine lv_iconst (v := 0) hx hb dX5_referenceCount_39 (by decide) ?_
            refine lv_iadd hx hb dX5_referenceCount_40 ?_
            refine lv_istore_n (lv' := [(2, .int (v4 + 0)), (0, .ref (b 0)), (1, .int p1), (3, .int v5)]) hx hb dX5_referenceCount_41 rfl hl (by decide) rfl (fun ls hl => ?_)
            refine lv_iinc (v := (v5 + 1)) (lv' := [(3, .int (v5 + 1)), (2, .int (v4 + 0)), (0, .ref (b 0)), (1, .int p1)]) hx hb dX5_referenceCount_42 hl (k := 3) rfl rfl (by decide) rfl (fun ls hl => ?_)
            refine lv_goto (tgt := 14) hx hb dX5_referenceCount_45 (by decide) ?_
            exact ih7 (v4 + 0) (v5 + 1) hm _ _ _ hP hD hS (lv_sub hl [2, 3, 1, 0] rfl)
          · replace hm := it_t c33 hm
            refine lv_iconst (v := 1) hx hb dX5_referenceCount_35 (by decide) ?_
            refine lv_goto (tgt := 40) hx hb dX5_referenceCount_36 (by decide) ?_
            refine lv_iadd hx hb dX5_referenceCount_40 ?_
            refine lv_istore_n (lv' := [(2, .int (v4 + 1)), (0, .ref (b 0)), (1, .int p1), (3, .int v5)]) hx hb dX5_referenceCount_41 rfl hl (by decide) rfl (fun ls hl => ?_)
            refine lv_iinc (v := (v5 + 1)) (lv' := [(3, .int (v5 + 1)), (2, .int (v4 + 1)), (0, .ref (b 0)), (1, .int p1)]) hx hb dX5_referenceCount_42 hl (k := 3) rfl rfl (by decide) rfl (fun ls hl => ?_)
            refine lv_goto (tgt := 14) hx hb dX5_referenceCount_45 (by decide) ?_
            exact ih7 (v4 + 1) (v5 + 1) hm _ _ _ hP hD hS (lv_sub hl [2, 3, 1, 0] rfl)
    exact L8 N 0 0 hm _ _ _ hP hD hS (lv_sub hl [2, 3, 1, 0] rfl)
  · replace hm := it_t c3 hm
    refine lv_iconst (v := (-1)) hx hb dX5_referenceCount_8 (by decide) ?_
    cases hm
    exact rt_i hx hb hr hlocks hP hD hS dX5_referenceCount_9
