def M_X5_takeNotice_L23 (u23_1 : Int32) : Nat → (Int32) → (Nat → Int32) → Option (Int32 × (Nat → Int32))
  | 0, _, _ => none
  | n23 + 1, v23_2, w23_ => gd 366 3880 (if (w23_ (366 : Int32).toNatClampNeg) ≤ v23_2 then (gd 366 3880 (gd (367 + (w23_ (366 : Int32).toNatClampNeg)) 3880 (some (u23_1, (upd w23_ (367 + (w23_ (366 : Int32).toNatClampNeg)).toNatClampNeg 0))))) else (gd ((367 + v23_2) + 1) 3880 (gd (367 + v23_2) 3880 (M_X5_takeNotice_L23 u23_1 n23 (v23_2 + 1) (upd w23_ (367 + v23_2).toNatClampNeg (w23_ ((367 + v23_2) + 1).toNatClampNeg))))))
def M_X5_takeNotice (N : Nat) (w : Nat → Int32) : Option (Int32 × (Nat → Int32)) :=
  gd 367 3880 (gd 366 3880 (gd 366 3880 (M_X5_takeNotice_L23 (w (367 : Int32).toNatClampNeg) N 0 (upd w (366 : Int32).toNatClampNeg ((w (366 : Int32).toNatClampNeg) - 1)))))
theorem w0_X5_takeNotice : Cond.fieldLink RX5 7 "WeakTableHeapModel" "w" "[I" ∈ wsX5_takeNotice := by decide +kernel
theorem w1_X5_takeNotice : ∀ w ∈ u_ws RX5 TX5 5, w ∈ wsX5_takeNotice := by decide +kernel
abbrev rm_X5_takeNotice : Room := { frames := 0, cells := 0, slots := 0, locals := 0 }
set_option maxHeartbeats 4000000 in
set_option maxRecDepth 100000 in
theorem c_X5_takeNotice (l : Launch) (G : GG) (N : Nat) (b : Nat → Nat) (w : Nat → Int32) (dep : Int32) (kept : Nat → Int32) (mark : Nat → Int32) (start : Nat → Int32) (q : Int32 × (Nat → Int32)) (hm : M_X5_takeNotice N w = some q) : CTi l yX5_takeNotice wsX5_takeNotice rm_X5_takeNotice G [.ref (b 0)] (wMD G b w dep kept mark start) q.1 (wMD G b q.2 dep kept mark start) := by
  intro sz
  refine mk_body (Qc := fun A => (QI G A q.1 (wMD G b q.2 dep kept mark start))) (cc := cX5_takeNotice) (maxL := 3) (ret := (some .int)) (lv := [(0, .ref (b 0))]) (by decide) rfl rfl (Nat.le_of_ble_eq_true rfl) ?_
  intro p e s m args below meth c A H locs ls hF hr hlocks hname hK hA hP hD hS hl
  obtain ⟨hx, hb, hml, hown, hts⟩ := id hF
  unfold M_X5_takeNotice at hm
  refine lv_aload_n hx hb dX5_takeNotice_0 rfl (lv_at hl 0 rfl) ?_
  refine va_get (D := G.1) (ci := 5) (v := .ref (b 1)) (C := RX5) (T := TX5) (N := 5) hx hb hts w1_X5_takeNotice hown hK.1 hP 0 rfl rfl 0 (by decide) (hts _ w0_X5_takeNotice) (fun _ h9 => h9) rfl dX5_takeNotice_1 ?_
  refine lv_sipush (v := 367) hx hb dX5_takeNotice_4 (by decide) ?_
  obtain ⟨hi1, hm⟩ := gd_s hm
  refine va_iald hx hb hK.1 hP 1 0 rfl rfl hi1 dX5_takeNotice_7 ?_
  refine lv_istore_n (lv' := [(1, .int (w (367 : Int32).toNatClampNeg)), (0, .ref (b 0))]) hx hb dX5_takeNotice_8 rfl hl (by decide) rfl (fun ls hl => ?_)
  refine lv_aload_n hx hb dX5_takeNotice_9 rfl (lv_at hl 1 rfl) ?_
  refine va_get (D := G.1) (ci := 5) (v := .ref (b 1)) (C := RX5) (T := TX5) (N := 5) hx hb hts w1_X5_takeNotice hown hK.1 hP 0 rfl rfl 0 (by decide) (hts _ w0_X5_takeNotice) (fun _ h9 => h9) rfl dX5_takeNotice_10 ?_
  refine lv_sipush (v := 366) hx hb dX5_takeNotice_13 (by decide) ?_
  refine lv_dup2_11 hx hb dX5_takeNotice_16 rfl rfl ?_
  obtain ⟨hi2, hm⟩ := gd_s hm
  refine va_iald hx hb hK.1 hP 1 0 rfl rfl hi2 dX5_takeNotice_17 ?_
  refine lv_iconst (v := 1) hx hb dX5_takeNotice_18 (by decide) ?_
  refine lv_isub hx hb dX5_takeNotice_19 ?_
  obtain ⟨hi3, hm⟩ := gd_s hm
  refine va_iast hx hb hK.1 hP hD hS 1 0 rfl rfl hi3 dX5_takeNotice_20 (fun H locs hP hD hS => ?_)
  have hP : va_P G.1 vwCl (wMD G b (upd w (366 : Int32).toNatClampNeg ((w (366 : Int32).toNatClampNeg) - 1)) dep kept mark start) H := hP
  have hD : va_D A (wMD G b (upd w (366 : Int32).toNatClampNeg ((w (366 : Int32).toNatClampNeg) - 1)) dep kept mark start) := hD
  refine lv_iconst (v := 0) hx hb dX5_takeNotice_21 (by decide) ?_
  refine lv_istore_n (lv' := [(2, .int 0), (1, .int (w (367 : Int32).toNatClampNeg)), (0, .ref (b 0))]) hx hb dX5_takeNotice_22 rfl hl (by decide) rfl (fun ls hl => ?_)
  have L23 : ∀ (u23_1 : Int32) (n23 : Nat) (v23_2 : Int32) (w23_ : Nat → Int32), M_X5_takeNotice_L23 u23_1 n23 v23_2 w23_ = some q → ∀ (H : Heap) (locs : List Loc) (ls : Array Slot), va_P G.1 vwCl (wMD G b w23_ dep kept mark start) H → va_D A (wMD G b w23_ dep kept mark start) → va_S A s.heap H locs → lv_has ls 3 [(0, .ref (b 0)), (1, .int u23_1), (2, .int v23_2)] → W p l e rm_X5_takeNotice s m args below meth c H locs 0 0 (MQ below (QI G A q.1 (wMD G b q.2 dep kept mark start)) args s rm_X5_takeNotice.cells rm_X5_takeNotice.slots A) (F0 m 23 ls []) := by
    intro u23_1 n23
    induction n23 with
    | zero => intro v23_2 w23_ hm; cases hm
    | succ n23 ih23 =>
      intro v23_2 w23_ hm H locs ls hP hD hS hl
      rw [M_X5_takeNotice_L23] at hm
      refine lv_iload_n hx hb dX5_takeNotice_23 rfl (lv_at hl 2 rfl) ?_
      refine lv_aload_n hx hb dX5_takeNotice_24 rfl (lv_at hl 0 rfl) ?_
      refine va_get (D := G.1) (ci := 5) (v := .ref (b 1)) (C := RX5) (T := TX5) (N := 5) hx hb hts w1_X5_takeNotice hown hK.1 hP 0 rfl rfl 0 (by decide) (hts _ w0_X5_takeNotice) (fun _ h9 => h9) rfl dX5_takeNotice_25 ?_
      refine lv_sipush (v := 366) hx hb dX5_takeNotice_28 (by decide) ?_
      obtain ⟨hi2301, hm⟩ := gd_s hm
      refine va_iald hx hb hK.1 hP 1 0 rfl rfl hi2301 dX5_takeNotice_31 ?_
      refine lv_icmp_ge (tgt := 63) hx hb dX5_takeNotice_32 (by decide) (fun c2302 => ?_) (fun c2302 => ?_)
      · replace hm := it_t c2302 hm
        refine lv_aload_n hx hb dX5_takeNotice_63 rfl (lv_at hl 0 rfl) ?_
        refine va_get (D := G.1) (ci := 5) (v := .ref (b 1)) (C := RX5) (T := TX5) (N := 5) hx hb hts w1_X5_takeNotice hown hK.1 hP 0 rfl rfl 0 (by decide) (hts _ w0_X5_takeNotice) (fun _ h9 => h9) rfl dX5_takeNotice_64 ?_
        refine lv_sipush (v := 367) hx hb dX5_takeNotice_67 (by decide) ?_
        refine lv_aload_n hx hb dX5_takeNotice_70 rfl (lv_at hl 0 rfl) ?_
        refine va_get (D := G.1) (ci := 5) (v := .ref (b 1)) (C := RX5) (T := TX5) (N := 5) hx hb hts w1_X5_takeNotice hown hK.1 hP 0 rfl rfl 0 (by decide) (hts _ w0_X5_takeNotice) (fun _ h9 => h9) rfl dX5_takeNotice_71 ?_
        refine lv_sipush (v := 366) hx hb dX5_takeNotice_74 (by decide) ?_
        obtain ⟨hi2303, hm⟩ := gd_s hm
        refine va_iald hx hb hK.1 hP 1 0 rfl rfl hi2303 dX5_takeNotice_77 ?_
        refine lv_iadd hx hb dX5_takeNotice_78 ?_
        refine lv_iconst (v := 0) hx hb dX5_takeNotice_79 (by decide) ?_
        obtain ⟨hi2304, hm⟩ := gd_s hm
        refine va_iast hx hb hK.1 hP hD hS 1 0 rfl rfl hi2304 dX5_takeNotice_80 (fun H locs hP hD hS => ?_)
        have hP : va_P G.1 vwCl (wMD G b (upd w23_ (367 + (w23_ (366 : Int32).toNatClampNeg)).toNatClampNeg 0) dep kept mark start) H := hP
        have hD : va_D A (wMD G b (upd w23_ (367 + (w23_ (366 : Int32).toNatClampNeg)).toNatClampNeg 0) dep kept mark start) := hD
        refine lv_iload_n hx hb dX5_takeNotice_81 rfl (lv_at hl 1 rfl) ?_
        cases hm
        exact rt_i hx hb hr hlocks hP hD hS dX5_takeNotice_82
      · replace hm := it_f c2302 hm
        refine lv_aload_n hx hb dX5_takeNotice_35 rfl (lv_at hl 0 rfl) ?_
        refine va_get (D := G.1) (ci := 5) (v := .ref (b 1)) (C := RX5) (T := TX5) (N := 5) hx hb hts w1_X5_takeNotice hown hK.1 hP 0 rfl rfl 0 (by decide) (hts _ w0_X5_takeNotice) (fun _ h9 => h9) rfl dX5_takeNotice_36 ?_
        refine lv_sipush (v := 367) hx hb dX5_takeNotice_39 (by decide) ?_
        refine lv_iload_n hx hb dX5_takeNotice_42 rfl (lv_at hl 2 rfl) ?_
        refine lv_iadd hx hb dX5_takeNotice_43 ?_
        refine lv_aload_n hx hb dX5_takeNotice_44 rfl (lv_at hl 0 rfl) ?_
        refine va_get (D := G.1) (ci := 5) (v := .ref (b 1)) (C := RX5) (T := TX5) (N := 5) hx hb hts w1_X5_takeNotice hown hK.1 hP 0 rfl rfl 0 (by decide) (hts _ w0_X5_takeNotice) (fun _ h9 => h9) rfl dX5_takeNotice_45 ?_
        refine lv_sipush (v := 367) hx hb dX5_takeNotice_48 (by decide) ?_
        refine lv_iload_n hx hb dX5_takeNotice_51 rfl (lv_at hl 2 rfl) ?_
        refine lv_iadd hx hb dX5_takeNotice_52 ?_
        refine lv_iconst (v := 1) hx hb dX5_takeNotice_53 (by decide) ?_
        refine lv_iadd hx hb dX5_takeNotice_54 ?_
        obtain ⟨hi2305, hm⟩ := gd_s hm
        refine va_iald hx hb hK.1 hP 1 0 rfl rfl hi2305 dX5_takeNotice_55 ?_
        obtain ⟨hi2306, hm⟩ := gd_s hm
        refine va_iast hx hb hK.1 hP hD hS 1 0 rfl rfl hi2306 dX5_takeNotice_56 (fun H locs hP hD hS => ?_)
        have hP : va_P G.1 vwCl (wMD G b (upd w23_ (367 + v23_2).toNatClampNeg (w23_ ((367 + v23_2) + 1).toNatClampNeg)) dep kept mark start) H := hP
        have hD : va_D A (wMD G b (upd w23_ (367 + v23_2).toNatClampNeg (w23_ ((367 + v23_2) + 1).toNatClampNeg)) dep kept mark start) := hD
        refine lv_iinc (v := (v23_2 + 1)) (lv' := [(2, .int (v23_2 + 1)), (0, .ref (b 0)), (1, .int u23_1)]) hx hb dX5_takeNotice_57 hl (k := 2) rfl rfl (by decide) rfl (fun ls hl => ?_)
        refine lv_goto (tgt := 23) hx hb dX5_takeNotice_60 (by decide) ?_
        exact ih23 (v23_2 + 1) (upd w23_ (367 + v23_2).toNatClampNeg (w23_ ((367 + v23_2) + 1).toNatClampNeg)) hm _ _ _ hP hD hS (lv_sub hl [1, 2, 0] rfl)
  exact L23 (w (367 : Int32).toNatClampNeg) N 0 (upd w (366 : Int32).toNatClampNeg ((w (366 : Int32).toNatClampNeg) - 1)) hm _ _ _ hP hD hS (lv_sub hl [2, 1, 0] rfl)
def M_X5_notice (N : Nat) (w : Nat → Int32) (p1 : Int32) : Option ((Nat → Int32)) :=
  gd 366 3880 (if (w (366 : Int32).toNatClampNeg) = 20 then ((M_X5_takeNotice N w).bind fun q7 => gd 366 3880 (gd (367 + (q7.2 (366 : Int32).toNatClampNeg)) 3880 (gd 366 3880 (gd 366 3880 (some (upd (upd q7.2 (367 + (q7.2 (366 : Int32).toNatClampNeg)).toNatClampNeg p1) (366 : Int32).toNatClampNeg (((upd q7.2 (367 + (q7.2 (366 : Int32).toNatClampNeg)).toNatClampNeg p1) (366 : Int32).toNatClampNeg) + 1))))))) else (gd 366 3880 (gd (367 + (w (366 : Int32).toNatClampNeg)) 3880 (gd 366 3880 (gd 366 3880 (some (upd (upd w (367 + (w (366 : Int32).toNatClampNeg)).toNatClampNeg p1) (366 : Int32).toNatClampNeg (((upd w (367 + (w (366 : Int32).toNatClampNeg)).toNatClampNeg p1) (366 : Int32).toNatClampNeg) + 1))))))))
theorem w0_X5_notice : Cond.fieldLink RX5 7 "WeakTableHeapModel" "w" "[I" ∈ wsX5_notice := by decide +kernel
theorem w1_X5_notice : ∀ w ∈ u_ws RX5 TX5 5, w ∈ wsX5_notice := by decide +kernel
abbrev rm_X5_notice : Room := { frames := 1, cells := 0, slots := 0, locals := 22 }
set_option maxHeartbeats 4000000 in
set_option maxRecDepth 100000 in
theorem c_X5_notice (l : Launch) (G : GG) (N : Nat) (b : Nat → Nat) (w : Nat → Int32) (dep : Int32) (kept : Nat → Int32) (mark : Nat → Int32) (start : Nat → Int32) (p1 : Int32) (q : (Nat → Int32)) (hm : M_X5_notice N w p1 = some q) : CTv l yX5_notice wsX5_notice rm_X5_notice G [.ref (b 0), .int p1] (wMD G b w dep kept mark start) (wMD G b q dep kept mark start) := by
  intro sz
  refine mk_body (Qc := fun A => (QV G A (wMD G b q dep kept mark start))) (cc := cX5_notice) (maxL := 2) (ret := none) (lv := [(0, .ref (b 0)), (1, .int p1)]) (by decide) rfl rfl (Nat.le_of_ble_eq_true rfl) ?_
  intro p e s m args below meth c A H locs ls hF hr hlocks hname hK hA hP hD hS hl
  obtain ⟨hx, hb, hml, hown, hts⟩ := id hF
  unfold M_X5_notice at hm
  refine lv_aload_n hx hb dX5_notice_0 rfl (lv_at hl 0 rfl) ?_
  refine va_get (D := G.1) (ci := 5) (v := .ref (b 1)) (C := RX5) (T := TX5) (N := 5) hx hb hts w1_X5_notice hown hK.1 hP 0 rfl rfl 0 (by decide) (hts _ w0_X5_notice) (fun _ h9 => h9) rfl dX5_notice_1 ?_
  refine lv_sipush (v := 366) hx hb dX5_notice_4 (by decide) ?_
  obtain ⟨hi1, hm⟩ := gd_s hm
  refine va_iald hx hb hK.1 hP 1 0 rfl rfl hi1 dX5_notice_7 ?_
  refine lv_bipush (v := 20) hx hb dX5_notice_8 (by decide) ?_
  refine lv_icmp_ne (tgt := 18) hx hb dX5_notice_10 (by decide) (fun c2 => ?_) (fun c2 => ?_)
  · replace hm := it_f c2 hm
    refine lv_aload_n hx hb dX5_notice_18 rfl (lv_at hl 0 rfl) ?_
    refine va_get (D := G.1) (ci := 5) (v := .ref (b 1)) (C := RX5) (T := TX5) (N := 5) hx hb hts w1_X5_notice hown hK.1 hP 0 rfl rfl 0 (by decide) (hts _ w0_X5_notice) (fun _ h9 => h9) rfl dX5_notice_19 ?_
    refine lv_sipush (v := 367) hx hb dX5_notice_22 (by decide) ?_
    refine lv_aload_n hx hb dX5_notice_25 rfl (lv_at hl 0 rfl) ?_
    refine va_get (D := G.1) (ci := 5) (v := .ref (b 1)) (C := RX5) (T := TX5) (N := 5) hx hb hts w1_X5_notice hown hK.1 hP 0 rfl rfl 0 (by decide) (hts _ w0_X5_notice) (fun _ h9 => h9) rfl dX5_notice_26 ?_
    refine lv_sipush (v := 366) hx hb dX5_notice_29 (by decide) ?_
    obtain ⟨hi3, hm⟩ := gd_s hm
    refine va_iald hx hb hK.1 hP 1 0 rfl rfl hi3 dX5_notice_32 ?_
    refine lv_iadd hx hb dX5_notice_33 ?_
    refine lv_iload_n hx hb dX5_notice_34 rfl (lv_at hl 1 rfl) ?_
    obtain ⟨hi4, hm⟩ := gd_s hm
    refine va_iast hx hb hK.1 hP hD hS 1 0 rfl rfl hi4 dX5_notice_35 (fun H locs hP hD hS => ?_)
    have hP : va_P G.1 vwCl (wMD G b (upd w (367 + (w (366 : Int32).toNatClampNeg)).toNatClampNeg p1) dep kept mark start) H := hP
    have hD : va_D A (wMD G b (upd w (367 + (w (366 : Int32).toNatClampNeg)).toNatClampNeg p1) dep kept mark start) := hD
    refine lv_aload_n hx hb dX5_notice_36 rfl (lv_at hl 0 rfl) ?_
    refine va_get (D := G.1) (ci := 5) (v := .ref (b 1)) (C := RX5) (T := TX5) (N := 5) hx hb hts w1_X5_notice hown hK.1 hP 0 rfl rfl 0 (by decide) (hts _ w0_X5_notice) (fun _ h9 => h9) rfl dX5_notice_37 ?_
    refine lv_sipush (v := 366) hx hb dX5_notice_40 (by decide) ?_
    refine lv_dup2_11 hx hb dX5_notice_43 rfl rfl ?_
    obtain ⟨hi5, hm⟩ := gd_s hm
    refine va_iald hx hb hK.1 hP 1 0 rfl rfl hi5 dX5_notice_44 ?_
    refine lv_iconst (v := 1) hx hb dX5_notice_45 (by decide) ?_
    refine lv_iadd hx hb dX5_notice_46 ?_
    obtain ⟨hi6, hm⟩ := gd_s hm
    refine va_iast hx hb hK.1 hP hD hS 1 0 rfl rfl hi6 dX5_notice_47 (fun H locs hP hD hS => ?_)
    have hP : va_P G.1 vwCl (wMD G b (upd (upd w (367 + (w (366 : Int32).toNatClampNeg)).toNatClampNeg p1) (366 : Int32).toNatClampNeg (((upd w (367 + (w (366 : Int32).toNatClampNeg)).toNatClampNeg p1) (366 : Int32).toNatClampNeg) + 1)) dep kept mark start) H := hP
    have hD : va_D A (wMD G b (upd (upd w (367 + (w (366 : Int32).toNatClampNeg)).toNatClampNeg p1) (366 : Int32).toNatClampNeg (((upd w (367 + (w (366 : Int32).toNatClampNeg)).toNatClampNeg p1) (366 : Int32).toNatClampNeg) + 1)) dep kept mark start) := hD
    cases hm
    exact rt_v hx hb hr hlocks hP hD hS dX5_notice_48
  · replace hm := it_t c2 hm
    refine lv_aload_n hx hb dX5_notice_13 rfl (lv_at hl 0 rfl) ?_
    obtain ⟨q7, hc8, hm⟩ := bd_s hm
    refine ks_i (wo := (wMD G b q7.2 dep kept mark start)) (rV (As := []) (rest := []) (b := (b 0)) (wi := (wMD G b w dep kept mark start)) hF hK hP hD (c_X5_takeNotice l G N b w dep kept mark start q7 hc8 H.size) (cwV 0 hts gX5_notice_X5_takeNotice rfl rfl rfl (by decide +kernel) ⟨Nat.le_of_ble_eq_true rfl, Nat.le_of_ble_eq_true rfl⟩) (va_recv hK.1 hP (ci := 5) (q0 := 0) rfl rfl) rfl hl.1 rfl (Nat.le_of_ble_eq_true rfl) dX5_notice_14 ⟨Nat.le_of_ble_eq_true rfl, Nat.le_of_ble_eq_true rfl⟩) hD hS hA (fun H locs hP hD hS => ?_)
    have hP : va_P G.1 vwCl (wMD G b q7.2 dep kept mark start) H := hP
    have hD : va_D A (wMD G b q7.2 dep kept mark start) := hD
    refine lv_pop hx hb dX5_notice_17 rfl ?_
    refine lv_aload_n hx hb dX5_notice_18 rfl (lv_at hl 0 rfl) ?_
    refine va_get (D := G.1) (ci := 5) (v := .ref (b 1)) (C := RX5) (T := TX5) (N := 5) hx hb hts w1_X5_notice hown hK.1 hP 0 rfl rfl 0 (by decide) (hts _ w0_X5_notice) (fun _ h9 => h9) rfl dX5_notice_19 ?_
    refine lv_sipush (v := 367) hx hb dX5_notice_22 (by decide) ?_
    refine lv_aload_n hx hb dX5_notice_25 rfl (lv_at hl 0 rfl) ?_
    refine va_get (D := G.1) (ci := 5) (v := .ref (b 1)) (C := RX5) (T := TX5) (N := 5) hx hb hts w1_X5_notice hown hK.1 hP 0 rfl rfl 0 (by decide) (hts _ w0_X5_notice) (fun _ h9 => h9) rfl dX5_notice_26 ?_
    refine lv_sipush (v := 366) hx hb dX5_notice_29 (by decide) ?_
    obtain ⟨hi9, hm⟩ := gd_s hm
    refine va_iald hx hb hK.1 hP 1 0 rfl rfl hi9 dX5_notice_32 ?_
    refine lv_iadd hx hb dX5_notice_33 ?_
    refine lv_iload_n hx hb dX5_notice_34 rfl (lv_at hl 1 rfl) ?_
    obtain ⟨hi10, hm⟩ := gd_s hm
    refine va_iast hx hb hK.1 hP hD hS 1 0 rfl rfl hi10 dX5_notice_35 (fun H locs hP hD hS => ?_)
    have hP : va_P G.1 vwCl (wMD G b (upd q7.2 (367 + (q7.2 (366 : Int32).toNatClampNeg)).toNatClampNeg p1) dep kept mark start) H := hP
    have hD : va_D A (wMD G b (upd q7.2 (367 + (q7.2 (366 : Int32).toNatClampNeg)).toNatClampNeg p1) dep kept mark start) := hD
    refine lv_aload_n hx hb dX5_notice_36 rfl (lv_at hl 0 rfl) ?_
    refine va_get (D := G.1) (ci := 5) (v := .ref (b 1)) (C := RX5) (T := TX5) (N := 5) hx hb hts w1_X5_notice hown hK.1 hP 0 rfl rfl 0 (by decide) (hts _ w0_X5_notice) (fun _ h9 => h9) rfl dX5_notice_37 ?_
    refine lv_sipush (v := 366) hx hb dX5_notice_40 (by decide) ?_
    refine lv_dup2_11 hx hb dX5_notice_43 rfl rfl ?_
    obtain ⟨hi11, hm⟩ := gd_s hm
    refine va_iald hx hb hK.1 hP 1 0 rfl rfl hi11 dX5_notice_44 ?_
    refine lv_iconst (v := 1) hx hb dX5_notice_45 (by decide) ?_
    refine lv_iadd hx hb dX5_notice_46 ?_
    obtain ⟨hi12, hm⟩ := gd_s hm
    refine va_iast hx hb hK.1 hP hD hS 1 0 rfl rfl hi12 dX5_notice_47 (fun H locs hP hD hS => ?_)
    have hP : va_P G.1 vwCl (wMD G b (upd (upd q7.2 (367 + (q7.2 (366 : Int32).toNatClampNeg)).toNatClampNeg p1) (366 : Int32).toNatClampNeg (((upd q7.2 (367 + (q7.2 (366 : Int32).toNatClampNeg)).toNatClampNeg p1) (366 : Int32).toNatClampNeg) + 1)) dep kept mark start) H := hP
    have hD : va_D A (wMD G b (upd (upd q7.2 (367 + (q7.2 (366 : Int32).toNatClampNeg)).toNatClampNeg p1) (366 : Int32).toNatClampNeg (((upd q7.2 (367 + (q7.2 (366 : Int32).toNatClampNeg)).toNatClampNeg p1) (366 : Int32).toNatClampNeg) + 1)) dep kept mark start) := hD
    cases hm
    exact rt_v hx hb hr hlocks hP hD hS dX5_notice_48
def M_X5_emptyWeak_L2 (N : Nat) (u2_1 : Int32) (mark : Nat → Int32) : Nat → (Int32) → (Nat → Int32) → Option ((Nat → Int32))
  | 0, _, _ => none
  | n2 + 1, v2_2, w2_ => if 24 ≤ v2_2 then (some w2_) else (gd v2_2 24 (if (mark v2_2.toNatClampNeg) = (-9) then (M_X5_emptyWeak_L2 N u2_1 mark n2 (v2_2 + 1) w2_) else ((M_X5_part w2_ v2_2 0).bind fun q205 => if q205 = 2 then ((M_X5_part w2_ v2_2 3).bind fun q209 => if q209 = (-9) then (M_X5_emptyWeak_L2 N u2_1 mark n2 (v2_2 + 1) w2_) else ((M_X5_part w2_ v2_2 3).bind fun q214 => gd q214 24 (if (mark q214.toNatClampNeg) = (-9) then (gd ((15 * v2_2) + 3) 3880 (if u2_1 = 0 then (M_X5_emptyWeak_L2 N u2_1 mark n2 (v2_2 + 1) (upd w2_ ((15 * v2_2) + 3).toNatClampNeg (-9))) else ((M_X5_notice N (upd w2_ ((15 * v2_2) + 3).toNatClampNeg (-9)) (1000 + v2_2)).bind fun q220 => M_X5_emptyWeak_L2 N u2_1 mark n2 (v2_2 + 1) q220))) else (M_X5_emptyWeak_L2 N u2_1 mark n2 (v2_2 + 1) w2_)))) else (M_X5_emptyWeak_L2 N u2_1 mark n2 (v2_2 + 1) w2_))))
def M_X5_emptyWeak (N : Nat) (w : Nat → Int32) (mark : Nat → Int32) (p1 : Int32) : Option ((Nat → Int32)) :=
  M_X5_emptyWeak_L2 N p1 mark N 0 w
theorem w0_X5_emptyWeak : Cond.fieldLink RX5 17 "WeakTableHeapModel" "mark" "[I" ∈ wsX5_emptyWeak := by decide +kernel
theorem w1_X5_emptyWeak : ∀ w ∈ u_ws RX5 TX5 5, w ∈ wsX5_emptyWeak := by decide +kernel
theorem w2_X5_emptyWeak : Cond.fieldLink RX5 7 "WeakTableHeapModel" "w" "[I" ∈ wsX5_emptyWeak := by decide +kernel
abbrev rm_X5_emptyWeak : Room := { frames := 2, cells := 0, slots := 0, locals := 43 }
set_option maxHeartbeats 4000000 in
set_option maxRecDepth 100000 in
theorem c_X5_emptyWeak (l : Launch) (G : GG) (N : Nat) (b : Nat → Nat) (w : Nat → Int32) (dep : Int32) (kept : Nat → Int32) (mark : Nat → Int32) (start : Nat → Int32) (p1 : Int32) (q : (Nat → Int32)) (hm : M_X5_emptyWeak N w mark p1 = some q) : CTv l yX5_emptyWeak wsX5_emptyWeak rm_X5_emptyWeak G [.ref (b 0), .int p1] (wMD G b w dep kept mark start) (wMD G b q dep kept mark start) := by
  intro sz
  refine mk_body (Qc := fun A => (QV G A (wMD G b q dep kept mark start))) (cc := cX5_emptyWeak) (maxL := 4) (ret := none) (lv := [(0, .ref (b 0)), (1, .int p1)]) (by decide) rfl rfl (Nat.le_of_ble_eq_true rfl) ?_
  intro p e s m args below meth c A H locs ls hF hr hlocks hname hK hA hP hD hS hl
  obtain ⟨hx, hb, hml, hown, hts⟩ := id hF
  unfold M_X5_emptyWeak at hm
  refine lv_iconst (v := 0) hx hb dX5_emptyWeak_0 (by decide) ?_
  refine lv_istore_n (lv' := [(2, .int 0), (0, .ref (b 0)), (1, .int p1)]) hx hb dX5_emptyWeak_1 rfl hl (by decide) rfl (fun ls hl => ?_)
  have L2 : ∀ (u2_1 : Int32) (n2 : Nat) (v2_2 : Int32) (w2_ : Nat → Int32), M_X5_emptyWeak_L2 N u2_1 mark n2 v2_2 w2_ = some q → ∀ (H : Heap) (locs : List Loc) (ls : Array Slot), va_P G.1 vwCl (wMD G b w2_ dep kept mark start) H → va_D A (wMD G b w2_ dep kept mark start) → va_S A s.heap H locs → lv_has ls 4 [(0, .ref (b 0)), (1, .int u2_1), (2, .int v2_2)] → W p l e rm_X5_emptyWeak s m args below meth c H locs 0 0 (MQ below (QV G A (wMD G b q dep kept mark start)) args s rm_X5_emptyWeak.cells rm_X5_emptyWeak.slots A) (F0 m 2 ls []) := by
    intro u2_1 n2
    induction n2 with
    | zero => intro v2_2 w2_ hm; cases hm
    | succ n2 ih2 =>
      intro v2_2 w2_ hm H locs ls hP hD hS hl
      rw [M_X5_emptyWeak_L2] at hm
      refine lv_iload_n hx hb dX5_emptyWeak_2 rfl (lv_at hl 2 rfl) ?_
      refine lv_bipush (v := 24) hx hb dX5_emptyWeak_3 (by decide) ?_
      refine lv_icmp_ge (tgt := 98) hx hb dX5_emptyWeak_5 (by decide) (fun c201 => ?_) (fun c201 => ?_)
      · replace hm := it_t c201 hm
        cases hm
        exact rt_v hx hb hr hlocks hP hD hS dX5_emptyWeak_98
      · replace hm := it_f c201 hm
        refine lv_aload_n hx hb dX5_emptyWeak_8 rfl (lv_at hl 0 rfl) ?_
        refine va_get (D := G.1) (ci := 5) (v := .ref (b 3)) (C := RX5) (T := TX5) (N := 5) hx hb hts w1_X5_emptyWeak hown hK.1 hP 0 rfl rfl 3 (by decide) (hts _ w0_X5_emptyWeak) (fun _ h9 => h9) rfl dX5_emptyWeak_9 ?_
        refine lv_iload_n hx hb dX5_emptyWeak_12 rfl (lv_at hl 2 rfl) ?_
        obtain ⟨hi202, hm⟩ := gd_s hm
        refine va_iald hx hb hK.1 hP 3 0 rfl rfl hi202 dX5_emptyWeak_13 ?_
        refine lv_bipush (v := (-9)) hx hb dX5_emptyWeak_14 (by decide) ?_
        refine lv_icmp_eq (tgt := 44) hx hb dX5_emptyWeak_16 (by decide) (fun c203 => ?_) (fun c203 => ?_)
        · replace hm := it_t c203 hm
          refine lv_iconst (v := 0) hx hb dX5_emptyWeak_44 (by decide) ?_
          refine lv_istore_n (lv' := [(3, .int 0), (0, .ref (b 0)), (1, .int u2_1), (2, .int v2_2)]) hx hb dX5_emptyWeak_45 rfl hl (by decide) rfl (fun ls hl => ?_)
          refine lv_iload_n hx hb dX5_emptyWeak_46 rfl (lv_at hl 0 rfl) ?_
          refine lv_if_eq (tgt := 92) hx hb dX5_emptyWeak_47 (by decide) (fun _ => ?_) (fun h9 => absurd (by decide) h9)
          refine lv_iinc (v := (v2_2 + 1)) (lv' := [(2, .int (v2_2 + 1)), (3, .int 0), (0, .ref (b 0)), (1, .int u2_1)]) hx hb dX5_emptyWeak_92 hl (k := 3) rfl rfl (by decide) rfl (fun ls hl => ?_)
          refine lv_goto (tgt := 2) hx hb dX5_emptyWeak_95 (by decide) ?_
          exact ih2 (v2_2 + 1) w2_ hm _ _ _ hP hD hS (lv_sub hl [2, 3, 0] rfl)
        · replace hm := it_f c203 hm
          refine lv_aload_n hx hb dX5_emptyWeak_19 rfl (lv_at hl 0 rfl) ?_
          refine lv_iload_n hx hb dX5_emptyWeak_20 rfl (lv_at hl 2 rfl) ?_
          refine lv_iconst (v := 0) hx hb dX5_emptyWeak_21 (by decide) ?_
          obtain ⟨q205, hc206, hm⟩ := bd_s hm
          refine ks_i (wo := (wMD G b w2_ dep kept mark start)) (rV (As := [.int v2_2, .int 0]) (rest := []) (b := (b 0)) (wi := (wMD G b w2_ dep kept mark start)) hF hK hP hD (c_X5_part l G b w2_ dep kept mark start v2_2 0 q205 hc206 H.size) (cwV 2 hts gX5_emptyWeak_X5_part rfl rfl rfl (by decide +kernel) ⟨Nat.le_of_ble_eq_true rfl, Nat.le_of_ble_eq_true rfl⟩) (va_recv hK.1 hP (ci := 5) (q0 := 0) rfl rfl) rfl hl.1 rfl (Nat.le_of_ble_eq_true rfl) dX5_emptyWeak_22 ⟨Nat.le_of_ble_eq_true rfl, Nat.le_of_ble_eq_true rfl⟩) hD hS hA (fun H locs hP hD hS => ?_)
          have hP : va_P G.1 vwCl (wMD G b w2_ dep kept mark start) H := hP
          have hD : va_D A (wMD G b w2_ dep kept mark start) := hD
          refine lv_iconst (v := 2) hx hb dX5_emptyWeak_25 (by decide) ?_
          refine lv_icmp_ne (tgt := 44) hx hb dX5_emptyWeak_26 (by decide) (fun c207 => ?_) (fun c207 => ?_)
          · replace hm := it_f c207 hm
            refine lv_iconst (v := 0) hx hb dX5_emptyWeak_44 (by decide) ?_
            refine lv_istore_n (lv' := [(3, .int 0), (0, .ref (b 0)), (1, .int u2_1), (2, .int v2_2)]) hx hb dX5_emptyWeak_45 rfl hl (by decide) rfl (fun ls hl => ?_)
            refine lv_iload_n hx hb dX5_emptyWeak_46 rfl (lv_at hl 0 rfl) ?_
            refine lv_if_eq (tgt := 92) hx hb dX5_emptyWeak_47 (by decide) (fun _ => ?_) (fun h9 => absurd (by decide) h9)
            refine lv_iinc (v := (v2_2 + 1)) (lv' := [(2, .int (v2_2 + 1)), (3, .int 0), (0, .ref (b 0)), (1, .int u2_1)]) hx hb dX5_emptyWeak_92 hl (k := 3) rfl rfl (by decide) rfl (fun ls hl => ?_)
            refine lv_goto (tgt := 2) hx hb dX5_emptyWeak_95 (by decide) ?_
            exact ih2 (v2_2 + 1) w2_ hm _ _ _ hP hD hS (lv_sub hl [2, 3, 0] rfl)
          · replace hm := it_t c207 hm
            refine lv_aload_n hx hb dX5_emptyWeak_29 rfl (lv_at hl 0 rfl) ?_
            refine lv_iload_n hx hb dX5_emptyWeak_30 rfl (lv_at hl 2 rfl) ?_
            refine lv_iconst (v := 3) hx hb dX5_emptyWeak_31 (by decide) ?_
            obtain ⟨q209, hc210, hm⟩ := bd_s hm
            refine ks_i (wo := (wMD G b w2_ dep kept mark start)) (rV (As := [.int v2_2, .int 3]) (rest := []) (b := (b 0)) (wi := (wMD G b w2_ dep kept mark start)) hF hK hP hD (c_X5_part l G b w2_ dep kept mark start v2_2 3 q209 hc210 H.size) (cwV 2 hts gX5_emptyWeak_X5_part rfl rfl rfl (by decide +kernel) ⟨Nat.le_of_ble_eq_true rfl, Nat.le_of_ble_eq_true rfl⟩) (va_recv hK.1 hP (ci := 5) (q0 := 0) rfl rfl) rfl hl.1 rfl (Nat.le_of_ble_eq_true rfl) dX5_emptyWeak_32 ⟨Nat.le_of_ble_eq_true rfl, Nat.le_of_ble_eq_true rfl⟩) hD hS hA (fun H locs hP hD hS => ?_)
            have hP : va_P G.1 vwCl (wMD G b w2_ dep kept mark start) H := hP
            have hD : va_D A (wMD G b w2_ dep kept mark start) := hD
            refine lv_bipush (v := (-9)) hx hb dX5_emptyWeak_35 (by decide) ?_
            refine lv_icmp_eq (tgt := 44) hx hb dX5_emptyWeak_37 (by decide) (fun c211 => ?_) (fun c211 => ?_)
            · replace hm := it_t c211 hm
              refine lv_iconst (v := 0) hx hb dX5_emptyWeak_44 (by decide) ?_
              refine lv_istore_n (lv' := [(3, .int 0), (0, .ref (b 0)), (1, .int u2_1), (2, .int v2_2)]) hx hb dX5_emptyWeak_45 rfl hl (by decide) rfl (fun ls hl => ?_)
              refine lv_iload_n hx hb dX5_emptyWeak_46 rfl (lv_at hl 0 rfl) ?_
              refine lv_if_eq (tgt := 92) hx hb dX5_emptyWeak_47 (by decide) (fun _ => ?_) (fun h9 => absurd (by decide) h9)
              refine lv_iinc (v := (v2_2 + 1)) (lv' := [(2, .int (v2_2 + 1)), (3, .int 0), (0, .ref (b 0)), (1, .int u2_1)]) hx hb dX5_emptyWeak_92 hl (k := 3) rfl rfl (by decide) rfl (fun ls hl => ?_)
              refine lv_goto (tgt := 2) hx hb dX5_emptyWeak_95 (by decide) ?_
              exact ih2 (v2_2 + 1) w2_ hm _ _ _ hP hD hS (lv_sub hl [2, 3, 0] rfl)
            · replace hm := it_f c211 hm
              refine lv_iconst (v := 1) hx hb dX5_emptyWeak_40 (by decide) ?_
              refine lv_goto (tgt := 45) hx hb dX5_emptyWeak_41 (by decide) ?_
              refine lv_istore_n (lv' := [(3, .int 1), (0, .ref (b 0)), (1, .int u2_1), (2, .int v2_2)]) hx hb dX5_emptyWeak_45 rfl hl (by decide) rfl (fun ls hl => ?_)
              refine lv_iload_n hx hb dX5_emptyWeak_46 rfl (lv_at hl 0 rfl) ?_
              refine lv_if_eq (tgt := 92) hx hb dX5_emptyWeak_47 (by decide) (fun h9 => absurd h9 (by decide)) (fun _ => ?_)
              refine lv_aload_n hx hb dX5_emptyWeak_50 rfl (lv_at hl 1 rfl) ?_
              refine va_get (D := G.1) (ci := 5) (v := .ref (b 3)) (C := RX5) (T := TX5) (N := 5) hx hb hts w1_X5_emptyWeak hown hK.1 hP 0 rfl rfl 3 (by decide) (hts _ w0_X5_emptyWeak) (fun _ h9 => h9) rfl dX5_emptyWeak_51 ?_
              refine lv_aload_n hx hb dX5_emptyWeak_54 rfl (lv_at hl 1 rfl) ?_
              refine lv_iload_n hx hb dX5_emptyWeak_55 rfl (lv_at hl 3 rfl) ?_
              refine lv_iconst (v := 3) hx hb dX5_emptyWeak_56 (by decide) ?_
              obtain ⟨q214, hc215, hm⟩ := bd_s hm
              refine ks_i (wo := (wMD G b w2_ dep kept mark start)) (rV (As := [.int v2_2, .int 3]) (rest := [.ref (b 3)]) (b := (b 0)) (wi := (wMD G b w2_ dep kept mark start)) hF hK hP hD (c_X5_part l G b w2_ dep kept mark start v2_2 3 q214 hc215 H.size) (cwV 2 hts gX5_emptyWeak_X5_part rfl rfl rfl (by decide +kernel) ⟨Nat.le_of_ble_eq_true rfl, Nat.le_of_ble_eq_true rfl⟩) (va_recv hK.1 hP (ci := 5) (q0 := 0) rfl rfl) rfl hl.1 rfl (Nat.le_of_ble_eq_true rfl) dX5_emptyWeak_57 ⟨Nat.le_of_ble_eq_true rfl, Nat.le_of_ble_eq_true rfl⟩) hD hS hA (fun H locs hP hD hS => ?_)
              have hP : va_P G.1 vwCl (wMD G b w2_ dep kept mark start) H := hP
              have hD : va_D A (wMD G b w2_ dep kept mark start) := hD
              obtain ⟨hi216, hm⟩ := gd_s hm
              refine va_iald hx hb hK.1 hP 3 0 rfl rfl hi216 dX5_emptyWeak_60 ?_
              refine lv_bipush (v := (-9)) hx hb dX5_emptyWeak_61 (by decide) ?_
              refine lv_icmp_ne (tgt := 92) hx hb dX5_emptyWeak_63 (by decide) (fun c217 => ?_) (fun c217 => ?_)
              · replace hm := it_f c217 hm
                refine lv_iinc (v := (v2_2 + 1)) (lv' := [(2, .int (v2_2 + 1)), (3, .int 1), (0, .ref (b 0)), (1, .int u2_1)]) hx hb dX5_emptyWeak_92 hl (k := 3) rfl rfl (by decide) rfl (fun ls hl => ?_)
                refine lv_goto (tgt := 2) hx hb dX5_emptyWeak_95 (by decide) ?_
                exact ih2 (v2_2 + 1) w2_ hm _ _ _ hP hD hS (lv_sub hl [2, 3, 0] rfl)
              · replace hm := it_t c217 hm
                refine lv_aload_n hx hb dX5_emptyWeak_66 rfl (lv_at hl 1 rfl) ?_
                refine va_get (D := G.1) (ci := 5) (v := .ref (b 1)) (C := RX5) (T := TX5) (N := 5) hx hb hts w1_X5_emptyWeak hown hK.1 hP 0 rfl rfl 0 (by decide) (hts _ w2_X5_emptyWeak) (fun _ h9 => h9) rfl dX5_emptyWeak_67 ?_
                refine lv_bipush (v := 15) hx hb dX5_emptyWeak_70 (by decide) ?_
                refine lv_iload_n hx hb dX5_emptyWeak_72 rfl (lv_at hl 3 rfl) ?_
                refine lv_imul hx hb dX5_emptyWeak_73 ?_
                refine lv_iconst (v := 3) hx hb dX5_emptyWeak_74 (by decide) ?_
                refine lv_iadd hx hb dX5_emptyWeak_75 ?_
                refine lv_bipush (v := (-9)) hx hb dX5_emptyWeak_76 (by decide) ?_
                obtain ⟨hi218, hm⟩ := gd_s hm
                refine va_iast hx hb hK.1 hP hD hS 1 0 rfl rfl hi218 dX5_emptyWeak_78 (fun H locs hP hD hS => ?_)
                have hP : va_P G.1 vwCl (wMD G b (upd w2_ ((15 * v2_2) + 3).toNatClampNeg (-9)) dep kept mark start) H := hP
                have hD : va_D A (wMD G b (upd w2_ ((15 * v2_2) + 3).toNatClampNeg (-9)) dep kept mark start) := hD
                refine lv_iload_n hx hb dX5_emptyWeak_79 rfl (lv_at hl 2 rfl) ?_
                refine lv_if_eq (tgt := 92) hx hb dX5_emptyWeak_80 (by decide) (fun c219 => ?_) (fun c219 => ?_)
                · replace hm := it_t c219 hm
                  refine lv_iinc (v := (v2_2 + 1)) (lv' := [(2, .int (v2_2 + 1)), (3, .int 1), (0, .ref (b 0)), (1, .int u2_1)]) hx hb dX5_emptyWeak_92 hl (k := 3) rfl rfl (by decide) rfl (fun ls hl => ?_)
                  refine lv_goto (tgt := 2) hx hb dX5_emptyWeak_95 (by decide) ?_
                  exact ih2 (v2_2 + 1) (upd w2_ ((15 * v2_2) + 3).toNatClampNeg (-9)) hm _ _ _ hP hD hS (lv_sub hl [2, 3, 0] rfl)
                · replace hm := it_f c219 hm
                  refine lv_aload_n hx hb dX5_emptyWeak_83 rfl (lv_at hl 1 rfl) ?_
                  refine lv_sipush (v := 1000) hx hb dX5_emptyWeak_84 (by decide) ?_
                  refine lv_iload_n hx hb dX5_emptyWeak_87 rfl (lv_at hl 3 rfl) ?_
                  refine lv_iadd hx hb dX5_emptyWeak_88 ?_
                  obtain ⟨q220, hc221, hm⟩ := bd_s hm
                  refine ks_v (wo := (wMD G b q220 dep kept mark start)) (rV (As := [.int (1000 + v2_2)]) (rest := []) (b := (b 0)) (wi := (wMD G b (upd w2_ ((15 * v2_2) + 3).toNatClampNeg (-9)) dep kept mark start)) hF hK hP hD (c_X5_notice l G N b (upd w2_ ((15 * v2_2) + 3).toNatClampNeg (-9)) dep kept mark start (1000 + v2_2) q220 hc221 H.size) (cwV 1 hts gX5_emptyWeak_X5_notice rfl rfl rfl (by decide +kernel) ⟨Nat.le_of_ble_eq_true rfl, Nat.le_of_ble_eq_true rfl⟩) (va_recv hK.1 hP (ci := 5) (q0 := 0) rfl rfl) rfl hl.1 rfl (Nat.le_of_ble_eq_true rfl) dX5_emptyWeak_89 ⟨Nat.le_of_ble_eq_true rfl, Nat.le_of_ble_eq_true rfl⟩) hD hS hA (fun H locs hP hD hS => ?_)
                  have hP : va_P G.1 vwCl (wMD G b q220 dep kept mark start) H := hP
                  have hD : va_D A (wMD G b q220 dep kept mark start) := hD
                  refine lv_iinc (v := (v2_2 + 1)) (lv' := [(2, .int (v2_2 + 1)), (3, .int 1), (0, .ref (b 0)), (1, .int u2_1)]) hx hb dX5_emptyWeak_92 hl (k := 3) rfl rfl (by decide) rfl (fun ls hl => ?_)
                  refine lv_goto (tgt := 2) hx hb dX5_emptyWeak_95 (by decide) ?_
                  exact ih2 (v2_2 + 1) q220 hm _ _ _ hP hD hS (lv_sub hl [2, 3, 0] rfl)
  exact L2 p1 N 0 w hm _ _ _ hP hD hS (lv_sub hl [1, 2, 0] rfl)
def M_X5_finalizeAll_L2 (N : Nat) (mark : Nat → Int32) : Nat → (Int32) → (Nat → Int32) → (Nat → Int32) → Option ((Nat → Int32) × (Nat → Int32))
  | 0, _, _, _ => none
  | n2 + 1, v2_1, w2_, start2_ => if 24 ≤ v2_1 then (some (w2_, start2_)) else (gd v2_1 24 (if (mark v2_1.toNatClampNeg) = (-9) then ((M_X5_isAllocated w2_ v2_1).bind fun q204 => if q204 = 0 then (M_X5_finalizeAll_L2 N mark n2 (v2_1 + 1) w2_ start2_) else ((M_X5_part w2_ v2_1 1).bind fun q207 => if q207 = 1 then ((M_X5_notice N w2_ (3000 + v2_1)).bind fun q210 => gd ((15 * v2_1) + 1) 3880 (gd v2_1 24 (M_X5_finalizeAll_L2 N mark n2 (v2_1 + 1) (upd q210 ((15 * v2_1) + 1).toNatClampNeg 0) (upd start2_ v2_1.toNatClampNeg (vp_nar .boolean 1))))) else (M_X5_finalizeAll_L2 N mark n2 (v2_1 + 1) w2_ start2_))) else (M_X5_finalizeAll_L2 N mark n2 (v2_1 + 1) w2_ start2_)))
def M_X5_finalizeAll (N : Nat) (w : Nat → Int32) (mark : Nat → Int32) (start : Nat → Int32) : Option ((Nat → Int32) × (Nat → Int32)) :=
  M_X5_finalizeAll_L2 N mark N 0 w start
theorem w0_X5_finalizeAll : Cond.fieldLink RX5 17 "WeakTableHeapModel" "mark" "[I" ∈ wsX5_finalizeAll := by decide +kernel
theorem w1_X5_finalizeAll : ∀ w ∈ u_ws RX5 TX5 5, w ∈ wsX5_finalizeAll := by decide +kernel
theorem w2_X5_finalizeAll : Cond.fieldLink RX5 7 "WeakTableHeapModel" "w" "[I" ∈ wsX5_finalizeAll := by decide +kernel
theorem w3_X5_finalizeAll : Cond.fieldLink RX5 20 "WeakTableHeapModel" "start" "[Z" ∈ wsX5_finalizeAll := by decide +kernel
abbrev rm_X5_finalizeAll : Room := { frames := 2, cells := 0, slots := 0, locals := 43 }
set_option maxHeartbeats 4000000 in
set_option maxRecDepth 100000 in
theorem c_X5_finalizeAll (l : Launch) (G : GG) (N : Nat) (b : Nat → Nat) (w : Nat → Int32) (dep : Int32) (kept : Nat → Int32) (mark : Nat → Int32) (start : Nat → Int32) (q : (Nat → Int32) × (Nat → Int32)) (hm : M_X5_finalizeAll N w mark start = some q) : CTv l yX5_finalizeAll wsX5_finalizeAll rm_X5_finalizeAll G [.ref (b 0)] (wMD G b w dep kept mark start) (wMD G b q.1 dep kept mark q.2) := by
  intro sz
  refine mk_body (Qc := fun A => (QV G A (wMD G b q.1 dep kept mark q.2))) (cc := cX5_finalizeAll) (maxL := 2) (ret := none) (lv := [(0, .ref (b 0))]) (by decide) rfl rfl (Nat.le_of_ble_eq_true rfl) ?_
  intro p e s m args below meth c A H locs ls hF hr hlocks hname hK hA hP hD hS hl
  obtain ⟨hx, hb, hml, hown, hts⟩ := id hF
  unfold M_X5_finalizeAll at hm
  refine lv_iconst (v := 0) hx hb dX5_finalizeAll_0 (by decide) ?_
  refine lv_istore_n (lv' := [(1, .int 0), (0, .ref (b 0))]) hx hb dX5_finalizeAll_1 rfl hl (by decide) rfl (fun ls hl => ?_)
  have L2 : ∀ (n2 : Nat) (v2_1 : Int32) (w2_ : Nat → Int32) (start2_ : Nat → Int32), M_X5_finalizeAll_L2 N mark n2 v2_1 w2_ start2_ = some q → ∀ (H : Heap) (locs : List Loc) (ls : Array Slot), va_P G.1 vwCl (wMD G b w2_ dep kept mark start2_) H → va_D A (wMD G b w2_ dep kept mark start2_) → va_S A s.heap H locs → lv_has ls 2 [(0, .ref (b 0)), (1, .int v2_1)] → W p l e rm_X5_finalizeAll s m args below meth c H locs 0 0 (MQ below (QV G A (wMD G b q.1 dep kept mark q.2)) args s rm_X5_finalizeAll.cells rm_X5_finalizeAll.slots A) (F0 m 2 ls []) := by
    intro  n2
    induction n2 with
    | zero => intro v2_1 w2_ start2_ hm; cases hm
    | succ n2 ih2 =>
      intro v2_1 w2_ start2_ hm H locs ls hP hD hS hl
      rw [M_X5_finalizeAll_L2] at hm
      refine lv_iload_n hx hb dX5_finalizeAll_2 rfl (lv_at hl 1 rfl) ?_
      refine lv_bipush (v := 24) hx hb dX5_finalizeAll_3 (by decide) ?_
      refine lv_icmp_ge (tgt := 71) hx hb dX5_finalizeAll_5 (by decide) (fun c201 => ?_) (fun c201 => ?_)
      · replace hm := it_t c201 hm
        cases hm
        exact rt_v hx hb hr hlocks hP hD hS dX5_finalizeAll_71
      · replace hm := it_f c201 hm
        refine lv_aload_n hx hb dX5_finalizeAll_8 rfl (lv_at hl 0 rfl) ?_
        refine va_get (D := G.1) (ci := 5) (v := .ref (b 3)) (C := RX5) (T := TX5) (N := 5) hx hb hts w1_X5_finalizeAll hown hK.1 hP 0 rfl rfl 3 (by decide) (hts _ w0_X5_finalizeAll) (fun _ h9 => h9) rfl dX5_finalizeAll_9 ?_
        refine lv_iload_n hx hb dX5_finalizeAll_12 rfl (lv_at hl 1 rfl) ?_
        obtain ⟨hi202, hm⟩ := gd_s hm
        refine va_iald hx hb hK.1 hP 3 0 rfl rfl hi202 dX5_finalizeAll_13 ?_
        refine lv_bipush (v := (-9)) hx hb dX5_finalizeAll_14 (by decide) ?_
        refine lv_icmp_ne (tgt := 65) hx hb dX5_finalizeAll_16 (by decide) (fun c203 => ?_) (fun c203 => ?_)
        · replace hm := it_f c203 hm
          refine lv_iinc (v := (v2_1 + 1)) (lv' := [(1, .int (v2_1 + 1)), (0, .ref (b 0))]) hx hb dX5_finalizeAll_65 hl (k := 1) rfl rfl (by decide) rfl (fun ls hl => ?_)
          refine lv_goto (tgt := 2) hx hb dX5_finalizeAll_68 (by decide) ?_
          exact ih2 (v2_1 + 1) w2_ start2_ hm _ _ _ hP hD hS (lv_sub hl [1, 0] rfl)
        · replace hm := it_t c203 hm
          refine lv_aload_n hx hb dX5_finalizeAll_19 rfl (lv_at hl 0 rfl) ?_
          refine lv_iload_n hx hb dX5_finalizeAll_20 rfl (lv_at hl 1 rfl) ?_
          obtain ⟨q204, hc205, hm⟩ := bd_s hm
          refine ks_i (wo := (wMD G b w2_ dep kept mark start2_)) (rV (As := [.int v2_1]) (rest := []) (b := (b 0)) (wi := (wMD G b w2_ dep kept mark start2_)) hF hK hP hD (c_X5_isAllocated l G b w2_ dep kept mark start2_ v2_1 q204 hc205 H.size) (cwV 1 hts gX5_finalizeAll_X5_isAllocated rfl rfl rfl (by decide +kernel) ⟨Nat.le_of_ble_eq_true rfl, Nat.le_of_ble_eq_true rfl⟩) (va_recv hK.1 hP (ci := 5) (q0 := 0) rfl rfl) rfl hl.1 rfl (Nat.le_of_ble_eq_true rfl) dX5_finalizeAll_21 ⟨Nat.le_of_ble_eq_true rfl, Nat.le_of_ble_eq_true rfl⟩) hD hS hA (fun H locs hP hD hS => ?_)
          have hP : va_P G.1 vwCl (wMD G b w2_ dep kept mark start2_) H := hP
          have hD : va_D A (wMD G b w2_ dep kept mark start2_) := hD
          refine lv_if_eq (tgt := 65) hx hb dX5_finalizeAll_24 (by decide) (fun c206 => ?_) (fun c206 => ?_)
          · replace hm := it_t c206 hm
            refine lv_iinc (v := (v2_1 + 1)) (lv' := [(1, .int (v2_1 + 1)), (0, .ref (b 0))]) hx hb dX5_finalizeAll_65 hl (k := 1) rfl rfl (by decide) rfl (fun ls hl => ?_)
            refine lv_goto (tgt := 2) hx hb dX5_finalizeAll_68 (by decide) ?_
            exact ih2 (v2_1 + 1) w2_ start2_ hm _ _ _ hP hD hS (lv_sub hl [1, 0] rfl)
          · replace hm := it_f c206 hm
            refine lv_aload_n hx hb dX5_finalizeAll_27 rfl (lv_at hl 0 rfl) ?_
            refine lv_iload_n hx hb dX5_finalizeAll_28 rfl (lv_at hl 1 rfl) ?_
            refine lv_iconst (v := 1) hx hb dX5_finalizeAll_29 (by decide) ?_
            obtain ⟨q207, hc208, hm⟩ := bd_s hm
            refine ks_i (wo := (wMD G b w2_ dep kept mark start2_)) (rV (As := [.int v2_1, .int 1]) (rest := []) (b := (b 0)) (wi := (wMD G b w2_ dep kept mark start2_)) hF hK hP hD (c_X5_part l G b w2_ dep kept mark start2_ v2_1 1 q207 hc208 H.size) (cwV 2 hts gX5_finalizeAll_X5_part rfl rfl rfl (by decide +kernel) ⟨Nat.le_of_ble_eq_true rfl, Nat.le_of_ble_eq_true rfl⟩) (va_recv hK.1 hP (ci := 5) (q0 := 0) rfl rfl) rfl hl.1 rfl (Nat.le_of_ble_eq_true rfl) dX5_finalizeAll_30 ⟨Nat.le_of_ble_eq_true rfl, Nat.le_of_ble_eq_true rfl⟩) hD hS hA (fun H locs hP hD hS => ?_)
            have hP : va_P G.1 vwCl (wMD G b w2_ dep kept mark start2_) H := hP
            have hD : va_D A (wMD G b w2_ dep kept mark start2_) := hD
            refine lv_iconst (v := 1) hx hb dX5_finalizeAll_33 (by decide) ?_
            refine lv_icmp_ne (tgt := 65) hx hb dX5_finalizeAll_34 (by decide) (fun c209 => ?_) (fun c209 => ?_)
            · replace hm := it_f c209 hm
              refine lv_iinc (v := (v2_1 + 1)) (lv' := [(1, .int (v2_1 + 1)), (0, .ref (b 0))]) hx hb dX5_finalizeAll_65 hl (k := 1) rfl rfl (by decide) rfl (fun ls hl => ?_)
              refine lv_goto (tgt := 2) hx hb dX5_finalizeAll_68 (by decide) ?_
              exact ih2 (v2_1 + 1) w2_ start2_ hm _ _ _ hP hD hS (lv_sub hl [1, 0] rfl)
            · replace hm := it_t c209 hm
              refine lv_aload_n hx hb dX5_finalizeAll_37 rfl (lv_at hl 0 rfl) ?_
              refine lv_sipush (v := 3000) hx hb dX5_finalizeAll_38 (by decide) ?_
              refine lv_iload_n hx hb dX5_finalizeAll_41 rfl (lv_at hl 1 rfl) ?_
              refine lv_iadd hx hb dX5_finalizeAll_42 ?_
              obtain ⟨q210, hc211, hm⟩ := bd_s hm
              refine ks_v (wo := (wMD G b q210 dep kept mark start2_)) (rV (As := [.int (3000 + v2_1)]) (rest := []) (b := (b 0)) (wi := (wMD G b w2_ dep kept mark start2_)) hF hK hP hD (c_X5_notice l G N b w2_ dep kept mark start2_ (3000 + v2_1) q210 hc211 H.size) (cwV 1 hts gX5_finalizeAll_X5_notice rfl rfl rfl (by decide +kernel) ⟨Nat.le_of_ble_eq_true rfl, Nat.le_of_ble_eq_true rfl⟩) (va_recv hK.1 hP (ci := 5) (q0 := 0) rfl rfl) rfl hl.1 rfl (Nat.le_of_ble_eq_true rfl) dX5_finalizeAll_43 ⟨Nat.le_of_ble_eq_true rfl, Nat.le_of_ble_eq_true rfl⟩) hD hS hA (fun H locs hP hD hS => ?_)
              have hP : va_P G.1 vwCl (wMD G b q210 dep kept mark start2_) H := hP
              have hD : va_D A (wMD G b q210 dep kept mark start2_) := hD
              refine lv_aload_n hx hb dX5_finalizeAll_46 rfl (lv_at hl 0 rfl) ?_
              refine va_get (D := G.1) (ci := 5) (v := .ref (b 1)) (C := RX5) (T := TX5) (N := 5) hx hb hts w1_X5_finalizeAll hown hK.1 hP 0 rfl rfl 0 (by decide) (hts _ w2_X5_finalizeAll) (fun _ h9 => h9) rfl dX5_finalizeAll_47 ?_
              refine lv_bipush (v := 15) hx hb dX5_finalizeAll_50 (by decide) ?_
              refine lv_iload_n hx hb dX5_finalizeAll_52 rfl (lv_at hl 1 rfl) ?_
              refine lv_imul hx hb dX5_finalizeAll_53 ?_
              refine lv_iconst (v := 1) hx hb dX5_finalizeAll_54 (by decide) ?_
              refine lv_iadd hx hb dX5_finalizeAll_55 ?_
              refine lv_iconst (v := 0) hx hb dX5_finalizeAll_56 (by decide) ?_
              obtain ⟨hi212, hm⟩ := gd_s hm
              refine va_iast hx hb hK.1 hP hD hS 1 0 rfl rfl hi212 dX5_finalizeAll_57 (fun H locs hP hD hS => ?_)
              have hP : va_P G.1 vwCl (wMD G b (upd q210 ((15 * v2_1) + 1).toNatClampNeg 0) dep kept mark start2_) H := hP
              have hD : va_D A (wMD G b (upd q210 ((15 * v2_1) + 1).toNatClampNeg 0) dep kept mark start2_) := hD
              refine lv_aload_n hx hb dX5_finalizeAll_58 rfl (lv_at hl 0 rfl) ?_
              refine va_get (D := G.1) (ci := 5) (v := .ref (b 4)) (C := RX5) (T := TX5) (N := 5) hx hb hts w1_X5_finalizeAll hown hK.1 hP 0 rfl rfl 4 (by decide) (hts _ w3_X5_finalizeAll) (fun _ h9 => h9) rfl dX5_finalizeAll_59 ?_
              refine lv_iload_n hx hb dX5_finalizeAll_62 rfl (lv_at hl 1 rfl) ?_
              refine lv_iconst (v := 1) hx hb dX5_finalizeAll_63 (by decide) ?_
              obtain ⟨hi213, hm⟩ := gd_s hm
              refine va_zast hx hb hK.1 hP hD hS 4 1 rfl rfl hi213 dX5_finalizeAll_64 (fun H locs hP hD hS => ?_)
              have hP : va_P G.1 vwCl (wMD G b (upd q210 ((15 * v2_1) + 1).toNatClampNeg 0) dep kept mark (upd start2_ v2_1.toNatClampNeg (vp_nar .boolean 1))) H := hP
              have hD : va_D A (wMD G b (upd q210 ((15 * v2_1) + 1).toNatClampNeg 0) dep kept mark (upd start2_ v2_1.toNatClampNeg (vp_nar .boolean 1))) := hD
              refine lv_iinc (v := (v2_1 + 1)) (lv' := [(1, .int (v2_1 + 1)), (0, .ref (b 0))]) hx hb dX5_finalizeAll_65 hl (k := 1) rfl rfl (by decide) rfl (fun ls hl => ?_)
              refine lv_goto (tgt := 2) hx hb dX5_finalizeAll_68 (by decide) ?_
              exact ih2 (v2_1 + 1) (upd q210 ((15 * v2_1) + 1).toNatClampNeg 0) (upd start2_ v2_1.toNatClampNeg (vp_nar .boolean 1)) hm _ _ _ hP hD hS (lv_sub hl [1, 0] rfl)
  exact L2 N 0 w start hm _ _ _ hP hD hS (lv_sub hl [1, 0] rfl)
def M_X5_dropEntries_L31 (K : (Int32) → (Nat → Int32) → Option ((Nat → Int32))) (N : Nat) (mark : Nat → Int32) (v2_1 : Int32) : Nat → (Int32) → (Nat → Int32) → Option ((Nat → Int32))
  | 0, _, _ => none
  | n31 + 1, v31_2, w31_ => (M_X5_part w31_ v2_1 2).bind fun q3101 => if q3101 ≤ v31_2 then (K v31_2 w31_) else ((M_X5_part w31_ v2_1 (3 + v31_2)).bind fun q3104 => gd q3104 24 (if (mark q3104.toNatClampNeg) = (-9) then ((M_X5_notice N w31_ ((2000 + (32 * v2_1)) + q3104)).bind fun q3108 => (M_X5_removeAt N q3108 v2_1 v31_2).bind fun q3110 => M_X5_dropEntries_L31 K N mark v2_1 n31 v31_2 q3110) else (M_X5_dropEntries_L31 K N mark v2_1 n31 (v31_2 + 1) w31_)))
def M_X5_dropEntries_L2 (N : Nat) (mark : Nat → Int32) : Nat → (Int32) → (Nat → Int32) → Option ((Nat → Int32))
  | 0, _, _ => none
  | n2 + 1, v2_1, w2_ => if 24 ≤ v2_1 then (some w2_) else (gd v2_1 24 (if (mark v2_1.toNatClampNeg) = (-9) then (M_X5_dropEntries_L2 N mark n2 (v2_1 + 1) w2_) else ((M_X5_part w2_ v2_1 0).bind fun q204 => if q204 = 1 then (M_X5_dropEntries_L31 (fun k31_2 kw31 => M_X5_dropEntries_L2 N mark n2 (v2_1 + 1) kw31) N mark v2_1 N 0 w2_) else (M_X5_dropEntries_L2 N mark n2 (v2_1 + 1) w2_))))
def M_X5_dropEntries (N : Nat) (w : Nat → Int32) (mark : Nat → Int32) : Option ((Nat → Int32)) :=
  M_X5_dropEntries_L2 N mark N 0 w
theorem w0_X5_dropEntries : Cond.fieldLink RX5 17 "WeakTableHeapModel" "mark" "[I" ∈ wsX5_dropEntries := by decide +kernel
theorem w1_X5_dropEntries : ∀ w ∈ u_ws RX5 TX5 5, w ∈ wsX5_dropEntries := by decide +kernel
abbrev rm_X5_dropEntries : Room := { frames := 2, cells := 0, slots := 0, locals := 46 }
set_option maxHeartbeats 4000000 in
set_option maxRecDepth 100000 in
theorem c_X5_dropEntries (l : Launch) (G : GG) (N : Nat) (b : Nat → Nat) (w : Nat → Int32) (dep : Int32) (kept : Nat → Int32) (mark : Nat → Int32) (start : Nat → Int32) (q : (Nat → Int32)) (hm : M_X5_dropEntries N w mark = some q) : CTv l yX5_dropEntries wsX5_dropEntries rm_X5_dropEntries G [.ref (b 0)] (wMD G b w dep kept mark start) (wMD G b q dep kept mark start) := by
  intro sz
  refine mk_body (Qc := fun A => (QV G A (wMD G b q dep kept mark start))) (cc := cX5_dropEntries) (maxL := 4) (ret := none) (lv := [(0, .ref (b 0))]) (by decide) rfl rfl (Nat.le_of_ble_eq_true rfl) ?_
  intro p e s m args below meth c A H locs ls hF hr hlocks hname hK hA hP hD hS hl
  obtain ⟨hx, hb, hml, hown, hts⟩ := id hF
  unfold M_X5_dropEntries at hm
  refine lv_iconst (v := 0) hx hb dX5_dropEntries_0 (by decide) ?_
  refine lv_istore_n (lv' := [(1, .int 0), (0, .ref (b 0))]) hx hb dX5_dropEntries_1 rfl hl (by decide) rfl (fun ls hl => ?_)
  have L2 : ∀ (n2 : Nat) (v2_1 : Int32) (w2_ : Nat → Int32), M_X5_dropEntries_L2 N mark n2 v2_1 w2_ = some q → ∀ (H : Heap) (locs : List Loc) (ls : Array Slot), va_P G.1 vwCl (wMD G b w2_ dep kept mark start) H → va_D A (wMD G b w2_ dep kept mark start) → va_S A s.heap H locs → lv_has ls 4 [(0, .ref (b 0)), (1, .int v2_1)] → W p l e rm_X5_dropEntries s m args below meth c H locs 0 0 (MQ below (QV G A (wMD G b q dep kept mark start)) args s rm_X5_dropEntries.cells rm_X5_dropEntries.slots A) (F0 m 2 ls []) := by
    intro  n2
    induction n2 with
    | zero => intro v2_1 w2_ hm; cases hm
    | succ n2 ih2 =>
      intro v2_1 w2_ hm H locs ls hP hD hS hl
      rw [M_X5_dropEntries_L2] at hm
      refine lv_iload_n hx hb dX5_dropEntries_2 rfl (lv_at hl 1 rfl) ?_
      refine lv_bipush (v := 24) hx hb dX5_dropEntries_3 (by decide) ?_
      refine lv_icmp_ge (tgt := 96) hx hb dX5_dropEntries_5 (by decide) (fun c201 => ?_) (fun c201 => ?_)
      · replace hm := it_t c201 hm
        cases hm
        exact rt_v hx hb hr hlocks hP hD hS dX5_dropEntries_96
      · replace hm := it_f c201 hm
        refine lv_aload_n hx hb dX5_dropEntries_8 rfl (lv_at hl 0 rfl) ?_
        refine va_get (D := G.1) (ci := 5) (v := .ref (b 3)) (C := RX5) (T := TX5) (N := 5) hx hb hts w1_X5_dropEntries hown hK.1 hP 0 rfl rfl 3 (by decide) (hts _ w0_X5_dropEntries) (fun _ h9 => h9) rfl dX5_dropEntries_9 ?_
        refine lv_iload_n hx hb dX5_dropEntries_12 rfl (lv_at hl 1 rfl) ?_
        obtain ⟨hi202, hm⟩ := gd_s hm
        refine va_iald hx hb hK.1 hP 3 0 rfl rfl hi202 dX5_dropEntries_13 ?_
        refine lv_bipush (v := (-9)) hx hb dX5_dropEntries_14 (by decide) ?_
        refine lv_icmp_eq (tgt := 90) hx hb dX5_dropEntries_16 (by decide) (fun c203 => ?_) (fun c203 => ?_)
        · replace hm := it_t c203 hm
          refine lv_iinc (v := (v2_1 + 1)) (lv' := [(1, .int (v2_1 + 1)), (0, .ref (b 0))]) hx hb dX5_dropEntries_90 hl (k := 1) rfl rfl (by decide) rfl (fun ls hl => ?_)
          refine lv_goto (tgt := 2) hx hb dX5_dropEntries_93 (by decide) ?_
          exact ih2 (v2_1 + 1) w2_ hm _ _ _ hP hD hS (lv_sub hl [1, 0] rfl)
        · replace hm := it_f c203 hm
          refine lv_aload_n hx hb dX5_dropEntries_19 rfl (lv_at hl 0 rfl) ?_
          refine lv_iload_n hx hb dX5_dropEntries_20 rfl (lv_at hl 1 rfl) ?_
          refine lv_iconst (v := 0) hx hb dX5_dropEntries_21 (by decide) ?_
          obtain ⟨q204, hc205, hm⟩ := bd_s hm
          refine ks_i (wo := (wMD G b w2_ dep kept mark start)) (rV (As := [.int v2_1, .int 0]) (rest := []) (b := (b 0)) (wi := (wMD G b w2_ dep kept mark start)) hF hK hP hD (c_X5_part l G b w2_ dep kept mark start v2_1 0 q204 hc205 H.size) (cwV 2 hts gX5_dropEntries_X5_part rfl rfl rfl (by decide +kernel) ⟨Nat.le_of_ble_eq_true rfl, Nat.le_of_ble_eq_true rfl⟩) (va_recv hK.1 hP (ci := 5) (q0 := 0) rfl rfl) rfl hl.1 rfl (Nat.le_of_ble_eq_true rfl) dX5_dropEntries_22 ⟨Nat.le_of_ble_eq_true rfl, Nat.le_of_ble_eq_true rfl⟩) hD hS hA (fun H locs hP hD hS => ?_)
          have hP : va_P G.1 vwCl (wMD G b w2_ dep kept mark start) H := hP
          have hD : va_D A (wMD G b w2_ dep kept mark start) := hD
          refine lv_iconst (v := 1) hx hb dX5_dropEntries_25 (by decide) ?_
          refine lv_icmp_ne (tgt := 90) hx hb dX5_dropEntries_26 (by decide) (fun c206 => ?_) (fun c206 => ?_)
          · replace hm := it_f c206 hm
            refine lv_iinc (v := (v2_1 + 1)) (lv' := [(1, .int (v2_1 + 1)), (0, .ref (b 0))]) hx hb dX5_dropEntries_90 hl (k := 1) rfl rfl (by decide) rfl (fun ls hl => ?_)
            refine lv_goto (tgt := 2) hx hb dX5_dropEntries_93 (by decide) ?_
            exact ih2 (v2_1 + 1) w2_ hm _ _ _ hP hD hS (lv_sub hl [1, 0] rfl)
          · replace hm := it_t c206 hm
            refine lv_iconst (v := 0) hx hb dX5_dropEntries_29 (by decide) ?_
            refine lv_istore_n (lv' := [(2, .int 0), (0, .ref (b 0)), (1, .int v2_1)]) hx hb dX5_dropEntries_30 rfl hl (by decide) rfl (fun ls hl => ?_)
            have L31 : ∀ (n31 : Nat) (v31_2 : Int32) (w31_ : Nat → Int32), M_X5_dropEntries_L31 (fun k31_2 kw31 => M_X5_dropEntries_L2 N mark n2 (v2_1 + 1) kw31) N mark v2_1 n31 v31_2 w31_ = some q → ∀ (H : Heap) (locs : List Loc) (ls : Array Slot), va_P G.1 vwCl (wMD G b w31_ dep kept mark start) H → va_D A (wMD G b w31_ dep kept mark start) → va_S A s.heap H locs → lv_has ls 4 [(0, .ref (b 0)), (1, .int v2_1), (2, .int v31_2)] → W p l e rm_X5_dropEntries s m args below meth c H locs 0 0 (MQ below (QV G A (wMD G b q dep kept mark start)) args s rm_X5_dropEntries.cells rm_X5_dropEntries.slots A) (F0 m 31 ls []) := by
              intro  n31
              induction n31 with
              | zero => intro v31_2 w31_ hm; cases hm
              | succ n31 ih31 =>
                intro v31_2 w31_ hm H locs ls hP hD hS hl
                rw [M_X5_dropEntries_L31] at hm
                refine lv_iload_n hx hb dX5_dropEntries_31 rfl (lv_at hl 2 rfl) ?_
                refine lv_aload_n hx hb dX5_dropEntries_32 rfl (lv_at hl 0 rfl) ?_
                refine lv_iload_n hx hb dX5_dropEntries_33 rfl (lv_at hl 1 rfl) ?_
                refine lv_iconst (v := 2) hx hb dX5_dropEntries_34 (by decide) ?_
                obtain ⟨q3101, hc3102, hm⟩ := bd_s hm
                refine ks_i (wo := (wMD G b w31_ dep kept mark start)) (rV (As := [.int v2_1, .int 2]) (rest := [.int v31_2]) (b := (b 0)) (wi := (wMD G b w31_ dep kept mark start)) hF hK hP hD (c_X5_part l G b w31_ dep kept mark start v2_1 2 q3101 hc3102 H.size) (cwV 2 hts gX5_dropEntries_X5_part rfl rfl rfl (by decide +kernel) ⟨Nat.le_of_ble_eq_true rfl, Nat.le_of_ble_eq_true rfl⟩) (va_recv hK.1 hP (ci := 5) (q0 := 0) rfl rfl) rfl hl.1 rfl (Nat.le_of_ble_eq_true rfl) dX5_dropEntries_35 ⟨Nat.le_of_ble_eq_true rfl, Nat.le_of_ble_eq_true rfl⟩) hD hS hA (fun H locs hP hD hS => ?_)
                have hP : va_P G.1 vwCl (wMD G b w31_ dep kept mark start) H := hP
                have hD : va_D A (wMD G b w31_ dep kept mark start) := hD
                refine lv_icmp_ge (tgt := 90) hx hb dX5_dropEntries_38 (by decide) (fun c3103 => ?_) (fun c3103 => ?_)
                · replace hm := it_t c3103 hm
                  try dsimp only at hm
                  refine lv_iinc (v := (v2_1 + 1)) (lv' := [(1, .int (v2_1 + 1)), (0, .ref (b 0)), (2, .int v31_2)]) hx hb dX5_dropEntries_90 hl (k := 1) rfl rfl (by decide) rfl (fun ls hl => ?_)
                  refine lv_goto (tgt := 2) hx hb dX5_dropEntries_93 (by decide) ?_
                  exact ih2 (v2_1 + 1) w31_ hm _ _ _ hP hD hS (lv_sub hl [1, 0] rfl)
                · replace hm := it_f c3103 hm
                  refine lv_aload_n hx hb dX5_dropEntries_41 rfl (lv_at hl 0 rfl) ?_
                  refine lv_iload_n hx hb dX5_dropEntries_42 rfl (lv_at hl 1 rfl) ?_
                  refine lv_iconst (v := 3) hx hb dX5_dropEntries_43 (by decide) ?_
                  refine lv_iload_n hx hb dX5_dropEntries_44 rfl (lv_at hl 2 rfl) ?_
                  refine lv_iadd hx hb dX5_dropEntries_45 ?_
                  obtain ⟨q3104, hc3105, hm⟩ := bd_s hm
                  refine ks_i (wo := (wMD G b w31_ dep kept mark start)) (rV (As := [.int v2_1, .int (3 + v31_2)]) (rest := []) (b := (b 0)) (wi := (wMD G b w31_ dep kept mark start)) hF hK hP hD (c_X5_part l G b w31_ dep kept mark start v2_1 (3 + v31_2) q3104 hc3105 H.size) (cwV 2 hts gX5_dropEntries_X5_part rfl rfl rfl (by decide +kernel) ⟨Nat.le_of_ble_eq_true rfl, Nat.le_of_ble_eq_true rfl⟩) (va_recv hK.1 hP (ci := 5) (q0 := 0) rfl rfl) rfl hl.1 rfl (Nat.le_of_ble_eq_true rfl) dX5_dropEntries_46 ⟨Nat.le_of_ble_eq_true rfl, Nat.le_of_ble_eq_true rfl⟩) hD hS hA (fun H locs hP hD hS => ?_)
                  have hP : va_P G.1 vwCl (wMD G b w31_ dep kept mark start) H := hP
                  have hD : va_D A (wMD G b w31_ dep kept mark start) := hD
                  refine lv_istore_n (lv' := [(3, .int q3104), (0, .ref (b 0)), (1, .int v2_1), (2, .int v31_2)]) hx hb dX5_dropEntries_49 rfl hl (by decide) rfl (fun ls hl => ?_)
                  refine lv_aload_n hx hb dX5_dropEntries_50 rfl (lv_at hl 1 rfl) ?_
                  refine va_get (D := G.1) (ci := 5) (v := .ref (b 3)) (C := RX5) (T := TX5) (N := 5) hx hb hts w1_X5_dropEntries hown hK.1 hP 0 rfl rfl 3 (by decide) (hts _ w0_X5_dropEntries) (fun _ h9 => h9) rfl dX5_dropEntries_51 ?_
                  refine lv_iload_n hx hb dX5_dropEntries_54 rfl (lv_at hl 0 rfl) ?_
                  obtain ⟨hi3106, hm⟩ := gd_s hm
                  refine va_iald hx hb hK.1 hP 3 0 rfl rfl hi3106 dX5_dropEntries_55 ?_
                  refine lv_bipush (v := (-9)) hx hb dX5_dropEntries_56 (by decide) ?_
                  refine lv_icmp_ne (tgt := 84) hx hb dX5_dropEntries_58 (by decide) (fun c3107 => ?_) (fun c3107 => ?_)
                  · replace hm := it_f c3107 hm
                    refine lv_iinc (v := (v31_2 + 1)) (lv' := [(2, .int (v31_2 + 1)), (3, .int q3104), (0, .ref (b 0)), (1, .int v2_1)]) hx hb dX5_dropEntries_84 hl (k := 3) rfl rfl (by decide) rfl (fun ls hl => ?_)
                    refine lv_goto (tgt := 31) hx hb dX5_dropEntries_87 (by decide) ?_
                    exact ih31 (v31_2 + 1) w31_ hm _ _ _ hP hD hS (lv_sub hl [2, 3, 0] rfl)
                  · replace hm := it_t c3107 hm
                    refine lv_aload_n hx hb dX5_dropEntries_61 rfl (lv_at hl 1 rfl) ?_
                    refine lv_sipush (v := 2000) hx hb dX5_dropEntries_62 (by decide) ?_
                    refine lv_bipush (v := 32) hx hb dX5_dropEntries_65 (by decide) ?_
                    refine lv_iload_n hx hb dX5_dropEntries_67 rfl (lv_at hl 2 rfl) ?_
                    refine lv_imul hx hb dX5_dropEntries_68 ?_
                    refine lv_iadd hx hb dX5_dropEntries_69 ?_
                    refine lv_iload_n hx hb dX5_dropEntries_70 rfl (lv_at hl 0 rfl) ?_
                    refine lv_iadd hx hb dX5_dropEntries_71 ?_
                    obtain ⟨q3108, hc3109, hm⟩ := bd_s hm
                    refine ks_v (wo := (wMD G b q3108 dep kept mark start)) (rV (As := [.int ((2000 + (32 * v2_1)) + q3104)]) (rest := []) (b := (b 0)) (wi := (wMD G b w31_ dep kept mark start)) hF hK hP hD (c_X5_notice l G N b w31_ dep kept mark start ((2000 + (32 * v2_1)) + q3104) q3108 hc3109 H.size) (cwV 1 hts gX5_dropEntries_X5_notice rfl rfl rfl (by decide +kernel) ⟨Nat.le_of_ble_eq_true rfl, Nat.le_of_ble_eq_true rfl⟩) (va_recv hK.1 hP (ci := 5) (q0 := 0) rfl rfl) rfl hl.1 rfl (Nat.le_of_ble_eq_true rfl) dX5_dropEntries_72 ⟨Nat.le_of_ble_eq_true rfl, Nat.le_of_ble_eq_true rfl⟩) hD hS hA (fun H locs hP hD hS => ?_)
                    have hP : va_P G.1 vwCl (wMD G b q3108 dep kept mark start) H := hP
                    have hD : va_D A (wMD G b q3108 dep kept mark start) := hD
                    refine lv_aload_n hx hb dX5_dropEntries_75 rfl (lv_at hl 1 rfl) ?_
                    refine lv_iload_n hx hb dX5_dropEntries_76 rfl (lv_at hl 2 rfl) ?_
                    refine lv_iload_n hx hb dX5_dropEntries_77 rfl (lv_at hl 3 rfl) ?_
                    obtain ⟨q3110, hc3111, hm⟩ := bd_s hm
                    refine ks_v (wo := (wMD G b q3110 dep kept mark start)) (rV (As := [.int v2_1, .int v31_2]) (rest := []) (b := (b 0)) (wi := (wMD G b q3108 dep kept mark start)) hF hK hP hD (c_X5_removeAt l G N b q3108 dep kept mark start v2_1 v31_2 q3110 hc3111 H.size) (cwV 2 hts gX5_dropEntries_X5_removeAt rfl rfl rfl (by decide +kernel) ⟨Nat.le_of_ble_eq_true rfl, Nat.le_of_ble_eq_true rfl⟩) (va_recv hK.1 hP (ci := 5) (q0 := 0) rfl rfl) rfl hl.1 rfl (Nat.le_of_ble_eq_true rfl) dX5_dropEntries_78 ⟨Nat.le_of_ble_eq_true rfl, Nat.le_of_ble_eq_true rfl⟩) hD hS hA (fun H locs hP hD hS => ?_)
                    have hP : va_P G.1 vwCl (wMD G b q3110 dep kept mark start) H := hP
                    have hD : va_D A (wMD G b q3110 dep kept mark start) := hD
                    refine lv_goto (tgt := 87) hx hb dX5_dropEntries_81 (by decide) ?_
                    refine lv_goto (tgt := 31) hx hb dX5_dropEntries_87 (by decide) ?_
                    exact ih31 v31_2 q3110 hm _ _ _ hP hD hS (lv_sub hl [1, 2, 3] rfl)
            exact L31 N 0 w2_ hm _ _ _ hP hD hS (lv_sub hl [1, 2, 0] rfl)
  exact L2 N 0 w hm _ _ _ hP hD hS (lv_sub hl [1, 0] rfl)
def M_X5_free_L4 (mark : Nat → Int32) : Nat → (Int32) → (Int32) → (Nat → Int32) → Option (Int32 × (Nat → Int32))
  | 0, _, _, _ => none
  | n4 + 1, v4_1, v4_2, w4_ => if 24 ≤ v4_2 then (some (v4_1, w4_)) else ((M_X5_isAllocated w4_ v4_2).bind fun q402 => if q402 = 0 then (M_X5_free_L4 mark n4 v4_1 (v4_2 + 1) w4_) else (gd v4_2 24 (if (mark v4_2.toNatClampNeg) = (-9) then (gd ((15 * v4_2) + 0) 3880 (gd ((15 * v4_2) + 1) 3880 (M_X5_free_L4 mark n4 (v4_1 + 1) (v4_2 + 1) (upd (upd w4_ ((15 * v4_2) + 0).toNatClampNeg (-9)) ((15 * v4_2) + 1).toNatClampNeg 0)))) else (M_X5_free_L4 mark n4 v4_1 (v4_2 + 1) w4_))))
def M_X5_free (N : Nat) (w : Nat → Int32) (mark : Nat → Int32) : Option (Int32 × (Nat → Int32)) :=
  M_X5_free_L4 mark N 0 0 w
theorem w0_X5_free : Cond.fieldLink RX5 17 "WeakTableHeapModel" "mark" "[I" ∈ wsX5_free := by decide +kernel
theorem w1_X5_free : ∀ w ∈ u_ws RX5 TX5 5, w ∈ wsX5_free := by decide +kernel
theorem w2_X5_free : Cond.fieldLink RX5 7 "WeakTableHeapModel" "w" "[I" ∈ wsX5_free := by decide +kernel
abbrev rm_X5_free : Room := { frames := 2, cells := 0, slots := 0, locals := 43 }
set_option maxHeartbeats 4000000 in
set_option maxRecDepth 100000 in
theorem c_X5_free (l : Launch) (G : GG) (N : Nat) (b : Nat → Nat) (w : Nat → Int32) (dep : Int32) (kept : Nat → Int32) (mark : Nat → Int32) (start : Nat → Int32) (q : Int32 × (Nat → Int32)) (hm : M_X5_free N w mark = some q) : CTi l yX5_free wsX5_free rm_X5_free G [.ref (b 0)] (wMD G b w dep kept mark start) q.1 (wMD G b q.2 dep kept mark start) := by
  intro sz
  refine mk_body (Qc := fun A => (QI G A q.1 (wMD G b q.2 dep kept mark start))) (cc := cX5_free) (maxL := 3) (ret := (some .int)) (lv := [(0, .ref (b 0))]) (by decide) rfl rfl (Nat.le_of_ble_eq_true rfl) ?_
  intro p e s m args below meth c A H locs ls hF hr hlocks hname hK hA hP hD hS hl
  obtain ⟨hx, hb, hml, hown, hts⟩ := id hF
  unfold M_X5_free at hm
  refine lv_iconst (v := 0) hx hb dX5_free_0 (by decide) ?_
  refine lv_istore_n (lv' := [(1, .int 0), (0, .ref (b 0))]) hx hb dX5_free_1 rfl hl (by decide) rfl (fun ls hl => ?_)
  refine lv_iconst (v := 0) hx hb dX5_free_2 (by decide) ?_
  refine lv_istore_n (lv' := [(2, .int 0), (1, .int 0), (0, .ref (b 0))]) hx hb dX5_free_3 rfl hl (by decide) rfl (fun ls hl => ?_)
  have L4 : ∀ (n4 : Nat) (v4_1 : Int32) (v4_2 : Int32) (w4_ : Nat → Int32), M_X5_free_L4 mark n4 v4_1 v4_2 w4_ = some q → ∀ (H : Heap) (locs : List Loc) (ls : Array Slot), va_P G.1 vwCl (wMD G b w4_ dep kept mark start) H → va_D A (wMD G b w4_ dep kept mark start) → va_S A s.heap H locs → lv_has ls 3 [(0, .ref (b 0)), (1, .int v4_1), (2, .int v4_2)] → W p l e rm_X5_free s m args below meth c H locs 0 0 (MQ below (QI G A q.1 (wMD G b q.2 dep kept mark start)) args s rm_X5_free.cells rm_X5_free.slots A) (F0 m 4 ls []) := by
    intro  n4
    induction n4 with
    | zero => intro v4_1 v4_2 w4_ hm; cases hm
    | succ n4 ih4 =>
      intro v4_1 v4_2 w4_ hm H locs ls hP hD hS hl
      rw [M_X5_free_L4] at hm
      refine lv_iload_n hx hb dX5_free_4 rfl (lv_at hl 2 rfl) ?_
      refine lv_bipush (v := 24) hx hb dX5_free_5 (by decide) ?_
      refine lv_icmp_ge (tgt := 63) hx hb dX5_free_7 (by decide) (fun c401 => ?_) (fun c401 => ?_)
      · replace hm := it_t c401 hm
        refine lv_iload_n hx hb dX5_free_63 rfl (lv_at hl 1 rfl) ?_
        cases hm
        exact rt_i hx hb hr hlocks hP hD hS dX5_free_64
      · replace hm := it_f c401 hm
        refine lv_aload_n hx hb dX5_free_10 rfl (lv_at hl 0 rfl) ?_
        refine lv_iload_n hx hb dX5_free_11 rfl (lv_at hl 2 rfl) ?_
        obtain ⟨q402, hc403, hm⟩ := bd_s hm
        refine ks_i (wo := (wMD G b w4_ dep kept mark start)) (rV (As := [.int v4_2]) (rest := []) (b := (b 0)) (wi := (wMD G b w4_ dep kept mark start)) hF hK hP hD (c_X5_isAllocated l G b w4_ dep kept mark start v4_2 q402 hc403 H.size) (cwV 1 hts gX5_free_X5_isAllocated rfl rfl rfl (by decide +kernel) ⟨Nat.le_of_ble_eq_true rfl, Nat.le_of_ble_eq_true rfl⟩) (va_recv hK.1 hP (ci := 5) (q0 := 0) rfl rfl) rfl hl.1 rfl (Nat.le_of_ble_eq_true rfl) dX5_free_12 ⟨Nat.le_of_ble_eq_true rfl, Nat.le_of_ble_eq_true rfl⟩) hD hS hA (fun H locs hP hD hS => ?_)
        have hP : va_P G.1 vwCl (wMD G b w4_ dep kept mark start) H := hP
        have hD : va_D A (wMD G b w4_ dep kept mark start) := hD
        refine lv_if_eq (tgt := 57) hx hb dX5_free_15 (by decide) (fun c404 => ?_) (fun c404 => ?_)
        · replace hm := it_t c404 hm
          refine lv_iinc (v := (v4_2 + 1)) (lv' := [(2, .int (v4_2 + 1)), (0, .ref (b 0)), (1, .int v4_1)]) hx hb dX5_free_57 hl (k := 2) rfl rfl (by decide) rfl (fun ls hl => ?_)
          refine lv_goto (tgt := 4) hx hb dX5_free_60 (by decide) ?_
          exact ih4 v4_1 (v4_2 + 1) w4_ hm _ _ _ hP hD hS (lv_sub hl [1, 2, 0] rfl)
        · replace hm := it_f c404 hm
          refine lv_aload_n hx hb dX5_free_18 rfl (lv_at hl 0 rfl) ?_
          refine va_get (D := G.1) (ci := 5) (v := .ref (b 3)) (C := RX5) (T := TX5) (N := 5) hx hb hts w1_X5_free hown hK.1 hP 0 rfl rfl 3 (by decide) (hts _ w0_X5_free) (fun _ h9 => h9) rfl dX5_free_19 ?_
          refine lv_iload_n hx hb dX5_free_22 rfl (lv_at hl 2 rfl) ?_
          obtain ⟨hi405, hm⟩ := gd_s hm
          refine va_iald hx hb hK.1 hP 3 0 rfl rfl hi405 dX5_free_23 ?_
          refine lv_bipush (v := (-9)) hx hb dX5_free_24 (by decide) ?_
          refine lv_icmp_ne (tgt := 57) hx hb dX5_free_26 (by decide) (fun c406 => ?_) (fun c406 => ?_)
          · replace hm := it_f c406 hm
            refine lv_iinc (v := (v4_2 + 1)) (lv' := [(2, .int (v4_2 + 1)), (0, .ref (b 0)), (1, .int v4_1)]) hx hb dX5_free_57 hl (k := 2) rfl rfl (by decide) rfl (fun ls hl => ?_)
            refine lv_goto (tgt := 4) hx hb dX5_free_60 (by decide) ?_
            exact ih4 v4_1 (v4_2 + 1) w4_ hm _ _ _ hP hD hS (lv_sub hl [1, 2, 0] rfl)
          · replace hm := it_t c406 hm
            refine lv_aload_n hx hb dX5_free_29 rfl (lv_at hl 0 rfl) ?_
            refine va_get (D := G.1) (ci := 5) (v := .ref (b 1)) (C := RX5) (T := TX5) (N := 5) hx hb hts w1_X5_free hown hK.1 hP 0 rfl rfl 0 (by decide) (hts _ w2_X5_free) (fun _ h9 => h9) rfl dX5_free_30 ?_
            refine lv_bipush (v := 15) hx hb dX5_free_33 (by decide) ?_
            refine lv_iload_n hx hb dX5_free_35 rfl (lv_at hl 2 rfl) ?_
            refine lv_imul hx hb dX5_free_36 ?_
            refine lv_iconst (v := 0) hx hb dX5_free_37 (by decide) ?_
            refine lv_iadd hx hb dX5_free_38 ?_
            refine lv_bipush (v := (-9)) hx hb dX5_free_39 (by decide) ?_
            obtain ⟨hi407, hm⟩ := gd_s hm
            refine va_iast hx hb hK.1 hP hD hS 1 0 rfl rfl hi407 dX5_free_41 (fun H locs hP hD hS => ?_)
            have hP : va_P G.1 vwCl (wMD G b (upd w4_ ((15 * v4_2) + 0).toNatClampNeg (-9)) dep kept mark start) H := hP
            have hD : va_D A (wMD G b (upd w4_ ((15 * v4_2) + 0).toNatClampNeg (-9)) dep kept mark start) := hD
            refine lv_aload_n hx hb dX5_free_42 rfl (lv_at hl 0 rfl) ?_
            refine va_get (D := G.1) (ci := 5) (v := .ref (b 1)) (C := RX5) (T := TX5) (N := 5) hx hb hts w1_X5_free hown hK.1 hP 0 rfl rfl 0 (by decide) (hts _ w2_X5_free) (fun _ h9 => h9) rfl dX5_free_43 ?_
            refine lv_bipush (v := 15) hx hb dX5_free_46 (by decide) ?_
            refine lv_iload_n hx hb dX5_free_48 rfl (lv_at hl 2 rfl) ?_
            refine lv_imul hx hb dX5_free_49 ?_
            refine lv_iconst (v := 1) hx hb dX5_free_50 (by decide) ?_
            refine lv_iadd hx hb dX5_free_51 ?_
            refine lv_iconst (v := 0) hx hb dX5_free_52 (by decide) ?_
            obtain ⟨hi408, hm⟩ := gd_s hm
            refine va_iast hx hb hK.1 hP hD hS 1 0 rfl rfl hi408 dX5_free_53 (fun H locs hP hD hS => ?_)
            have hP : va_P G.1 vwCl (wMD G b (upd (upd w4_ ((15 * v4_2) + 0).toNatClampNeg (-9)) ((15 * v4_2) + 1).toNatClampNeg 0) dep kept mark start) H := hP
            have hD : va_D A (wMD G b (upd (upd w4_ ((15 * v4_2) + 0).toNatClampNeg (-9)) ((15 * v4_2) + 1).toNatClampNeg 0) dep kept mark start) := hD
            refine lv_iinc (v := (v4_1 + 1)) (lv' := [(1, .int (v4_1 + 1)), (0, .ref (b 0)), (2, .int v4_2)]) hx hb dX5_free_54 hl (k := 1) rfl rfl (by decide) rfl (fun ls hl => ?_)
            refine lv_iinc (v := (v4_2 + 1)) (lv' := [(2, .int (v4_2 + 1)), (1, .int (v4_1 + 1)), (0, .ref (b 0))]) hx hb dX5_free_57 hl (k := 2) rfl rfl (by decide) rfl (fun ls hl => ?_)
            refine lv_goto (tgt := 4) hx hb dX5_free_60 (by decide) ?_
            exact ih4 (v4_1 + 1) (v4_2 + 1) (upd (upd w4_ ((15 * v4_2) + 0).toNatClampNeg (-9)) ((15 * v4_2) + 1).toNatClampNeg 0) hm _ _ _ hP hD hS (lv_sub hl [2, 1, 0] rfl)
  exact L4 N 0 0 w hm _ _ _ hP hD hS (lv_sub hl [2, 1, 0] rfl)
def M_X5_collectNow (N : Nat) (w : Nat → Int32) (mark : Nat → Int32) (start : Nat → Int32) : Option (Int32 × (Nat → Int32) × (Nat → Int32) × (Nat → Int32)) :=
  (M_X5_markAll N w mark start (-9)).bind fun q1 => gd 387 3880 ((M_X5_emptyWeak N (upd w (387 : Int32).toNatClampNeg q1.1) q1.2.1 1).bind fun q4 => (M_X5_finalizeAll N q4 q1.2.1 q1.2.2).bind fun q6 => (M_X5_marks N q6.1 q1.2.1 q6.2 (-9)).bind fun q8 => (M_X5_dropEntries N q6.1 q8.2).bind fun q10 => (M_X5_emptyWeak N q10 q8.2 0).bind fun q12 => (M_X5_free N q12 q8.2).bind fun q14 => some (q14.1, q14.2, q8.2, q6.2))
theorem w0_X5_collectNow : Cond.fieldLink RX5 7 "WeakTableHeapModel" "w" "[I" ∈ wsX5_collectNow := by decide +kernel
theorem w1_X5_collectNow : ∀ w ∈ u_ws RX5 TX5 5, w ∈ wsX5_collectNow := by decide +kernel
abbrev rm_X5_collectNow : Room := { frames := 4, cells := 0, slots := 0, locals := 93 }
set_option maxHeartbeats 4000000 in
set_option maxRecDepth 100000 in
theorem c_X5_collectNow (l : Launch) (G : GG) (N : Nat) (b : Nat → Nat) (w : Nat → Int32) (dep : Int32) (kept : Nat → Int32) (mark : Nat → Int32) (start : Nat → Int32) (q : Int32 × (Nat → Int32) × (Nat → Int32) × (Nat → Int32)) (hm : M_X5_collectNow N w mark start = some q) : CTi l yX5_collectNow wsX5_collectNow rm_X5_collectNow G [.ref (b 0)] (wMD G b w dep kept mark start) q.1 (wMD G b q.2.1 dep kept q.2.2.1 q.2.2.2) := by
  intro sz
  refine mk_body (Qc := fun A => (QI G A q.1 (wMD G b q.2.1 dep kept q.2.2.1 q.2.2.2))) (cc := cX5_collectNow) (maxL := 1) (ret := (some .int)) (lv := [(0, .ref (b 0))]) (by decide) rfl rfl (Nat.le_of_ble_eq_true rfl) ?_
  intro p e s m args below meth c A H locs ls hF hr hlocks hname hK hA hP hD hS hl
  obtain ⟨hx, hb, hml, hown, hts⟩ := id hF
  unfold M_X5_collectNow at hm
  refine lv_aload_n hx hb dX5_collectNow_0 rfl (lv_at hl 0 rfl) ?_
  refine va_get (D := G.1) (ci := 5) (v := .ref (b 1)) (C := RX5) (T := TX5) (N := 5) hx hb hts w1_X5_collectNow hown hK.1 hP 0 rfl rfl 0 (by decide) (hts _ w0_X5_collectNow) (fun _ h9 => h9) rfl dX5_collectNow_1 ?_
  refine lv_sipush (v := 387) hx hb dX5_collectNow_4 (by decide) ?_
  refine lv_aload_n hx hb dX5_collectNow_7 rfl (lv_at hl 0 rfl) ?_
  refine lv_bipush (v := (-9)) hx hb dX5_collectNow_8 (by decide) ?_
  obtain ⟨q1, hc2, hm⟩ := bd_s hm
  refine ks_i (wo := (wMD G b w dep kept q1.2.1 q1.2.2)) (rV (As := [.int (-9)]) (rest := [.int 387, .ref (b 1)]) (b := (b 0)) (wi := (wMD G b w dep kept mark start)) hF hK hP hD (c_X5_markAll l G N b w dep kept mark start (-9) q1 hc2 H.size) (cwV 1 hts gX5_collectNow_X5_markAll rfl rfl rfl (by decide +kernel) ⟨Nat.le_of_ble_eq_true rfl, Nat.le_of_ble_eq_true rfl⟩) (va_recv hK.1 hP (ci := 5) (q0 := 0) rfl rfl) rfl hl.1 rfl (Nat.le_of_ble_eq_true rfl) dX5_collectNow_10 ⟨Nat.le_of_ble_eq_true rfl, Nat.le_of_ble_eq_true rfl⟩) hD hS hA (fun H locs hP hD hS => ?_)
  have hP : va_P G.1 vwCl (wMD G b w dep kept q1.2.1 q1.2.2) H := hP
  have hD : va_D A (wMD G b w dep kept q1.2.1 q1.2.2) := hD
  obtain ⟨hi3, hm⟩ := gd_s hm
  refine va_iast hx hb hK.1 hP hD hS 1 0 rfl rfl hi3 dX5_collectNow_13 (fun H locs hP hD hS => ?_)
  have hP : va_P G.1 vwCl (wMD G b (upd w (387 : Int32).toNatClampNeg q1.1) dep kept q1.2.1 q1.2.2) H := hP
  have hD : va_D A (wMD G b (upd w (387 : Int32).toNatClampNeg q1.1) dep kept q1.2.1 q1.2.2) := hD
  refine lv_aload_n hx hb dX5_collectNow_14 rfl (lv_at hl 0 rfl) ?_
  refine lv_iconst (v := 1) hx hb dX5_collectNow_15 (by decide) ?_
  obtain ⟨q4, hc5, hm⟩ := bd_s hm
  refine ks_v (wo := (wMD G b q4 dep kept q1.2.1 q1.2.2)) (rV (As := [.int 1]) (rest := []) (b := (b 0)) (wi := (wMD G b (upd w (387 : Int32).toNatClampNeg q1.1) dep kept q1.2.1 q1.2.2)) hF hK hP hD (c_X5_emptyWeak l G N b (upd w (387 : Int32).toNatClampNeg q1.1) dep kept q1.2.1 q1.2.2 1 q4 hc5 H.size) (cwV 1 hts gX5_collectNow_X5_emptyWeak rfl rfl rfl (by decide +kernel) ⟨Nat.le_of_ble_eq_true rfl, Nat.le_of_ble_eq_true rfl⟩) (va_recv hK.1 hP (ci := 5) (q0 := 0) rfl rfl) rfl hl.1 rfl (Nat.le_of_ble_eq_true rfl) dX5_collectNow_16 ⟨Nat.le_of_ble_eq_true rfl, Nat.le_of_ble_eq_true rfl⟩) hD hS hA (fun H locs hP hD hS => ?_)
  have hP : va_P G.1 vwCl (wMD G b q4 dep kept q1.2.1 q1.2.2) H := hP
  have hD : va_D A (wMD G b q4 dep kept q1.2.1 q1.2.2) := hD
  refine lv_aload_n hx hb dX5_collectNow_19 rfl (lv_at hl 0 rfl) ?_
  obtain ⟨q6, hc7, hm⟩ := bd_s hm
  refine ks_v (wo := (wMD G b q6.1 dep kept q1.2.1 q6.2)) (rV (As := []) (rest := []) (b := (b 0)) (wi := (wMD G b q4 dep kept q1.2.1 q1.2.2)) hF hK hP hD (c_X5_finalizeAll l G N b q4 dep kept q1.2.1 q1.2.2 q6 hc7 H.size) (cwV 0 hts gX5_collectNow_X5_finalizeAll rfl rfl rfl (by decide +kernel) ⟨Nat.le_of_ble_eq_true rfl, Nat.le_of_ble_eq_true rfl⟩) (va_recv hK.1 hP (ci := 5) (q0 := 0) rfl rfl) rfl hl.1 rfl (Nat.le_of_ble_eq_true rfl) dX5_collectNow_20 ⟨Nat.le_of_ble_eq_true rfl, Nat.le_of_ble_eq_true rfl⟩) hD hS hA (fun H locs hP hD hS => ?_)
  have hP : va_P G.1 vwCl (wMD G b q6.1 dep kept q1.2.1 q6.2) H := hP
  have hD : va_D A (wMD G b q6.1 dep kept q1.2.1 q6.2) := hD
  refine lv_aload_n hx hb dX5_collectNow_23 rfl (lv_at hl 0 rfl) ?_
  refine lv_bipush (v := (-9)) hx hb dX5_collectNow_24 (by decide) ?_
  obtain ⟨q8, hc9, hm⟩ := bd_s hm
  refine ks_i (wo := (wMD G b q6.1 dep kept q8.2 q6.2)) (rV (As := [.int (-9)]) (rest := []) (b := (b 0)) (wi := (wMD G b q6.1 dep kept q1.2.1 q6.2)) hF hK hP hD (c_X5_marks l G N b q6.1 dep kept q1.2.1 q6.2 (-9) q8 hc9 H.size) (cwV 1 hts gX5_collectNow_X5_marks rfl rfl rfl (by decide +kernel) ⟨Nat.le_of_ble_eq_true rfl, Nat.le_of_ble_eq_true rfl⟩) (va_recv hK.1 hP (ci := 5) (q0 := 0) rfl rfl) rfl hl.1 rfl (Nat.le_of_ble_eq_true rfl) dX5_collectNow_26 ⟨Nat.le_of_ble_eq_true rfl, Nat.le_of_ble_eq_true rfl⟩) hD hS hA (fun H locs hP hD hS => ?_)
  have hP : va_P G.1 vwCl (wMD G b q6.1 dep kept q8.2 q6.2) H := hP
  have hD : va_D A (wMD G b q6.1 dep kept q8.2 q6.2) := hD
  refine lv_pop hx hb dX5_collectNow_29 rfl ?_
  refine lv_aload_n hx hb dX5_collectNow_30 rfl (lv_at hl 0 rfl) ?_
  obtain ⟨q10, hc11, hm⟩ := bd_s hm
  refine ks_v (wo := (wMD G b q10 dep kept q8.2 q6.2)) (rV (As := []) (rest := []) (b := (b 0)) (wi := (wMD G b q6.1 dep kept q8.2 q6.2)) hF hK hP hD (c_X5_dropEntries l G N b q6.1 dep kept q8.2 q6.2 q10 hc11 H.size) (cwV 0 hts gX5_collectNow_X5_dropEntries rfl rfl rfl (by decide +kernel) ⟨Nat.le_of_ble_eq_true rfl, Nat.le_of_ble_eq_true rfl⟩) (va_recv hK.1 hP (ci := 5) (q0 := 0) rfl rfl) rfl hl.1 rfl (Nat.le_of_ble_eq_true rfl) dX5_collectNow_31 ⟨Nat.le_of_ble_eq_true rfl, Nat.le_of_ble_eq_true rfl⟩) hD hS hA (fun H locs hP hD hS => ?_)
  have hP : va_P G.1 vwCl (wMD G b q10 dep kept q8.2 q6.2) H := hP
  have hD : va_D A (wMD G b q10 dep kept q8.2 q6.2) := hD
  refine lv_aload_n hx hb dX5_collectNow_34 rfl (lv_at hl 0 rfl) ?_
  refine lv_iconst (v := 0) hx hb dX5_collectNow_35 (by decide) ?_
  obtain ⟨q12, hc13, hm⟩ := bd_s hm
  refine ks_v (wo := (wMD G b q12 dep kept q8.2 q6.2)) (rV (As := [.int 0]) (rest := []) (b := (b 0)) (wi := (wMD G b q10 dep kept q8.2 q6.2)) hF hK hP hD (c_X5_emptyWeak l G N b q10 dep kept q8.2 q6.2 0 q12 hc13 H.size) (cwV 1 hts gX5_collectNow_X5_emptyWeak rfl rfl rfl (by decide +kernel) ⟨Nat.le_of_ble_eq_true rfl, Nat.le_of_ble_eq_true rfl⟩) (va_recv hK.1 hP (ci := 5) (q0 := 0) rfl rfl) rfl hl.1 rfl (Nat.le_of_ble_eq_true rfl) dX5_collectNow_36 ⟨Nat.le_of_ble_eq_true rfl, Nat.le_of_ble_eq_true rfl⟩) hD hS hA (fun H locs hP hD hS => ?_)
  have hP : va_P G.1 vwCl (wMD G b q12 dep kept q8.2 q6.2) H := hP
  have hD : va_D A (wMD G b q12 dep kept q8.2 q6.2) := hD
  refine lv_aload_n hx hb dX5_collectNow_39 rfl (lv_at hl 0 rfl) ?_
  obtain ⟨q14, hc15, hm⟩ := bd_s hm
  refine ks_i (wo := (wMD G b q14.2 dep kept q8.2 q6.2)) (rV (As := []) (rest := []) (b := (b 0)) (wi := (wMD G b q12 dep kept q8.2 q6.2)) hF hK hP hD (c_X5_free l G N b q12 dep kept q8.2 q6.2 q14 hc15 H.size) (cwV 0 hts gX5_collectNow_X5_free rfl rfl rfl (by decide +kernel) ⟨Nat.le_of_ble_eq_true rfl, Nat.le_of_ble_eq_true rfl⟩) (va_recv hK.1 hP (ci := 5) (q0 := 0) rfl rfl) rfl hl.1 rfl (Nat.le_of_ble_eq_true rfl) dX5_collectNow_40 ⟨Nat.le_of_ble_eq_true rfl, Nat.le_of_ble_eq_true rfl⟩) hD hS hA (fun H locs hP hD hS => ?_)
  have hP : va_P G.1 vwCl (wMD G b q14.2 dep kept q8.2 q6.2) H := hP
  have hD : va_D A (wMD G b q14.2 dep kept q8.2 q6.2) := hD
  cases hm
  exact rt_i hx hb hr hlocks hP hD hS dX5_collectNow_43
def M_X5_collect (N : Nat) (w : Nat → Int32) (dep : Int32) (mark : Nat → Int32) (start : Nat → Int32) : Option (Int32 × (Nat → Int32) × Int32 × (Nat → Int32) × (Nat → Int32)) :=
  (M_X5_saveState N w dep).bind fun q1 => (M_X5_collectNow N q1.1 mark start).bind fun q3 => some (q3.1, q3.2.1, q1.2, q3.2.2.1, q3.2.2.2)
abbrev rm_X5_collect : Room := { frames := 5, cells := 0, slots := 0, locals := 113 }
set_option maxHeartbeats 4000000 in
set_option maxRecDepth 100000 in
theorem c_X5_collect (l : Launch) (G : GG) (N : Nat) (b : Nat → Nat) (w : Nat → Int32) (dep : Int32) (kept : Nat → Int32) (mark : Nat → Int32) (start : Nat → Int32) (q : Int32 × (Nat → Int32) × Int32 × (Nat → Int32) × (Nat → Int32)) (hm : M_X5_collect N w dep mark start = some q) : CTi l yX5_collect wsX5_collect rm_X5_collect G [.ref (b 0)] (wMD G b w dep kept mark start) q.1 (wMD G b q.2.1 q.2.2.1 kept q.2.2.2.1 q.2.2.2.2) := by
  intro sz
  refine mk_body (Qc := fun A => (QI G A q.1 (wMD G b q.2.1 q.2.2.1 kept q.2.2.2.1 q.2.2.2.2))) (cc := cX5_collect) (maxL := 1) (ret := (some .int)) (lv := [(0, .ref (b 0))]) (by decide) rfl rfl (Nat.le_of_ble_eq_true rfl) ?_
  intro p e s m args below meth c A H locs ls hF hr hlocks hname hK hA hP hD hS hl
  obtain ⟨hx, hb, hml, hown, hts⟩ := id hF
  unfold M_X5_collect at hm
  refine lv_aload_n hx hb dX5_collect_0 rfl (lv_at hl 0 rfl) ?_
  obtain ⟨q1, hc2, hm⟩ := bd_s hm
  refine ks_v (wo := (wMD G b q1.1 q1.2 kept mark start)) (rV (As := []) (rest := []) (b := (b 0)) (wi := (wMD G b w dep kept mark start)) hF hK hP hD (c_X5_saveState l G N b w dep kept mark start q1 hc2 H.size) (cwV 0 hts gX5_collect_X5_saveState rfl rfl rfl (by decide +kernel) ⟨Nat.le_of_ble_eq_true rfl, Nat.le_of_ble_eq_true rfl⟩) (va_recv hK.1 hP (ci := 5) (q0 := 0) rfl rfl) rfl hl.1 rfl (Nat.le_of_ble_eq_true rfl) dX5_collect_1 ⟨Nat.le_of_ble_eq_true rfl, Nat.le_of_ble_eq_true rfl⟩) hD hS hA (fun H locs hP hD hS => ?_)
  have hP : va_P G.1 vwCl (wMD G b q1.1 q1.2 kept mark start) H := hP
  have hD : va_D A (wMD G b q1.1 q1.2 kept mark start) := hD
  refine lv_aload_n hx hb dX5_collect_4 rfl (lv_at hl 0 rfl) ?_
  obtain ⟨q3, hc4, hm⟩ := bd_s hm
  refine ks_i (wo := (wMD G b q3.2.1 q1.2 kept q3.2.2.1 q3.2.2.2)) (rV (As := []) (rest := []) (b := (b 0)) (wi := (wMD G b q1.1 q1.2 kept mark start)) hF hK hP hD (c_X5_collectNow l G N b q1.1 q1.2 kept mark start q3 hc4 H.size) (cwV 0 hts gX5_collect_X5_collectNow rfl rfl rfl (by decide +kernel) ⟨Nat.le_of_ble_eq_true rfl, Nat.le_of_ble_eq_true rfl⟩) (va_recv hK.1 hP (ci := 5) (q0 := 0) rfl rfl) rfl hl.1 rfl (Nat.le_of_ble_eq_true rfl) dX5_collect_5 ⟨Nat.le_of_ble_eq_true rfl, Nat.le_of_ble_eq_true rfl⟩) hD hS hA (fun H locs hP hD hS => ?_)
  have hP : va_P G.1 vwCl (wMD G b q3.2.1 q1.2 kept q3.2.2.1 q3.2.2.2) H := hP
  have hD : va_D A (wMD G b q3.2.1 q1.2 kept q3.2.2.1 q3.2.2.2) := hD
  cases hm
  exact rt_i hx hb hr hlocks hP hD hS dX5_collect_8
def M_X5_wouldFree (N : Nat) (w : Nat → Int32) (mark : Nat → Int32) (start : Nat → Int32) : Option (Int32 × (Nat → Int32) × (Nat → Int32) × (Nat → Int32)) :=
  (M_X5_copyState N w 0 1).bind fun q1 => (M_X5_collectNow N q1 mark start).bind fun q3 => (M_X5_copyState N q3.2.1 1 0).bind fun q5 => some (q3.1, q5, q3.2.2.1, q3.2.2.2)
abbrev rm_X5_wouldFree : Room := { frames := 5, cells := 0, slots := 0, locals := 113 }
set_option maxHeartbeats 4000000 in
set_option maxRecDepth 100000 in
theorem c_X5_wouldFree (l : Launch) (G : GG) (N : Nat) (b : Nat → Nat) (w : Nat → Int32) (dep : Int32) (kept : Nat → Int32) (mark : Nat → Int32) (start : Nat → Int32) (q : Int32 × (Nat → Int32) × (Nat → Int32) × (Nat → Int32)) (hm : M_X5_wouldFree N w mark start = some q) : CTi l yX5_wouldFree wsX5_wouldFree rm_X5_wouldFree G [.ref (b 0)] (wMD G b w dep kept mark start) q.1 (wMD G b q.2.1 dep kept q.2.2.1 q.2.2.2) := by
  intro sz
  refine mk_body (Qc := fun A => (QI G A q.1 (wMD G b q.2.1 dep kept q.2.2.1 q.2.2.2))) (cc := cX5_wouldFree) (maxL := 2) (ret := (some .int)) (lv := [(0, .ref (b 0))]) (by decide) rfl rfl (Nat.le_of_ble_eq_true rfl) ?_
  intro p e s m args below meth c A H locs ls hF hr hlocks hname hK hA hP hD hS hl
  obtain ⟨hx, hb, hml, hown, hts⟩ := id hF
  unfold M_X5_wouldFree at hm
  refine lv_aload_n hx hb dX5_wouldFree_0 rfl (lv_at hl 0 rfl) ?_
  refine lv_iconst (v := 0) hx hb dX5_wouldFree_1 (by decide) ?_
  refine lv_iconst (v := 1) hx hb dX5_wouldFree_2 (by decide) ?_
  obtain ⟨q1, hc2, hm⟩ := bd_s hm
  refine ks_v (wo := (wMD G b q1 dep kept mark start)) (rV (As := [.int 0, .int 1]) (rest := []) (b := (b 0)) (wi := (wMD G b w dep kept mark start)) hF hK hP hD (c_X5_copyState l G N b w dep kept mark start 0 1 q1 hc2 H.size) (cwV 2 hts gX5_wouldFree_X5_copyState rfl rfl rfl (by decide +kernel) ⟨Nat.le_of_ble_eq_true rfl, Nat.le_of_ble_eq_true rfl⟩) (va_recv hK.1 hP (ci := 5) (q0 := 0) rfl rfl) rfl hl.1 rfl (Nat.le_of_ble_eq_true rfl) dX5_wouldFree_3 ⟨Nat.le_of_ble_eq_true rfl, Nat.le_of_ble_eq_true rfl⟩) hD hS hA (fun H locs hP hD hS => ?_)
  have hP : va_P G.1 vwCl (wMD G b q1 dep kept mark start) H := hP
  have hD : va_D A (wMD G b q1 dep kept mark start) := hD
  refine lv_aload_n hx hb dX5_wouldFree_6 rfl (lv_at hl 0 rfl) ?_
  obtain ⟨q3, hc4, hm⟩ := bd_s hm
  refine ks_i (wo := (wMD G b q3.2.1 dep kept q3.2.2.1 q3.2.2.2)) (rV (As := []) (rest := []) (b := (b 0)) (wi := (wMD G b q1 dep kept mark start)) hF hK hP hD (c_X5_collectNow l G N b q1 dep kept mark start q3 hc4 H.size) (cwV 0 hts gX5_wouldFree_X5_collectNow rfl rfl rfl (by decide +kernel) ⟨Nat.le_of_ble_eq_true rfl, Nat.le_of_ble_eq_true rfl⟩) (va_recv hK.1 hP (ci := 5) (q0 := 0) rfl rfl) rfl hl.1 rfl (Nat.le_of_ble_eq_true rfl) dX5_wouldFree_7 ⟨Nat.le_of_ble_eq_true rfl, Nat.le_of_ble_eq_true rfl⟩) hD hS hA (fun H locs hP hD hS => ?_)
  have hP : va_P G.1 vwCl (wMD G b q3.2.1 dep kept q3.2.2.1 q3.2.2.2) H := hP
  have hD : va_D A (wMD G b q3.2.1 dep kept q3.2.2.1 q3.2.2.2) := hD
  refine lv_istore_n (lv' := [(1, .int q3.1), (0, .ref (b 0))]) hx hb dX5_wouldFree_10 rfl hl (by decide) rfl (fun ls hl => ?_)
  refine lv_aload_n hx hb dX5_wouldFree_11 rfl (lv_at hl 1 rfl) ?_
  refine lv_iconst (v := 1) hx hb dX5_wouldFree_12 (by decide) ?_
  refine lv_iconst (v := 0) hx hb dX5_wouldFree_13 (by decide) ?_
  obtain ⟨q5, hc6, hm⟩ := bd_s hm
  refine ks_v (wo := (wMD G b q5 dep kept q3.2.2.1 q3.2.2.2)) (rV (As := [.int 1, .int 0]) (rest := []) (b := (b 0)) (wi := (wMD G b q3.2.1 dep kept q3.2.2.1 q3.2.2.2)) hF hK hP hD (c_X5_copyState l G N b q3.2.1 dep kept q3.2.2.1 q3.2.2.2 1 0 q5 hc6 H.size) (cwV 2 hts gX5_wouldFree_X5_copyState rfl rfl rfl (by decide +kernel) ⟨Nat.le_of_ble_eq_true rfl, Nat.le_of_ble_eq_true rfl⟩) (va_recv hK.1 hP (ci := 5) (q0 := 0) rfl rfl) rfl hl.1 rfl (Nat.le_of_ble_eq_true rfl) dX5_wouldFree_14 ⟨Nat.le_of_ble_eq_true rfl, Nat.le_of_ble_eq_true rfl⟩) hD hS hA (fun H locs hP hD hS => ?_)
  have hP : va_P G.1 vwCl (wMD G b q5 dep kept q3.2.2.1 q3.2.2.2) H := hP
  have hD : va_D A (wMD G b q5 dep kept q3.2.2.1 q3.2.2.2) := hD
  refine lv_iload_n hx hb dX5_wouldFree_17 rfl (lv_at hl 0 rfl) ?_
  cases hm
  exact rt_i hx hb hr hlocks hP hD hS dX5_wouldFree_18
def M_X5_lastRounds (w : Nat → Int32) : Option (Int32) :=
  gd 387 3880 (some (w (387 : Int32).toNatClampNeg))
theorem w0_X5_lastRounds : Cond.fieldLink RX5 7 "WeakTableHeapModel" "w" "[I" ∈ wsX5_lastRounds := by decide +kernel
theorem w1_X5_lastRounds : ∀ w ∈ u_ws RX5 TX5 5, w ∈ wsX5_lastRounds := by decide +kernel
abbrev rm_X5_lastRounds : Room := { frames := 0, cells := 0, slots := 0, locals := 0 }
set_option maxHeartbeats 4000000 in
set_option maxRecDepth 100000 in
theorem c_X5_lastRounds (l : Launch) (G : GG) (b : Nat → Nat) (w : Nat → Int32) (dep : Int32) (kept : Nat → Int32) (mark : Nat → Int32) (start : Nat → Int32) (q : Int32) (hm : M_X5_lastRounds w = some q) : CTi l yX5_lastRounds wsX5_lastRounds rm_X5_lastRounds G [.ref (b 0)] (wMD G b w dep kept mark start) q (wMD G b w dep kept mark start) := by
  intro sz
  refine mk_body (Qc := fun A => (QI G A q (wMD G b w dep kept mark start))) (cc := cX5_lastRounds) (maxL := 1) (ret := (some .int)) (lv := [(0, .ref (b 0))]) (by decide) rfl rfl (Nat.le_of_ble_eq_true rfl) ?_
  intro p e s m args below meth c A H locs ls hF hr hlocks hname hK hA hP hD hS hl
  obtain ⟨hx, hb, hml, hown, hts⟩ := id hF
  unfold M_X5_lastRounds at hm
  refine lv_aload_n hx hb dX5_lastRounds_0 rfl (lv_at hl 0 rfl) ?_
  refine va_get (D := G.1) (ci := 5) (v := .ref (b 1)) (C := RX5) (T := TX5) (N := 5) hx hb hts w1_X5_lastRounds hown hK.1 hP 0 rfl rfl 0 (by decide) (hts _ w0_X5_lastRounds) (fun _ h9 => h9) rfl dX5_lastRounds_1 ?_
  refine lv_sipush (v := 387) hx hb dX5_lastRounds_4 (by decide) ?_
  obtain ⟨hi1, hm⟩ := gd_s hm
  refine va_iald hx hb hK.1 hP 1 0 rfl rfl hi1 dX5_lastRounds_7 ?_
  cases hm
  exact rt_i hx hb hr hlocks hP hD hS dX5_lastRounds_8
def M_X5_pollNotice (N : Nat) (w : Nat → Int32) (dep : Int32) : Option (Int32 × (Nat → Int32) × Int32) :=
  gd 366 3880 (if (w (366 : Int32).toNatClampNeg) = 0 then (some ((-2), w, dep)) else ((M_X5_saveState N w dep).bind fun q3 => (M_X5_takeNotice N q3.1).bind fun q5 => some (q5.1, q5.2, q3.2)))
theorem w0_X5_pollNotice : Cond.fieldLink RX5 7 "WeakTableHeapModel" "w" "[I" ∈ wsX5_pollNotice := by decide +kernel
theorem w1_X5_pollNotice : ∀ w ∈ u_ws RX5 TX5 5, w ∈ wsX5_pollNotice := by decide +kernel
abbrev rm_X5_pollNotice : Room := { frames := 2, cells := 0, slots := 0, locals := 44 }
set_option maxHeartbeats 4000000 in
set_option maxRecDepth 100000 in
theorem c_X5_pollNotice (l : Launch) (G : GG) (N : Nat) (b : Nat → Nat) (w : Nat → Int32) (dep : Int32) (kept : Nat → Int32) (mark : Nat → Int32) (start : Nat → Int32) (q : Int32 × (Nat → Int32) × Int32) (hm : M_X5_pollNotice N w dep = some q) : CTi l yX5_pollNotice wsX5_pollNotice rm_X5_pollNotice G [.ref (b 0)] (wMD G b w dep kept mark start) q.1 (wMD G b q.2.1 q.2.2 kept mark start) := by
  intro sz
  refine mk_body (Qc := fun A => (QI G A q.1 (wMD G b q.2.1 q.2.2 kept mark start))) (cc := cX5_pollNotice) (maxL := 1) (ret := (some .int)) (lv := [(0, .ref (b 0))]) (by decide) rfl rfl (Nat.le_of_ble_eq_true rfl) ?_
  intro p e s m args below meth c A H locs ls hF hr hlocks hname hK hA hP hD hS hl
  obtain ⟨hx, hb, hml, hown, hts⟩ := id hF
  unfold M_X5_pollNotice at hm
  refine lv_aload_n hx hb dX5_pollNotice_0 rfl (lv_at hl 0 rfl) ?_
  refine va_get (D := G.1) (ci := 5) (v := .ref (b 1)) (C := RX5) (T := TX5) (N := 5) hx hb hts w1_X5_pollNotice hown hK.1 hP 0 rfl rfl 0 (by decide) (hts _ w0_X5_pollNotice) (fun _ h9 => h9) rfl dX5_pollNotice_1 ?_
  refine lv_sipush (v := 366) hx hb dX5_pollNotice_4 (by decide) ?_
  obtain ⟨hi1, hm⟩ := gd_s hm
  refine va_iald hx hb hK.1 hP 1 0 rfl rfl hi1 dX5_pollNotice_7 ?_
  refine lv_if_ne (tgt := 14) hx hb dX5_pollNotice_8 (by decide) (fun c2 => ?_) (fun c2 => ?_)
  · replace hm := it_f c2 hm
    refine lv_aload_n hx hb dX5_pollNotice_14 rfl (lv_at hl 0 rfl) ?_
    obtain ⟨q3, hc4, hm⟩ := bd_s hm
    refine ks_v (wo := (wMD G b q3.1 q3.2 kept mark start)) (rV (As := []) (rest := []) (b := (b 0)) (wi := (wMD G b w dep kept mark start)) hF hK hP hD (c_X5_saveState l G N b w dep kept mark start q3 hc4 H.size) (cwV 0 hts gX5_pollNotice_X5_saveState rfl rfl rfl (by decide +kernel) ⟨Nat.le_of_ble_eq_true rfl, Nat.le_of_ble_eq_true rfl⟩) (va_recv hK.1 hP (ci := 5) (q0 := 0) rfl rfl) rfl hl.1 rfl (Nat.le_of_ble_eq_true rfl) dX5_pollNotice_15 ⟨Nat.le_of_ble_eq_true rfl, Nat.le_of_ble_eq_true rfl⟩) hD hS hA (fun H locs hP hD hS => ?_)
    have hP : va_P G.1 vwCl (wMD G b q3.1 q3.2 kept mark start) H := hP
    have hD : va_D A (wMD G b q3.1 q3.2 kept mark start) := hD
    refine lv_aload_n hx hb dX5_pollNotice_18 rfl (lv_at hl 0 rfl) ?_
    obtain ⟨q5, hc6, hm⟩ := bd_s hm
    refine ks_i (wo := (wMD G b q5.2 q3.2 kept mark start)) (rV (As := []) (rest := []) (b := (b 0)) (wi := (wMD G b q3.1 q3.2 kept mark start)) hF hK hP hD (c_X5_takeNotice l G N b q3.1 q3.2 kept mark start q5 hc6 H.size) (cwV 0 hts gX5_pollNotice_X5_takeNotice rfl rfl rfl (by decide +kernel) ⟨Nat.le_of_ble_eq_true rfl, Nat.le_of_ble_eq_true rfl⟩) (va_recv hK.1 hP (ci := 5) (q0 := 0) rfl rfl) rfl hl.1 rfl (Nat.le_of_ble_eq_true rfl) dX5_pollNotice_19 ⟨Nat.le_of_ble_eq_true rfl, Nat.le_of_ble_eq_true rfl⟩) hD hS hA (fun H locs hP hD hS => ?_)
    have hP : va_P G.1 vwCl (wMD G b q5.2 q3.2 kept mark start) H := hP
    have hD : va_D A (wMD G b q5.2 q3.2 kept mark start) := hD
    cases hm
    exact rt_i hx hb hr hlocks hP hD hS dX5_pollNotice_22
  · replace hm := it_t c2 hm
    refine lv_bipush (v := (-2)) hx hb dX5_pollNotice_11 (by decide) ?_
    cases hm
    exact rt_i hx hb hr hlocks hP hD hS dX5_pollNotice_13
def M_X5_noticeCount (w : Nat → Int32) : Option (Int32) :=
  gd 366 3880 (some (w (366 : Int32).toNatClampNeg))
theorem w0_X5_noticeCount : Cond.fieldLink RX5 7 "WeakTableHeapModel" "w" "[I" ∈ wsX5_noticeCount := by decide +kernel
theorem w1_X5_noticeCount : ∀ w ∈ u_ws RX5 TX5 5, w ∈ wsX5_noticeCount := by decide +kernel
abbrev rm_X5_noticeCount : Room := { frames := 0, cells := 0, slots := 0, locals := 0 }
set_option maxHeartbeats 4000000 in
set_option maxRecDepth 100000 in
theorem c_X5_noticeCount (l : Launch) (G : GG) (b : Nat → Nat) (w : Nat → Int32) (dep : Int32) (kept : Nat → Int32) (mark : Nat → Int32) (start : Nat → Int32) (q : Int32) (hm : M_X5_noticeCount w = some q) : CTi l yX5_noticeCount wsX5_noticeCount rm_X5_noticeCount G [.ref (b 0)] (wMD G b w dep kept mark start) q (wMD G b w dep kept mark start) := by
  intro sz
  refine mk_body (Qc := fun A => (QI G A q (wMD G b w dep kept mark start))) (cc := cX5_noticeCount) (maxL := 1) (ret := (some .int)) (lv := [(0, .ref (b 0))]) (by decide) rfl rfl (Nat.le_of_ble_eq_true rfl) ?_
  intro p e s m args below meth c A H locs ls hF hr hlocks hname hK hA hP hD hS hl
  obtain ⟨hx, hb, hml, hown, hts⟩ := id hF
  unfold M_X5_noticeCount at hm
  refine lv_aload_n hx hb dX5_noticeCount_0 rfl (lv_at hl 0 rfl) ?_
  refine va_get (D := G.1) (ci := 5) (v := .ref (b 1)) (C := RX5) (T := TX5) (N := 5) hx hb hts w1_X5_noticeCount hown hK.1 hP 0 rfl rfl 0 (by decide) (hts _ w0_X5_noticeCount) (fun _ h9 => h9) rfl dX5_noticeCount_1 ?_
  refine lv_sipush (v := 366) hx hb dX5_noticeCount_4 (by decide) ?_
  obtain ⟨hi1, hm⟩ := gd_s hm
  refine va_iald hx hb hK.1 hP 1 0 rfl rfl hi1 dX5_noticeCount_7 ?_
  cases hm
  exact rt_i hx hb hr hlocks hP hD hS dX5_noticeCount_8
def M_X5_reachableCount (N : Nat) (w : Nat → Int32) (mark : Nat → Int32) (start : Nat → Int32) : Option (Int32 × (Nat → Int32) × (Nat → Int32)) :=
  (M_X5_markAll N w mark start (-9)).bind fun q1 => (M_X5_marked N q1.2.1).bind fun q3 => some (q3, q1.2.1, q1.2.2)
abbrev rm_X5_reachableCount : Room := { frames := 4, cells := 0, slots := 0, locals := 93 }
set_option maxHeartbeats 4000000 in
set_option maxRecDepth 100000 in
theorem c_X5_reachableCount (l : Launch) (G : GG) (N : Nat) (b : Nat → Nat) (w : Nat → Int32) (dep : Int32) (kept : Nat → Int32) (mark : Nat → Int32) (start : Nat → Int32) (q : Int32 × (Nat → Int32) × (Nat → Int32)) (hm : M_X5_reachableCount N w mark start = some q) : CTi l yX5_reachableCount wsX5_reachableCount rm_X5_reachableCount G [.ref (b 0)] (wMD G b w dep kept mark start) q.1 (wMD G b w dep kept q.2.1 q.2.2) := by
  intro sz
  refine mk_body (Qc := fun A => (QI G A q.1 (wMD G b w dep kept q.2.1 q.2.2))) (cc := cX5_reachableCount) (maxL := 1) (ret := (some .int)) (lv := [(0, .ref (b 0))]) (by decide) rfl rfl (Nat.le_of_ble_eq_true rfl) ?_
  intro p e s m args below meth c A H locs ls hF hr hlocks hname hK hA hP hD hS hl
  obtain ⟨hx, hb, hml, hown, hts⟩ := id hF
  unfold M_X5_reachableCount at hm
  refine lv_aload_n hx hb dX5_reachableCount_0 rfl (lv_at hl 0 rfl) ?_
  refine lv_bipush (v := (-9)) hx hb dX5_reachableCount_1 (by decide) ?_
  obtain ⟨q1, hc2, hm⟩ := bd_s hm
  refine ks_i (wo := (wMD G b w dep kept q1.2.1 q1.2.2)) (rV (As := [.int (-9)]) (rest := []) (b := (b 0)) (wi := (wMD G b w dep kept mark start)) hF hK hP hD (c_X5_markAll l G N b w dep kept mark start (-9) q1 hc2 H.size) (cwV 1 hts gX5_reachableCount_X5_markAll rfl rfl rfl (by decide +kernel) ⟨Nat.le_of_ble_eq_true rfl, Nat.le_of_ble_eq_true rfl⟩) (va_recv hK.1 hP (ci := 5) (q0 := 0) rfl rfl) rfl hl.1 rfl (Nat.le_of_ble_eq_true rfl) dX5_reachableCount_3 ⟨Nat.le_of_ble_eq_true rfl, Nat.le_of_ble_eq_true rfl⟩) hD hS hA (fun H locs hP hD hS => ?_)
  have hP : va_P G.1 vwCl (wMD G b w dep kept q1.2.1 q1.2.2) H := hP
  have hD : va_D A (wMD G b w dep kept q1.2.1 q1.2.2) := hD
  refine lv_pop hx hb dX5_reachableCount_6 rfl ?_
  refine lv_aload_n hx hb dX5_reachableCount_7 rfl (lv_at hl 0 rfl) ?_
  obtain ⟨q3, hc4, hm⟩ := bd_s hm
  refine ks_i (wo := (wMD G b w dep kept q1.2.1 q1.2.2)) (rV (As := []) (rest := []) (b := (b 0)) (wi := (wMD G b w dep kept q1.2.1 q1.2.2)) hF hK hP hD (c_X5_marked l G N b w dep kept q1.2.1 q1.2.2 q3 hc4 H.size) (cwV 0 hts gX5_reachableCount_X5_marked rfl rfl rfl (by decide +kernel) ⟨Nat.le_of_ble_eq_true rfl, Nat.le_of_ble_eq_true rfl⟩) (va_recv hK.1 hP (ci := 5) (q0 := 0) rfl rfl) rfl hl.1 rfl (Nat.le_of_ble_eq_true rfl) dX5_reachableCount_8 ⟨Nat.le_of_ble_eq_true rfl, Nat.le_of_ble_eq_true rfl⟩) hD hS hA (fun H locs hP hD hS => ?_)
  have hP : va_P G.1 vwCl (wMD G b w dep kept q1.2.1 q1.2.2) H := hP
  have hD : va_D A (wMD G b w dep kept q1.2.1 q1.2.2) := hD
  cases hm
  exact rt_i hx hb hr hlocks hP hD hS dX5_reachableCount_11
def M_X5_markRound (N : Nat) (w : Nat → Int32) (mark : Nat → Int32) (start : Nat → Int32) (p1 : Int32) : Option (Int32 × (Nat → Int32) × (Nat → Int32)) :=
  (M_X5_isAllocated w p1).bind fun q1 => if q1 = 0 then (some ((-1), mark, start)) else ((M_X5_markAll N w mark start (-9)).bind fun q4 => gd p1 24 (some ((q4.2.1 p1.toNatClampNeg), q4.2.1, q4.2.2)))
theorem w0_X5_markRound : Cond.fieldLink RX5 17 "WeakTableHeapModel" "mark" "[I" ∈ wsX5_markRound := by decide +kernel
theorem w1_X5_markRound : ∀ w ∈ u_ws RX5 TX5 5, w ∈ wsX5_markRound := by decide +kernel
abbrev rm_X5_markRound : Room := { frames := 4, cells := 0, slots := 0, locals := 93 }
set_option maxHeartbeats 4000000 in
set_option maxRecDepth 100000 in
theorem c_X5_markRound (l : Launch) (G : GG) (N : Nat) (b : Nat → Nat) (w : Nat → Int32) (dep : Int32) (kept : Nat → Int32) (mark : Nat → Int32) (start : Nat → Int32) (p1 : Int32) (q : Int32 × (Nat → Int32) × (Nat → Int32)) (hm : M_X5_markRound N w mark start p1 = some q) : CTi l yX5_markRound wsX5_markRound rm_X5_markRound G [.ref (b 0), .int p1] (wMD G b w dep kept mark start) q.1 (wMD G b w dep kept q.2.1 q.2.2) := by
  intro sz
  refine mk_body (Qc := fun A => (QI G A q.1 (wMD G b w dep kept q.2.1 q.2.2))) (cc := cX5_markRound) (maxL := 2) (ret := (some .int)) (lv := [(0, .ref (b 0)), (1, .int p1)]) (by decide) rfl rfl (Nat.le_of_ble_eq_true rfl) ?_
  intro p e s m args below meth c A H locs ls hF hr hlocks hname hK hA hP hD hS hl
  obtain ⟨hx, hb, hml, hown, hts⟩ := id hF
  unfold M_X5_markRound at hm
  refine lv_aload_n hx hb dX5_markRound_0 rfl (lv_at hl 0 rfl) ?_
  refine lv_iload_n hx hb dX5_markRound_1 rfl (lv_at hl 1 rfl) ?_
  obtain ⟨q1, hc2, hm⟩ := bd_s hm
  refine ks_i (wo := (wMD G b w dep kept mark start)) (rV (As := [.int p1]) (rest := []) (b := (b 0)) (wi := (wMD G b w dep kept mark start)) hF hK hP hD (c_X5_isAllocated l G b w dep kept mark start p1 q1 hc2 H.size) (cwV 1 hts gX5_markRound_X5_isAllocated rfl rfl rfl (by decide +kernel) ⟨Nat.le_of_ble_eq_true rfl, Nat.le_of_ble_eq_true rfl⟩) (va_recv hK.1 hP (ci := 5) (q0 := 0) rfl rfl) rfl hl.1 rfl (Nat.le_of_ble_eq_true rfl) dX5_markRound_2 ⟨Nat.le_of_ble_eq_true rfl, Nat.le_of_ble_eq_true rfl⟩) hD hS hA (fun H locs hP hD hS => ?_)
  have hP : va_P G.1 vwCl (wMD G b w dep kept mark start) H := hP
  have hD : va_D A (wMD G b w dep kept mark start) := hD
  refine lv_if_ne (tgt := 10) hx hb dX5_markRound_5 (by decide) (fun c3 => ?_) (fun c3 => ?_)
  · replace hm := it_f c3 hm
    refine lv_aload_n hx hb dX5_markRound_10 rfl (lv_at hl 0 rfl) ?_
    refine lv_bipush (v := (-9)) hx hb dX5_markRound_11 (by decide) ?_
    obtain ⟨q4, hc5, hm⟩ := bd_s hm
    refine ks_i (wo := (wMD G b w dep kept q4.2.1 q4.2.2)) (rV (As := [.int (-9)]) (rest := []) (b := (b 0)) (wi := (wMD G b w dep kept mark start)) hF hK hP hD (c_X5_markAll l G N b w dep kept mark start (-9) q4 hc5 H.size) (cwV 1 hts gX5_markRound_X5_markAll rfl rfl rfl (by decide +kernel) ⟨Nat.le_of_ble_eq_true rfl, Nat.le_of_ble_eq_true rfl⟩) (va_recv hK.1 hP (ci := 5) (q0 := 0) rfl rfl) rfl hl.1 rfl (Nat.le_of_ble_eq_true rfl) dX5_markRound_13 ⟨Nat.le_of_ble_eq_true rfl, Nat.le_of_ble_eq_true rfl⟩) hD hS hA (fun H locs hP hD hS => ?_)
    have hP : va_P G.1 vwCl (wMD G b w dep kept q4.2.1 q4.2.2) H := hP
    have hD : va_D A (wMD G b w dep kept q4.2.1 q4.2.2) := hD
    refine lv_pop hx hb dX5_markRound_16 rfl ?_
    refine lv_aload_n hx hb dX5_markRound_17 rfl (lv_at hl 0 rfl) ?_
    refine va_get (D := G.1) (ci := 5) (v := .ref (b 3)) (C := RX5) (T := TX5) (N := 5) hx hb hts w1_X5_markRound hown hK.1 hP 0 rfl rfl 3 (by decide) (hts _ w0_X5_markRound) (fun _ h9 => h9) rfl dX5_markRound_18 ?_
    refine lv_iload_n hx hb dX5_markRound_21 rfl (lv_at hl 1 rfl) ?_
    obtain ⟨hi6, hm⟩ := gd_s hm
    refine va_iald hx hb hK.1 hP 3 0 rfl rfl hi6 dX5_markRound_22 ?_
    cases hm
    exact rt_i hx hb hr hlocks hP hD hS dX5_markRound_23
  · replace hm := it_t c3 hm
    refine lv_iconst (v := (-1)) hx hb dX5_markRound_8 (by decide) ?_
    cases hm
    exact rt_i hx hb hr hlocks hP hD hS dX5_markRound_9
def M_X5_retainedSize (N : Nat) (w : Nat → Int32) (mark : Nat → Int32) (start : Nat → Int32) (p1 : Int32) : Option (Int32 × (Nat → Int32) × (Nat → Int32)) :=
  (M_X5_isAllocated w p1).bind fun q1 => if q1 = 0 then (some ((-1), mark, start)) else ((M_X5_reachableCount N w mark start).bind fun q4 => (M_X5_markAll N w q4.2.1 q4.2.2 p1).bind fun q6 => (M_X5_marked N q6.2.1).bind fun q8 => some ((q4.1 - q8), q6.2.1, q6.2.2))
abbrev rm_X5_retainedSize : Room := { frames := 5, cells := 0, slots := 0, locals := 113 }
set_option maxHeartbeats 4000000 in
set_option maxRecDepth 100000 in
theorem c_X5_retainedSize (l : Launch) (G : GG) (N : Nat) (b : Nat → Nat) (w : Nat → Int32) (dep : Int32) (kept : Nat → Int32) (mark : Nat → Int32) (start : Nat → Int32) (p1 : Int32) (q : Int32 × (Nat → Int32) × (Nat → Int32)) (hm : M_X5_retainedSize N w mark start p1 = some q) : CTi l yX5_retainedSize wsX5_retainedSize rm_X5_retainedSize G [.ref (b 0), .int p1] (wMD G b w dep kept mark start) q.1 (wMD G b w dep kept q.2.1 q.2.2) := by
  intro sz
  refine mk_body (Qc := fun A => (QI G A q.1 (wMD G b w dep kept q.2.1 q.2.2))) (cc := cX5_retainedSize) (maxL := 3) (ret := (some .int)) (lv := [(0, .ref (b 0)), (1, .int p1)]) (by decide) rfl rfl (Nat.le_of_ble_eq_true rfl) ?_
  intro p e s m args below meth c A H locs ls hF hr hlocks hname hK hA hP hD hS hl
  obtain ⟨hx, hb, hml, hown, hts⟩ := id hF
  unfold M_X5_retainedSize at hm
  refine lv_aload_n hx hb dX5_retainedSize_0 rfl (lv_at hl 0 rfl) ?_
  refine lv_iload_n hx hb dX5_retainedSize_1 rfl (lv_at hl 1 rfl) ?_
  obtain ⟨q1, hc2, hm⟩ := bd_s hm
  refine ks_i (wo := (wMD G b w dep kept mark start)) (rV (As := [.int p1]) (rest := []) (b := (b 0)) (wi := (wMD G b w dep kept mark start)) hF hK hP hD (c_X5_isAllocated l G b w dep kept mark start p1 q1 hc2 H.size) (cwV 1 hts gX5_retainedSize_X5_isAllocated rfl rfl rfl (by decide +kernel) ⟨Nat.le_of_ble_eq_true rfl, Nat.le_of_ble_eq_true rfl⟩) (va_recv hK.1 hP (ci := 5) (q0 := 0) rfl rfl) rfl hl.1 rfl (Nat.le_of_ble_eq_true rfl) dX5_retainedSize_2 ⟨Nat.le_of_ble_eq_true rfl, Nat.le_of_ble_eq_true rfl⟩) hD hS hA (fun H locs hP hD hS => ?_)
  have hP : va_P G.1 vwCl (wMD G b w dep kept mark start) H := hP
  have hD : va_D A (wMD G b w dep kept mark start) := hD
  refine lv_if_ne (tgt := 10) hx hb dX5_retainedSize_5 (by decide) (fun c3 => ?_) (fun c3 => ?_)
  · replace hm := it_f c3 hm
    refine lv_aload_n hx hb dX5_retainedSize_10 rfl (lv_at hl 0 rfl) ?_
    obtain ⟨q4, hc5, hm⟩ := bd_s hm
    refine ks_i (wo := (wMD G b w dep kept q4.2.1 q4.2.2)) (rV (As := []) (rest := []) (b := (b 0)) (wi := (wMD G b w dep kept mark start)) hF hK hP hD (c_X5_reachableCount l G N b w dep kept mark start q4 hc5 H.size) (cwV 0 hts gX5_retainedSize_X5_reachableCount rfl rfl rfl (by decide +kernel) ⟨Nat.le_of_ble_eq_true rfl, Nat.le_of_ble_eq_true rfl⟩) (va_recv hK.1 hP (ci := 5) (q0 := 0) rfl rfl) rfl hl.1 rfl (Nat.le_of_ble_eq_true rfl) dX5_retainedSize_11 ⟨Nat.le_of_ble_eq_true rfl, Nat.le_of_ble_eq_true rfl⟩) hD hS hA (fun H locs hP hD hS => ?_)
    have hP : va_P G.1 vwCl (wMD G b w dep kept q4.2.1 q4.2.2) H := hP
    have hD : va_D A (wMD G b w dep kept q4.2.1 q4.2.2) := hD
    refine lv_istore_n (lv' := [(2, .int q4.1), (0, .ref (b 0)), (1, .int p1)]) hx hb dX5_retainedSize_14 rfl hl (by decide) rfl (fun ls hl => ?_)
    refine lv_aload_n hx hb dX5_retainedSize_15 rfl (lv_at hl 1 rfl) ?_
    refine lv_iload_n hx hb dX5_retainedSize_16 rfl (lv_at hl 2 rfl) ?_
    obtain ⟨q6, hc7, hm⟩ := bd_s hm
    refine ks_i (wo := (wMD G b w dep kept q6.2.1 q6.2.2)) (rV (As := [.int p1]) (rest := []) (b := (b 0)) (wi := (wMD G b w dep kept q4.2.1 q4.2.2)) hF hK hP hD (c_X5_markAll l G N b w dep kept q4.2.1 q4.2.2 p1 q6 hc7 H.size) (cwV 1 hts gX5_retainedSize_X5_markAll rfl rfl rfl (by decide +kernel) ⟨Nat.le_of_ble_eq_true rfl, Nat.le_of_ble_eq_true rfl⟩) (va_recv hK.1 hP (ci := 5) (q0 := 0) rfl rfl) rfl hl.1 rfl (Nat.le_of_ble_eq_true rfl) dX5_retainedSize_17 ⟨Nat.le_of_ble_eq_true rfl, Nat.le_of_ble_eq_true rfl⟩) hD hS hA (fun H locs hP hD hS => ?_)
    have hP : va_P G.1 vwCl (wMD G b w dep kept q6.2.1 q6.2.2) H := hP
    have hD : va_D A (wMD G b w dep kept q6.2.1 q6.2.2) := hD
    refine lv_pop hx hb dX5_retainedSize_20 rfl ?_
    refine lv_iload_n hx hb dX5_retainedSize_21 rfl (lv_at hl 0 rfl) ?_
    refine lv_aload_n hx hb dX5_retainedSize_22 rfl (lv_at hl 1 rfl) ?_
    obtain ⟨q8, hc9, hm⟩ := bd_s hm
    refine ks_i (wo := (wMD G b w dep kept q6.2.1 q6.2.2)) (rV (As := []) (rest := [.int q4.1]) (b := (b 0)) (wi := (wMD G b w dep kept q6.2.1 q6.2.2)) hF hK hP hD (c_X5_marked l G N b w dep kept q6.2.1 q6.2.2 q8 hc9 H.size) (cwV 0 hts gX5_retainedSize_X5_marked rfl rfl rfl (by decide +kernel) ⟨Nat.le_of_ble_eq_true rfl, Nat.le_of_ble_eq_true rfl⟩) (va_recv hK.1 hP (ci := 5) (q0 := 0) rfl rfl) rfl hl.1 rfl (Nat.le_of_ble_eq_true rfl) dX5_retainedSize_23 ⟨Nat.le_of_ble_eq_true rfl, Nat.le_of_ble_eq_true rfl⟩) hD hS hA (fun H locs hP hD hS => ?_)
    have hP : va_P G.1 vwCl (wMD G b w dep kept q6.2.1 q6.2.2) H := hP
    have hD : va_D A (wMD G b w dep kept q6.2.1 q6.2.2) := hD
    refine lv_isub hx hb dX5_retainedSize_26 ?_
    cases hm
    exact rt_i hx hb hr hlocks hP hD hS dX5_retainedSize_27
  · replace hm := it_t c3 hm
    refine lv_iconst (v := (-1)) hx hb dX5_retainedSize_8 (by decide) ?_
    cases hm
    exact rt_i hx hb hr hlocks hP hD hS dX5_retainedSize_9
def M_X5_waitingEntries_L21 (N : Nat) (u21_1 : Int32) (w : Nat → Int32) (mark21u : Nat → Int32) (start21u : Nat → Int32) : Nat → (Int32) → (Int32) → Option (Int32 × (Nat → Int32) × (Nat → Int32))
  | 0, _, _ => none
  | n21 + 1, v21_2, v21_3 => if 24 ≤ v21_3 then (some (v21_2, mark21u, start21u)) else (gd u21_1 24 (if (mark21u u21_1.toNatClampNeg) = (-9) then (gd v21_3 24 (if (mark21u v21_3.toNatClampNeg) = (-9) then (M_X5_waitingEntries_L21 N u21_1 w mark21u start21u n21 (v21_2 + 0) (v21_3 + 1)) else ((M_X5_part w v21_3 0).bind fun q2106 => if q2106 = 1 then ((M_X5_placeOf N w v21_3 u21_1).bind fun q2109 => if q2109 = (-9) then (M_X5_waitingEntries_L21 N u21_1 w mark21u start21u n21 (v21_2 + 0) (v21_3 + 1)) else (M_X5_waitingEntries_L21 N u21_1 w mark21u start21u n21 (v21_2 + 1) (v21_3 + 1))) else (M_X5_waitingEntries_L21 N u21_1 w mark21u start21u n21 (v21_2 + 0) (v21_3 + 1))))) else (some (v21_2, mark21u, start21u))))
def M_X5_waitingEntries (N : Nat) (w : Nat → Int32) (mark : Nat → Int32) (start : Nat → Int32) (p1 : Int32) : Option (Int32 × (Nat → Int32) × (Nat → Int32)) :=
  (M_X5_isAllocated w p1).bind fun q1 => if q1 = 0 then (some ((-1), mark, start)) else ((M_X5_markAll N w mark start (-9)).bind fun q4 => M_X5_waitingEntries_L21 N p1 w q4.2.1 q4.2.2 N 0 0)
theorem w0_X5_waitingEntries : Cond.fieldLink RX5 17 "WeakTableHeapModel" "mark" "[I" ∈ wsX5_waitingEntries := by decide +kernel
theorem w1_X5_waitingEntries : ∀ w ∈ u_ws RX5 TX5 5, w ∈ wsX5_waitingEntries := by decide +kernel
abbrev rm_X5_waitingEntries : Room := { frames := 4, cells := 0, slots := 0, locals := 93 }
set_option maxHeartbeats 4000000 in
set_option maxRecDepth 100000 in
theorem c_X5_waitingEntries (l : Launch) (G : GG) (N : Nat) (b : Nat → Nat) (w : Nat → Int32) (dep : Int32) (kept : Nat → Int32) (mark : Nat → Int32) (start : Nat → Int32) (p1 : Int32) (q : Int32 × (Nat → Int32) × (Nat → Int32)) (hm : M_X5_waitingEntries N w mark start p1 = some q) : CTi l yX5_waitingEntries wsX5_waitingEntries rm_X5_waitingEntries G [.ref (b 0), .int p1] (wMD G b w dep kept mark start) q.1 (wMD G b w dep kept q.2.1 q.2.2) := by
  intro sz
  refine mk_body (Qc := fun A => (QI G A q.1 (wMD G b w dep kept q.2.1 q.2.2))) (cc := cX5_waitingEntries) (maxL := 4) (ret := (some .int)) (lv := [(0, .ref (b 0)), (1, .int p1)]) (by decide) rfl rfl (Nat.le_of_ble_eq_true rfl) ?_
  intro p e s m args below meth c A H locs ls hF hr hlocks hname hK hA hP hD hS hl
  obtain ⟨hx, hb, hml, hown, hts⟩ := id hF
  unfold M_X5_waitingEntries at hm
  refine lv_aload_n hx hb dX5_waitingEntries_0 rfl (lv_at hl 0 rfl) ?_
  refine lv_iload_n hx hb dX5_waitingEntries_1 rfl (lv_at hl 1 rfl) ?_
  obtain ⟨q1, hc2, hm⟩ := bd_s hm
  refine ks_i (wo := (wMD G b w dep kept mark start)) (rV (As := [.int p1]) (rest := []) (b := (b 0)) (wi := (wMD G b w dep kept mark start)) hF hK hP hD (c_X5_isAllocated l G b w dep kept mark start p1 q1 hc2 H.size) (cwV 1 hts gX5_waitingEntries_X5_isAllocated rfl rfl rfl (by decide +kernel) ⟨Nat.le_of_ble_eq_true rfl, Nat.le_of_ble_eq_true rfl⟩) (va_recv hK.1 hP (ci := 5) (q0 := 0) rfl rfl) rfl hl.1 rfl (Nat.le_of_ble_eq_true rfl) dX5_waitingEntries_2 ⟨Nat.le_of_ble_eq_true rfl, Nat.le_of_ble_eq_true rfl⟩) hD hS hA (fun H locs hP hD hS => ?_)
  have hP : va_P G.1 vwCl (wMD G b w dep kept mark start) H := hP
  have hD : va_D A (wMD G b w dep kept mark start) := hD
  refine lv_if_ne (tgt := 10) hx hb dX5_waitingEntries_5 (by decide) (fun c3 => ?_) (fun c3 => ?_)
  · replace hm := it_f c3 hm
    refine lv_aload_n hx hb dX5_waitingEntries_10 rfl (lv_at hl 0 rfl) ?_
    refine lv_bipush (v := (-9)) hx hb dX5_waitingEntries_11 (by decide) ?_
    obtain ⟨q4, hc5, hm⟩ := bd_s hm
    refine ks_i (wo := (wMD G b w dep kept q4.2.1 q4.2.2)) (rV (As := [.int (-9)]) (rest := []) (b := (b 0)) (wi := (wMD G b w dep kept mark start)) hF hK hP hD (c_X5_markAll l G N b w dep kept mark start (-9) q4 hc5 H.size) (cwV 1 hts gX5_waitingEntries_X5_markAll rfl rfl rfl (by decide +kernel) ⟨Nat.le_of_ble_eq_true rfl, Nat.le_of_ble_eq_true rfl⟩) (va_recv hK.1 hP (ci := 5) (q0 := 0) rfl rfl) rfl hl.1 rfl (Nat.le_of_ble_eq_true rfl) dX5_waitingEntries_13 ⟨Nat.le_of_ble_eq_true rfl, Nat.le_of_ble_eq_true rfl⟩) hD hS hA (fun H locs hP hD hS => ?_)
    have hP : va_P G.1 vwCl (wMD G b w dep kept q4.2.1 q4.2.2) H := hP
    have hD : va_D A (wMD G b w dep kept q4.2.1 q4.2.2) := hD
    refine lv_pop hx hb dX5_waitingEntries_16 rfl ?_
    refine lv_iconst (v := 0) hx hb dX5_waitingEntries_17 (by decide) ?_
    refine lv_istore_n (lv' := [(2, .int 0), (0, .ref (b 0)), (1, .int p1)]) hx hb dX5_waitingEntries_18 rfl hl (by decide) rfl (fun ls hl => ?_)
    refine lv_iconst (v := 0) hx hb dX5_waitingEntries_19 (by decide) ?_
    refine lv_istore_n (lv' := [(3, .int 0), (2, .int 0), (0, .ref (b 0)), (1, .int p1)]) hx hb dX5_waitingEntries_20 rfl hl (by decide) rfl (fun ls hl => ?_)
    have L21 : ∀ (u21_1 : Int32) (mark21u : Nat → Int32) (start21u : Nat → Int32) (n21 : Nat) (v21_2 : Int32) (v21_3 : Int32), M_X5_waitingEntries_L21 N u21_1 w mark21u start21u n21 v21_2 v21_3 = some q → ∀ (H : Heap) (locs : List Loc) (ls : Array Slot), va_P G.1 vwCl (wMD G b w dep kept mark21u start21u) H → va_D A (wMD G b w dep kept mark21u start21u) → va_S A s.heap H locs → lv_has ls 4 [(0, .ref (b 0)), (1, .int u21_1), (2, .int v21_2), (3, .int v21_3)] → W p l e rm_X5_waitingEntries s m args below meth c H locs 0 0 (MQ below (QI G A q.1 (wMD G b w dep kept q.2.1 q.2.2)) args s rm_X5_waitingEntries.cells rm_X5_waitingEntries.slots A) (F0 m 21 ls []) := by
      intro u21_1 mark21u start21u n21
      induction n21 with
      | zero => intro v21_2 v21_3 hm; cases hm
      | succ n21 ih21 =>
        intro v21_2 v21_3 hm H locs ls hP hD hS hl
        rw [M_X5_waitingEntries_L21] at hm
        refine lv_iload_n hx hb dX5_waitingEntries_21 rfl (lv_at hl 3 rfl) ?_
        refine lv_bipush (v := 24) hx hb dX5_waitingEntries_22 (by decide) ?_
        refine lv_icmp_ge (tgt := 84) hx hb dX5_waitingEntries_24 (by decide) (fun c2101 => ?_) (fun c2101 => ?_)
        · replace hm := it_t c2101 hm
          refine lv_iload_n hx hb dX5_waitingEntries_84 rfl (lv_at hl 2 rfl) ?_
          cases hm
          exact rt_i hx hb hr hlocks hP hD hS dX5_waitingEntries_85
        · replace hm := it_f c2101 hm
          refine lv_aload_n hx hb dX5_waitingEntries_27 rfl (lv_at hl 0 rfl) ?_
          refine va_get (D := G.1) (ci := 5) (v := .ref (b 3)) (C := RX5) (T := TX5) (N := 5) hx hb hts w1_X5_waitingEntries hown hK.1 hP 0 rfl rfl 3 (by decide) (hts _ w0_X5_waitingEntries) (fun _ h9 => h9) rfl dX5_waitingEntries_28 ?_
          refine lv_iload_n hx hb dX5_waitingEntries_31 rfl (lv_at hl 1 rfl) ?_
          obtain ⟨hi2102, hm⟩ := gd_s hm
          refine va_iald hx hb hK.1 hP 3 0 rfl rfl hi2102 dX5_waitingEntries_32 ?_
          refine lv_bipush (v := (-9)) hx hb dX5_waitingEntries_33 (by decide) ?_
          refine lv_icmp_ne (tgt := 84) hx hb dX5_waitingEntries_35 (by decide) (fun c2103 => ?_) (fun c2103 => ?_)
          · replace hm := it_f c2103 hm
            refine lv_iload_n hx hb dX5_waitingEntries_84 rfl (lv_at hl 2 rfl) ?_
            cases hm
            exact rt_i hx hb hr hlocks hP hD hS dX5_waitingEntries_85
          · replace hm := it_t c2103 hm
            refine lv_iload_n hx hb dX5_waitingEntries_38 rfl (lv_at hl 2 rfl) ?_
            refine lv_aload_n hx hb dX5_waitingEntries_39 rfl (lv_at hl 0 rfl) ?_
            refine va_get (D := G.1) (ci := 5) (v := .ref (b 3)) (C := RX5) (T := TX5) (N := 5) hx hb hts w1_X5_waitingEntries hown hK.1 hP 0 rfl rfl 3 (by decide) (hts _ w0_X5_waitingEntries) (fun _ h9 => h9) rfl dX5_waitingEntries_40 ?_
            refine lv_iload_n hx hb dX5_waitingEntries_43 rfl (lv_at hl 3 rfl) ?_
            obtain ⟨hi2104, hm⟩ := gd_s hm
            refine va_iald hx hb hK.1 hP 3 0 rfl rfl hi2104 dX5_waitingEntries_44 ?_
            refine lv_bipush (v := (-9)) hx hb dX5_waitingEntries_45 (by decide) ?_
            refine lv_icmp_eq (tgt := 75) hx hb dX5_waitingEntries_47 (by decide) (fun c2105 => ?_) (fun c2105 => ?_)
            · replace hm := it_t c2105 hm
              refine lv_iconst (v := 0) hx hb dX5_waitingEntries_75 (by decide) ?_
              refine lv_iadd hx hb dX5_waitingEntries_76 ?_
              refine lv_istore_n (lv' := [(2, .int (v21_2 + 0)), (0, .ref (b 0)), (1, .int u21_1), (3, .int v21_3)]) hx hb dX5_waitingEntries_77 rfl hl (by decide) rfl (fun ls hl => ?_)
              refine lv_iinc (v := (v21_3 + 1)) (lv' := [(3, .int (v21_3 + 1)), (2, .int (v21_2 + 0)), (0, .ref (b 0)), (1, .int u21_1)]) hx hb dX5_waitingEntries_78 hl (k := 3) rfl rfl (by decide) rfl (fun ls hl => ?_)
              refine lv_goto (tgt := 21) hx hb dX5_waitingEntries_81 (by decide) ?_
              exact ih21 (v21_2 + 0) (v21_3 + 1) hm _ _ _ hP hD hS (lv_sub hl [2, 3, 1, 0] rfl)
            · replace hm := it_f c2105 hm
              refine lv_aload_n hx hb dX5_waitingEntries_50 rfl (lv_at hl 0 rfl) ?_
              refine lv_iload_n hx hb dX5_waitingEntries_51 rfl (lv_at hl 3 rfl) ?_
              refine lv_iconst (v := 0) hx hb dX5_waitingEntries_52 (by decide) ?_
              obtain ⟨q2106, hc2107, hm⟩ := bd_s hm
              refine ks_i (wo := (wMD G b w dep kept mark21u start21u)) (rV (As := [.int v21_3, .int 0]) (rest := [.int v21_2]) (b := (b 0)) (wi := (wMD G b w dep kept mark21u start21u)) hF hK hP hD (c_X5_part l G b w dep kept mark21u start21u v21_3 0 q2106 hc2107 H.size) (cwV 2 hts gX5_waitingEntries_X5_part rfl rfl rfl (by decide +kernel) ⟨Nat.le_of_ble_eq_true rfl, Nat.le_of_ble_eq_true rfl⟩) (va_recv hK.1 hP (ci := 5) (q0 := 0) rfl rfl) rfl hl.1 rfl (Nat.le_of_ble_eq_true rfl) dX5_waitingEntries_53 ⟨Nat.le_of_ble_eq_true rfl, Nat.le_of_ble_eq_true rfl⟩) hD hS hA (fun H locs hP hD hS => ?_)
              have hP : va_P G.1 vwCl (wMD G b w dep kept mark21u start21u) H := hP
              have hD : va_D A (wMD G b w dep kept mark21u start21u) := hD
              refine lv_iconst (v := 1) hx hb dX5_waitingEntries_56 (by decide) ?_
              refine lv_icmp_ne (tgt := 75) hx hb dX5_waitingEntries_57 (by decide) (fun c2108 => ?_) (fun c2108 => ?_)
              · replace hm := it_f c2108 hm
                refine lv_iconst (v := 0) hx hb dX5_waitingEntries_75 (by decide) ?_
                refine lv_iadd hx hb dX5_waitingEntries_76 ?_
                refine lv_istore_n (lv' := [(2, .int (v21_2 + 0)), (0, .ref (b 0)), (1, .int u21_1), (3, .int v21_3)]) hx hb dX5_waitingEntries_77 rfl hl (by decide) rfl (fun ls hl => ?_)
                refine lv_iinc (v := (v21_3 + 1)) (lv' := [(3, .int (v21_3 + 1)), (2, .int (v21_2 + 0)), (0, .ref (b 0)), (1, .int u21_1)]) hx hb dX5_waitingEntries_78 hl (k := 3) rfl rfl (by decide) rfl (fun ls hl => ?_)
                refine lv_goto (tgt := 21) hx hb dX5_waitingEntries_81 (by decide) ?_
                exact ih21 (v21_2 + 0) (v21_3 + 1) hm _ _ _ hP hD hS (lv_sub hl [2, 3, 1, 0] rfl)
              · replace hm := it_t c2108 hm
                refine lv_aload_n hx hb dX5_waitingEntries_60 rfl (lv_at hl 0 rfl) ?_
                refine lv_iload_n hx hb dX5_waitingEntries_61 rfl (lv_at hl 3 rfl) ?_
                refine lv_iload_n hx hb dX5_waitingEntries_62 rfl (lv_at hl 1 rfl) ?_
                obtain ⟨q2109, hc2110, hm⟩ := bd_s hm
                refine ks_i (wo := (wMD G b w dep kept mark21u start21u)) (rV (As := [.int v21_3, .int u21_1]) (rest := [.int v21_2]) (b := (b 0)) (wi := (wMD G b w dep kept mark21u start21u)) hF hK hP hD (c_X5_placeOf l G N b w dep kept mark21u start21u v21_3 u21_1 q2109 hc2110 H.size) (cwV 2 hts gX5_waitingEntries_X5_placeOf rfl rfl rfl (by decide +kernel) ⟨Nat.le_of_ble_eq_true rfl, Nat.le_of_ble_eq_true rfl⟩) (va_recv hK.1 hP (ci := 5) (q0 := 0) rfl rfl) rfl hl.1 rfl (Nat.le_of_ble_eq_true rfl) dX5_waitingEntries_63 ⟨Nat.le_of_ble_eq_true rfl, Nat.le_of_ble_eq_true rfl⟩) hD hS hA (fun H locs hP hD hS => ?_)
                have hP : va_P G.1 vwCl (wMD G b w dep kept mark21u start21u) H := hP
                have hD : va_D A (wMD G b w dep kept mark21u start21u) := hD
                refine lv_bipush (v := (-9)) hx hb dX5_waitingEntries_66 (by decide) ?_
                refine lv_icmp_eq (tgt := 75) hx hb dX5_waitingEntries_68 (by decide) (fun c2111 => ?_) (fun c2111 => ?_)
                · replace hm := it_t c2111 hm
                  refine lv_iconst (v := 0) hx hb dX5_waitingEntries_75 (by decide) ?_
                  refine lv_iadd hx hb dX5_waitingEntries_76 ?_
                  refine lv_istore_n (lv' := [(2, .int (v21_2 + 0)), (0, .ref (b 0)), (1, .int u21_1), (3, .int v21_3)]) hx hb dX5_waitingEntries_77 rfl hl (by decide) rfl (fun ls hl => ?_)
                  refine lv_iinc (v := (v21_3 + 1)) (lv' := [(3, .int (v21_3 + 1)), (2, .int (v21_2 + 0)), (0, .ref (b 0)), (1, .int u21_1)]) hx hb dX5_waitingEntries_78 hl (k := 3) rfl rfl (by decide) rfl (fun ls hl => ?_)
                  refine lv_goto (tgt := 21) hx hb dX5_waitingEntries_81 (by decide) ?_
                  exact ih21 (v21_2 + 0) (v21_3 + 1) hm _ _ _ hP hD hS (lv_sub hl [2, 3, 1, 0] rfl)
                · replace hm := it_f c2111 hm
                  refine lv_iconst (v := 1) hx hb dX5_waitingEntries_71 (by decide) ?_
                  refine lv_goto (tgt := 76) hx hb dX5_waitingEntries_72 (by decide) ?_
                  refine lv_iadd hx hb dX5_waitingEntries_76 ?_
                  refine lv_istore_n (lv' := [(2, .int (v21_2 + 1)), (0, .ref (b 0)), (1, .int u21_1), (3, .int v21_3)]) hx hb dX5_waitingEntries_77 rfl hl (by decide) rfl (fun ls hl => ?_)
                  refine lv_iinc (v := (v21_3 + 1)) (lv' := [(3, .int (v21_3 + 1)), (2, .int (v21_2 + 1)), (0, .ref (b 0)), (1, .int u21_1)]) hx hb dX5_waitingEntries_78 hl (k := 3) rfl rfl (by decide) rfl (fun ls hl => ?_)
                  refine lv_goto (tgt := 21) hx hb dX5_waitingEntries_81 (by decide) ?_
                  exact ih21 (v21_2 + 1) (v21_3 + 1) hm _ _ _ hP hD hS (lv_sub hl [2, 3, 1, 0] rfl)
    exact L21 p1 q4.2.1 q4.2.2 N 0 0 hm _ _ _ hP hD hS (lv_sub hl [2, 3, 1, 0] rfl)
  · replace hm := it_t c3 hm
    refine lv_iconst (v := (-1)) hx hb dX5_waitingEntries_8 (by decide) ?_
    cases hm
    exact rt_i hx hb hr hlocks hP hD hS dX5_waitingEntries_9
def M_X5_referenceCount_L59 (K : (Int32) → (Int32) → Option (Int32)) (u50_1 : Int32) (w : Nat → Int32) (v50_3 : Int32) : Nat → (Int32) → (Int32) → Option (Int32)
  | 0, _, _ => none
  | n59 + 1, v59_2, v59_4 => if 15 ≤ v59_4 then (K v59_2 v59_4) else ((M_X5_isAllocated w v50_3).bind fun q5902 => if q5902 = 0 then (K v59_2 v59_4) else ((M_X5_part w v50_3 v59_4).bind fun q5905 => if q5905 = u50_1 then (M_X5_referenceCount_L59 K u50_1 w v50_3 n59 (v59_2 + 1) (v59_4 + 1)) else (M_X5_referenceCount_L59 K u50_1 w v50_3 n59 (v59_2 + 0) (v59_4 + 1))))
def M_X5_referenceCount_L50 (N : Nat) (u50_1 : Int32) (w : Nat → Int32) : Nat → (Int32) → (Int32) → Option (Int32)
  | 0, _, _ => none
  | n50 + 1, v50_2, v50_3 => if 24 ≤ v50_3 then (some v50_2) else (M_X5_referenceCount_L59 (fun k59_2 k59_4 => M_X5_referenceCount_L50 N u50_1 w n50 k59_2 (v50_3 + 1)) u50_1 w v50_3 N v50_2 3)
def M_X5_referenceCount_L14 (N : Nat) (u14_1 : Int32) (w : Nat → Int32) : Nat → (Int32) → (Int32) → Option (Int32)
  | 0, _, _ => none
  | n14 + 1, v14_2, v14_3 => if 6 ≤ v14_3 then (M_X5_referenceCount_L50 N u14_1 w N v14_2 0) else (gd (360 + v14_3) 3880 (if (w (360 + v14_3).toNatClampNeg) = u14_1 then (M_X5_referenceCount_L14 N u14_1 w n14 (v14_2 + 1) (v14_3 + 1)) else (M_X5_referenceCount_L14 N u14_1 w n14 (v14_2 + 0) (v14_3 + 1))))
def M_X5_referenceCount (N : Nat) (w : Nat → Int32) (p1 : Int32) : Option (Int32) :=
  (M_X5_isAllocated w p1).bind fun q1 => if q1 = 0 then (some (-1)) else (M_X5_referenceCount_L14 N p1 w N 0 0)
theorem w0_X5_referenceCount : Cond.fieldLink RX5 7 "WeakTableHeapModel" "w" "[I" ∈ wsX5_referenceCount := by decide +kernel
theorem w1_X5_referenceCount : ∀ w ∈ u_ws RX5 TX5 5, w ∈ wsX5_referenceCount := by decide +kernel
abbrev rm_X5_referenceCount : Room := { frames := 2, cells := 0, slots := 0, locals := 43 }
set_option maxHeartbeats 4000000 in
set_option maxRecDepth 100000 in
theorem c_X5_referenceCount (l : Launch) (G : GG) (N : Nat) (b : Nat → Nat) (w : Nat → Int32) (dep : Int32) (kept : Nat → Int32) (mark : Nat → Int32) (start : Nat → Int32) (p1 : Int32) (q : Int32) (hm : M_X5_referenceCount N w p1 = some q) : CTi l yX5_referenceCount wsX5_referenceCount rm_X5_referenceCount G [.ref (b 0), .int p1] (wMD G b w dep kept mark start) q (wMD G b w dep kept mark start) := by
  intro sz
  refine mk_body (Qc := fun A => (QI G A q (wMD G b w dep kept mark start))) (cc := cX5_referenceCount) (maxL := 5) (ret := (some .int)) (lv := [(0, .ref (b 0)), (1, .int p1)]) (by decide) rfl rfl (Nat.le_of_ble_eq_true rfl) ?_
  intro p e s m args below meth c A H locs ls hF hr hlocks hname hK hA hP hD hS hl
  obtain ⟨hx, hb, hml, hown, hts⟩ := id hF
  unfold M_X5_referenceCount at hm
  refine lv_aload_n hx hb dX5_referenceCount_0 rfl (lv_at hl 0 rfl) ?_
  refine lv_iload_n hx hb dX5_referenceCount_1 rfl (lv_at hl 1 rfl) ?_
  obtain ⟨q1, hc2, hm⟩ := bd_s hm
  refine ks_i (wo := (wMD G b w dep kept mark start)) (rV (As := [.int p1]) (rest := []) (b := (b 0)) (wi := (wMD G b w dep kept mark start)) hF hK hP hD (c_X5_isAllocated l G b w dep kept mark start p1 q1 hc2 H.size) (cwV 1 hts gX5_referenceCount_X5_isAllocated rfl rfl rfl (by decide +kernel) ⟨Nat.le_of_ble_eq_true rfl, Nat.le_of_ble_eq_true rfl⟩) (va_recv hK.1 hP (ci := 5) (q0 := 0) rfl rfl) rfl hl.1 rfl (Nat.le_of_ble_eq_true rfl) dX5_referenceCount_2 ⟨Nat.le_of_ble_eq_true rfl, Nat.le_of_ble_eq_true rfl⟩) hD hS hA (fun H locs hP hD hS => ?_)
  have hP : va_P G.1 vwCl (wMD G b w dep kept mark start) H := hP
  have hD : va_D A (wMD G b w dep kept mark start) := hD
  refine lv_if_ne (tgt := 10) hx hb dX5_referenceCount_5 (by decide) (fun c3 => ?_) (fun c3 => ?_)
  · replace hm := it_f c3 hm
    refine lv_iconst (v := 0) hx hb dX5_referenceCount_10 (by decide) ?_
    refine lv_istore_n (lv' := [(2, .int 0), (0, .ref (b 0)), (1, .int p1)]) hx hb dX5_referenceCount_11 rfl hl (by decide) rfl (fun ls hl => ?_)
    refine lv_iconst (v := 0) hx hb dX5_referenceCount_12 (by decide) ?_
    refine lv_istore_n (lv' := [(3, .int 0), (2, .int 0), (0, .ref (b 0)), (1, .int p1)]) hx hb dX5_referenceCount_13 rfl hl (by decide) rfl (fun ls hl => ?_)
    have L14 : ∀ (u14_1 : Int32) (n14 : Nat) (v14_2 : Int32) (v14_3 : Int32), M_X5_referenceCount_L14 N u14_1 w n14 v14_2 v14_3 = some q → ∀ (H : Heap) (locs : List Loc) (ls : Array Slot), va_P G.1 vwCl (wMD G b w dep kept mark start) H → va_D A (wMD G b w dep kept mark start) → va_S A s.heap H locs → lv_has ls 5 [(0, .ref (b 0)), (1, .int u14_1), (2, .int v14_2), (3, .int v14_3)] → W p l e rm_X5_referenceCount s m args below meth c H locs 0 0 (MQ below (QI G A q (wMD G b w dep kept mark start)) args s rm_X5_referenceCount.cells rm_X5_referenceCount.slots A) (F0 m 14 ls []) := by
      intro u14_1 n14
      induction n14 with
      | zero => intro v14_2 v14_3 hm; cases hm
      | succ n14 ih14 =>
        intro v14_2 v14_3 hm H locs ls hP hD hS hl
        rw [M_X5_referenceCount_L14] at hm
        refine lv_iload_n hx hb dX5_referenceCount_14 rfl (lv_at hl 3 rfl) ?_
        refine lv_bipush (v := 6) hx hb dX5_referenceCount_15 (by decide) ?_
        refine lv_icmp_ge (tgt := 48) hx hb dX5_referenceCount_17 (by decide) (fun c1401 => ?_) (fun c1401 => ?_)
        · replace hm := it_t c1401 hm
          refine lv_iconst (v := 0) hx hb dX5_referenceCount_48 (by decide) ?_
          refine lv_istore_n (lv' := [(3, .int 0), (0, .ref (b 0)), (1, .int u14_1), (2, .int v14_2)]) hx hb dX5_referenceCount_49 rfl hl (by decide) rfl (fun ls hl => ?_)
          have L50 : ∀ (u50_1 : Int32) (n50 : Nat) (v50_2 : Int32) (v50_3 : Int32), M_X5_referenceCount_L50 N u50_1 w n50 v50_2 v50_3 = some q → ∀ (H : Heap) (locs : List Loc) (ls : Array Slot), va_P G.1 vwCl (wMD G b w dep kept mark start) H → va_D A (wMD G b w dep kept mark start) → va_S A s.heap H locs → lv_has ls 5 [(0, .ref (b 0)), (1, .int u50_1), (2, .int v50_2), (3, .int v50_3)] → W p l e rm_X5_referenceCount s m args below meth c H locs 0 0 (MQ below (QI G A q (wMD G b w dep kept mark start)) args s rm_X5_referenceCount.cells rm_X5_referenceCount.slots A) (F0 m 50 ls []) := by
            intro u50_1 n50
            induction n50 with
            | zero => intro v50_2 v50_3 hm; cases hm
            | succ n50 ih50 =>
              intro v50_2 v50_3 hm H locs ls hP hD hS hl
              rw [M_X5_referenceCount_L50] at hm
              refine lv_iload_n hx hb dX5_referenceCount_50 rfl (lv_at hl 3 rfl) ?_
              refine lv_bipush (v := 24) hx hb dX5_referenceCount_51 (by decide) ?_
              refine lv_icmp_ge (tgt := 105) hx hb dX5_referenceCount_53 (by decide) (fun c5001 => ?_) (fun c5001 => ?_)
              · replace hm := it_t c5001 hm
                refine lv_iload_n hx hb dX5_referenceCount_105 rfl (lv_at hl 2 rfl) ?_
                cases hm
                exact rt_i hx hb hr hlocks hP hD hS dX5_referenceCount_106
              · replace hm := it_f c5001 hm
                refine lv_iconst (v := 3) hx hb dX5_referenceCount_56 (by decide) ?_
                refine lv_istore (lv' := [(4, .int 3), (0, .ref (b 0)), (1, .int u50_1), (2, .int v50_2), (3, .int v50_3)]) hx hb dX5_referenceCount_57 hl (by decide) rfl (fun ls hl => ?_)
                have L59 : ∀ (n59 : Nat) (v59_2 : Int32) (v59_4 : Int32), M_X5_referenceCount_L59 (fun k59_2 k59_4 => M_X5_referenceCount_L50 N u50_1 w n50 k59_2 (v50_3 + 1)) u50_1 w v50_3 n59 v59_2 v59_4 = some q → ∀ (H : Heap) (locs : List Loc) (ls : Array Slot), va_P G.1 vwCl (wMD G b w dep kept mark start) H → va_D A (wMD G b w dep kept mark start) → va_S A s.heap H locs → lv_has ls 5 [(0, .ref (b 0)), (1, .int u50_1), (2, .int v59_2), (3, .int v50_3), (4, .int v59_4)] → W p l e rm_X5_referenceCount s m args below meth c H locs 0 0 (MQ below (QI G A q (wMD G b w dep kept mark start)) args s rm_X5_referenceCount.cells rm_X5_referenceCount.slots A) (F0 m 59 ls []) := by
                  intro  n59
                  induction n59 with
                  | zero => intro v59_2 v59_4 hm; cases hm
                  | succ n59 ih59 =>
                    intro v59_2 v59_4 hm H locs ls hP hD hS hl
                    rw [M_X5_referenceCount_L59] at hm
                    refine lv_iload hx hb dX5_referenceCount_59 (lv_at hl 4 rfl) ?_
                    refine lv_bipush (v := 15) hx hb dX5_referenceCount_61 (by decide) ?_
                    refine lv_icmp_ge (tgt := 99) hx hb dX5_referenceCount_63 (by decide) (fun c5901 => ?_) (fun c5901 => ?_)
                    · replace hm := it_t c5901 hm
                      try dsimp only at hm
                      refine lv_iinc (v := (v50_3 + 1)) (lv' := [(3, .int (v50_3 + 1)), (0, .ref (b 0)), (1, .int u50_1), (2, .int v59_2), (4, .int v59_4)]) hx hb dX5_referenceCount_99 hl (k := 3) rfl rfl (by decide) rfl (fun ls hl => ?_)
                      refine lv_goto (tgt := 50) hx hb dX5_referenceCount_102 (by decide) ?_
                      exact ih50 v59_2 (v50_3 + 1) hm _ _ _ hP hD hS (lv_sub hl [1, 2, 3, 0] rfl)
                    · replace hm := it_f c5901 hm
                      refine lv_aload_n hx hb dX5_referenceCount_66 rfl (lv_at hl 0 rfl) ?_
                      refine lv_iload_n hx hb dX5_referenceCount_67 rfl (lv_at hl 3 rfl) ?_
                      obtain ⟨q5902, hc5903, hm⟩ := bd_s hm
                      refine ks_i (wo := (wMD G b w dep kept mark start)) (rV (As := [.int v50_3]) (rest := []) (b := (b 0)) (wi := (wMD G b w dep kept mark start)) hF hK hP hD (c_X5_isAllocated l G b w dep kept mark start v50_3 q5902 hc5903 H.size) (cwV 1 hts gX5_referenceCount_X5_isAllocated rfl rfl rfl (by decide +kernel) ⟨Nat.le_of_ble_eq_true rfl, Nat.le_of_ble_eq_true rfl⟩) (va_recv hK.1 hP (ci := 5) (q0 := 0) rfl rfl) rfl hl.1 rfl (Nat.le_of_ble_eq_true rfl) dX5_referenceCount_68 ⟨Nat.le_of_ble_eq_true rfl, Nat.le_of_ble_eq_true rfl⟩) hD hS hA (fun H locs hP hD hS => ?_)
                      have hP : va_P G.1 vwCl (wMD G b w dep kept mark start) H := hP
                      have hD : va_D A (wMD G b w dep kept mark start) := hD
                      refine lv_if_eq (tgt := 99) hx hb dX5_referenceCount_71 (by decide) (fun c5904 => ?_) (fun c5904 => ?_)
                      · replace hm := it_t c5904 hm
                        try dsimp only at hm
                        refine lv_iinc (v := (v50_3 + 1)) (lv' := [(3, .int (v50_3 + 1)), (0, .ref (b 0)), (1, .int u50_1), (2, .int v59_2), (4, .int v59_4)]) hx hb dX5_referenceCount_99 hl (k := 3) rfl rfl (by decide) rfl (fun ls hl => ?_)
                        refine lv_goto (tgt := 50) hx hb dX5_referenceCount_102 (by decide) ?_
                        exact ih50 v59_2 (v50_3 + 1) hm _ _ _ hP hD hS (lv_sub hl [1, 2, 3, 0] rfl)
                      · replace hm := it_f c5904 hm
                        refine lv_iload_n hx hb dX5_referenceCount_74 rfl (lv_at hl 2 rfl) ?_
                        refine lv_aload_n hx hb dX5_referenceCount_75 rfl (lv_at hl 0 rfl) ?_
                        refine lv_iload_n hx hb dX5_referenceCount_76 rfl (lv_at hl 3 rfl) ?_
                        refine lv_iload hx hb dX5_referenceCount_77 (lv_at hl 4 rfl) ?_
                        obtain ⟨q5905, hc5906, hm⟩ := bd_s hm
                        refine ks_i (wo := (wMD G b w dep kept mark start)) (rV (As := [.int v50_3, .int v59_4]) (rest := [.int v59_2]) (b := (b 0)) (wi := (wMD G b w dep kept mark start)) hF hK hP hD (c_X5_part l G b w dep kept mark start v50_3 v59_4 q5905 hc5906 H.size) (cwV 2 hts gX5_referenceCount_X5_part rfl rfl rfl (by decide +kernel) ⟨Nat.le_of_ble_eq_true rfl, Nat.le_of_ble_eq_true rfl⟩) (va_recv hK.1 hP (ci := 5) (q0 := 0) rfl rfl) rfl hl.1 rfl (Nat.le_of_ble_eq_true rfl) dX5_referenceCount_79 ⟨Nat.le_of_ble_eq_true rfl, Nat.le_of_ble_eq_true rfl⟩) hD hS hA (fun H locs hP hD hS => ?_)
                        have hP : va_P G.1 vwCl (wMD G b w dep kept mark start) H := hP
                        have hD : va_D A (wMD G b w dep kept mark start) := hD
                        refine lv_iload_n hx hb dX5_referenceCount_82 rfl (lv_at hl 1 rfl) ?_
                        refine lv_icmp_ne (tgt := 90) hx hb dX5_referenceCount_83 (by decide) (fun c5907 => ?_) (fun c5907 => ?_)
                        · replace hm := it_f c5907 hm
                          refine lv_iconst (v := 0) hx hb dX5_referenceCount_90 (by decide) ?_
                          refine lv_iadd hx hb dX5_referenceCount_91 ?_
                          refine lv_istore_n (lv' := [(2, .int (v59_2 + 0)), (0, .ref (b 0)), (1, .int u50_1), (3, .int v50_3), (4, .int v59_4)]) hx hb dX5_referenceCount_92 rfl hl (by decide) rfl (fun ls hl => ?_)
                          refine lv_iinc (v := (v59_4 + 1)) (lv' := [(4, .int (v59_4 + 1)), (2, .int (v59_2 + 0)), (0, .ref (b 0)), (1, .int u50_1), (3, .int v50_3)]) hx hb dX5_referenceCount_93 hl (k := 4) rfl rfl (by decide) rfl (fun ls hl => ?_)
                          refine lv_goto (tgt := 59) hx hb dX5_referenceCount_96 (by decide) ?_
                          exact ih59 (v59_2 + 0) (v59_4 + 1) hm _ _ _ hP hD hS (lv_sub hl [2, 3, 1, 4, 0] rfl)
                        · replace hm := it_t c5907 hm
                          refine lv_iconst (v := 1) hx hb dX5_referenceCount_86 (by decide) ?_
                          refine lv_goto (tgt := 91) hx hb dX5_referenceCount_87 (by decide) ?_
                          refine lv_iadd hx hb dX5_referenceCount_91 ?_
                          refine lv_istore_n (lv' := [(2, .int (v59_2 + 1)), (0, .ref (b 0)), (1, .int u50_1), (3, .int v50_3), (4, .int v59_4)]) hx hb dX5_referenceCount_92 rfl hl (by decide) rfl (fun ls hl => ?_)
                          refine lv_iinc (v := (v59_4 + 1)) (lv' := [(4, .int (v59_4 + 1)), (2, .int (v59_2 + 1)), (0, .ref (b 0)), (1, .int u50_1), (3, .int v50_3)]) hx hb dX5_referenceCount_93 hl (k := 4) rfl rfl (by decide) rfl (fun ls hl => ?_)
                          refine lv_goto (tgt := 59) hx hb dX5_referenceCount_96 (by decide) ?_
                          exact ih59 (v59_2 + 1) (v59_4 + 1) hm _ _ _ hP hD hS (lv_sub hl [2, 3, 1, 4, 0] rfl)
                exact L59 N v50_2 3 hm _ _ _ hP hD hS (lv_sub hl [1, 2, 3, 4, 0] rfl)
          exact L50 u14_1 N v14_2 0 hm _ _ _ hP hD hS (lv_sub hl [1, 2, 3, 0] rfl)
        · replace hm := it_f c1401 hm
          refine lv_iload_n hx hb dX5_referenceCount_20 rfl (lv_at hl 2 rfl) ?_
          refine lv_aload_n hx hb dX5_referenceCount_21 rfl (lv_at hl 0 rfl) ?_
          refine va_get (D := G.1) (ci := 5) (v := .ref (b 1)) (C := RX5) (T := TX5) (N := 5) hx hb hts w1_X5_referenceCount hown hK.1 hP 0 rfl rfl 0 (by decide) (hts _ w0_X5_referenceCount) (fun _ h9 => h9) rfl dX5_referenceCount_22 ?_
          refine lv_sipush (v := 360) hx hb dX5_referenceCount_25 (by decide) ?_
          refine lv_iload_n hx hb dX5_referenceCount_28 rfl (lv_at hl 3 rfl) ?_
          refine lv_iadd hx hb dX5_referenceCount_29 ?_
          obtain ⟨hi1403, hm⟩ := gd_s hm
          refine va_iald hx hb hK.1 hP 1 0 rfl rfl hi1403 dX5_referenceCount_30 ?_
          refine lv_iload_n hx hb dX5_referenceCount_31 rfl (lv_at hl 1 rfl) ?_
          refine lv_icmp_ne (tgt := 39) hx hb dX5_referenceCount_32 (by decide) (fun c1404 => ?_) (fun c1404 => ?_)
          · replace hm := it_f c1404 hm
            refine lv_iconst (v := 0) hx hb dX5_referenceCount_39 (by decide) ?_
            refine lv_iadd hx hb dX5_referenceCount_40 ?_
            refine lv_istore_n (lv' := [(2, .int (v14_2 + 0)), (0, .ref (b 0)), (1, .int u14_1), (3, .int v14_3)]) hx hb dX5_referenceCount_41 rfl hl (by decide) rfl (fun ls hl => ?_)
            refine lv_iinc (v := (v14_3 + 1)) (lv' := [(3, .int (v14_3 + 1)), (2, .int (v14_2 + 0)), (0, .ref (b 0)), (1, .int u14_1)]) hx hb dX5_referenceCount_42 hl (k := 3) rfl rfl (by decide) rfl (fun ls hl => ?_)
            refine lv_goto (tgt := 14) hx hb dX5_referenceCount_45 (by decide) ?_
            exact ih14 (v14_2 + 0) (v14_3 + 1) hm _ _ _ hP hD hS (lv_sub hl [2, 3, 1, 0] rfl)
          · replace hm := it_t c1404 hm
            refine lv_iconst (v := 1) hx hb dX5_referenceCount_35 (by decide) ?_
            refine lv_goto (tgt := 40) hx hb dX5_referenceCount_36 (by decide) ?_
            refine lv_iadd hx hb dX5_referenceCount_40 ?_
            refine lv_istore_n (lv' := [(2, .int (v14_2 + 1)), (0, .ref (b 0)), (1, .int u14_1), (3, .int v14_3)]) hx hb dX5_referenceCount_41 rfl hl (by decide) rfl (fun ls hl => ?_)
            refine lv_iinc (v := (v14_3 + 1)) (lv' := [(3, .int (v14_3 + 1)), (2, .int (v14_2 + 1)), (0, .ref (b 0)), (1, .int u14_1)]) hx hb dX5_referenceCount_42 hl (k := 3) rfl rfl (by decide) rfl (fun ls hl => ?_)
            refine lv_goto (tgt := 14) hx hb dX5_referenceCount_45 (by decide) ?_
            exact ih14 (v14_2 + 1) (v14_3 + 1) hm _ _ _ hP hD hS (lv_sub hl [2, 3, 1, 0] rfl)
    exact L14 p1 N 0 0 hm _ _ _ hP hD hS (lv_sub hl [2, 3, 1, 0] rfl)
  · replace hm := it_t c3 hm
    refine lv_iconst (v := (-1)) hx hb dX5_referenceCount_8 (by decide) ?_
    cases hm
    exact rt_i hx hb hr hlocks hP hD hS dX5_referenceCount_9
