def M_X5_within (p0 : Int32) (p1 : Int32) (p2 : Int32) : Option (Int32) :=
  if p0 < p1 then (some 0) else (if p2 < p0 then (some 0) else (some 1))
abbrev rm_X5_within : Room := { frames := 0, cells := 0, slots := 0, locals := 0 }
set_option maxHeartbeats 4000000 in
set_option maxRecDepth 100000 in
theorem c_X5_within (l : Launch) (G : GG) (p0 : Int32) (p1 : Int32) (p2 : Int32) (q : Int32) (hm : M_X5_within p0 p1 p2 = some q) : CTi l yX5_within wsX5_within rm_X5_within G [.int p0, .int p1, .int p2] ([] : va_W) q ([] : va_W) := by
  intro sz
  refine mk_body (Qc := fun A => (QI G A q ([] : va_W))) (cc := cX5_within) (maxL := 3) (ret := (some .boolean)) (lv := [(0, .int p0), (1, .int p1), (2, .int p2)]) (by decide) rfl rfl (Nat.le_of_ble_eq_true rfl) ?_
  intro p e s m args below meth c A H locs ls hF hr hlocks hname hK hA hP hD hS hl
  obtain ⟨hx, hb, hml, hown, hts⟩ := id hF
  unfold M_X5_within at hm
  refine lv_iload_n hx hb dX5_within_0 rfl (lv_at hl 0 rfl) ?_
  refine lv_iload_n hx hb dX5_within_1 rfl (lv_at hl 1 rfl) ?_
  refine lv_icmp_lt (tgt := 14) hx hb dX5_within_2 (by decide) (fun c1 => ?_) (fun c1 => ?_)
  · replace hm := it_t c1 hm
    refine lv_iconst (v := 0) hx hb dX5_within_14 (by decide) ?_
    cases hm
    exact rt_z (r := 0) hx hb hr hlocks rfl hP hD hS dX5_within_15
  · replace hm := it_f c1 hm
    refine lv_iload_n hx hb dX5_within_5 rfl (lv_at hl 0 rfl) ?_
    refine lv_iload_n hx hb dX5_within_6 rfl (lv_at hl 2 rfl) ?_
    refine lv_icmp_gt (tgt := 14) hx hb dX5_within_7 (by decide) (fun c2 => ?_) (fun c2 => ?_)
    · replace hm := it_t c2 hm
      refine lv_iconst (v := 0) hx hb dX5_within_14 (by decide) ?_
      cases hm
      exact rt_z (r := 0) hx hb hr hlocks rfl hP hD hS dX5_within_15
    · replace hm := it_f c2 hm
      refine lv_iconst (v := 1) hx hb dX5_within_10 (by decide) ?_
      refine lv_goto (tgt := 15) hx hb dX5_within_11 (by decide) ?_
      cases hm
      exact rt_z (r := 1) hx hb hr hlocks rfl hP hD hS dX5_within_15
def M_X5_copyState_L2 (u2_1 : Int32) (u2_2 : Int32) : Nat → (Int32) → (Nat → Int32) → Option ((Nat → Int32))
  | 0, _, _ => none
  | n2 + 1, v2_3, w2_ => if 388 ≤ v2_3 then (some w2_) else (gd ((388 * u2_1) + v2_3) 3880 (gd ((388 * u2_2) + v2_3) 3880 (M_X5_copyState_L2 u2_1 u2_2 n2 (v2_3 + 1) (upd w2_ ((388 * u2_2) + v2_3).toNatClampNeg (w2_ ((388 * u2_1) + v2_3).toNatClampNeg)))))
def M_X5_copyState (N : Nat) (w : Nat → Int32) (p1 : Int32) (p2 : Int32) : Option ((Nat → Int32)) :=
  M_X5_copyState_L2 p1 p2 N 0 w
theorem w0_X5_copyState : Cond.fieldLink RX5 7 "WeakTableHeapModel" "w" "[I" ∈ wsX5_copyState := by decide +kernel
theorem w1_X5_copyState : ∀ w ∈ u_ws RX5 TX5 5, w ∈ wsX5_copyState := by decide +kernel
abbrev rm_X5_copyState : Room := { frames := 0, cells := 0, slots := 0, locals := 0 }
set_option maxHeartbeats 4000000 in
set_option maxRecDepth 100000 in
theorem c_X5_copyState (l : Launch) (G : GG) (N : Nat) (b : Nat → Nat) (w : Nat → Int32) (dep : Int32) (kept : Nat → Int32) (mark : Nat → Int32) (start : Nat → Int32) (p1 : Int32) (p2 : Int32) (q : (Nat → Int32)) (hm : M_X5_copyState N w p1 p2 = some q) : CTv l yX5_copyState wsX5_copyState rm_X5_copyState G [.ref (b 0), .int p1, .int p2] (wMD G b w dep kept mark start) (wMD G b q dep kept mark start) := by
  intro sz
  refine mk_body (Qc := fun A => (QV G A (wMD G b q dep kept mark start))) (cc := cX5_copyState) (maxL := 4) (ret := none) (lv := [(0, .ref (b 0)), (1, .int p1), (2, .int p2)]) (by decide) rfl rfl (Nat.le_of_ble_eq_true rfl) ?_
  intro p e s m args below meth c A H locs ls hF hr hlocks hname hK hA hP hD hS hl
  obtain ⟨hx, hb, hml, hown, hts⟩ := id hF
  unfold M_X5_copyState at hm
  refine lv_iconst (v := 0) hx hb dX5_copyState_0 (by decide) ?_
  refine lv_istore_n (lv' := [(3, .int 0), (0, .ref (b 0)), (1, .int p1), (2, .int p2)]) hx hb dX5_copyState_1 rfl hl (by decide) rfl (fun ls hl => ?_)
  have L2 : ∀ (u2_1 : Int32) (u2_2 : Int32) (n2 : Nat) (v2_3 : Int32) (w2_ : Nat → Int32), M_X5_copyState_L2 u2_1 u2_2 n2 v2_3 w2_ = some q → ∀ (H : Heap) (locs : List Loc) (ls : Array Slot), va_P G.1 vwCl (wMD G b w2_ dep kept mark start) H → va_D A (wMD G b w2_ dep kept mark start) → va_S A s.heap H locs → lv_has ls 4 [(0, .ref (b 0)), (1, .int u2_1), (2, .int u2_2), (3, .int v2_3)] → W p l e rm_X5_copyState s m args below meth c H locs 0 0 (MQ below (QV G A (wMD G b q dep kept mark start)) args s rm_X5_copyState.cells rm_X5_copyState.slots A) (F0 m 2 ls []) := by
    intro u2_1 u2_2 n2
    induction n2 with
    | zero => intro v2_3 w2_ hm; cases hm
    | succ n2 ih2 =>
      intro v2_3 w2_ hm H locs ls hP hD hS hl
      rw [M_X5_copyState_L2] at hm
      refine lv_iload_n hx hb dX5_copyState_2 rfl (lv_at hl 3 rfl) ?_
      refine lv_sipush (v := 388) hx hb dX5_copyState_3 (by decide) ?_
      refine lv_icmp_ge (tgt := 39) hx hb dX5_copyState_6 (by decide) (fun c201 => ?_) (fun c201 => ?_)
      · replace hm := it_t c201 hm
        cases hm
        exact rt_v hx hb hr hlocks hP hD hS dX5_copyState_39
      · replace hm := it_f c201 hm
        refine lv_aload_n hx hb dX5_copyState_9 rfl (lv_at hl 0 rfl) ?_
        refine va_get (D := G.1) (ci := 5) (v := .ref (b 1)) (C := RX5) (T := TX5) (N := 5) hx hb hts w1_X5_copyState hown hK.1 hP 0 rfl rfl 0 (by decide) (hts _ w0_X5_copyState) (fun _ h9 => h9) rfl dX5_copyState_10 ?_
        refine lv_sipush (v := 388) hx hb dX5_copyState_13 (by decide) ?_
        refine lv_iload_n hx hb dX5_copyState_16 rfl (lv_at hl 2 rfl) ?_
        refine lv_imul hx hb dX5_copyState_17 ?_
        refine lv_iload_n hx hb dX5_copyState_18 rfl (lv_at hl 3 rfl) ?_
        refine lv_iadd hx hb dX5_copyState_19 ?_
        refine lv_aload_n hx hb dX5_copyState_20 rfl (lv_at hl 0 rfl) ?_
        refine va_get (D := G.1) (ci := 5) (v := .ref (b 1)) (C := RX5) (T := TX5) (N := 5) hx hb hts w1_X5_copyState hown hK.1 hP 0 rfl rfl 0 (by decide) (hts _ w0_X5_copyState) (fun _ h9 => h9) rfl dX5_copyState_21 ?_
        refine lv_sipush (v := 388) hx hb dX5_copyState_24 (by decide) ?_
        refine lv_iload_n hx hb dX5_copyState_27 rfl (lv_at hl 1 rfl) ?_
        refine lv_imul hx hb dX5_copyState_28 ?_
        refine lv_iload_n hx hb dX5_copyState_29 rfl (lv_at hl 3 rfl) ?_
        refine lv_iadd hx hb dX5_copyState_30 ?_
        obtain ⟨hi202, hm⟩ := gd_s hm
        refine va_iald hx hb hK.1 hP 1 0 rfl rfl hi202 dX5_copyState_31 ?_
        obtain ⟨hi203, hm⟩ := gd_s hm
        refine va_iast hx hb hK.1 hP hD hS 1 0 rfl rfl hi203 dX5_copyState_32 (fun H locs hP hD hS => ?_)
        have hP : va_P G.1 vwCl (wMD G b (upd w2_ ((388 * u2_2) + v2_3).toNatClampNeg (w2_ ((388 * u2_1) + v2_3).toNatClampNeg)) dep kept mark start) H := hP
        have hD : va_D A (wMD G b (upd w2_ ((388 * u2_2) + v2_3).toNatClampNeg (w2_ ((388 * u2_1) + v2_3).toNatClampNeg)) dep kept mark start) := hD
        refine lv_iinc (v := (v2_3 + 1)) (lv' := [(3, .int (v2_3 + 1)), (0, .ref (b 0)), (1, .int u2_1), (2, .int u2_2)]) hx hb dX5_copyState_33 hl (k := 3) rfl rfl (by decide) rfl (fun ls hl => ?_)
        refine lv_goto (tgt := 2) hx hb dX5_copyState_36 (by decide) ?_
        exact ih2 (v2_3 + 1) (upd w2_ ((388 * u2_2) + v2_3).toNatClampNeg (w2_ ((388 * u2_1) + v2_3).toNatClampNeg)) hm _ _ _ hP hD hS (lv_sub hl [1, 2, 3, 0] rfl)
  exact L2 p1 p2 N 0 w hm _ _ _ hP hD hS (lv_sub hl [1, 2, 3, 0] rfl)
def M_X5_saveState_L11 (N : Nat) (dep11u : Int32) : Nat → (Int32) → (Nat → Int32) → Option ((Nat → Int32) × Int32)
  | 0, _, _ => none
  | n11 + 1, v11_1, w11_ => if 7 ≤ v11_1 then ((M_X5_copyState N w11_ 0 (2 + (dep11u - 1))).bind fun q1102 => some (q1102, ((dep11u - 1) + 1))) else ((M_X5_copyState N w11_ (v11_1 + 1) v11_1).bind fun q1104 => M_X5_saveState_L11 N dep11u n11 (v11_1 + 1) q1104)
def M_X5_saveState (N : Nat) (w : Nat → Int32) (dep : Int32) : Option ((Nat → Int32) × Int32) :=
  if dep = 6 then (M_X5_saveState_L11 N dep N 2 w) else ((M_X5_copyState N w 0 (2 + dep)).bind fun q2 => some (q2, (dep + 1)))
theorem w0_X5_saveState : Cond.fieldLink RX5 23 "WeakTableHeapModel" "depth" "I" ∈ wsX5_saveState := by decide +kernel
theorem w1_X5_saveState : ∀ w ∈ u_ws RX5 TX5 5, w ∈ wsX5_saveState := by decide +kernel
abbrev rm_X5_saveState : Room := { frames := 1, cells := 0, slots := 0, locals := 23 }
set_option maxHeartbeats 4000000 in
set_option maxRecDepth 100000 in
theorem c_X5_saveState (l : Launch) (G : GG) (N : Nat) (b : Nat → Nat) (w : Nat → Int32) (dep : Int32) (kept : Nat → Int32) (mark : Nat → Int32) (start : Nat → Int32) (q : (Nat → Int32) × Int32) (hm : M_X5_saveState N w dep = some q) : CTv l yX5_saveState wsX5_saveState rm_X5_saveState G [.ref (b 0)] (wMD G b w dep kept mark start) (wMD G b q.1 q.2 kept mark start) := by
  intro sz
  refine mk_body (Qc := fun A => (QV G A (wMD G b q.1 q.2 kept mark start))) (cc := cX5_saveState) (maxL := 2) (ret := none) (lv := [(0, .ref (b 0))]) (by decide) rfl rfl (Nat.le_of_ble_eq_true rfl) ?_
  intro p e s m args below meth c A H locs ls hF hr hlocks hname hK hA hP hD hS hl
  obtain ⟨hx, hb, hml, hown, hts⟩ := id hF
  unfold M_X5_saveState at hm
  refine lv_aload_n hx hb dX5_saveState_0 rfl (lv_at hl 0 rfl) ?_
  refine va_get (D := G.1) (ci := 5) (v := .int dep) (C := RX5) (T := TX5) (N := 5) hx hb hts w1_X5_saveState hown hK.1 hP 0 rfl rfl 1 (by decide) (hts _ w0_X5_saveState) (fun _ h9 => h9) rfl dX5_saveState_1 ?_
  refine lv_bipush (v := 6) hx hb dX5_saveState_4 (by decide) ?_
  refine lv_icmp_ne (tgt := 41) hx hb dX5_saveState_6 (by decide) (fun c1 => ?_) (fun c1 => ?_)
  · replace hm := it_f c1 hm
    refine lv_aload_n hx hb dX5_saveState_41 rfl (lv_at hl 0 rfl) ?_
    refine lv_iconst (v := 0) hx hb dX5_saveState_42 (by decide) ?_
    refine lv_iconst (v := 2) hx hb dX5_saveState_43 (by decide) ?_
    refine lv_aload_n hx hb dX5_saveState_44 rfl (lv_at hl 0 rfl) ?_
    refine va_get (D := G.1) (ci := 5) (v := .int dep) (C := RX5) (T := TX5) (N := 5) hx hb hts w1_X5_saveState hown hK.1 hP 0 rfl rfl 1 (by decide) (hts _ w0_X5_saveState) (fun _ h9 => h9) rfl dX5_saveState_45 ?_
    refine lv_iadd hx hb dX5_saveState_48 ?_
    obtain ⟨q2, hc3, hm⟩ := bd_s hm
    refine ks_v (wo := (wMD G b q2 dep kept mark start)) (rV (As := [.int 0, .int (2 + dep)]) (rest := []) (b := (b 0)) (wi := (wMD G b w dep kept mark start)) hF hK hP hD (c_X5_copyState l G N b w dep kept mark start 0 (2 + dep) q2 hc3 H.size) (cwV 2 hts gX5_saveState_X5_copyState rfl rfl rfl (by decide +kernel) ⟨Nat.le_of_ble_eq_true rfl, Nat.le_of_ble_eq_true rfl⟩) (va_recv hK.1 hP (ci := 5) (q0 := 0) rfl rfl) rfl hl.1 rfl (Nat.le_of_ble_eq_true rfl) dX5_saveState_49 ⟨Nat.le_of_ble_eq_true rfl, Nat.le_of_ble_eq_true rfl⟩) hD hS hA (fun H locs hP hD hS => ?_)
    have hP : va_P G.1 vwCl (wMD G b q2 dep kept mark start) H := hP
    have hD : va_D A (wMD G b q2 dep kept mark start) := hD
    refine lv_aload_n hx hb dX5_saveState_52 rfl (lv_at hl 0 rfl) ?_
    refine lv_dup hx hb dX5_saveState_53 rfl ?_
    refine va_get (D := G.1) (ci := 5) (v := .int dep) (C := RX5) (T := TX5) (N := 5) hx hb hts w1_X5_saveState hown hK.1 hP 0 rfl rfl 1 (by decide) (hts _ w0_X5_saveState) (fun _ h9 => h9) rfl dX5_saveState_54 ?_
    refine lv_iconst (v := 1) hx hb dX5_saveState_57 (by decide) ?_
    refine lv_iadd hx hb dX5_saveState_58 ?_
    refine va_put (D := G.1) (ci := 5) (v := .int (dep + 1)) (ty := .int) (C := RX5) (T := TX5) (N := 5) hx hb hts w1_X5_saveState tyX5 tyX5_ok nmX5 hown hK.1 hP hD hS 0 rfl rfl 1 (by decide) (hts _ w0_X5_saveState) (fun _ h9 => h9) rfl (by decide +kernel) rfl rfl (Nat.le_of_ble_eq_true rfl) dX5_saveState_59 (fun H locs hP hD hS => ?_)
    have hP : va_P G.1 vwCl (wMD G b q2 (dep + 1) kept mark start) H := hP
    have hD : va_D A (wMD G b q2 (dep + 1) kept mark start) := hD
    cases hm
    exact rt_v hx hb hr hlocks hP hD hS dX5_saveState_62
  · replace hm := it_t c1 hm
    refine lv_iconst (v := 2) hx hb dX5_saveState_9 (by decide) ?_
    refine lv_istore_n (lv' := [(1, .int 2), (0, .ref (b 0))]) hx hb dX5_saveState_10 rfl hl (by decide) rfl (fun ls hl => ?_)
    have L11 : ∀ (dep11u : Int32) (n11 : Nat) (v11_1 : Int32) (w11_ : Nat → Int32), M_X5_saveState_L11 N dep11u n11 v11_1 w11_ = some q → ∀ (H : Heap) (locs : List Loc) (ls : Array Slot), va_P G.1 vwCl (wMD G b w11_ dep11u kept mark start) H → va_D A (wMD G b w11_ dep11u kept mark start) → va_S A s.heap H locs → lv_has ls 2 [(0, .ref (b 0)), (1, .int v11_1)] → W p l e rm_X5_saveState s m args below meth c H locs 0 0 (MQ below (QV G A (wMD G b q.1 q.2 kept mark start)) args s rm_X5_saveState.cells rm_X5_saveState.slots A) (F0 m 11 ls []) := by
      intro dep11u n11
      induction n11 with
      | zero => intro v11_1 w11_ hm; cases hm
      | succ n11 ih11 =>
        intro v11_1 w11_ hm H locs ls hP hD hS hl
        rw [M_X5_saveState_L11] at hm
        refine lv_iload_n hx hb dX5_saveState_11 rfl (lv_at hl 1 rfl) ?_
        refine lv_bipush (v := 7) hx hb dX5_saveState_12 (by decide) ?_
        refine lv_icmp_ge (tgt := 31) hx hb dX5_saveState_14 (by decide) (fun c1101 => ?_) (fun c1101 => ?_)
        · replace hm := it_t c1101 hm
          refine lv_aload_n hx hb dX5_saveState_31 rfl (lv_at hl 0 rfl) ?_
          refine lv_dup hx hb dX5_saveState_32 rfl ?_
          refine va_get (D := G.1) (ci := 5) (v := .int dep11u) (C := RX5) (T := TX5) (N := 5) hx hb hts w1_X5_saveState hown hK.1 hP 0 rfl rfl 1 (by decide) (hts _ w0_X5_saveState) (fun _ h9 => h9) rfl dX5_saveState_33 ?_
          refine lv_iconst (v := 1) hx hb dX5_saveState_36 (by decide) ?_
          refine lv_isub hx hb dX5_saveState_37 ?_
          refine va_put (D := G.1) (ci := 5) (v := .int (dep11u - 1)) (ty := .int) (C := RX5) (T := TX5) (N := 5) hx hb hts w1_X5_saveState tyX5 tyX5_ok nmX5 hown hK.1 hP hD hS 0 rfl rfl 1 (by decide) (hts _ w0_X5_saveState) (fun _ h9 => h9) rfl (by decide +kernel) rfl rfl (Nat.le_of_ble_eq_true rfl) dX5_saveState_38 (fun H locs hP hD hS => ?_)
          have hP : va_P G.1 vwCl (wMD G b w11_ (dep11u - 1) kept mark start) H := hP
          have hD : va_D A (wMD G b w11_ (dep11u - 1) kept mark start) := hD
          refine lv_aload_n hx hb dX5_saveState_41 rfl (lv_at hl 0 rfl) ?_
          refine lv_iconst (v := 0) hx hb dX5_saveState_42 (by decide) ?_
          refine lv_iconst (v := 2) hx hb dX5_saveState_43 (by decide) ?_
          refine lv_aload_n hx hb dX5_saveState_44 rfl (lv_at hl 0 rfl) ?_
          refine va_get (D := G.1) (ci := 5) (v := .int (dep11u - 1)) (C := RX5) (T := TX5) (N := 5) hx hb hts w1_X5_saveState hown hK.1 hP 0 rfl rfl 1 (by decide) (hts _ w0_X5_saveState) (fun _ h9 => h9) rfl dX5_saveState_45 ?_
          refine lv_iadd hx hb dX5_saveState_48 ?_
          obtain ⟨q1102, hc1103, hm⟩ := bd_s hm
          refine ks_v (wo := (wMD G b q1102 (dep11u - 1) kept mark start)) (rV (As := [.int 0, .int (2 + (dep11u - 1))]) (rest := []) (b := (b 0)) (wi := (wMD G b w11_ (dep11u - 1) kept mark start)) hF hK hP hD (c_X5_copyState l G N b w11_ (dep11u - 1) kept mark start 0 (2 + (dep11u - 1)) q1102 hc1103 H.size) (cwV 2 hts gX5_saveState_X5_copyState rfl rfl rfl (by decide +kernel) ⟨Nat.le_of_ble_eq_true rfl, Nat.le_of_ble_eq_true rfl⟩) (va_recv hK.1 hP (ci := 5) (q0 := 0) rfl rfl) rfl hl.1 rfl (Nat.le_of_ble_eq_true rfl) dX5_saveState_49 ⟨Nat.le_of_ble_eq_true rfl, Nat.le_of_ble_eq_true rfl⟩) hD hS hA (fun H locs hP hD hS => ?_)
          have hP : va_P G.1 vwCl (wMD G b q1102 (dep11u - 1) kept mark start) H := hP
          have hD : va_D A (wMD G b q1102 (dep11u - 1) kept mark start) := hD
          refine lv_aload_n hx hb dX5_saveState_52 rfl (lv_at hl 0 rfl) ?_
          refine lv_dup hx hb dX5_saveState_53 rfl ?_
          refine va_get (D := G.1) (ci := 5) (v := .int (dep11u - 1)) (C := RX5) (T := TX5) (N := 5) hx hb hts w1_X5_saveState hown hK.1 hP 0 rfl rfl 1 (by decide) (hts _ w0_X5_saveState) (fun _ h9 => h9) rfl dX5_saveState_54 ?_
          refine lv_iconst (v := 1) hx hb dX5_saveState_57 (by decide) ?_
          refine lv_iadd hx hb dX5_saveState_58 ?_
          refine va_put (D := G.1) (ci := 5) (v := .int ((dep11u - 1) + 1)) (ty := .int) (C := RX5) (T := TX5) (N := 5) hx hb hts w1_X5_saveState tyX5 tyX5_ok nmX5 hown hK.1 hP hD hS 0 rfl rfl 1 (by decide) (hts _ w0_X5_saveState) (fun _ h9 => h9) rfl (by decide +kernel) rfl rfl (Nat.le_of_ble_eq_true rfl) dX5_saveState_59 (fun H locs hP hD hS => ?_)
          have hP : va_P G.1 vwCl (wMD G b q1102 ((dep11u - 1) + 1) kept mark start) H := hP
          have hD : va_D A (wMD G b q1102 ((dep11u - 1) + 1) kept mark start) := hD
          cases hm
          exact rt_v hx hb hr hlocks hP hD hS dX5_saveState_62
        · replace hm := it_f c1101 hm
          refine lv_aload_n hx hb dX5_saveState_17 rfl (lv_at hl 0 rfl) ?_
          refine lv_iload_n hx hb dX5_saveState_18 rfl (lv_at hl 1 rfl) ?_
          refine lv_iconst (v := 1) hx hb dX5_saveState_19 (by decide) ?_
          refine lv_iadd hx hb dX5_saveState_20 ?_
          refine lv_iload_n hx hb dX5_saveState_21 rfl (lv_at hl 1 rfl) ?_
          obtain ⟨q1104, hc1105, hm⟩ := bd_s hm
          refine ks_v (wo := (wMD G b q1104 dep11u kept mark start)) (rV (As := [.int (v11_1 + 1), .int v11_1]) (rest := []) (b := (b 0)) (wi := (wMD G b w11_ dep11u kept mark start)) hF hK hP hD (c_X5_copyState l G N b w11_ dep11u kept mark start (v11_1 + 1) v11_1 q1104 hc1105 H.size) (cwV 2 hts gX5_saveState_X5_copyState rfl rfl rfl (by decide +kernel) ⟨Nat.le_of_ble_eq_true rfl, Nat.le_of_ble_eq_true rfl⟩) (va_recv hK.1 hP (ci := 5) (q0 := 0) rfl rfl) rfl hl.1 rfl (Nat.le_of_ble_eq_true rfl) dX5_saveState_22 ⟨Nat.le_of_ble_eq_true rfl, Nat.le_of_ble_eq_true rfl⟩) hD hS hA (fun H locs hP hD hS => ?_)
          have hP : va_P G.1 vwCl (wMD G b q1104 dep11u kept mark start) H := hP
          have hD : va_D A (wMD G b q1104 dep11u kept mark start) := hD
          refine lv_iinc (v := (v11_1 + 1)) (lv' := [(1, .int (v11_1 + 1)), (0, .ref (b 0))]) hx hb dX5_saveState_25 hl (k := 1) rfl rfl (by decide) rfl (fun ls hl => ?_)
          refine lv_goto (tgt := 11) hx hb dX5_saveState_28 (by decide) ?_
          exact ih11 (v11_1 + 1) q1104 hm _ _ _ hP hD hS (lv_sub hl [1, 0] rfl)
    exact L11 dep N 2 w hm _ _ _ hP hD hS (lv_sub hl [1, 0] rfl)
def M_X5_part (w : Nat → Int32) (p1 : Int32) (p2 : Int32) : Option (Int32) :=
  gd ((15 * p1) + p2) 3880 (some (w ((15 * p1) + p2).toNatClampNeg))
theorem w0_X5_part : Cond.fieldLink RX5 7 "WeakTableHeapModel" "w" "[I" ∈ wsX5_part := by decide +kernel
theorem w1_X5_part : ∀ w ∈ u_ws RX5 TX5 5, w ∈ wsX5_part := by decide +kernel
abbrev rm_X5_part : Room := { frames := 0, cells := 0, slots := 0, locals := 0 }
set_option maxHeartbeats 4000000 in
set_option maxRecDepth 100000 in
theorem c_X5_part (l : Launch) (G : GG) (b : Nat → Nat) (w : Nat → Int32) (dep : Int32) (kept : Nat → Int32) (mark : Nat → Int32) (start : Nat → Int32) (p1 : Int32) (p2 : Int32) (q : Int32) (hm : M_X5_part w p1 p2 = some q) : CTi l yX5_part wsX5_part rm_X5_part G [.ref (b 0), .int p1, .int p2] (wMD G b w dep kept mark start) q (wMD G b w dep kept mark start) := by
  intro sz
  refine mk_body (Qc := fun A => (QI G A q (wMD G b w dep kept mark start))) (cc := cX5_part) (maxL := 3) (ret := (some .int)) (lv := [(0, .ref (b 0)), (1, .int p1), (2, .int p2)]) (by decide) rfl rfl (Nat.le_of_ble_eq_true rfl) ?_
  intro p e s m args below meth c A H locs ls hF hr hlocks hname hK hA hP hD hS hl
  obtain ⟨hx, hb, hml, hown, hts⟩ := id hF
  unfold M_X5_part at hm
  refine lv_aload_n hx hb dX5_part_0 rfl (lv_at hl 0 rfl) ?_
  refine va_get (D := G.1) (ci := 5) (v := .ref (b 1)) (C := RX5) (T := TX5) (N := 5) hx hb hts w1_X5_part hown hK.1 hP 0 rfl rfl 0 (by decide) (hts _ w0_X5_part) (fun _ h9 => h9) rfl dX5_part_1 ?_
  refine lv_bipush (v := 15) hx hb dX5_part_4 (by decide) ?_
  refine lv_iload_n hx hb dX5_part_6 rfl (lv_at hl 1 rfl) ?_
  refine lv_imul hx hb dX5_part_7 ?_
  refine lv_iload_n hx hb dX5_part_8 rfl (lv_at hl 2 rfl) ?_
  refine lv_iadd hx hb dX5_part_9 ?_
  obtain ⟨hi1, hm⟩ := gd_s hm
  refine va_iald hx hb hK.1 hP 1 0 rfl rfl hi1 dX5_part_10 ?_
  cases hm
  exact rt_i hx hb hr hlocks hP hD hS dX5_part_11
def M_X5_isAllocated (w : Nat → Int32) (p1 : Int32) : Option (Int32) :=
  (M_X5_within p1 0 23).bind fun q1 => if q1 = 0 then (some 0) else ((M_X5_part w p1 0).bind fun q4 => if q4 = (-9) then (some 0) else (some 1))
abbrev rm_X5_isAllocated : Room := { frames := 1, cells := 0, slots := 0, locals := 22 }
set_option maxHeartbeats 4000000 in
set_option maxRecDepth 100000 in
theorem c_X5_isAllocated (l : Launch) (G : GG) (b : Nat → Nat) (w : Nat → Int32) (dep : Int32) (kept : Nat → Int32) (mark : Nat → Int32) (start : Nat → Int32) (p1 : Int32) (q : Int32) (hm : M_X5_isAllocated w p1 = some q) : CTi l yX5_isAllocated wsX5_isAllocated rm_X5_isAllocated G [.ref (b 0), .int p1] (wMD G b w dep kept mark start) q (wMD G b w dep kept mark start) := by
  intro sz
  refine mk_body (Qc := fun A => (QI G A q (wMD G b w dep kept mark start))) (cc := cX5_isAllocated) (maxL := 2) (ret := (some .boolean)) (lv := [(0, .ref (b 0)), (1, .int p1)]) (by decide) rfl rfl (Nat.le_of_ble_eq_true rfl) ?_
  intro p e s m args below meth c A H locs ls hF hr hlocks hname hK hA hP hD hS hl
  obtain ⟨hx, hb, hml, hown, hts⟩ := id hF
  unfold M_X5_isAllocated at hm
  refine lv_iload_n hx hb dX5_isAllocated_0 rfl (lv_at hl 1 rfl) ?_
  refine lv_iconst (v := 0) hx hb dX5_isAllocated_1 (by decide) ?_
  refine lv_bipush (v := 23) hx hb dX5_isAllocated_2 (by decide) ?_
  obtain ⟨q1, hc2, hm⟩ := bd_s hm
  refine k0_i (ws := (wMD G b w dep kept mark start)) (rS (As := [.int p1, .int 0, .int 23]) (rest := []) (wi := ([] : va_W)) hF hK k0_P (k0_D (A := A)) (c_X5_within l G p1 0 23 q1 hc2 H.size) (va_cwS 3 hts gX5_isAllocated_X5_within rfl rfl rfl (by decide +kernel) ⟨Nat.le_of_ble_eq_true rfl, Nat.le_of_ble_eq_true rfl⟩) rfl hl.1 rfl (Nat.le_of_ble_eq_true rfl) dX5_isAllocated_4 ⟨Nat.le_of_ble_eq_true rfl, Nat.le_of_ble_eq_true rfl⟩) hP hS hA (fun H locs hP hS => ?_)
  refine lv_if_eq (tgt := 25) hx hb dX5_isAllocated_7 (by decide) (fun c3 => ?_) (fun c3 => ?_)
  · replace hm := it_t c3 hm
    refine lv_iconst (v := 0) hx hb dX5_isAllocated_25 (by decide) ?_
    cases hm
    exact rt_z (r := 0) hx hb hr hlocks rfl hP hD hS dX5_isAllocated_26
  · replace hm := it_f c3 hm
    refine lv_aload_n hx hb dX5_isAllocated_10 rfl (lv_at hl 0 rfl) ?_
    refine lv_iload_n hx hb dX5_isAllocated_11 rfl (lv_at hl 1 rfl) ?_
    refine lv_iconst (v := 0) hx hb dX5_isAllocated_12 (by decide) ?_
    obtain ⟨q4, hc5, hm⟩ := bd_s hm
    refine ks_i (wo := (wMD G b w dep kept mark start)) (rV (As := [.int p1, .int 0]) (rest := []) (b := (b 0)) (wi := (wMD G b w dep kept mark start)) hF hK hP hD (c_X5_part l G b w dep kept mark start p1 0 q4 hc5 H.size) (cwV 2 hts gX5_isAllocated_X5_part rfl rfl rfl (by decide +kernel) ⟨Nat.le_of_ble_eq_true rfl, Nat.le_of_ble_eq_true rfl⟩) (va_recv hK.1 hP (ci := 5) (q0 := 0) rfl rfl) rfl hl.1 rfl (Nat.le_of_ble_eq_true rfl) dX5_isAllocated_13 ⟨Nat.le_of_ble_eq_true rfl, Nat.le_of_ble_eq_true rfl⟩) hD hS hA (fun H locs hP hD hS => ?_)
    have hP : va_P G.1 vwCl (wMD G b w dep kept mark start) H := hP
    have hD : va_D A (wMD G b w dep kept mark start) := hD
    refine lv_bipush (v := (-9)) hx hb dX5_isAllocated_16 (by decide) ?_
    refine lv_icmp_eq (tgt := 25) hx hb dX5_isAllocated_18 (by decide) (fun c6 => ?_) (fun c6 => ?_)
    · replace hm := it_t c6 hm
      refine lv_iconst (v := 0) hx hb dX5_isAllocated_25 (by decide) ?_
      cases hm
      exact rt_z (r := 0) hx hb hr hlocks rfl hP hD hS dX5_isAllocated_26
    · replace hm := it_f c6 hm
      refine lv_iconst (v := 1) hx hb dX5_isAllocated_21 (by decide) ?_
      refine lv_goto (tgt := 26) hx hb dX5_isAllocated_22 (by decide) ?_
      cases hm
      exact rt_z (r := 1) hx hb hr hlocks rfl hP hD hS dX5_isAllocated_26
def M_X5_isKind (w : Nat → Int32) (p1 : Int32) (p2 : Int32) : Option (Int32) :=
  (M_X5_isAllocated w p1).bind fun q1 => if q1 = 0 then (some 0) else ((M_X5_part w p1 0).bind fun q4 => if q4 = p2 then (some 1) else (some 0))
abbrev rm_X5_isKind : Room := { frames := 2, cells := 0, slots := 0, locals := 43 }
set_option maxHeartbeats 4000000 in
set_option maxRecDepth 100000 in
theorem c_X5_isKind (l : Launch) (G : GG) (b : Nat → Nat) (w : Nat → Int32) (dep : Int32) (kept : Nat → Int32) (mark : Nat → Int32) (start : Nat → Int32) (p1 : Int32) (p2 : Int32) (q : Int32) (hm : M_X5_isKind w p1 p2 = some q) : CTi l yX5_isKind wsX5_isKind rm_X5_isKind G [.ref (b 0), .int p1, .int p2] (wMD G b w dep kept mark start) q (wMD G b w dep kept mark start) := by
  intro sz
  refine mk_body (Qc := fun A => (QI G A q (wMD G b w dep kept mark start))) (cc := cX5_isKind) (maxL := 3) (ret := (some .boolean)) (lv := [(0, .ref (b 0)), (1, .int p1), (2, .int p2)]) (by decide) rfl rfl (Nat.le_of_ble_eq_true rfl) ?_
  intro p e s m args below meth c A H locs ls hF hr hlocks hname hK hA hP hD hS hl
  obtain ⟨hx, hb, hml, hown, hts⟩ := id hF
  unfold M_X5_isKind at hm
  refine lv_aload_n hx hb dX5_isKind_0 rfl (lv_at hl 0 rfl) ?_
  refine lv_iload_n hx hb dX5_isKind_1 rfl (lv_at hl 1 rfl) ?_
  obtain ⟨q1, hc2, hm⟩ := bd_s hm
  refine ks_i (wo := (wMD G b w dep kept mark start)) (rV (As := [.int p1]) (rest := []) (b := (b 0)) (wi := (wMD G b w dep kept mark start)) hF hK hP hD (c_X5_isAllocated l G b w dep kept mark start p1 q1 hc2 H.size) (cwV 1 hts gX5_isKind_X5_isAllocated rfl rfl rfl (by decide +kernel) ⟨Nat.le_of_ble_eq_true rfl, Nat.le_of_ble_eq_true rfl⟩) (va_recv hK.1 hP (ci := 5) (q0 := 0) rfl rfl) rfl hl.1 rfl (Nat.le_of_ble_eq_true rfl) dX5_isKind_2 ⟨Nat.le_of_ble_eq_true rfl, Nat.le_of_ble_eq_true rfl⟩) hD hS hA (fun H locs hP hD hS => ?_)
  have hP : va_P G.1 vwCl (wMD G b w dep kept mark start) H := hP
  have hD : va_D A (wMD G b w dep kept mark start) := hD
  refine lv_if_eq (tgt := 22) hx hb dX5_isKind_5 (by decide) (fun c3 => ?_) (fun c3 => ?_)
  · replace hm := it_t c3 hm
    refine lv_iconst (v := 0) hx hb dX5_isKind_22 (by decide) ?_
    cases hm
    exact rt_z (r := 0) hx hb hr hlocks rfl hP hD hS dX5_isKind_23
  · replace hm := it_f c3 hm
    refine lv_aload_n hx hb dX5_isKind_8 rfl (lv_at hl 0 rfl) ?_
    refine lv_iload_n hx hb dX5_isKind_9 rfl (lv_at hl 1 rfl) ?_
    refine lv_iconst (v := 0) hx hb dX5_isKind_10 (by decide) ?_
    obtain ⟨q4, hc5, hm⟩ := bd_s hm
    refine ks_i (wo := (wMD G b w dep kept mark start)) (rV (As := [.int p1, .int 0]) (rest := []) (b := (b 0)) (wi := (wMD G b w dep kept mark start)) hF hK hP hD (c_X5_part l G b w dep kept mark start p1 0 q4 hc5 H.size) (cwV 2 hts gX5_isKind_X5_part rfl rfl rfl (by decide +kernel) ⟨Nat.le_of_ble_eq_true rfl, Nat.le_of_ble_eq_true rfl⟩) (va_recv hK.1 hP (ci := 5) (q0 := 0) rfl rfl) rfl hl.1 rfl (Nat.le_of_ble_eq_true rfl) dX5_isKind_11 ⟨Nat.le_of_ble_eq_true rfl, Nat.le_of_ble_eq_true rfl⟩) hD hS hA (fun H locs hP hD hS => ?_)
    have hP : va_P G.1 vwCl (wMD G b w dep kept mark start) H := hP
    have hD : va_D A (wMD G b w dep kept mark start) := hD
    refine lv_iload_n hx hb dX5_isKind_14 rfl (lv_at hl 2 rfl) ?_
    refine lv_icmp_ne (tgt := 22) hx hb dX5_isKind_15 (by decide) (fun c6 => ?_) (fun c6 => ?_)
    · replace hm := it_f c6 hm
      refine lv_iconst (v := 0) hx hb dX5_isKind_22 (by decide) ?_
      cases hm
      exact rt_z (r := 0) hx hb hr hlocks rfl hP hD hS dX5_isKind_23
    · replace hm := it_t c6 hm
      refine lv_iconst (v := 1) hx hb dX5_isKind_18 (by decide) ?_
      refine lv_goto (tgt := 23) hx hb dX5_isKind_19 (by decide) ?_
      cases hm
      exact rt_z (r := 1) hx hb hr hlocks rfl hP hD hS dX5_isKind_23
def M_X5_objectCount_L4 (w : Nat → Int32) : Nat → (Int32) → (Int32) → Option (Int32)
  | 0, _, _ => none
  | n4 + 1, v4_1, v4_2 => if 24 ≤ v4_2 then (some v4_1) else ((M_X5_isAllocated w v4_2).bind fun q402 => if q402 = 0 then (M_X5_objectCount_L4 w n4 (v4_1 + 0) (v4_2 + 1)) else (M_X5_objectCount_L4 w n4 (v4_1 + 1) (v4_2 + 1)))
def M_X5_objectCount (N : Nat) (w : Nat → Int32) : Option (Int32) :=
  M_X5_objectCount_L4 w N 0 0
abbrev rm_X5_objectCount : Room := { frames := 2, cells := 0, slots := 0, locals := 43 }
set_option maxHeartbeats 4000000 in
set_option maxRecDepth 100000 in
theorem c_X5_objectCount (l : Launch) (G : GG) (N : Nat) (b : Nat → Nat) (w : Nat → Int32) (dep : Int32) (kept : Nat → Int32) (mark : Nat → Int32) (start : Nat → Int32) (q : Int32) (hm : M_X5_objectCount N w = some q) : CTi l yX5_objectCount wsX5_objectCount rm_X5_objectCount G [.ref (b 0)] (wMD G b w dep kept mark start) q (wMD G b w dep kept mark start) := by
  intro sz
  refine mk_body (Qc := fun A => (QI G A q (wMD G b w dep kept mark start))) (cc := cX5_objectCount) (maxL := 3) (ret := (some .int)) (lv := [(0, .ref (b 0))]) (by decide) rfl rfl (Nat.le_of_ble_eq_true rfl) ?_
  intro p e s m args below meth c A H locs ls hF hr hlocks hname hK hA hP hD hS hl
  obtain ⟨hx, hb, hml, hown, hts⟩ := id hF
  unfold M_X5_objectCount at hm
  refine lv_iconst (v := 0) hx hb dX5_objectCount_0 (by decide) ?_
  refine lv_istore_n (lv' := [(1, .int 0), (0, .ref (b 0))]) hx hb dX5_objectCount_1 rfl hl (by decide) rfl (fun ls hl => ?_)
  refine lv_iconst (v := 0) hx hb dX5_objectCount_2 (by decide) ?_
  refine lv_istore_n (lv' := [(2, .int 0), (1, .int 0), (0, .ref (b 0))]) hx hb dX5_objectCount_3 rfl hl (by decide) rfl (fun ls hl => ?_)
  have L4 : ∀ (n4 : Nat) (v4_1 : Int32) (v4_2 : Int32), M_X5_objectCount_L4 w n4 v4_1 v4_2 = some q → ∀ (H : Heap) (locs : List Loc) (ls : Array Slot), va_P G.1 vwCl (wMD G b w dep kept mark start) H → va_D A (wMD G b w dep kept mark start) → va_S A s.heap H locs → lv_has ls 3 [(0, .ref (b 0)), (1, .int v4_1), (2, .int v4_2)] → W p l e rm_X5_objectCount s m args below meth c H locs 0 0 (MQ below (QI G A q (wMD G b w dep kept mark start)) args s rm_X5_objectCount.cells rm_X5_objectCount.slots A) (F0 m 4 ls []) := by
    intro  n4
    induction n4 with
    | zero => intro v4_1 v4_2 hm; cases hm
    | succ n4 ih4 =>
      intro v4_1 v4_2 hm H locs ls hP hD hS hl
      rw [M_X5_objectCount_L4] at hm
      refine lv_iload_n hx hb dX5_objectCount_4 rfl (lv_at hl 2 rfl) ?_
      refine lv_bipush (v := 24) hx hb dX5_objectCount_5 (by decide) ?_
      refine lv_icmp_ge (tgt := 32) hx hb dX5_objectCount_7 (by decide) (fun c401 => ?_) (fun c401 => ?_)
      · replace hm := it_t c401 hm
        refine lv_iload_n hx hb dX5_objectCount_32 rfl (lv_at hl 1 rfl) ?_
        cases hm
        exact rt_i hx hb hr hlocks hP hD hS dX5_objectCount_33
      · replace hm := it_f c401 hm
        refine lv_iload_n hx hb dX5_objectCount_10 rfl (lv_at hl 1 rfl) ?_
        refine lv_aload_n hx hb dX5_objectCount_11 rfl (lv_at hl 0 rfl) ?_
        refine lv_iload_n hx hb dX5_objectCount_12 rfl (lv_at hl 2 rfl) ?_
        obtain ⟨q402, hc403, hm⟩ := bd_s hm
        refine ks_i (wo := (wMD G b w dep kept mark start)) (rV (As := [.int v4_2]) (rest := [.int v4_1]) (b := (b 0)) (wi := (wMD G b w dep kept mark start)) hF hK hP hD (c_X5_isAllocated l G b w dep kept mark start v4_2 q402 hc403 H.size) (cwV 1 hts gX5_objectCount_X5_isAllocated rfl rfl rfl (by decide +kernel) ⟨Nat.le_of_ble_eq_true rfl, Nat.le_of_ble_eq_true rfl⟩) (va_recv hK.1 hP (ci := 5) (q0 := 0) rfl rfl) rfl hl.1 rfl (Nat.le_of_ble_eq_true rfl) dX5_objectCount_13 ⟨Nat.le_of_ble_eq_true rfl, Nat.le_of_ble_eq_true rfl⟩) hD hS hA (fun H locs hP hD hS => ?_)
        have hP : va_P G.1 vwCl (wMD G b w dep kept mark start) H := hP
        have hD : va_D A (wMD G b w dep kept mark start) := hD
        refine lv_if_eq (tgt := 23) hx hb dX5_objectCount_16 (by decide) (fun c404 => ?_) (fun c404 => ?_)
        · replace hm := it_t c404 hm
          refine lv_iconst (v := 0) hx hb dX5_objectCount_23 (by decide) ?_
          refine lv_iadd hx hb dX5_objectCount_24 ?_
          refine lv_istore_n (lv' := [(1, .int (v4_1 + 0)), (0, .ref (b 0)), (2, .int v4_2)]) hx hb dX5_objectCount_25 rfl hl (by decide) rfl (fun ls hl => ?_)
          refine lv_iinc (v := (v4_2 + 1)) (lv' := [(2, .int (v4_2 + 1)), (1, .int (v4_1 + 0)), (0, .ref (b 0))]) hx hb dX5_objectCount_26 hl (k := 2) rfl rfl (by decide) rfl (fun ls hl => ?_)
          refine lv_goto (tgt := 4) hx hb dX5_objectCount_29 (by decide) ?_
          exact ih4 (v4_1 + 0) (v4_2 + 1) hm _ _ _ hP hD hS (lv_sub hl [2, 1, 0] rfl)
        · replace hm := it_f c404 hm
          refine lv_iconst (v := 1) hx hb dX5_objectCount_19 (by decide) ?_
          refine lv_goto (tgt := 24) hx hb dX5_objectCount_20 (by decide) ?_
          refine lv_iadd hx hb dX5_objectCount_24 ?_
          refine lv_istore_n (lv' := [(1, .int (v4_1 + 1)), (0, .ref (b 0)), (2, .int v4_2)]) hx hb dX5_objectCount_25 rfl hl (by decide) rfl (fun ls hl => ?_)
          refine lv_iinc (v := (v4_2 + 1)) (lv' := [(2, .int (v4_2 + 1)), (1, .int (v4_1 + 1)), (0, .ref (b 0))]) hx hb dX5_objectCount_26 hl (k := 2) rfl rfl (by decide) rfl (fun ls hl => ?_)
          refine lv_goto (tgt := 4) hx hb dX5_objectCount_29 (by decide) ?_
          exact ih4 (v4_1 + 1) (v4_2 + 1) hm _ _ _ hP hD hS (lv_sub hl [2, 1, 0] rfl)
  exact L4 N 0 0 hm _ _ _ hP hD hS (lv_sub hl [2, 1, 0] rfl)
def M_X5_undo (N : Nat) (w : Nat → Int32) (dep : Int32) : Option (Int32 × (Nat → Int32) × Int32) :=
  if dep = 0 then (some ((-2), w, dep)) else ((M_X5_copyState N w (2 + (dep - 1)) 0).bind fun q2 => some ((dep - 1), q2, (dep - 1)))
theorem w0_X5_undo : Cond.fieldLink RX5 23 "WeakTableHeapModel" "depth" "I" ∈ wsX5_undo := by decide +kernel
theorem w1_X5_undo : ∀ w ∈ u_ws RX5 TX5 5, w ∈ wsX5_undo := by decide +kernel
abbrev rm_X5_undo : Room := { frames := 1, cells := 0, slots := 0, locals := 23 }
set_option maxHeartbeats 4000000 in
set_option maxRecDepth 100000 in
theorem c_X5_undo (l : Launch) (G : GG) (N : Nat) (b : Nat → Nat) (w : Nat → Int32) (dep : Int32) (kept : Nat → Int32) (mark : Nat → Int32) (start : Nat → Int32) (q : Int32 × (Nat → Int32) × Int32) (hm : M_X5_undo N w dep = some q) : CTi l yX5_undo wsX5_undo rm_X5_undo G [.ref (b 0)] (wMD G b w dep kept mark start) q.1 (wMD G b q.2.1 q.2.2 kept mark start) := by
  intro sz
  refine mk_body (Qc := fun A => (QI G A q.1 (wMD G b q.2.1 q.2.2 kept mark start))) (cc := cX5_undo) (maxL := 1) (ret := (some .int)) (lv := [(0, .ref (b 0))]) (by decide) rfl rfl (Nat.le_of_ble_eq_true rfl) ?_
  intro p e s m args below meth c A H locs ls hF hr hlocks hname hK hA hP hD hS hl
  obtain ⟨hx, hb, hml, hown, hts⟩ := id hF
  unfold M_X5_undo at hm
  refine lv_aload_n hx hb dX5_undo_0 rfl (lv_at hl 0 rfl) ?_
  refine va_get (D := G.1) (ci := 5) (v := .int dep) (C := RX5) (T := TX5) (N := 5) hx hb hts w1_X5_undo hown hK.1 hP 0 rfl rfl 1 (by decide) (hts _ w0_X5_undo) (fun _ h9 => h9) rfl dX5_undo_1 ?_
  refine lv_if_ne (tgt := 10) hx hb dX5_undo_4 (by decide) (fun c1 => ?_) (fun c1 => ?_)
  · replace hm := it_f c1 hm
    refine lv_aload_n hx hb dX5_undo_10 rfl (lv_at hl 0 rfl) ?_
    refine lv_dup hx hb dX5_undo_11 rfl ?_
    refine va_get (D := G.1) (ci := 5) (v := .int dep) (C := RX5) (T := TX5) (N := 5) hx hb hts w1_X5_undo hown hK.1 hP 0 rfl rfl 1 (by decide) (hts _ w0_X5_undo) (fun _ h9 => h9) rfl dX5_undo_12 ?_
    refine lv_iconst (v := 1) hx hb dX5_undo_15 (by decide) ?_
    refine lv_isub hx hb dX5_undo_16 ?_
    refine va_put (D := G.1) (ci := 5) (v := .int (dep - 1)) (ty := .int) (C := RX5) (T := TX5) (N := 5) hx hb hts w1_X5_undo tyX5 tyX5_ok nmX5 hown hK.1 hP hD hS 0 rfl rfl 1 (by decide) (hts _ w0_X5_undo) (fun _ h9 => h9) rfl (by decide +kernel) rfl rfl (Nat.le_of_ble_eq_true rfl) dX5_undo_17 (fun H locs hP hD hS => ?_)
    have hP : va_P G.1 vwCl (wMD G b w (dep - 1) kept mark start) H := hP
    have hD : va_D A (wMD G b w (dep - 1) kept mark start) := hD
    refine lv_aload_n hx hb dX5_undo_20 rfl (lv_at hl 0 rfl) ?_
    refine lv_iconst (v := 2) hx hb dX5_undo_21 (by decide) ?_
    refine lv_aload_n hx hb dX5_undo_22 rfl (lv_at hl 0 rfl) ?_
    refine va_get (D := G.1) (ci := 5) (v := .int (dep - 1)) (C := RX5) (T := TX5) (N := 5) hx hb hts w1_X5_undo hown hK.1 hP 0 rfl rfl 1 (by decide) (hts _ w0_X5_undo) (fun _ h9 => h9) rfl dX5_undo_23 ?_
    refine lv_iadd hx hb dX5_undo_26 ?_
    refine lv_iconst (v := 0) hx hb dX5_undo_27 (by decide) ?_
    obtain ⟨q2, hc3, hm⟩ := bd_s hm
    refine ks_v (wo := (wMD G b q2 (dep - 1) kept mark start)) (rV (As := [.int (2 + (dep - 1)), .int 0]) (rest := []) (b := (b 0)) (wi := (wMD G b w (dep - 1) kept mark start)) hF hK hP hD (c_X5_copyState l G N b w (dep - 1) kept mark start (2 + (dep - 1)) 0 q2 hc3 H.size) (cwV 2 hts gX5_undo_X5_copyState rfl rfl rfl (by decide +kernel) ⟨Nat.le_of_ble_eq_true rfl, Nat.le_of_ble_eq_true rfl⟩) (va_recv hK.1 hP (ci := 5) (q0 := 0) rfl rfl) rfl hl.1 rfl (Nat.le_of_ble_eq_true rfl) dX5_undo_28 ⟨Nat.le_of_ble_eq_true rfl, Nat.le_of_ble_eq_true rfl⟩) hD hS hA (fun H locs hP hD hS => ?_)
    have hP : va_P G.1 vwCl (wMD G b q2 (dep - 1) kept mark start) H := hP
    have hD : va_D A (wMD G b q2 (dep - 1) kept mark start) := hD
    refine lv_aload_n hx hb dX5_undo_31 rfl (lv_at hl 0 rfl) ?_
    refine va_get (D := G.1) (ci := 5) (v := .int (dep - 1)) (C := RX5) (T := TX5) (N := 5) hx hb hts w1_X5_undo hown hK.1 hP 0 rfl rfl 1 (by decide) (hts _ w0_X5_undo) (fun _ h9 => h9) rfl dX5_undo_32 ?_
    cases hm
    exact rt_i hx hb hr hlocks hP hD hS dX5_undo_35
  · replace hm := it_t c1 hm
    refine lv_bipush (v := (-2)) hx hb dX5_undo_7 (by decide) ?_
    cases hm
    exact rt_i hx hb hr hlocks hP hD hS dX5_undo_9
def M_X5_undoDepth (dep : Int32) : Option (Int32) :=
  some dep
theorem w0_X5_undoDepth : Cond.fieldLink RX5 23 "WeakTableHeapModel" "depth" "I" ∈ wsX5_undoDepth := by decide +kernel
theorem w1_X5_undoDepth : ∀ w ∈ u_ws RX5 TX5 5, w ∈ wsX5_undoDepth := by decide +kernel
abbrev rm_X5_undoDepth : Room := { frames := 0, cells := 0, slots := 0, locals := 0 }
set_option maxHeartbeats 4000000 in
set_option maxRecDepth 100000 in
theorem c_X5_undoDepth (l : Launch) (G : GG) (b : Nat → Nat) (w : Nat → Int32) (dep : Int32) (kept : Nat → Int32) (mark : Nat → Int32) (start : Nat → Int32) (q : Int32) (hm : M_X5_undoDepth dep = some q) : CTi l yX5_undoDepth wsX5_undoDepth rm_X5_undoDepth G [.ref (b 0)] (wMD G b w dep kept mark start) q (wMD G b w dep kept mark start) := by
  intro sz
  refine mk_body (Qc := fun A => (QI G A q (wMD G b w dep kept mark start))) (cc := cX5_undoDepth) (maxL := 1) (ret := (some .int)) (lv := [(0, .ref (b 0))]) (by decide) rfl rfl (Nat.le_of_ble_eq_true rfl) ?_
  intro p e s m args below meth c A H locs ls hF hr hlocks hname hK hA hP hD hS hl
  obtain ⟨hx, hb, hml, hown, hts⟩ := id hF
  unfold M_X5_undoDepth at hm
  refine lv_aload_n hx hb dX5_undoDepth_0 rfl (lv_at hl 0 rfl) ?_
  refine va_get (D := G.1) (ci := 5) (v := .int dep) (C := RX5) (T := TX5) (N := 5) hx hb hts w1_X5_undoDepth hown hK.1 hP 0 rfl rfl 1 (by decide) (hts _ w0_X5_undoDepth) (fun _ h9 => h9) rfl dX5_undoDepth_1 ?_
  cases hm
  exact rt_i hx hb hr hlocks hP hD hS dX5_undoDepth_4
def M_X5_save (N : Nat) (w : Nat → Int32) (kept : Nat → Int32) (p1 : Int32) : Option (Int32 × (Nat → Int32) × (Nat → Int32)) :=
  (M_X5_within p1 0 1).bind fun q1 => if q1 = 0 then (some ((-1), w, kept)) else ((M_X5_copyState N w 0 (8 + p1)).bind fun q4 => gd p1 2 ((M_X5_objectCount N q4).bind fun q7 => some (q7, q4, (upd kept p1.toNatClampNeg (vp_nar .boolean 1)))))
theorem w0_X5_save : Cond.fieldLink RX5 13 "WeakTableHeapModel" "kept" "[Z" ∈ wsX5_save := by decide +kernel
theorem w1_X5_save : ∀ w ∈ u_ws RX5 TX5 5, w ∈ wsX5_save := by decide +kernel
abbrev rm_X5_save : Room := { frames := 3, cells := 0, slots := 0, locals := 65 }
set_option maxHeartbeats 4000000 in
set_option maxRecDepth 100000 in
theorem c_X5_save (l : Launch) (G : GG) (N : Nat) (b : Nat → Nat) (w : Nat → Int32) (dep : Int32) (kept : Nat → Int32) (mark : Nat → Int32) (start : Nat → Int32) (p1 : Int32) (q : Int32 × (Nat → Int32) × (Nat → Int32)) (hm : M_X5_save N w kept p1 = some q) : CTi l yX5_save wsX5_save rm_X5_save G [.ref (b 0), .int p1] (wMD G b w dep kept mark start) q.1 (wMD G b q.2.1 dep q.2.2 mark start) := by
  intro sz
  refine mk_body (Qc := fun A => (QI G A q.1 (wMD G b q.2.1 dep q.2.2 mark start))) (cc := cX5_save) (maxL := 2) (ret := (some .int)) (lv := [(0, .ref (b 0)), (1, .int p1)]) (by decide) rfl rfl (Nat.le_of_ble_eq_true rfl) ?_
  intro p e s m args below meth c A H locs ls hF hr hlocks hname hK hA hP hD hS hl
  obtain ⟨hx, hb, hml, hown, hts⟩ := id hF
  unfold M_X5_save at hm
  refine lv_iload_n hx hb dX5_save_0 rfl (lv_at hl 1 rfl) ?_
  refine lv_iconst (v := 0) hx hb dX5_save_1 (by decide) ?_
  refine lv_iconst (v := 1) hx hb dX5_save_2 (by decide) ?_
  obtain ⟨q1, hc2, hm⟩ := bd_s hm
  refine k0_i (ws := (wMD G b w dep kept mark start)) (rS (As := [.int p1, .int 0, .int 1]) (rest := []) (wi := ([] : va_W)) hF hK k0_P (k0_D (A := A)) (c_X5_within l G p1 0 1 q1 hc2 H.size) (va_cwS 3 hts gX5_save_X5_within rfl rfl rfl (by decide +kernel) ⟨Nat.le_of_ble_eq_true rfl, Nat.le_of_ble_eq_true rfl⟩) rfl hl.1 rfl (Nat.le_of_ble_eq_true rfl) dX5_save_3 ⟨Nat.le_of_ble_eq_true rfl, Nat.le_of_ble_eq_true rfl⟩) hP hS hA (fun H locs hP hS => ?_)
  refine lv_if_ne (tgt := 11) hx hb dX5_save_6 (by decide) (fun c3 => ?_) (fun c3 => ?_)
  · replace hm := it_f c3 hm
    refine lv_aload_n hx hb dX5_save_11 rfl (lv_at hl 0 rfl) ?_
    refine lv_iconst (v := 0) hx hb dX5_save_12 (by decide) ?_
    refine lv_bipush (v := 8) hx hb dX5_save_13 (by decide) ?_
    refine lv_iload_n hx hb dX5_save_15 rfl (lv_at hl 1 rfl) ?_
    refine lv_iadd hx hb dX5_save_16 ?_
    obtain ⟨q4, hc5, hm⟩ := bd_s hm
    refine ks_v (wo := (wMD G b q4 dep kept mark start)) (rV (As := [.int 0, .int (8 + p1)]) (rest := []) (b := (b 0)) (wi := (wMD G b w dep kept mark start)) hF hK hP hD (c_X5_copyState l G N b w dep kept mark start 0 (8 + p1) q4 hc5 H.size) (cwV 2 hts gX5_save_X5_copyState rfl rfl rfl (by decide +kernel) ⟨Nat.le_of_ble_eq_true rfl, Nat.le_of_ble_eq_true rfl⟩) (va_recv hK.1 hP (ci := 5) (q0 := 0) rfl rfl) rfl hl.1 rfl (Nat.le_of_ble_eq_true rfl) dX5_save_17 ⟨Nat.le_of_ble_eq_true rfl, Nat.le_of_ble_eq_true rfl⟩) hD hS hA (fun H locs hP hD hS => ?_)
    have hP : va_P G.1 vwCl (wMD G b q4 dep kept mark start) H := hP
    have hD : va_D A (wMD G b q4 dep kept mark start) := hD
    refine lv_aload_n hx hb dX5_save_20 rfl (lv_at hl 0 rfl) ?_
    refine va_get (D := G.1) (ci := 5) (v := .ref (b 2)) (C := RX5) (T := TX5) (N := 5) hx hb hts w1_X5_save hown hK.1 hP 0 rfl rfl 2 (by decide) (hts _ w0_X5_save) (fun _ h9 => h9) rfl dX5_save_21 ?_
    refine lv_iload_n hx hb dX5_save_24 rfl (lv_at hl 1 rfl) ?_
    refine lv_iconst (v := 1) hx hb dX5_save_25 (by decide) ?_
    obtain ⟨hi6, hm⟩ := gd_s hm
    refine va_zast hx hb hK.1 hP hD hS 2 1 rfl rfl hi6 dX5_save_26 (fun H locs hP hD hS => ?_)
    have hP : va_P G.1 vwCl (wMD G b q4 dep (upd kept p1.toNatClampNeg (vp_nar .boolean 1)) mark start) H := hP
    have hD : va_D A (wMD G b q4 dep (upd kept p1.toNatClampNeg (vp_nar .boolean 1)) mark start) := hD
    refine lv_aload_n hx hb dX5_save_27 rfl (lv_at hl 0 rfl) ?_
    obtain ⟨q7, hc8, hm⟩ := bd_s hm
    refine ks_i (wo := (wMD G b q4 dep (upd kept p1.toNatClampNeg (vp_nar .boolean 1)) mark start)) (rV (As := []) (rest := []) (b := (b 0)) (wi := (wMD G b q4 dep (upd kept p1.toNatClampNeg (vp_nar .boolean 1)) mark start)) hF hK hP hD (c_X5_objectCount l G N b q4 dep (upd kept p1.toNatClampNeg (vp_nar .boolean 1)) mark start q7 hc8 H.size) (cwV 0 hts gX5_save_X5_objectCount rfl rfl rfl (by decide +kernel) ⟨Nat.le_of_ble_eq_true rfl, Nat.le_of_ble_eq_true rfl⟩) (va_recv hK.1 hP (ci := 5) (q0 := 0) rfl rfl) rfl hl.1 rfl (Nat.le_of_ble_eq_true rfl) dX5_save_28 ⟨Nat.le_of_ble_eq_true rfl, Nat.le_of_ble_eq_true rfl⟩) hD hS hA (fun H locs hP hD hS => ?_)
    have hP : va_P G.1 vwCl (wMD G b q4 dep (upd kept p1.toNatClampNeg (vp_nar .boolean 1)) mark start) H := hP
    have hD : va_D A (wMD G b q4 dep (upd kept p1.toNatClampNeg (vp_nar .boolean 1)) mark start) := hD
    cases hm
    exact rt_i hx hb hr hlocks hP hD hS dX5_save_31
  · replace hm := it_t c3 hm
    refine lv_iconst (v := (-1)) hx hb dX5_save_9 (by decide) ?_
    cases hm
    exact rt_i hx hb hr hlocks hP hD hS dX5_save_10
def M_X5_restore (N : Nat) (w : Nat → Int32) (dep : Int32) (kept : Nat → Int32) (p1 : Int32) : Option (Int32 × (Nat → Int32) × Int32) :=
  (M_X5_within p1 0 1).bind fun q1 => if q1 = 0 then (some ((-1), w, dep)) else (gd p1 2 (if (kept p1.toNatClampNeg) = 0 then (some ((-2), w, dep)) else ((M_X5_copyState N w (8 + p1) 0).bind fun q6 => (M_X5_objectCount N q6).bind fun q8 => some (q8, q6, 0))))
theorem w0_X5_restore : Cond.fieldLink RX5 13 "WeakTableHeapModel" "kept" "[Z" ∈ wsX5_restore := by decide +kernel
theorem w1_X5_restore : ∀ w ∈ u_ws RX5 TX5 5, w ∈ wsX5_restore := by decide +kernel
theorem w2_X5_restore : Cond.fieldLink RX5 23 "WeakTableHeapModel" "depth" "I" ∈ wsX5_restore := by decide +kernel
abbrev rm_X5_restore : Room := { frames := 3, cells := 0, slots := 0, locals := 65 }
set_option maxHeartbeats 4000000 in
set_option maxRecDepth 100000 in
theorem c_X5_restore (l : Launch) (G : GG) (N : Nat) (b : Nat → Nat) (w : Nat → Int32) (dep : Int32) (kept : Nat → Int32) (mark : Nat → Int32) (start : Nat → Int32) (p1 : Int32) (q : Int32 × (Nat → Int32) × Int32) (hm : M_X5_restore N w dep kept p1 = some q) : CTi l yX5_restore wsX5_restore rm_X5_restore G [.ref (b 0), .int p1] (wMD G b w dep kept mark start) q.1 (wMD G b q.2.1 q.2.2 kept mark start) := by
  intro sz
  refine mk_body (Qc := fun A => (QI G A q.1 (wMD G b q.2.1 q.2.2 kept mark start))) (cc := cX5_restore) (maxL := 2) (ret := (some .int)) (lv := [(0, .ref (b 0)), (1, .int p1)]) (by decide) rfl rfl (Nat.le_of_ble_eq_true rfl) ?_
  intro p e s m args below meth c A H locs ls hF hr hlocks hname hK hA hP hD hS hl
  obtain ⟨hx, hb, hml, hown, hts⟩ := id hF
  unfold M_X5_restore at hm
  refine lv_iload_n hx hb dX5_restore_0 rfl (lv_at hl 1 rfl) ?_
  refine lv_iconst (v := 0) hx hb dX5_restore_1 (by decide) ?_
  refine lv_iconst (v := 1) hx hb dX5_restore_2 (by decide) ?_
  obtain ⟨q1, hc2, hm⟩ := bd_s hm
  refine k0_i (ws := (wMD G b w dep kept mark start)) (rS (As := [.int p1, .int 0, .int 1]) (rest := []) (wi := ([] : va_W)) hF hK k0_P (k0_D (A := A)) (c_X5_within l G p1 0 1 q1 hc2 H.size) (va_cwS 3 hts gX5_restore_X5_within rfl rfl rfl (by decide +kernel) ⟨Nat.le_of_ble_eq_true rfl, Nat.le_of_ble_eq_true rfl⟩) rfl hl.1 rfl (Nat.le_of_ble_eq_true rfl) dX5_restore_3 ⟨Nat.le_of_ble_eq_true rfl, Nat.le_of_ble_eq_true rfl⟩) hP hS hA (fun H locs hP hS => ?_)
  refine lv_if_ne (tgt := 11) hx hb dX5_restore_6 (by decide) (fun c3 => ?_) (fun c3 => ?_)
  · replace hm := it_f c3 hm
    refine lv_aload_n hx hb dX5_restore_11 rfl (lv_at hl 0 rfl) ?_
    refine va_get (D := G.1) (ci := 5) (v := .ref (b 2)) (C := RX5) (T := TX5) (N := 5) hx hb hts w1_X5_restore hown hK.1 hP 0 rfl rfl 2 (by decide) (hts _ w0_X5_restore) (fun _ h9 => h9) rfl dX5_restore_12 ?_
    refine lv_iload_n hx hb dX5_restore_15 rfl (lv_at hl 1 rfl) ?_
    obtain ⟨hi4, hm⟩ := gd_s hm
    refine va_zald hx hb hK.1 hP 2 1 rfl rfl hi4 dX5_restore_16 ?_
    refine lv_if_ne (tgt := 23) hx hb dX5_restore_17 (by decide) (fun c5 => ?_) (fun c5 => ?_)
    · replace hm := it_f c5 hm
      refine lv_aload_n hx hb dX5_restore_23 rfl (lv_at hl 0 rfl) ?_
      refine lv_bipush (v := 8) hx hb dX5_restore_24 (by decide) ?_
      refine lv_iload_n hx hb dX5_restore_26 rfl (lv_at hl 1 rfl) ?_
      refine lv_iadd hx hb dX5_restore_27 ?_
      refine lv_iconst (v := 0) hx hb dX5_restore_28 (by decide) ?_
      obtain ⟨q6, hc7, hm⟩ := bd_s hm
      refine ks_v (wo := (wMD G b q6 dep kept mark start)) (rV (As := [.int (8 + p1), .int 0]) (rest := []) (b := (b 0)) (wi := (wMD G b w dep kept mark start)) hF hK hP hD (c_X5_copyState l G N b w dep kept mark start (8 + p1) 0 q6 hc7 H.size) (cwV 2 hts gX5_restore_X5_copyState rfl rfl rfl (by decide +kernel) ⟨Nat.le_of_ble_eq_true rfl, Nat.le_of_ble_eq_true rfl⟩) (va_recv hK.1 hP (ci := 5) (q0 := 0) rfl rfl) rfl hl.1 rfl (Nat.le_of_ble_eq_true rfl) dX5_restore_29 ⟨Nat.le_of_ble_eq_true rfl, Nat.le_of_ble_eq_true rfl⟩) hD hS hA (fun H locs hP hD hS => ?_)
      have hP : va_P G.1 vwCl (wMD G b q6 dep kept mark start) H := hP
      have hD : va_D A (wMD G b q6 dep kept mark start) := hD
      refine lv_aload_n hx hb dX5_restore_32 rfl (lv_at hl 0 rfl) ?_
      refine lv_iconst (v := 0) hx hb dX5_restore_33 (by decide) ?_
      refine va_put (D := G.1) (ci := 5) (v := .int 0) (ty := .int) (C := RX5) (T := TX5) (N := 5) hx hb hts w1_X5_restore tyX5 tyX5_ok nmX5 hown hK.1 hP hD hS 0 rfl rfl 1 (by decide) (hts _ w2_X5_restore) (fun _ h9 => h9) rfl (by decide +kernel) rfl rfl (Nat.le_of_ble_eq_true rfl) dX5_restore_34 (fun H locs hP hD hS => ?_)
      have hP : va_P G.1 vwCl (wMD G b q6 0 kept mark start) H := hP
      have hD : va_D A (wMD G b q6 0 kept mark start) := hD
      refine lv_aload_n hx hb dX5_restore_37 rfl (lv_at hl 0 rfl) ?_
      obtain ⟨q8, hc9, hm⟩ := bd_s hm
      refine ks_i (wo := (wMD G b q6 0 kept mark start)) (rV (As := []) (rest := []) (b := (b 0)) (wi := (wMD G b q6 0 kept mark start)) hF hK hP hD (c_X5_objectCount l G N b q6 0 kept mark start q8 hc9 H.size) (cwV 0 hts gX5_restore_X5_objectCount rfl rfl rfl (by decide +kernel) ⟨Nat.le_of_ble_eq_true rfl, Nat.le_of_ble_eq_true rfl⟩) (va_recv hK.1 hP (ci := 5) (q0 := 0) rfl rfl) rfl hl.1 rfl (Nat.le_of_ble_eq_true rfl) dX5_restore_38 ⟨Nat.le_of_ble_eq_true rfl, Nat.le_of_ble_eq_true rfl⟩) hD hS hA (fun H locs hP hD hS => ?_)
      have hP : va_P G.1 vwCl (wMD G b q6 0 kept mark start) H := hP
      have hD : va_D A (wMD G b q6 0 kept mark start) := hD
      cases hm
      exact rt_i hx hb hr hlocks hP hD hS dX5_restore_41
    · replace hm := it_t c5 hm
      refine lv_bipush (v := (-2)) hx hb dX5_restore_20 (by decide) ?_
      cases hm
      exact rt_i hx hb hr hlocks hP hD hS dX5_restore_22
  · replace hm := it_t c3 hm
    refine lv_iconst (v := (-1)) hx hb dX5_restore_9 (by decide) ?_
    cases hm
    exact rt_i hx hb hr hlocks hP hD hS dX5_restore_10
def M_X5_make_L38 (u38_1 : Int32) (u38_2 : Int32) (u38_3 : Int32) (dep38u : Int32) : Nat → (Int32) → (Nat → Int32) → Option (Int32 × (Nat → Int32) × Int32)
  | 0, _, _ => none
  | n38 + 1, v38_4, w38_ => if 15 ≤ v38_4 then (gd ((15 * u38_3) + 0) 3880 (gd ((15 * u38_3) + 3) 3880 (some (u38_3, (upd (upd w38_ ((15 * u38_3) + 0).toNatClampNeg u38_1) ((15 * u38_3) + 3).toNatClampNeg u38_2), dep38u)))) else (if 3 ≤ v38_4 then (gd ((15 * u38_3) + v38_4) 3880 (M_X5_make_L38 u38_1 u38_2 u38_3 dep38u n38 (v38_4 + 1) (upd w38_ ((15 * u38_3) + v38_4).toNatClampNeg (-9)))) else (gd ((15 * u38_3) + v38_4) 3880 (M_X5_make_L38 u38_1 u38_2 u38_3 dep38u n38 (v38_4 + 1) (upd w38_ ((15 * u38_3) + v38_4).toNatClampNeg 0))))
def M_X5_make_L2 (N : Nat) (u2_1 : Int32) (u2_2 : Int32) (w2u : Nat → Int32) (dep2u : Int32) : Nat → (Int32) → Option (Int32 × (Nat → Int32) × Int32)
  | 0, _ => none
  | n2 + 1, v2_3 => if 24 ≤ v2_3 then (if v2_3 = 24 then (some ((-3), w2u, dep2u)) else ((M_X5_saveState N w2u dep2u).bind fun q203 => M_X5_make_L38 u2_1 u2_2 v2_3 q203.2 N 0 q203.1)) else ((M_X5_isAllocated w2u v2_3).bind fun q206 => if q206 = 0 then (if v2_3 = 24 then (some ((-3), w2u, dep2u)) else ((M_X5_saveState N w2u dep2u).bind fun q210 => M_X5_make_L38 u2_1 u2_2 v2_3 q210.2 N 0 q210.1)) else (M_X5_make_L2 N u2_1 u2_2 w2u dep2u n2 (v2_3 + 1)))
def M_X5_make (N : Nat) (w : Nat → Int32) (dep : Int32) (p1 : Int32) (p2 : Int32) : Option (Int32 × (Nat → Int32) × Int32) :=
  M_X5_make_L2 N p1 p2 w dep N 0
theorem w0_X5_make : Cond.fieldLink RX5 7 "WeakTableHeapModel" "w" "[I" ∈ wsX5_make := by decide +kernel
theorem w1_X5_make : ∀ w ∈ u_ws RX5 TX5 5, w ∈ wsX5_make := by decide +kernel
abbrev rm_X5_make : Room := { frames := 2, cells := 0, slots := 0, locals := 44 }
set_option maxHeartbeats 4000000 in
set_option maxRecDepth 100000 in
theorem c_X5_make (l : Launch) (G : GG) (N : Nat) (b : Nat → Nat) (w : Nat → Int32) (dep : Int32) (kept : Nat → Int32) (mark : Nat → Int32) (start : Nat → Int32) (p1 : Int32) (p2 : Int32) (q : Int32 × (Nat → Int32) × Int32) (hm : M_X5_make N w dep p1 p2 = some q) : CTi l yX5_make wsX5_make rm_X5_make G [.ref (b 0), .int p1, .int p2] (wMD G b w dep kept mark start) q.1 (wMD G b q.2.1 q.2.2 kept mark start) := by
  intro sz
  refine mk_body (Qc := fun A => (QI G A q.1 (wMD G b q.2.1 q.2.2 kept mark start))) (cc := cX5_make) (maxL := 5) (ret := (some .int)) (lv := [(0, .ref (b 0)), (1, .int p1), (2, .int p2)]) (by decide) rfl rfl (Nat.le_of_ble_eq_true rfl) ?_
  intro p e s m args below meth c A H locs ls hF hr hlocks hname hK hA hP hD hS hl
  obtain ⟨hx, hb, hml, hown, hts⟩ := id hF
  unfold M_X5_make at hm
  refine lv_iconst (v := 0) hx hb dX5_make_0 (by decide) ?_
  refine lv_istore_n (lv' := [(3, .int 0), (0, .ref (b 0)), (1, .int p1), (2, .int p2)]) hx hb dX5_make_1 rfl hl (by decide) rfl (fun ls hl => ?_)
  have L2 : ∀ (u2_1 : Int32) (u2_2 : Int32) (w2u : Nat → Int32) (dep2u : Int32) (n2 : Nat) (v2_3 : Int32), M_X5_make_L2 N u2_1 u2_2 w2u dep2u n2 v2_3 = some q → ∀ (H : Heap) (locs : List Loc) (ls : Array Slot), va_P G.1 vwCl (wMD G b w2u dep2u kept mark start) H → va_D A (wMD G b w2u dep2u kept mark start) → va_S A s.heap H locs → lv_has ls 5 [(0, .ref (b 0)), (1, .int u2_1), (2, .int u2_2), (3, .int v2_3)] → W p l e rm_X5_make s m args below meth c H locs 0 0 (MQ below (QI G A q.1 (wMD G b q.2.1 q.2.2 kept mark start)) args s rm_X5_make.cells rm_X5_make.slots A) (F0 m 2 ls []) := by
    intro u2_1 u2_2 w2u dep2u n2
    induction n2 with
    | zero => intro v2_3 hm; cases hm
    | succ n2 ih2 =>
      intro v2_3 hm H locs ls hP hD hS hl
      rw [M_X5_make_L2] at hm
      refine lv_iload_n hx hb dX5_make_2 rfl (lv_at hl 3 rfl) ?_
      refine lv_bipush (v := 24) hx hb dX5_make_3 (by decide) ?_
      refine lv_icmp_ge (tgt := 22) hx hb dX5_make_5 (by decide) (fun c201 => ?_) (fun c201 => ?_)
      · replace hm := it_t c201 hm
        refine lv_iload_n hx hb dX5_make_22 rfl (lv_at hl 3 rfl) ?_
        refine lv_bipush (v := 24) hx hb dX5_make_23 (by decide) ?_
        refine lv_icmp_ne (tgt := 31) hx hb dX5_make_25 (by decide) (fun c202 => ?_) (fun c202 => ?_)
        · replace hm := it_f c202 hm
          refine lv_aload_n hx hb dX5_make_31 rfl (lv_at hl 0 rfl) ?_
          obtain ⟨q203, hc204, hm⟩ := bd_s hm
          refine ks_v (wo := (wMD G b q203.1 q203.2 kept mark start)) (rV (As := []) (rest := []) (b := (b 0)) (wi := (wMD G b w2u dep2u kept mark start)) hF hK hP hD (c_X5_saveState l G N b w2u dep2u kept mark start q203 hc204 H.size) (cwV 0 hts gX5_make_X5_saveState rfl rfl rfl (by decide +kernel) ⟨Nat.le_of_ble_eq_true rfl, Nat.le_of_ble_eq_true rfl⟩) (va_recv hK.1 hP (ci := 5) (q0 := 0) rfl rfl) rfl hl.1 rfl (Nat.le_of_ble_eq_true rfl) dX5_make_32 ⟨Nat.le_of_ble_eq_true rfl, Nat.le_of_ble_eq_true rfl⟩) hD hS hA (fun H locs hP hD hS => ?_)
          have hP : va_P G.1 vwCl (wMD G b q203.1 q203.2 kept mark start) H := hP
          have hD : va_D A (wMD G b q203.1 q203.2 kept mark start) := hD
          refine lv_iconst (v := 0) hx hb dX5_make_35 (by decide) ?_
          refine lv_istore (lv' := [(4, .int 0), (0, .ref (b 0)), (1, .int u2_1), (2, .int u2_2), (3, .int v2_3)]) hx hb dX5_make_36 hl (by decide) rfl (fun ls hl => ?_)
          have L38 : ∀ (u38_1 : Int32) (u38_2 : Int32) (u38_3 : Int32) (dep38u : Int32) (n38 : Nat) (v38_4 : Int32) (w38_ : Nat → Int32), M_X5_make_L38 u38_1 u38_2 u38_3 dep38u n38 v38_4 w38_ = some q → ∀ (H : Heap) (locs : List Loc) (ls : Array Slot), va_P G.1 vwCl (wMD G b w38_ dep38u kept mark start) H → va_D A (wMD G b w38_ dep38u kept mark start) → va_S A s.heap H locs → lv_has ls 5 [(0, .ref (b 0)), (1, .int u38_1), (2, .int u38_2), (3, .int u38_3), (4, .int v38_4)] → W p l e rm_X5_make s m args below meth c H locs 0 0 (MQ below (QI G A q.1 (wMD G b q.2.1 q.2.2 kept mark start)) args s rm_X5_make.cells rm_X5_make.slots A) (F0 m 38 ls []) := by
            intro u38_1 u38_2 u38_3 dep38u n38
            induction n38 with
            | zero => intro v38_4 w38_ hm; cases hm
            | succ n38 ih38 =>
              intro v38_4 w38_ hm H locs ls hP hD hS hl
              rw [M_X5_make_L38] at hm
              refine lv_iload hx hb dX5_make_38 (lv_at hl 4 rfl) ?_
              refine lv_bipush (v := 15) hx hb dX5_make_40 (by decide) ?_
              refine lv_icmp_ge (tgt := 75) hx hb dX5_make_42 (by decide) (fun c3801 => ?_) (fun c3801 => ?_)
              · replace hm := it_t c3801 hm
                refine lv_aload_n hx hb dX5_make_75 rfl (lv_at hl 0 rfl) ?_
                refine va_get (D := G.1) (ci := 5) (v := .ref (b 1)) (C := RX5) (T := TX5) (N := 5) hx hb hts w1_X5_make hown hK.1 hP 0 rfl rfl 0 (by decide) (hts _ w0_X5_make) (fun _ h9 => h9) rfl dX5_make_76 ?_
                refine lv_bipush (v := 15) hx hb dX5_make_79 (by decide) ?_
                refine lv_iload_n hx hb dX5_make_81 rfl (lv_at hl 3 rfl) ?_
                refine lv_imul hx hb dX5_make_82 ?_
                refine lv_iconst (v := 0) hx hb dX5_make_83 (by decide) ?_
                refine lv_iadd hx hb dX5_make_84 ?_
                refine lv_iload_n hx hb dX5_make_85 rfl (lv_at hl 1 rfl) ?_
                obtain ⟨hi3802, hm⟩ := gd_s hm
                refine va_iast hx hb hK.1 hP hD hS 1 0 rfl rfl hi3802 dX5_make_86 (fun H locs hP hD hS => ?_)
                have hP : va_P G.1 vwCl (wMD G b (upd w38_ ((15 * u38_3) + 0).toNatClampNeg u38_1) dep38u kept mark start) H := hP
                have hD : va_D A (wMD G b (upd w38_ ((15 * u38_3) + 0).toNatClampNeg u38_1) dep38u kept mark start) := hD
                refine lv_aload_n hx hb dX5_make_87 rfl (lv_at hl 0 rfl) ?_
                refine va_get (D := G.1) (ci := 5) (v := .ref (b 1)) (C := RX5) (T := TX5) (N := 5) hx hb hts w1_X5_make hown hK.1 hP 0 rfl rfl 0 (by decide) (hts _ w0_X5_make) (fun _ h9 => h9) rfl dX5_make_88 ?_
                refine lv_bipush (v := 15) hx hb dX5_make_91 (by decide) ?_
                refine lv_iload_n hx hb dX5_make_93 rfl (lv_at hl 3 rfl) ?_
                refine lv_imul hx hb dX5_make_94 ?_
                refine lv_iconst (v := 3) hx hb dX5_make_95 (by decide) ?_
                refine lv_iadd hx hb dX5_make_96 ?_
                refine lv_iload_n hx hb dX5_make_97 rfl (lv_at hl 2 rfl) ?_
                obtain ⟨hi3803, hm⟩ := gd_s hm
                refine va_iast hx hb hK.1 hP hD hS 1 0 rfl rfl hi3803 dX5_make_98 (fun H locs hP hD hS => ?_)
                have hP : va_P G.1 vwCl (wMD G b (upd (upd w38_ ((15 * u38_3) + 0).toNatClampNeg u38_1) ((15 * u38_3) + 3).toNatClampNeg u38_2) dep38u kept mark start) H := hP
                have hD : va_D A (wMD G b (upd (upd w38_ ((15 * u38_3) + 0).toNatClampNeg u38_1) ((15 * u38_3) + 3).toNatClampNeg u38_2) dep38u kept mark start) := hD
                refine lv_iload_n hx hb dX5_make_99 rfl (lv_at hl 3 rfl) ?_
                cases hm
                exact rt_i hx hb hr hlocks hP hD hS dX5_make_100
              · replace hm := it_f c3801 hm
                refine lv_aload_n hx hb dX5_make_45 rfl (lv_at hl 0 rfl) ?_
                refine va_get (D := G.1) (ci := 5) (v := .ref (b 1)) (C := RX5) (T := TX5) (N := 5) hx hb hts w1_X5_make hown hK.1 hP 0 rfl rfl 0 (by decide) (hts _ w0_X5_make) (fun _ h9 => h9) rfl dX5_make_46 ?_
                refine lv_bipush (v := 15) hx hb dX5_make_49 (by decide) ?_
                refine lv_iload_n hx hb dX5_make_51 rfl (lv_at hl 3 rfl) ?_
                refine lv_imul hx hb dX5_make_52 ?_
                refine lv_iload hx hb dX5_make_53 (lv_at hl 4 rfl) ?_
                refine lv_iadd hx hb dX5_make_55 ?_
                refine lv_iload hx hb dX5_make_56 (lv_at hl 4 rfl) ?_
                refine lv_iconst (v := 3) hx hb dX5_make_58 (by decide) ?_
                refine lv_icmp_ge (tgt := 66) hx hb dX5_make_59 (by decide) (fun c3804 => ?_) (fun c3804 => ?_)
                · replace hm := it_t c3804 hm
                  refine lv_bipush (v := (-9)) hx hb dX5_make_66 (by decide) ?_
                  obtain ⟨hi3805, hm⟩ := gd_s hm
                  refine va_iast hx hb hK.1 hP hD hS 1 0 rfl rfl hi3805 dX5_make_68 (fun H locs hP hD hS => ?_)
                  have hP : va_P G.1 vwCl (wMD G b (upd w38_ ((15 * u38_3) + v38_4).toNatClampNeg (-9)) dep38u kept mark start) H := hP
                  have hD : va_D A (wMD G b (upd w38_ ((15 * u38_3) + v38_4).toNatClampNeg (-9)) dep38u kept mark start) := hD
                  refine lv_iinc (v := (v38_4 + 1)) (lv' := [(4, .int (v38_4 + 1)), (0, .ref (b 0)), (1, .int u38_1), (2, .int u38_2), (3, .int u38_3)]) hx hb dX5_make_69 hl (k := 4) rfl rfl (by decide) rfl (fun ls hl => ?_)
                  refine lv_goto (tgt := 38) hx hb dX5_make_72 (by decide) ?_
                  exact ih38 (v38_4 + 1) (upd w38_ ((15 * u38_3) + v38_4).toNatClampNeg (-9)) hm _ _ _ hP hD hS (lv_sub hl [1, 2, 3, 4, 0] rfl)
                · replace hm := it_f c3804 hm
                  refine lv_iconst (v := 0) hx hb dX5_make_62 (by decide) ?_
                  refine lv_goto (tgt := 68) hx hb dX5_make_63 (by decide) ?_
                  obtain ⟨hi3806, hm⟩ := gd_s hm
                  refine va_iast hx hb hK.1 hP hD hS 1 0 rfl rfl hi3806 dX5_make_68 (fun H locs hP hD hS => ?_)
                  have hP : va_P G.1 vwCl (wMD G b (upd w38_ ((15 * u38_3) + v38_4).toNatClampNeg 0) dep38u kept mark start) H := hP
                  have hD : va_D A (wMD G b (upd w38_ ((15 * u38_3) + v38_4).toNatClampNeg 0) dep38u kept mark start) := hD
                  refine lv_iinc (v := (v38_4 + 1)) (lv' := [(4, .int (v38_4 + 1)), (0, .ref (b 0)), (1, .int u38_1), (2, .int u38_2), (3, .int u38_3)]) hx hb dX5_make_69 hl (k := 4) rfl rfl (by decide) rfl (fun ls hl => ?_)
                  refine lv_goto (tgt := 38) hx hb dX5_make_72 (by decide) ?_
                  exact ih38 (v38_4 + 1) (upd w38_ ((15 * u38_3) + v38_4).toNatClampNeg 0) hm _ _ _ hP hD hS (lv_sub hl [1, 2, 3, 4, 0] rfl)
          exact L38 u2_1 u2_2 v2_3 q203.2 N 0 q203.1 hm _ _ _ hP hD hS (lv_sub hl [1, 2, 3, 4, 0] rfl)
        · replace hm := it_t c202 hm
          refine lv_bipush (v := (-3)) hx hb dX5_make_28 (by decide) ?_
          cases hm
          exact rt_i hx hb hr hlocks hP hD hS dX5_make_30
      · replace hm := it_f c201 hm
        refine lv_aload_n hx hb dX5_make_8 rfl (lv_at hl 0 rfl) ?_
        refine lv_iload_n hx hb dX5_make_9 rfl (lv_at hl 3 rfl) ?_
        obtain ⟨q206, hc207, hm⟩ := bd_s hm
        refine ks_i (wo := (wMD G b w2u dep2u kept mark start)) (rV (As := [.int v2_3]) (rest := []) (b := (b 0)) (wi := (wMD G b w2u dep2u kept mark start)) hF hK hP hD (c_X5_isAllocated l G b w2u dep2u kept mark start v2_3 q206 hc207 H.size) (cwV 1 hts gX5_make_X5_isAllocated rfl rfl rfl (by decide +kernel) ⟨Nat.le_of_ble_eq_true rfl, Nat.le_of_ble_eq_true rfl⟩) (va_recv hK.1 hP (ci := 5) (q0 := 0) rfl rfl) rfl hl.1 rfl (Nat.le_of_ble_eq_true rfl) dX5_make_10 ⟨Nat.le_of_ble_eq_true rfl, Nat.le_of_ble_eq_true rfl⟩) hD hS hA (fun H locs hP hD hS => ?_)
        have hP : va_P G.1 vwCl (wMD G b w2u dep2u kept mark start) H := hP
        have hD : va_D A (wMD G b w2u dep2u kept mark start) := hD
        refine lv_if_eq (tgt := 22) hx hb dX5_make_13 (by decide) (fun c208 => ?_) (fun c208 => ?_)
        · replace hm := it_t c208 hm
          refine lv_iload_n hx hb dX5_make_22 rfl (lv_at hl 3 rfl) ?_
          refine lv_bipush (v := 24) hx hb dX5_make_23 (by decide) ?_
          refine lv_icmp_ne (tgt := 31) hx hb dX5_make_25 (by decide) (fun c209 => ?_) (fun c209 => ?_)
          · replace hm := it_f c209 hm
            refine lv_aload_n hx hb dX5_make_31 rfl (lv_at hl 0 rfl) ?_
            obtain ⟨q210, hc211, hm⟩ := bd_s hm
            refine ks_v (wo := (wMD G b q210.1 q210.2 kept mark start)) (rV (As := []) (rest := []) (b := (b 0)) (wi := (wMD G b w2u dep2u kept mark start)) hF hK hP hD (c_X5_saveState l G N b w2u dep2u kept mark start q210 hc211 H.size) (cwV 0 hts gX5_make_X5_saveState rfl rfl rfl (by decide +kernel) ⟨Nat.le_of_ble_eq_true rfl, Nat.le_of_ble_eq_true rfl⟩) (va_recv hK.1 hP (ci := 5) (q0 := 0) rfl rfl) rfl hl.1 rfl (Nat.le_of_ble_eq_true rfl) dX5_make_32 ⟨Nat.le_of_ble_eq_true rfl, Nat.le_of_ble_eq_true rfl⟩) hD hS hA (fun H locs hP hD hS => ?_)
            have hP : va_P G.1 vwCl (wMD G b q210.1 q210.2 kept mark start) H := hP
            have hD : va_D A (wMD G b q210.1 q210.2 kept mark start) := hD
            refine lv_iconst (v := 0) hx hb dX5_make_35 (by decide) ?_
            refine lv_istore (lv' := [(4, .int 0), (0, .ref (b 0)), (1, .int u2_1), (2, .int u2_2), (3, .int v2_3)]) hx hb dX5_make_36 hl (by decide) rfl (fun ls hl => ?_)
            have L38 : ∀ (u38_1 : Int32) (u38_2 : Int32) (u38_3 : Int32) (dep38u : Int32) (n38 : Nat) (v38_4 : Int32) (w38_ : Nat → Int32), M_X5_make_L38 u38_1 u38_2 u38_3 dep38u n38 v38_4 w38_ = some q → ∀ (H : Heap) (locs : List Loc) (ls : Array Slot), va_P G.1 vwCl (wMD G b w38_ dep38u kept mark start) H → va_D A (wMD G b w38_ dep38u kept mark start) → va_S A s.heap H locs → lv_has ls 5 [(0, .ref (b 0)), (1, .int u38_1), (2, .int u38_2), (3, .int u38_3), (4, .int v38_4)] → W p l e rm_X5_make s m args below meth c H locs 0 0 (MQ below (QI G A q.1 (wMD G b q.2.1 q.2.2 kept mark start)) args s rm_X5_make.cells rm_X5_make.slots A) (F0 m 38 ls []) := by
              intro u38_1 u38_2 u38_3 dep38u n38
              induction n38 with
              | zero => intro v38_4 w38_ hm; cases hm
              | succ n38 ih38 =>
                intro v38_4 w38_ hm H locs ls hP hD hS hl
                rw [M_X5_make_L38] at hm
                refine lv_iload hx hb dX5_make_38 (lv_at hl 4 rfl) ?_
                refine lv_bipush (v := 15) hx hb dX5_make_40 (by decide) ?_
                refine lv_icmp_ge (tgt := 75) hx hb dX5_make_42 (by decide) (fun c3801 => ?_) (fun c3801 => ?_)
                · replace hm := it_t c3801 hm
                  refine lv_aload_n hx hb dX5_make_75 rfl (lv_at hl 0 rfl) ?_
                  refine va_get (D := G.1) (ci := 5) (v := .ref (b 1)) (C := RX5) (T := TX5) (N := 5) hx hb hts w1_X5_make hown hK.1 hP 0 rfl rfl 0 (by decide) (hts _ w0_X5_make) (fun _ h9 => h9) rfl dX5_make_76 ?_
                  refine lv_bipush (v := 15) hx hb dX5_make_79 (by decide) ?_
                  refine lv_iload_n hx hb dX5_make_81 rfl (lv_at hl 3 rfl) ?_
                  refine lv_imul hx hb dX5_make_82 ?_
                  refine lv_iconst (v := 0) hx hb dX5_make_83 (by decide) ?_
                  refine lv_iadd hx hb dX5_make_84 ?_
                  refine lv_iload_n hx hb dX5_make_85 rfl (lv_at hl 1 rfl) ?_
                  obtain ⟨hi3802, hm⟩ := gd_s hm
                  refine va_iast hx hb hK.1 hP hD hS 1 0 rfl rfl hi3802 dX5_make_86 (fun H locs hP hD hS => ?_)
                  have hP : va_P G.1 vwCl (wMD G b (upd w38_ ((15 * u38_3) + 0).toNatClampNeg u38_1) dep38u kept mark start) H := hP
                  have hD : va_D A (wMD G b (upd w38_ ((15 * u38_3) + 0).toNatClampNeg u38_1) dep38u kept mark start) := hD
                  refine lv_aload_n hx hb dX5_make_87 rfl (lv_at hl 0 rfl) ?_
                  refine va_get (D := G.1) (ci := 5) (v := .ref (b 1)) (C := RX5) (T := TX5) (N := 5) hx hb hts w1_X5_make hown hK.1 hP 0 rfl rfl 0 (by decide) (hts _ w0_X5_make) (fun _ h9 => h9) rfl dX5_make_88 ?_
                  refine lv_bipush (v := 15) hx hb dX5_make_91 (by decide) ?_
                  refine lv_iload_n hx hb dX5_make_93 rfl (lv_at hl 3 rfl) ?_
                  refine lv_imul hx hb dX5_make_94 ?_
                  refine lv_iconst (v := 3) hx hb dX5_make_95 (by decide) ?_
                  refine lv_iadd hx hb dX5_make_96 ?_
                  refine lv_iload_n hx hb dX5_make_97 rfl (lv_at hl 2 rfl) ?_
                  obtain ⟨hi3803, hm⟩ := gd_s hm
                  refine va_iast hx hb hK.1 hP hD hS 1 0 rfl rfl hi3803 dX5_make_98 (fun H locs hP hD hS => ?_)
                  have hP : va_P G.1 vwCl (wMD G b (upd (upd w38_ ((15 * u38_3) + 0).toNatClampNeg u38_1) ((15 * u38_3) + 3).toNatClampNeg u38_2) dep38u kept mark start) H := hP
                  have hD : va_D A (wMD G b (upd (upd w38_ ((15 * u38_3) + 0).toNatClampNeg u38_1) ((15 * u38_3) + 3).toNatClampNeg u38_2) dep38u kept mark start) := hD
                  refine lv_iload_n hx hb dX5_make_99 rfl (lv_at hl 3 rfl) ?_
                  cases hm
                  exact rt_i hx hb hr hlocks hP hD hS dX5_make_100
                · replace hm := it_f c3801 hm
                  refine lv_aload_n hx hb dX5_make_45 rfl (lv_at hl 0 rfl) ?_
                  refine va_get (D := G.1) (ci := 5) (v := .ref (b 1)) (C := RX5) (T := TX5) (N := 5) hx hb hts w1_X5_make hown hK.1 hP 0 rfl rfl 0 (by decide) (hts _ w0_X5_make) (fun _ h9 => h9) rfl dX5_make_46 ?_
                  refine lv_bipush (v := 15) hx hb dX5_make_49 (by decide) ?_
                  refine lv_iload_n hx hb dX5_make_51 rfl (lv_at hl 3 rfl) ?_
                  refine lv_imul hx hb dX5_make_52 ?_
                  refine lv_iload hx hb dX5_make_53 (lv_at hl 4 rfl) ?_
                  refine lv_iadd hx hb dX5_make_55 ?_
                  refine lv_iload hx hb dX5_make_56 (lv_at hl 4 rfl) ?_
                  refine lv_iconst (v := 3) hx hb dX5_make_58 (by decide) ?_
                  refine lv_icmp_ge (tgt := 66) hx hb dX5_make_59 (by decide) (fun c3804 => ?_) (fun c3804 => ?_)
                  · replace hm := it_t c3804 hm
                    refine lv_bipush (v := (-9)) hx hb dX5_make_66 (by decide) ?_
                    obtain ⟨hi3805, hm⟩ := gd_s hm
                    refine va_iast hx hb hK.1 hP hD hS 1 0 rfl rfl hi3805 dX5_make_68 (fun H locs hP hD hS => ?_)
                    have hP : va_P G.1 vwCl (wMD G b (upd w38_ ((15 * u38_3) + v38_4).toNatClampNeg (-9)) dep38u kept mark start) H := hP
                    have hD : va_D A (wMD G b (upd w38_ ((15 * u38_3) + v38_4).toNatClampNeg (-9)) dep38u kept mark start) := hD
                    refine lv_iinc (v := (v38_4 + 1)) (lv' := [(4, .int (v38_4 + 1)), (0, .ref (b 0)), (1, .int u38_1), (2, .int u38_2), (3, .int u38_3)]) hx hb dX5_make_69 hl (k := 4) rfl rfl (by decide) rfl (fun ls hl => ?_)
                    refine lv_goto (tgt := 38) hx hb dX5_make_72 (by decide) ?_
                    exact ih38 (v38_4 + 1) (upd w38_ ((15 * u38_3) + v38_4).toNatClampNeg (-9)) hm _ _ _ hP hD hS (lv_sub hl [1, 2, 3, 4, 0] rfl)
                  · replace hm := it_f c3804 hm
                    refine lv_iconst (v := 0) hx hb dX5_make_62 (by decide) ?_
                    refine lv_goto (tgt := 68) hx hb dX5_make_63 (by decide) ?_
                    obtain ⟨hi3806, hm⟩ := gd_s hm
                    refine va_iast hx hb hK.1 hP hD hS 1 0 rfl rfl hi3806 dX5_make_68 (fun H locs hP hD hS => ?_)
                    have hP : va_P G.1 vwCl (wMD G b (upd w38_ ((15 * u38_3) + v38_4).toNatClampNeg 0) dep38u kept mark start) H := hP
                    have hD : va_D A (wMD G b (upd w38_ ((15 * u38_3) + v38_4).toNatClampNeg 0) dep38u kept mark start) := hD
                    refine lv_iinc (v := (v38_4 + 1)) (lv' := [(4, .int (v38_4 + 1)), (0, .ref (b 0)), (1, .int u38_1), (2, .int u38_2), (3, .int u38_3)]) hx hb dX5_make_69 hl (k := 4) rfl rfl (by decide) rfl (fun ls hl => ?_)
                    refine lv_goto (tgt := 38) hx hb dX5_make_72 (by decide) ?_
                    exact ih38 (v38_4 + 1) (upd w38_ ((15 * u38_3) + v38_4).toNatClampNeg 0) hm _ _ _ hP hD hS (lv_sub hl [1, 2, 3, 4, 0] rfl)
            exact L38 u2_1 u2_2 v2_3 q210.2 N 0 q210.1 hm _ _ _ hP hD hS (lv_sub hl [1, 2, 3, 4, 0] rfl)
          · replace hm := it_t c209 hm
            refine lv_bipush (v := (-3)) hx hb dX5_make_28 (by decide) ?_
            cases hm
            exact rt_i hx hb hr hlocks hP hD hS dX5_make_30
        · replace hm := it_f c208 hm
          refine lv_iinc (v := (v2_3 + 1)) (lv' := [(3, .int (v2_3 + 1)), (0, .ref (b 0)), (1, .int u2_1), (2, .int u2_2)]) hx hb dX5_make_16 hl (k := 3) rfl rfl (by decide) rfl (fun ls hl => ?_)
          refine lv_goto (tgt := 2) hx hb dX5_make_19 (by decide) ?_
          exact ih2 (v2_3 + 1) hm _ _ _ hP hD hS (lv_sub hl [1, 2, 3, 0] rfl)
  exact L2 p1 p2 w dep N 0 hm _ _ _ hP hD hS (lv_sub hl [1, 2, 3, 0] rfl)
def M_X5_allocate (N : Nat) (w : Nat → Int32) (dep : Int32) : Option (Int32 × (Nat → Int32) × Int32) :=
  (M_X5_make N w dep 0 (-9)).bind fun q1 => some (q1.1, q1.2.1, q1.2.2)
abbrev rm_X5_allocate : Room := { frames := 3, cells := 0, slots := 0, locals := 68 }
set_option maxHeartbeats 4000000 in
set_option maxRecDepth 100000 in
theorem c_X5_allocate (l : Launch) (G : GG) (N : Nat) (b : Nat → Nat) (w : Nat → Int32) (dep : Int32) (kept : Nat → Int32) (mark : Nat → Int32) (start : Nat → Int32) (q : Int32 × (Nat → Int32) × Int32) (hm : M_X5_allocate N w dep = some q) : CTi l yX5_allocate wsX5_allocate rm_X5_allocate G [.ref (b 0)] (wMD G b w dep kept mark start) q.1 (wMD G b q.2.1 q.2.2 kept mark start) := by
  intro sz
  refine mk_body (Qc := fun A => (QI G A q.1 (wMD G b q.2.1 q.2.2 kept mark start))) (cc := cX5_allocate) (maxL := 1) (ret := (some .int)) (lv := [(0, .ref (b 0))]) (by decide) rfl rfl (Nat.le_of_ble_eq_true rfl) ?_
  intro p e s m args below meth c A H locs ls hF hr hlocks hname hK hA hP hD hS hl
  obtain ⟨hx, hb, hml, hown, hts⟩ := id hF
  unfold M_X5_allocate at hm
  refine lv_aload_n hx hb dX5_allocate_0 rfl (lv_at hl 0 rfl) ?_
  refine lv_iconst (v := 0) hx hb dX5_allocate_1 (by decide) ?_
  refine lv_bipush (v := (-9)) hx hb dX5_allocate_2 (by decide) ?_
  obtain ⟨q1, hc2, hm⟩ := bd_s hm
  refine ks_i (wo := (wMD G b q1.2.1 q1.2.2 kept mark start)) (rV (As := [.int 0, .int (-9)]) (rest := []) (b := (b 0)) (wi := (wMD G b w dep kept mark start)) hF hK hP hD (c_X5_make l G N b w dep kept mark start 0 (-9) q1 hc2 H.size) (cwV 2 hts gX5_allocate_X5_make rfl rfl rfl (by decide +kernel) ⟨Nat.le_of_ble_eq_true rfl, Nat.le_of_ble_eq_true rfl⟩) (va_recv hK.1 hP (ci := 5) (q0 := 0) rfl rfl) rfl hl.1 rfl (Nat.le_of_ble_eq_true rfl) dX5_allocate_4 ⟨Nat.le_of_ble_eq_true rfl, Nat.le_of_ble_eq_true rfl⟩) hD hS hA (fun H locs hP hD hS => ?_)
  have hP : va_P G.1 vwCl (wMD G b q1.2.1 q1.2.2 kept mark start) H := hP
  have hD : va_D A (wMD G b q1.2.1 q1.2.2 kept mark start) := hD
  cases hm
  exact rt_i hx hb hr hlocks hP hD hS dX5_allocate_7
def M_X5_allocateTable (N : Nat) (w : Nat → Int32) (dep : Int32) : Option (Int32 × (Nat → Int32) × Int32) :=
  (M_X5_make N w dep 1 (-9)).bind fun q1 => some (q1.1, q1.2.1, q1.2.2)
abbrev rm_X5_allocateTable : Room := { frames := 3, cells := 0, slots := 0, locals := 68 }
set_option maxHeartbeats 4000000 in
set_option maxRecDepth 100000 in
theorem c_X5_allocateTable (l : Launch) (G : GG) (N : Nat) (b : Nat → Nat) (w : Nat → Int32) (dep : Int32) (kept : Nat → Int32) (mark : Nat → Int32) (start : Nat → Int32) (q : Int32 × (Nat → Int32) × Int32) (hm : M_X5_allocateTable N w dep = some q) : CTi l yX5_allocateTable wsX5_allocateTable rm_X5_allocateTable G [.ref (b 0)] (wMD G b w dep kept mark start) q.1 (wMD G b q.2.1 q.2.2 kept mark start) := by
  intro sz
  refine mk_body (Qc := fun A => (QI G A q.1 (wMD G b q.2.1 q.2.2 kept mark start))) (cc := cX5_allocateTable) (maxL := 1) (ret := (some .int)) (lv := [(0, .ref (b 0))]) (by decide) rfl rfl (Nat.le_of_ble_eq_true rfl) ?_
  intro p e s m args below meth c A H locs ls hF hr hlocks hname hK hA hP hD hS hl
  obtain ⟨hx, hb, hml, hown, hts⟩ := id hF
  unfold M_X5_allocateTable at hm
  refine lv_aload_n hx hb dX5_allocateTable_0 rfl (lv_at hl 0 rfl) ?_
  refine lv_iconst (v := 1) hx hb dX5_allocateTable_1 (by decide) ?_
  refine lv_bipush (v := (-9)) hx hb dX5_allocateTable_2 (by decide) ?_
  obtain ⟨q1, hc2, hm⟩ := bd_s hm
  refine ks_i (wo := (wMD G b q1.2.1 q1.2.2 kept mark start)) (rV (As := [.int 1, .int (-9)]) (rest := []) (b := (b 0)) (wi := (wMD G b w dep kept mark start)) hF hK hP hD (c_X5_make l G N b w dep kept mark start 1 (-9) q1 hc2 H.size) (cwV 2 hts gX5_allocateTable_X5_make rfl rfl rfl (by decide +kernel) ⟨Nat.le_of_ble_eq_true rfl, Nat.le_of_ble_eq_true rfl⟩) (va_recv hK.1 hP (ci := 5) (q0 := 0) rfl rfl) rfl hl.1 rfl (Nat.le_of_ble_eq_true rfl) dX5_allocateTable_4 ⟨Nat.le_of_ble_eq_true rfl, Nat.le_of_ble_eq_true rfl⟩) hD hS hA (fun H locs hP hD hS => ?_)
  have hP : va_P G.1 vwCl (wMD G b q1.2.1 q1.2.2 kept mark start) H := hP
  have hD : va_D A (wMD G b q1.2.1 q1.2.2 kept mark start) := hD
  cases hm
  exact rt_i hx hb hr hlocks hP hD hS dX5_allocateTable_7
def M_X5_allocateWeak (N : Nat) (w : Nat → Int32) (dep : Int32) (p1 : Int32) : Option (Int32 × (Nat → Int32) × Int32) :=
  (M_X5_isAllocated w p1).bind fun q1 => if q1 = 0 then (some ((-1), w, dep)) else ((M_X5_make N w dep 2 p1).bind fun q4 => some (q4.1, q4.2.1, q4.2.2))
abbrev rm_X5_allocateWeak : Room := { frames := 3, cells := 0, slots := 0, locals := 68 }
set_option maxHeartbeats 4000000 in
set_option maxRecDepth 100000 in
theorem c_X5_allocateWeak (l : Launch) (G : GG) (N : Nat) (b : Nat → Nat) (w : Nat → Int32) (dep : Int32) (kept : Nat → Int32) (mark : Nat → Int32) (start : Nat → Int32) (p1 : Int32) (q : Int32 × (Nat → Int32) × Int32) (hm : M_X5_allocateWeak N w dep p1 = some q) : CTi l yX5_allocateWeak wsX5_allocateWeak rm_X5_allocateWeak G [.ref (b 0), .int p1] (wMD G b w dep kept mark start) q.1 (wMD G b q.2.1 q.2.2 kept mark start) := by
  intro sz
  refine mk_body (Qc := fun A => (QI G A q.1 (wMD G b q.2.1 q.2.2 kept mark start))) (cc := cX5_allocateWeak) (maxL := 2) (ret := (some .int)) (lv := [(0, .ref (b 0)), (1, .int p1)]) (by decide) rfl rfl (Nat.le_of_ble_eq_true rfl) ?_
  intro p e s m args below meth c A H locs ls hF hr hlocks hname hK hA hP hD hS hl
  obtain ⟨hx, hb, hml, hown, hts⟩ := id hF
  unfold M_X5_allocateWeak at hm
  refine lv_aload_n hx hb dX5_allocateWeak_0 rfl (lv_at hl 0 rfl) ?_
  refine lv_iload_n hx hb dX5_allocateWeak_1 rfl (lv_at hl 1 rfl) ?_
  obtain ⟨q1, hc2, hm⟩ := bd_s hm
  refine ks_i (wo := (wMD G b w dep kept mark start)) (rV (As := [.int p1]) (rest := []) (b := (b 0)) (wi := (wMD G b w dep kept mark start)) hF hK hP hD (c_X5_isAllocated l G b w dep kept mark start p1 q1 hc2 H.size) (cwV 1 hts gX5_allocateWeak_X5_isAllocated rfl rfl rfl (by decide +kernel) ⟨Nat.le_of_ble_eq_true rfl, Nat.le_of_ble_eq_true rfl⟩) (va_recv hK.1 hP (ci := 5) (q0 := 0) rfl rfl) rfl hl.1 rfl (Nat.le_of_ble_eq_true rfl) dX5_allocateWeak_2 ⟨Nat.le_of_ble_eq_true rfl, Nat.le_of_ble_eq_true rfl⟩) hD hS hA (fun H locs hP hD hS => ?_)
  have hP : va_P G.1 vwCl (wMD G b w dep kept mark start) H := hP
  have hD : va_D A (wMD G b w dep kept mark start) := hD
  refine lv_if_eq (tgt := 17) hx hb dX5_allocateWeak_5 (by decide) (fun c3 => ?_) (fun c3 => ?_)
  · replace hm := it_t c3 hm
    refine lv_iconst (v := (-1)) hx hb dX5_allocateWeak_17 (by decide) ?_
    cases hm
    exact rt_i hx hb hr hlocks hP hD hS dX5_allocateWeak_18
  · replace hm := it_f c3 hm
    refine lv_aload_n hx hb dX5_allocateWeak_8 rfl (lv_at hl 0 rfl) ?_
    refine lv_iconst (v := 2) hx hb dX5_allocateWeak_9 (by decide) ?_
    refine lv_iload_n hx hb dX5_allocateWeak_10 rfl (lv_at hl 1 rfl) ?_
    obtain ⟨q4, hc5, hm⟩ := bd_s hm
    refine ks_i (wo := (wMD G b q4.2.1 q4.2.2 kept mark start)) (rV (As := [.int 2, .int p1]) (rest := []) (b := (b 0)) (wi := (wMD G b w dep kept mark start)) hF hK hP hD (c_X5_make l G N b w dep kept mark start 2 p1 q4 hc5 H.size) (cwV 2 hts gX5_allocateWeak_X5_make rfl rfl rfl (by decide +kernel) ⟨Nat.le_of_ble_eq_true rfl, Nat.le_of_ble_eq_true rfl⟩) (va_recv hK.1 hP (ci := 5) (q0 := 0) rfl rfl) rfl hl.1 rfl (Nat.le_of_ble_eq_true rfl) dX5_allocateWeak_11 ⟨Nat.le_of_ble_eq_true rfl, Nat.le_of_ble_eq_true rfl⟩) hD hS hA (fun H locs hP hD hS => ?_)
    have hP : va_P G.1 vwCl (wMD G b q4.2.1 q4.2.2 kept mark start) H := hP
    have hD : va_D A (wMD G b q4.2.1 q4.2.2 kept mark start) := hD
    refine lv_goto (tgt := 18) hx hb dX5_allocateWeak_14 (by decide) ?_
    cases hm
    exact rt_i hx hb hr hlocks hP hD hS dX5_allocateWeak_18
def M_X5_kind (w : Nat → Int32) (p1 : Int32) : Option (Int32) :=
  (M_X5_isAllocated w p1).bind fun q1 => if q1 = 0 then (some (-9)) else ((M_X5_part w p1 0).bind fun q4 => some q4)
abbrev rm_X5_kind : Room := { frames := 2, cells := 0, slots := 0, locals := 43 }
set_option maxHeartbeats 4000000 in
set_option maxRecDepth 100000 in
theorem c_X5_kind (l : Launch) (G : GG) (b : Nat → Nat) (w : Nat → Int32) (dep : Int32) (kept : Nat → Int32) (mark : Nat → Int32) (start : Nat → Int32) (p1 : Int32) (q : Int32) (hm : M_X5_kind w p1 = some q) : CTi l yX5_kind wsX5_kind rm_X5_kind G [.ref (b 0), .int p1] (wMD G b w dep kept mark start) q (wMD G b w dep kept mark start) := by
  intro sz
  refine mk_body (Qc := fun A => (QI G A q (wMD G b w dep kept mark start))) (cc := cX5_kind) (maxL := 2) (ret := (some .int)) (lv := [(0, .ref (b 0)), (1, .int p1)]) (by decide) rfl rfl (Nat.le_of_ble_eq_true rfl) ?_
  intro p e s m args below meth c A H locs ls hF hr hlocks hname hK hA hP hD hS hl
  obtain ⟨hx, hb, hml, hown, hts⟩ := id hF
  unfold M_X5_kind at hm
  refine lv_aload_n hx hb dX5_kind_0 rfl (lv_at hl 0 rfl) ?_
  refine lv_iload_n hx hb dX5_kind_1 rfl (lv_at hl 1 rfl) ?_
  obtain ⟨q1, hc2, hm⟩ := bd_s hm
  refine ks_i (wo := (wMD G b w dep kept mark start)) (rV (As := [.int p1]) (rest := []) (b := (b 0)) (wi := (wMD G b w dep kept mark start)) hF hK hP hD (c_X5_isAllocated l G b w dep kept mark start p1 q1 hc2 H.size) (cwV 1 hts gX5_kind_X5_isAllocated rfl rfl rfl (by decide +kernel) ⟨Nat.le_of_ble_eq_true rfl, Nat.le_of_ble_eq_true rfl⟩) (va_recv hK.1 hP (ci := 5) (q0 := 0) rfl rfl) rfl hl.1 rfl (Nat.le_of_ble_eq_true rfl) dX5_kind_2 ⟨Nat.le_of_ble_eq_true rfl, Nat.le_of_ble_eq_true rfl⟩) hD hS hA (fun H locs hP hD hS => ?_)
  have hP : va_P G.1 vwCl (wMD G b w dep kept mark start) H := hP
  have hD : va_D A (wMD G b w dep kept mark start) := hD
  refine lv_if_eq (tgt := 17) hx hb dX5_kind_5 (by decide) (fun c3 => ?_) (fun c3 => ?_)
  · replace hm := it_t c3 hm
    refine lv_bipush (v := (-9)) hx hb dX5_kind_17 (by decide) ?_
    cases hm
    exact rt_i hx hb hr hlocks hP hD hS dX5_kind_19
  · replace hm := it_f c3 hm
    refine lv_aload_n hx hb dX5_kind_8 rfl (lv_at hl 0 rfl) ?_
    refine lv_iload_n hx hb dX5_kind_9 rfl (lv_at hl 1 rfl) ?_
    refine lv_iconst (v := 0) hx hb dX5_kind_10 (by decide) ?_
    obtain ⟨q4, hc5, hm⟩ := bd_s hm
    refine ks_i (wo := (wMD G b w dep kept mark start)) (rV (As := [.int p1, .int 0]) (rest := []) (b := (b 0)) (wi := (wMD G b w dep kept mark start)) hF hK hP hD (c_X5_part l G b w dep kept mark start p1 0 q4 hc5 H.size) (cwV 2 hts gX5_kind_X5_part rfl rfl rfl (by decide +kernel) ⟨Nat.le_of_ble_eq_true rfl, Nat.le_of_ble_eq_true rfl⟩) (va_recv hK.1 hP (ci := 5) (q0 := 0) rfl rfl) rfl hl.1 rfl (Nat.le_of_ble_eq_true rfl) dX5_kind_11 ⟨Nat.le_of_ble_eq_true rfl, Nat.le_of_ble_eq_true rfl⟩) hD hS hA (fun H locs hP hD hS => ?_)
    have hP : va_P G.1 vwCl (wMD G b w dep kept mark start) H := hP
    have hD : va_D A (wMD G b w dep kept mark start) := hD
    refine lv_goto (tgt := 19) hx hb dX5_kind_14 (by decide) ?_
    cases hm
    exact rt_i hx hb hr hlocks hP hD hS dX5_kind_19
def M_X5_change (N : Nat) (w : Nat → Int32) (dep : Int32) (p1 : Int32) (p2 : Int32) : Option (Int32 × (Nat → Int32) × Int32) :=
  gd p1 3880 (if (w p1.toNatClampNeg) = p2 then (some ((-2), w, dep)) else ((M_X5_saveState N w dep).bind fun q3 => gd p1 3880 (some ((w p1.toNatClampNeg), (upd q3.1 p1.toNatClampNeg p2), q3.2))))
theorem w0_X5_change : Cond.fieldLink RX5 7 "WeakTableHeapModel" "w" "[I" ∈ wsX5_change := by decide +kernel
theorem w1_X5_change : ∀ w ∈ u_ws RX5 TX5 5, w ∈ wsX5_change := by decide +kernel
abbrev rm_X5_change : Room := { frames := 2, cells := 0, slots := 0, locals := 44 }
set_option maxHeartbeats 4000000 in
set_option maxRecDepth 100000 in
theorem c_X5_change (l : Launch) (G : GG) (N : Nat) (b : Nat → Nat) (w : Nat → Int32) (dep : Int32) (kept : Nat → Int32) (mark : Nat → Int32) (start : Nat → Int32) (p1 : Int32) (p2 : Int32) (q : Int32 × (Nat → Int32) × Int32) (hm : M_X5_change N w dep p1 p2 = some q) : CTi l yX5_change wsX5_change rm_X5_change G [.ref (b 0), .int p1, .int p2] (wMD G b w dep kept mark start) q.1 (wMD G b q.2.1 q.2.2 kept mark start) := by
  intro sz
  refine mk_body (Qc := fun A => (QI G A q.1 (wMD G b q.2.1 q.2.2 kept mark start))) (cc := cX5_change) (maxL := 4) (ret := (some .int)) (lv := [(0, .ref (b 0)), (1, .int p1), (2, .int p2)]) (by decide) rfl rfl (Nat.le_of_ble_eq_true rfl) ?_
  intro p e s m args below meth c A H locs ls hF hr hlocks hname hK hA hP hD hS hl
  obtain ⟨hx, hb, hml, hown, hts⟩ := id hF
  unfold M_X5_change at hm
  refine lv_aload_n hx hb dX5_change_0 rfl (lv_at hl 0 rfl) ?_
  refine va_get (D := G.1) (ci := 5) (v := .ref (b 1)) (C := RX5) (T := TX5) (N := 5) hx hb hts w1_X5_change hown hK.1 hP 0 rfl rfl 0 (by decide) (hts _ w0_X5_change) (fun _ h9 => h9) rfl dX5_change_1 ?_
  refine lv_iload_n hx hb dX5_change_4 rfl (lv_at hl 1 rfl) ?_
  obtain ⟨hi1, hm⟩ := gd_s hm
  refine va_iald hx hb hK.1 hP 1 0 rfl rfl hi1 dX5_change_5 ?_
  refine lv_istore_n (lv' := [(3, .int (w p1.toNatClampNeg)), (0, .ref (b 0)), (1, .int p1), (2, .int p2)]) hx hb dX5_change_6 rfl hl (by decide) rfl (fun ls hl => ?_)
  refine lv_iload_n hx hb dX5_change_7 rfl (lv_at hl 0 rfl) ?_
  refine lv_iload_n hx hb dX5_change_8 rfl (lv_at hl 3 rfl) ?_
  refine lv_icmp_ne (tgt := 15) hx hb dX5_change_9 (by decide) (fun c2 => ?_) (fun c2 => ?_)
  · replace hm := it_f c2 hm
    refine lv_aload_n hx hb dX5_change_15 rfl (lv_at hl 1 rfl) ?_
    obtain ⟨q3, hc4, hm⟩ := bd_s hm
    refine ks_v (wo := (wMD G b q3.1 q3.2 kept mark start)) (rV (As := []) (rest := []) (b := (b 0)) (wi := (wMD G b w dep kept mark start)) hF hK hP hD (c_X5_saveState l G N b w dep kept mark start q3 hc4 H.size) (cwV 0 hts gX5_change_X5_saveState rfl rfl rfl (by decide +kernel) ⟨Nat.le_of_ble_eq_true rfl, Nat.le_of_ble_eq_true rfl⟩) (va_recv hK.1 hP (ci := 5) (q0 := 0) rfl rfl) rfl hl.1 rfl (Nat.le_of_ble_eq_true rfl) dX5_change_16 ⟨Nat.le_of_ble_eq_true rfl, Nat.le_of_ble_eq_true rfl⟩) hD hS hA (fun H locs hP hD hS => ?_)
    have hP : va_P G.1 vwCl (wMD G b q3.1 q3.2 kept mark start) H := hP
    have hD : va_D A (wMD G b q3.1 q3.2 kept mark start) := hD
    refine lv_aload_n hx hb dX5_change_19 rfl (lv_at hl 1 rfl) ?_
    refine va_get (D := G.1) (ci := 5) (v := .ref (b 1)) (C := RX5) (T := TX5) (N := 5) hx hb hts w1_X5_change hown hK.1 hP 0 rfl rfl 0 (by decide) (hts _ w0_X5_change) (fun _ h9 => h9) rfl dX5_change_20 ?_
    refine lv_iload_n hx hb dX5_change_23 rfl (lv_at hl 2 rfl) ?_
    refine lv_iload_n hx hb dX5_change_24 rfl (lv_at hl 3 rfl) ?_
    obtain ⟨hi5, hm⟩ := gd_s hm
    refine va_iast hx hb hK.1 hP hD hS 1 0 rfl rfl hi5 dX5_change_25 (fun H locs hP hD hS => ?_)
    have hP : va_P G.1 vwCl (wMD G b (upd q3.1 p1.toNatClampNeg p2) q3.2 kept mark start) H := hP
    have hD : va_D A (wMD G b (upd q3.1 p1.toNatClampNeg p2) q3.2 kept mark start) := hD
    refine lv_iload_n hx hb dX5_change_26 rfl (lv_at hl 0 rfl) ?_
    cases hm
    exact rt_i hx hb hr hlocks hP hD hS dX5_change_27
  · replace hm := it_t c2 hm
    refine lv_bipush (v := (-2)) hx hb dX5_change_12 (by decide) ?_
    cases hm
    exact rt_i hx hb hr hlocks hP hD hS dX5_change_14
def M_X5_setField (N : Nat) (w : Nat → Int32) (dep : Int32) (p1 : Int32) (p2 : Int32) (p3 : Int32) : Option (Int32 × (Nat → Int32) × Int32) :=
  (M_X5_isKind w p1 0).bind fun q1 => if q1 = 0 then (some ((-1), w, dep)) else ((M_X5_within p2 0 2).bind fun q4 => if q4 = 0 then (some ((-1), w, dep)) else (if p3 = (-9) then ((M_X5_change N w dep (((15 * p1) + 3) + p2) p3).bind fun q8 => some (q8.1, q8.2.1, q8.2.2)) else ((M_X5_isAllocated w p3).bind fun q10 => if q10 = 0 then (some ((-1), w, dep)) else ((M_X5_change N w dep (((15 * p1) + 3) + p2) p3).bind fun q13 => some (q13.1, q13.2.1, q13.2.2)))))
abbrev rm_X5_setField : Room := { frames := 3, cells := 0, slots := 0, locals := 67 }
set_option maxHeartbeats 4000000 in
set_option maxRecDepth 100000 in
theorem c_X5_setField (l : Launch) (G : GG) (N : Nat) (b : Nat → Nat) (w : Nat → Int32) (dep : Int32) (kept : Nat → Int32) (mark : Nat → Int32) (start : Nat → Int32) (p1 : Int32) (p2 : Int32) (p3 : Int32) (q : Int32 × (Nat → Int32) × Int32) (hm : M_X5_setField N w dep p1 p2 p3 = some q) : CTi l yX5_setField wsX5_setField rm_X5_setField G [.ref (b 0), .int p1, .int p2, .int p3] (wMD G b w dep kept mark start) q.1 (wMD G b q.2.1 q.2.2 kept mark start) := by
  intro sz
  refine mk_body (Qc := fun A => (QI G A q.1 (wMD G b q.2.1 q.2.2 kept mark start))) (cc := cX5_setField) (maxL := 4) (ret := (some .int)) (lv := [(0, .ref (b 0)), (1, .int p1), (2, .int p2), (3, .int p3)]) (by decide) rfl rfl (Nat.le_of_ble_eq_true rfl) ?_
  intro p e s m args below meth c A H locs ls hF hr hlocks hname hK hA hP hD hS hl
  obtain ⟨hx, hb, hml, hown, hts⟩ := id hF
  unfold M_X5_setField at hm
  refine lv_aload_n hx hb dX5_setField_0 rfl (lv_at hl 0 rfl) ?_
  refine lv_iload_n hx hb dX5_setField_1 rfl (lv_at hl 1 rfl) ?_
  refine lv_iconst (v := 0) hx hb dX5_setField_2 (by decide) ?_
  obtain ⟨q1, hc2, hm⟩ := bd_s hm
  refine ks_i (wo := (wMD G b w dep kept mark start)) (rV (As := [.int p1, .int 0]) (rest := []) (b := (b 0)) (wi := (wMD G b w dep kept mark start)) hF hK hP hD (c_X5_isKind l G b w dep kept mark start p1 0 q1 hc2 H.size) (cwV 2 hts gX5_setField_X5_isKind rfl rfl rfl (by decide +kernel) ⟨Nat.le_of_ble_eq_true rfl, Nat.le_of_ble_eq_true rfl⟩) (va_recv hK.1 hP (ci := 5) (q0 := 0) rfl rfl) rfl hl.1 rfl (Nat.le_of_ble_eq_true rfl) dX5_setField_3 ⟨Nat.le_of_ble_eq_true rfl, Nat.le_of_ble_eq_true rfl⟩) hD hS hA (fun H locs hP hD hS => ?_)
  have hP : va_P G.1 vwCl (wMD G b w dep kept mark start) H := hP
  have hD : va_D A (wMD G b w dep kept mark start) := hD
  refine lv_if_eq (tgt := 32) hx hb dX5_setField_6 (by decide) (fun c3 => ?_) (fun c3 => ?_)
  · replace hm := it_t c3 hm
    refine lv_iconst (v := (-1)) hx hb dX5_setField_32 (by decide) ?_
    cases hm
    exact rt_i hx hb hr hlocks hP hD hS dX5_setField_33
  · replace hm := it_f c3 hm
    refine lv_iload_n hx hb dX5_setField_9 rfl (lv_at hl 2 rfl) ?_
    refine lv_iconst (v := 0) hx hb dX5_setField_10 (by decide) ?_
    refine lv_iconst (v := 2) hx hb dX5_setField_11 (by decide) ?_
    obtain ⟨q4, hc5, hm⟩ := bd_s hm
    refine k0_i (ws := (wMD G b w dep kept mark start)) (rS (As := [.int p2, .int 0, .int 2]) (rest := []) (wi := ([] : va_W)) hF hK k0_P (k0_D (A := A)) (c_X5_within l G p2 0 2 q4 hc5 H.size) (va_cwS 3 hts gX5_setField_X5_within rfl rfl rfl (by decide +kernel) ⟨Nat.le_of_ble_eq_true rfl, Nat.le_of_ble_eq_true rfl⟩) rfl hl.1 rfl (Nat.le_of_ble_eq_true rfl) dX5_setField_12 ⟨Nat.le_of_ble_eq_true rfl, Nat.le_of_ble_eq_true rfl⟩) hP hS hA (fun H locs hP hS => ?_)
    refine lv_if_eq (tgt := 32) hx hb dX5_setField_15 (by decide) (fun c6 => ?_) (fun c6 => ?_)
    · replace hm := it_t c6 hm
      refine lv_iconst (v := (-1)) hx hb dX5_setField_32 (by decide) ?_
      cases hm
      exact rt_i hx hb hr hlocks hP hD hS dX5_setField_33
    · replace hm := it_f c6 hm
      refine lv_iload_n hx hb dX5_setField_18 rfl (lv_at hl 3 rfl) ?_
      refine lv_bipush (v := (-9)) hx hb dX5_setField_19 (by decide) ?_
      refine lv_icmp_eq (tgt := 34) hx hb dX5_setField_21 (by decide) (fun c7 => ?_) (fun c7 => ?_)
      · replace hm := it_t c7 hm
        refine lv_aload_n hx hb dX5_setField_34 rfl (lv_at hl 0 rfl) ?_
        refine lv_bipush (v := 15) hx hb dX5_setField_35 (by decide) ?_
        refine lv_iload_n hx hb dX5_setField_37 rfl (lv_at hl 1 rfl) ?_
        refine lv_imul hx hb dX5_setField_38 ?_
        refine lv_iconst (v := 3) hx hb dX5_setField_39 (by decide) ?_
        refine lv_iadd hx hb dX5_setField_40 ?_
        refine lv_iload_n hx hb dX5_setField_41 rfl (lv_at hl 2 rfl) ?_
        refine lv_iadd hx hb dX5_setField_42 ?_
        refine lv_iload_n hx hb dX5_setField_43 rfl (lv_at hl 3 rfl) ?_
        obtain ⟨q8, hc9, hm⟩ := bd_s hm
        refine ks_i (wo := (wMD G b q8.2.1 q8.2.2 kept mark start)) (rV (As := [.int (((15 * p1) + 3) + p2), .int p3]) (rest := []) (b := (b 0)) (wi := (wMD G b w dep kept mark start)) hF hK hP hD (c_X5_change l G N b w dep kept mark start (((15 * p1) + 3) + p2) p3 q8 hc9 H.size) (cwV 2 hts gX5_setField_X5_change rfl rfl rfl (by decide +kernel) ⟨Nat.le_of_ble_eq_true rfl, Nat.le_of_ble_eq_true rfl⟩) (va_recv hK.1 hP (ci := 5) (q0 := 0) rfl rfl) rfl hl.1 rfl (Nat.le_of_ble_eq_true rfl) dX5_setField_44 ⟨Nat.le_of_ble_eq_true rfl, Nat.le_of_ble_eq_true rfl⟩) hD hS hA (fun H locs hP hD hS => ?_)
        have hP : va_P G.1 vwCl (wMD G b q8.2.1 q8.2.2 kept mark start) H := hP
        have hD : va_D A (wMD G b q8.2.1 q8.2.2 kept mark start) := hD
        cases hm
        exact rt_i hx hb hr hlocks hP hD hS dX5_setField_47
      · replace hm := it_f c7 hm
        refine lv_aload_n hx hb dX5_setField_24 rfl (lv_at hl 0 rfl) ?_
        refine lv_iload_n hx hb dX5_setField_25 rfl (lv_at hl 3 rfl) ?_
        obtain ⟨q10, hc11, hm⟩ := bd_s hm
        refine ks_i (wo := (wMD G b w dep kept mark start)) (rV (As := [.int p3]) (rest := []) (b := (b 0)) (wi := (wMD G b w dep kept mark start)) hF hK hP hD (c_X5_isAllocated l G b w dep kept mark start p3 q10 hc11 H.size) (cwV 1 hts gX5_setField_X5_isAllocated rfl rfl rfl (by decide +kernel) ⟨Nat.le_of_ble_eq_true rfl, Nat.le_of_ble_eq_true rfl⟩) (va_recv hK.1 hP (ci := 5) (q0 := 0) rfl rfl) rfl hl.1 rfl (Nat.le_of_ble_eq_true rfl) dX5_setField_26 ⟨Nat.le_of_ble_eq_true rfl, Nat.le_of_ble_eq_true rfl⟩) hD hS hA (fun H locs hP hD hS => ?_)
        have hP : va_P G.1 vwCl (wMD G b w dep kept mark start) H := hP
        have hD : va_D A (wMD G b w dep kept mark start) := hD
        refine lv_if_ne (tgt := 34) hx hb dX5_setField_29 (by decide) (fun c12 => ?_) (fun c12 => ?_)
        · replace hm := it_f c12 hm
          refine lv_aload_n hx hb dX5_setField_34 rfl (lv_at hl 0 rfl) ?_
          refine lv_bipush (v := 15) hx hb dX5_setField_35 (by decide) ?_
          refine lv_iload_n hx hb dX5_setField_37 rfl (lv_at hl 1 rfl) ?_
          refine lv_imul hx hb dX5_setField_38 ?_
          refine lv_iconst (v := 3) hx hb dX5_setField_39 (by decide) ?_
          refine lv_iadd hx hb dX5_setField_40 ?_
          refine lv_iload_n hx hb dX5_setField_41 rfl (lv_at hl 2 rfl) ?_
          refine lv_iadd hx hb dX5_setField_42 ?_
          refine lv_iload_n hx hb dX5_setField_43 rfl (lv_at hl 3 rfl) ?_
          obtain ⟨q13, hc14, hm⟩ := bd_s hm
          refine ks_i (wo := (wMD G b q13.2.1 q13.2.2 kept mark start)) (rV (As := [.int (((15 * p1) + 3) + p2), .int p3]) (rest := []) (b := (b 0)) (wi := (wMD G b w dep kept mark start)) hF hK hP hD (c_X5_change l G N b w dep kept mark start (((15 * p1) + 3) + p2) p3 q13 hc14 H.size) (cwV 2 hts gX5_setField_X5_change rfl rfl rfl (by decide +kernel) ⟨Nat.le_of_ble_eq_true rfl, Nat.le_of_ble_eq_true rfl⟩) (va_recv hK.1 hP (ci := 5) (q0 := 0) rfl rfl) rfl hl.1 rfl (Nat.le_of_ble_eq_true rfl) dX5_setField_44 ⟨Nat.le_of_ble_eq_true rfl, Nat.le_of_ble_eq_true rfl⟩) hD hS hA (fun H locs hP hD hS => ?_)
          have hP : va_P G.1 vwCl (wMD G b q13.2.1 q13.2.2 kept mark start) H := hP
          have hD : va_D A (wMD G b q13.2.1 q13.2.2 kept mark start) := hD
          cases hm
          exact rt_i hx hb hr hlocks hP hD hS dX5_setField_47
        · replace hm := it_t c12 hm
          refine lv_iconst (v := (-1)) hx hb dX5_setField_32 (by decide) ?_
          cases hm
          exact rt_i hx hb hr hlocks hP hD hS dX5_setField_33
def M_X5_field (w : Nat → Int32) (p1 : Int32) (p2 : Int32) : Option (Int32) :=
  (M_X5_isKind w p1 0).bind fun q1 => if q1 = 0 then (some (-1)) else ((M_X5_within p2 0 2).bind fun q4 => if q4 = 0 then (some (-1)) else ((M_X5_part w p1 (3 + p2)).bind fun q7 => some q7))
abbrev rm_X5_field : Room := { frames := 3, cells := 0, slots := 0, locals := 65 }
set_option maxHeartbeats 4000000 in
set_option maxRecDepth 100000 in
theorem c_X5_field (l : Launch) (G : GG) (b : Nat → Nat) (w : Nat → Int32) (dep : Int32) (kept : Nat → Int32) (mark : Nat → Int32) (start : Nat → Int32) (p1 : Int32) (p2 : Int32) (q : Int32) (hm : M_X5_field w p1 p2 = some q) : CTi l yX5_field wsX5_field rm_X5_field G [.ref (b 0), .int p1, .int p2] (wMD G b w dep kept mark start) q (wMD G b w dep kept mark start) := by
  intro sz
  refine mk_body (Qc := fun A => (QI G A q (wMD G b w dep kept mark start))) (cc := cX5_field) (maxL := 3) (ret := (some .int)) (lv := [(0, .ref (b 0)), (1, .int p1), (2, .int p2)]) (by decide) rfl rfl (Nat.le_of_ble_eq_true rfl) ?_
  intro p e s m args below meth c A H locs ls hF hr hlocks hname hK hA hP hD hS hl
  obtain ⟨hx, hb, hml, hown, hts⟩ := id hF
  unfold M_X5_field at hm
  refine lv_aload_n hx hb dX5_field_0 rfl (lv_at hl 0 rfl) ?_
  refine lv_iload_n hx hb dX5_field_1 rfl (lv_at hl 1 rfl) ?_
  refine lv_iconst (v := 0) hx hb dX5_field_2 (by decide) ?_
  obtain ⟨q1, hc2, hm⟩ := bd_s hm
  refine ks_i (wo := (wMD G b w dep kept mark start)) (rV (As := [.int p1, .int 0]) (rest := []) (b := (b 0)) (wi := (wMD G b w dep kept mark start)) hF hK hP hD (c_X5_isKind l G b w dep kept mark start p1 0 q1 hc2 H.size) (cwV 2 hts gX5_field_X5_isKind rfl rfl rfl (by decide +kernel) ⟨Nat.le_of_ble_eq_true rfl, Nat.le_of_ble_eq_true rfl⟩) (va_recv hK.1 hP (ci := 5) (q0 := 0) rfl rfl) rfl hl.1 rfl (Nat.le_of_ble_eq_true rfl) dX5_field_3 ⟨Nat.le_of_ble_eq_true rfl, Nat.le_of_ble_eq_true rfl⟩) hD hS hA (fun H locs hP hD hS => ?_)
  have hP : va_P G.1 vwCl (wMD G b w dep kept mark start) H := hP
  have hD : va_D A (wMD G b w dep kept mark start) := hD
  refine lv_if_eq (tgt := 29) hx hb dX5_field_6 (by decide) (fun c3 => ?_) (fun c3 => ?_)
  · replace hm := it_t c3 hm
    refine lv_iconst (v := (-1)) hx hb dX5_field_29 (by decide) ?_
    cases hm
    exact rt_i hx hb hr hlocks hP hD hS dX5_field_30
  · replace hm := it_f c3 hm
    refine lv_iload_n hx hb dX5_field_9 rfl (lv_at hl 2 rfl) ?_
    refine lv_iconst (v := 0) hx hb dX5_field_10 (by decide) ?_
    refine lv_iconst (v := 2) hx hb dX5_field_11 (by decide) ?_
    obtain ⟨q4, hc5, hm⟩ := bd_s hm
    refine k0_i (ws := (wMD G b w dep kept mark start)) (rS (As := [.int p2, .int 0, .int 2]) (rest := []) (wi := ([] : va_W)) hF hK k0_P (k0_D (A := A)) (c_X5_within l G p2 0 2 q4 hc5 H.size) (va_cwS 3 hts gX5_field_X5_within rfl rfl rfl (by decide +kernel) ⟨Nat.le_of_ble_eq_true rfl, Nat.le_of_ble_eq_true rfl⟩) rfl hl.1 rfl (Nat.le_of_ble_eq_true rfl) dX5_field_12 ⟨Nat.le_of_ble_eq_true rfl, Nat.le_of_ble_eq_true rfl⟩) hP hS hA (fun H locs hP hS => ?_)
    refine lv_if_eq (tgt := 29) hx hb dX5_field_15 (by decide) (fun c6 => ?_) (fun c6 => ?_)
    · replace hm := it_t c6 hm
      refine lv_iconst (v := (-1)) hx hb dX5_field_29 (by decide) ?_
      cases hm
      exact rt_i hx hb hr hlocks hP hD hS dX5_field_30
    · replace hm := it_f c6 hm
      refine lv_aload_n hx hb dX5_field_18 rfl (lv_at hl 0 rfl) ?_
      refine lv_iload_n hx hb dX5_field_19 rfl (lv_at hl 1 rfl) ?_
      refine lv_iconst (v := 3) hx hb dX5_field_20 (by decide) ?_
      refine lv_iload_n hx hb dX5_field_21 rfl (lv_at hl 2 rfl) ?_
      refine lv_iadd hx hb dX5_field_22 ?_
      obtain ⟨q7, hc8, hm⟩ := bd_s hm
      refine ks_i (wo := (wMD G b w dep kept mark start)) (rV (As := [.int p1, .int (3 + p2)]) (rest := []) (b := (b 0)) (wi := (wMD G b w dep kept mark start)) hF hK hP hD (c_X5_part l G b w dep kept mark start p1 (3 + p2) q7 hc8 H.size) (cwV 2 hts gX5_field_X5_part rfl rfl rfl (by decide +kernel) ⟨Nat.le_of_ble_eq_true rfl, Nat.le_of_ble_eq_true rfl⟩) (va_recv hK.1 hP (ci := 5) (q0 := 0) rfl rfl) rfl hl.1 rfl (Nat.le_of_ble_eq_true rfl) dX5_field_23 ⟨Nat.le_of_ble_eq_true rfl, Nat.le_of_ble_eq_true rfl⟩) hD hS hA (fun H locs hP hD hS => ?_)
      have hP : va_P G.1 vwCl (wMD G b w dep kept mark start) H := hP
      have hD : va_D A (wMD G b w dep kept mark start) := hD
      refine lv_goto (tgt := 30) hx hb dX5_field_26 (by decide) ?_
      cases hm
      exact rt_i hx hb hr hlocks hP hD hS dX5_field_30
def M_X5_setRoot (N : Nat) (w : Nat → Int32) (dep : Int32) (p1 : Int32) (p2 : Int32) : Option (Int32 × (Nat → Int32) × Int32) :=
  (M_X5_within p1 0 5).bind fun q1 => if q1 = 0 then (some ((-1), w, dep)) else (if p2 = (-9) then ((M_X5_change N w dep (360 + p1) p2).bind fun q5 => some (q5.1, q5.2.1, q5.2.2)) else ((M_X5_isAllocated w p2).bind fun q7 => if q7 = 0 then (some ((-1), w, dep)) else ((M_X5_change N w dep (360 + p1) p2).bind fun q10 => some (q10.1, q10.2.1, q10.2.2))))
abbrev rm_X5_setRoot : Room := { frames := 3, cells := 0, slots := 0, locals := 67 }
set_option maxHeartbeats 4000000 in
set_option maxRecDepth 100000 in
theorem c_X5_setRoot (l : Launch) (G : GG) (N : Nat) (b : Nat → Nat) (w : Nat → Int32) (dep : Int32) (kept : Nat → Int32) (mark : Nat → Int32) (start : Nat → Int32) (p1 : Int32) (p2 : Int32) (q : Int32 × (Nat → Int32) × Int32) (hm : M_X5_setRoot N w dep p1 p2 = some q) : CTi l yX5_setRoot wsX5_setRoot rm_X5_setRoot G [.ref (b 0), .int p1, .int p2] (wMD G b w dep kept mark start) q.1 (wMD G b q.2.1 q.2.2 kept mark start) := by
  intro sz
  refine mk_body (Qc := fun A => (QI G A q.1 (wMD G b q.2.1 q.2.2 kept mark start))) (cc := cX5_setRoot) (maxL := 3) (ret := (some .int)) (lv := [(0, .ref (b 0)), (1, .int p1), (2, .int p2)]) (by decide) rfl rfl (Nat.le_of_ble_eq_true rfl) ?_
  intro p e s m args below meth c A H locs ls hF hr hlocks hname hK hA hP hD hS hl
  obtain ⟨hx, hb, hml, hown, hts⟩ := id hF
  unfold M_X5_setRoot at hm
  refine lv_iload_n hx hb dX5_setRoot_0 rfl (lv_at hl 1 rfl) ?_
  refine lv_iconst (v := 0) hx hb dX5_setRoot_1 (by decide) ?_
  refine lv_iconst (v := 5) hx hb dX5_setRoot_2 (by decide) ?_
  obtain ⟨q1, hc2, hm⟩ := bd_s hm
  refine k0_i (ws := (wMD G b w dep kept mark start)) (rS (As := [.int p1, .int 0, .int 5]) (rest := []) (wi := ([] : va_W)) hF hK k0_P (k0_D (A := A)) (c_X5_within l G p1 0 5 q1 hc2 H.size) (va_cwS 3 hts gX5_setRoot_X5_within rfl rfl rfl (by decide +kernel) ⟨Nat.le_of_ble_eq_true rfl, Nat.le_of_ble_eq_true rfl⟩) rfl hl.1 rfl (Nat.le_of_ble_eq_true rfl) dX5_setRoot_3 ⟨Nat.le_of_ble_eq_true rfl, Nat.le_of_ble_eq_true rfl⟩) hP hS hA (fun H locs hP hS => ?_)
  refine lv_if_eq (tgt := 23) hx hb dX5_setRoot_6 (by decide) (fun c3 => ?_) (fun c3 => ?_)
  · replace hm := it_t c3 hm
    refine lv_iconst (v := (-1)) hx hb dX5_setRoot_23 (by decide) ?_
    cases hm
    exact rt_i hx hb hr hlocks hP hD hS dX5_setRoot_24
  · replace hm := it_f c3 hm
    refine lv_iload_n hx hb dX5_setRoot_9 rfl (lv_at hl 2 rfl) ?_
    refine lv_bipush (v := (-9)) hx hb dX5_setRoot_10 (by decide) ?_
    refine lv_icmp_eq (tgt := 25) hx hb dX5_setRoot_12 (by decide) (fun c4 => ?_) (fun c4 => ?_)
    · replace hm := it_t c4 hm
      refine lv_aload_n hx hb dX5_setRoot_25 rfl (lv_at hl 0 rfl) ?_
      refine lv_sipush (v := 360) hx hb dX5_setRoot_26 (by decide) ?_
      refine lv_iload_n hx hb dX5_setRoot_29 rfl (lv_at hl 1 rfl) ?_
      refine lv_iadd hx hb dX5_setRoot_30 ?_
      refine lv_iload_n hx hb dX5_setRoot_31 rfl (lv_at hl 2 rfl) ?_
      obtain ⟨q5, hc6, hm⟩ := bd_s hm
      refine ks_i (wo := (wMD G b q5.2.1 q5.2.2 kept mark start)) (rV (As := [.int (360 + p1), .int p2]) (rest := []) (b := (b 0)) (wi := (wMD G b w dep kept mark start)) hF hK hP hD (c_X5_change l G N b w dep kept mark start (360 + p1) p2 q5 hc6 H.size) (cwV 2 hts gX5_setRoot_X5_change rfl rfl rfl (by decide +kernel) ⟨Nat.le_of_ble_eq_true rfl, Nat.le_of_ble_eq_true rfl⟩) (va_recv hK.1 hP (ci := 5) (q0 := 0) rfl rfl) rfl hl.1 rfl (Nat.le_of_ble_eq_true rfl) dX5_setRoot_32 ⟨Nat.le_of_ble_eq_true rfl, Nat.le_of_ble_eq_true rfl⟩) hD hS hA (fun H locs hP hD hS => ?_)
      have hP : va_P G.1 vwCl (wMD G b q5.2.1 q5.2.2 kept mark start) H := hP
      have hD : va_D A (wMD G b q5.2.1 q5.2.2 kept mark start) := hD
      cases hm
      exact rt_i hx hb hr hlocks hP hD hS dX5_setRoot_35
    · replace hm := it_f c4 hm
      refine lv_aload_n hx hb dX5_setRoot_15 rfl (lv_at hl 0 rfl) ?_
      refine lv_iload_n hx hb dX5_setRoot_16 rfl (lv_at hl 2 rfl) ?_
      obtain ⟨q7, hc8, hm⟩ := bd_s hm
      refine ks_i (wo := (wMD G b w dep kept mark start)) (rV (As := [.int p2]) (rest := []) (b := (b 0)) (wi := (wMD G b w dep kept mark start)) hF hK hP hD (c_X5_isAllocated l G b w dep kept mark start p2 q7 hc8 H.size) (cwV 1 hts gX5_setRoot_X5_isAllocated rfl rfl rfl (by decide +kernel) ⟨Nat.le_of_ble_eq_true rfl, Nat.le_of_ble_eq_true rfl⟩) (va_recv hK.1 hP (ci := 5) (q0 := 0) rfl rfl) rfl hl.1 rfl (Nat.le_of_ble_eq_true rfl) dX5_setRoot_17 ⟨Nat.le_of_ble_eq_true rfl, Nat.le_of_ble_eq_true rfl⟩) hD hS hA (fun H locs hP hD hS => ?_)
      have hP : va_P G.1 vwCl (wMD G b w dep kept mark start) H := hP
      have hD : va_D A (wMD G b w dep kept mark start) := hD
      refine lv_if_ne (tgt := 25) hx hb dX5_setRoot_20 (by decide) (fun c9 => ?_) (fun c9 => ?_)
      · replace hm := it_f c9 hm
        refine lv_aload_n hx hb dX5_setRoot_25 rfl (lv_at hl 0 rfl) ?_
        refine lv_sipush (v := 360) hx hb dX5_setRoot_26 (by decide) ?_
        refine lv_iload_n hx hb dX5_setRoot_29 rfl (lv_at hl 1 rfl) ?_
        refine lv_iadd hx hb dX5_setRoot_30 ?_
        refine lv_iload_n hx hb dX5_setRoot_31 rfl (lv_at hl 2 rfl) ?_
        obtain ⟨q10, hc11, hm⟩ := bd_s hm
        refine ks_i (wo := (wMD G b q10.2.1 q10.2.2 kept mark start)) (rV (As := [.int (360 + p1), .int p2]) (rest := []) (b := (b 0)) (wi := (wMD G b w dep kept mark start)) hF hK hP hD (c_X5_change l G N b w dep kept mark start (360 + p1) p2 q10 hc11 H.size) (cwV 2 hts gX5_setRoot_X5_change rfl rfl rfl (by decide +kernel) ⟨Nat.le_of_ble_eq_true rfl, Nat.le_of_ble_eq_true rfl⟩) (va_recv hK.1 hP (ci := 5) (q0 := 0) rfl rfl) rfl hl.1 rfl (Nat.le_of_ble_eq_true rfl) dX5_setRoot_32 ⟨Nat.le_of_ble_eq_true rfl, Nat.le_of_ble_eq_true rfl⟩) hD hS hA (fun H locs hP hD hS => ?_)
        have hP : va_P G.1 vwCl (wMD G b q10.2.1 q10.2.2 kept mark start) H := hP
        have hD : va_D A (wMD G b q10.2.1 q10.2.2 kept mark start) := hD
        cases hm
        exact rt_i hx hb hr hlocks hP hD hS dX5_setRoot_35
      · replace hm := it_t c9 hm
        refine lv_iconst (v := (-1)) hx hb dX5_setRoot_23 (by decide) ?_
        cases hm
        exact rt_i hx hb hr hlocks hP hD hS dX5_setRoot_24
def M_X5_root (w : Nat → Int32) (p1 : Int32) : Option (Int32) :=
  (M_X5_within p1 0 5).bind fun q1 => if q1 = 0 then (some (-1)) else (gd (360 + p1) 3880 (some (w (360 + p1).toNatClampNeg)))
theorem w0_X5_root : Cond.fieldLink RX5 7 "WeakTableHeapModel" "w" "[I" ∈ wsX5_root := by decide +kernel
theorem w1_X5_root : ∀ w ∈ u_ws RX5 TX5 5, w ∈ wsX5_root := by decide +kernel
abbrev rm_X5_root : Room := { frames := 1, cells := 0, slots := 0, locals := 22 }
set_option maxHeartbeats 4000000 in
set_option maxRecDepth 100000 in
theorem c_X5_root (l : Launch) (G : GG) (b : Nat → Nat) (w : Nat → Int32) (dep : Int32) (kept : Nat → Int32) (mark : Nat → Int32) (start : Nat → Int32) (p1 : Int32) (q : Int32) (hm : M_X5_root w p1 = some q) : CTi l yX5_root wsX5_root rm_X5_root G [.ref (b 0), .int p1] (wMD G b w dep kept mark start) q (wMD G b w dep kept mark start) := by
  intro sz
  refine mk_body (Qc := fun A => (QI G A q (wMD G b w dep kept mark start))) (cc := cX5_root) (maxL := 2) (ret := (some .int)) (lv := [(0, .ref (b 0)), (1, .int p1)]) (by decide) rfl rfl (Nat.le_of_ble_eq_true rfl) ?_
  intro p e s m args below meth c A H locs ls hF hr hlocks hname hK hA hP hD hS hl
  obtain ⟨hx, hb, hml, hown, hts⟩ := id hF
  unfold M_X5_root at hm
  refine lv_iload_n hx hb dX5_root_0 rfl (lv_at hl 1 rfl) ?_
  refine lv_iconst (v := 0) hx hb dX5_root_1 (by decide) ?_
  refine lv_iconst (v := 5) hx hb dX5_root_2 (by decide) ?_
  obtain ⟨q1, hc2, hm⟩ := bd_s hm
  refine k0_i (ws := (wMD G b w dep kept mark start)) (rS (As := [.int p1, .int 0, .int 5]) (rest := []) (wi := ([] : va_W)) hF hK k0_P (k0_D (A := A)) (c_X5_within l G p1 0 5 q1 hc2 H.size) (va_cwS 3 hts gX5_root_X5_within rfl rfl rfl (by decide +kernel) ⟨Nat.le_of_ble_eq_true rfl, Nat.le_of_ble_eq_true rfl⟩) rfl hl.1 rfl (Nat.le_of_ble_eq_true rfl) dX5_root_3 ⟨Nat.le_of_ble_eq_true rfl, Nat.le_of_ble_eq_true rfl⟩) hP hS hA (fun H locs hP hS => ?_)
  refine lv_if_eq (tgt := 22) hx hb dX5_root_6 (by decide) (fun c3 => ?_) (fun c3 => ?_)
  · replace hm := it_t c3 hm
    refine lv_iconst (v := (-1)) hx hb dX5_root_22 (by decide) ?_
    cases hm
    exact rt_i hx hb hr hlocks hP hD hS dX5_root_23
  · replace hm := it_f c3 hm
    refine lv_aload_n hx hb dX5_root_9 rfl (lv_at hl 0 rfl) ?_
    refine va_get (D := G.1) (ci := 5) (v := .ref (b 1)) (C := RX5) (T := TX5) (N := 5) hx hb hts w1_X5_root hown hK.1 hP 0 rfl rfl 0 (by decide) (hts _ w0_X5_root) (fun _ h9 => h9) rfl dX5_root_10 ?_
    refine lv_sipush (v := 360) hx hb dX5_root_13 (by decide) ?_
    refine lv_iload_n hx hb dX5_root_16 rfl (lv_at hl 1 rfl) ?_
    refine lv_iadd hx hb dX5_root_17 ?_
    obtain ⟨hi4, hm⟩ := gd_s hm
    refine va_iald hx hb hK.1 hP 1 0 rfl rfl hi4 dX5_root_18 ?_
    refine lv_goto (tgt := 23) hx hb dX5_root_19 (by decide) ?_
    cases hm
    exact rt_i hx hb hr hlocks hP hD hS dX5_root_23
def M_X5_target (w : Nat → Int32) (p1 : Int32) : Option (Int32) :=
  (M_X5_isKind w p1 2).bind fun q1 => if q1 = 0 then (some (-1)) else ((M_X5_part w p1 3).bind fun q4 => some q4)
abbrev rm_X5_target : Room := { frames := 3, cells := 0, slots := 0, locals := 65 }
set_option maxHeartbeats 4000000 in
set_option maxRecDepth 100000 in
theorem c_X5_target (l : Launch) (G : GG) (b : Nat → Nat) (w : Nat → Int32) (dep : Int32) (kept : Nat → Int32) (mark : Nat → Int32) (start : Nat → Int32) (p1 : Int32) (q : Int32) (hm : M_X5_target w p1 = some q) : CTi l yX5_target wsX5_target rm_X5_target G [.ref (b 0), .int p1] (wMD G b w dep kept mark start) q (wMD G b w dep kept mark start) := by
  intro sz
  refine mk_body (Qc := fun A => (QI G A q (wMD G b w dep kept mark start))) (cc := cX5_target) (maxL := 2) (ret := (some .int)) (lv := [(0, .ref (b 0)), (1, .int p1)]) (by decide) rfl rfl (Nat.le_of_ble_eq_true rfl) ?_
  intro p e s m args below meth c A H locs ls hF hr hlocks hname hK hA hP hD hS hl
  obtain ⟨hx, hb, hml, hown, hts⟩ := id hF
  unfold M_X5_target at hm
  refine lv_aload_n hx hb dX5_target_0 rfl (lv_at hl 0 rfl) ?_
  refine lv_iload_n hx hb dX5_target_1 rfl (lv_at hl 1 rfl) ?_
  refine lv_iconst (v := 2) hx hb dX5_target_2 (by decide) ?_
  obtain ⟨q1, hc2, hm⟩ := bd_s hm
  refine ks_i (wo := (wMD G b w dep kept mark start)) (rV (As := [.int p1, .int 2]) (rest := []) (b := (b 0)) (wi := (wMD G b w dep kept mark start)) hF hK hP hD (c_X5_isKind l G b w dep kept mark start p1 2 q1 hc2 H.size) (cwV 2 hts gX5_target_X5_isKind rfl rfl rfl (by decide +kernel) ⟨Nat.le_of_ble_eq_true rfl, Nat.le_of_ble_eq_true rfl⟩) (va_recv hK.1 hP (ci := 5) (q0 := 0) rfl rfl) rfl hl.1 rfl (Nat.le_of_ble_eq_true rfl) dX5_target_3 ⟨Nat.le_of_ble_eq_true rfl, Nat.le_of_ble_eq_true rfl⟩) hD hS hA (fun H locs hP hD hS => ?_)
  have hP : va_P G.1 vwCl (wMD G b w dep kept mark start) H := hP
  have hD : va_D A (wMD G b w dep kept mark start) := hD
  refine lv_if_eq (tgt := 18) hx hb dX5_target_6 (by decide) (fun c3 => ?_) (fun c3 => ?_)
  · replace hm := it_t c3 hm
    refine lv_iconst (v := (-1)) hx hb dX5_target_18 (by decide) ?_
    cases hm
    exact rt_i hx hb hr hlocks hP hD hS dX5_target_19
  · replace hm := it_f c3 hm
    refine lv_aload_n hx hb dX5_target_9 rfl (lv_at hl 0 rfl) ?_
    refine lv_iload_n hx hb dX5_target_10 rfl (lv_at hl 1 rfl) ?_
    refine lv_iconst (v := 3) hx hb dX5_target_11 (by decide) ?_
    obtain ⟨q4, hc5, hm⟩ := bd_s hm
    refine ks_i (wo := (wMD G b w dep kept mark start)) (rV (As := [.int p1, .int 3]) (rest := []) (b := (b 0)) (wi := (wMD G b w dep kept mark start)) hF hK hP hD (c_X5_part l G b w dep kept mark start p1 3 q4 hc5 H.size) (cwV 2 hts gX5_target_X5_part rfl rfl rfl (by decide +kernel) ⟨Nat.le_of_ble_eq_true rfl, Nat.le_of_ble_eq_true rfl⟩) (va_recv hK.1 hP (ci := 5) (q0 := 0) rfl rfl) rfl hl.1 rfl (Nat.le_of_ble_eq_true rfl) dX5_target_12 ⟨Nat.le_of_ble_eq_true rfl, Nat.le_of_ble_eq_true rfl⟩) hD hS hA (fun H locs hP hD hS => ?_)
    have hP : va_P G.1 vwCl (wMD G b w dep kept mark start) H := hP
    have hD : va_D A (wMD G b w dep kept mark start) := hD
    refine lv_goto (tgt := 19) hx hb dX5_target_15 (by decide) ?_
    cases hm
    exact rt_i hx hb hr hlocks hP hD hS dX5_target_19
def M_X5_setFinalizable_L53 (w53u : Nat → Int32) (dep53u : Int32) : Nat → (Int32) → (Int32) → Option (Int32 × (Nat → Int32) × Int32)
  | 0, _, _ => none
  | n53 + 1, v53_3, v53_4 => if 24 ≤ v53_4 then (some (v53_3, w53u, dep53u)) else ((M_X5_isAllocated w53u v53_4).bind fun q5302 => if q5302 = 0 then (M_X5_setFinalizable_L53 w53u dep53u n53 (v53_3 + 0) (v53_4 + 1)) else ((M_X5_part w53u v53_4 1).bind fun q5305 => M_X5_setFinalizable_L53 w53u dep53u n53 (v53_3 + q5305) (v53_4 + 1)))
def M_X5_setFinalizable (N : Nat) (w : Nat → Int32) (dep : Int32) (p1 : Int32) (p2 : Int32) : Option (Int32 × (Nat → Int32) × Int32) :=
  (M_X5_isAllocated w p1).bind fun q1 => if q1 = 0 then (some ((-1), w, dep)) else ((M_X5_within p2 0 1).bind fun q4 => if q4 = 0 then (some ((-1), w, dep)) else ((M_X5_part w p1 1).bind fun q7 => if q7 = p2 then (some ((-2), w, dep)) else ((M_X5_saveState N w dep).bind fun q10 => gd ((15 * p1) + 1) 3880 (M_X5_setFinalizable_L53 (upd q10.1 ((15 * p1) + 1).toNatClampNeg p2) q10.2 N 0 0))))
theorem w0_X5_setFinalizable : Cond.fieldLink RX5 7 "WeakTableHeapModel" "w" "[I" ∈ wsX5_setFinalizable := by decide +kernel
theorem w1_X5_setFinalizable : ∀ w ∈ u_ws RX5 TX5 5, w ∈ wsX5_setFinalizable := by decide +kernel
abbrev rm_X5_setFinalizable : Room := { frames := 2, cells := 0, slots := 0, locals := 44 }
set_option maxHeartbeats 4000000 in
set_option maxRecDepth 100000 in
theorem c_X5_setFinalizable (l : Launch) (G : GG) (N : Nat) (b : Nat → Nat) (w : Nat → Int32) (dep : Int32) (kept : Nat → Int32) (mark : Nat → Int32) (start : Nat → Int32) (p1 : Int32) (p2 : Int32) (q : Int32 × (Nat → Int32) × Int32) (hm : M_X5_setFinalizable N w dep p1 p2 = some q) : CTi l yX5_setFinalizable wsX5_setFinalizable rm_X5_setFinalizable G [.ref (b 0), .int p1, .int p2] (wMD G b w dep kept mark start) q.1 (wMD G b q.2.1 q.2.2 kept mark start) := by
  intro sz
  refine mk_body (Qc := fun A => (QI G A q.1 (wMD G b q.2.1 q.2.2 kept mark start))) (cc := cX5_setFinalizable) (maxL := 5) (ret := (some .int)) (lv := [(0, .ref (b 0)), (1, .int p1), (2, .int p2)]) (by decide) rfl rfl (Nat.le_of_ble_eq_true rfl) ?_
  intro p e s m args below meth c A H locs ls hF hr hlocks hname hK hA hP hD hS hl
  obtain ⟨hx, hb, hml, hown, hts⟩ := id hF
  unfold M_X5_setFinalizable at hm
  refine lv_aload_n hx hb dX5_setFinalizable_0 rfl (lv_at hl 0 rfl) ?_
  refine lv_iload_n hx hb dX5_setFinalizable_1 rfl (lv_at hl 1 rfl) ?_
  obtain ⟨q1, hc2, hm⟩ := bd_s hm
  refine ks_i (wo := (wMD G b w dep kept mark start)) (rV (As := [.int p1]) (rest := []) (b := (b 0)) (wi := (wMD G b w dep kept mark start)) hF hK hP hD (c_X5_isAllocated l G b w dep kept mark start p1 q1 hc2 H.size) (cwV 1 hts gX5_setFinalizable_X5_isAllocated rfl rfl rfl (by decide +kernel) ⟨Nat.le_of_ble_eq_true rfl, Nat.le_of_ble_eq_true rfl⟩) (va_recv hK.1 hP (ci := 5) (q0 := 0) rfl rfl) rfl hl.1 rfl (Nat.le_of_ble_eq_true rfl) dX5_setFinalizable_2 ⟨Nat.le_of_ble_eq_true rfl, Nat.le_of_ble_eq_true rfl⟩) hD hS hA (fun H locs hP hD hS => ?_)
  have hP : va_P G.1 vwCl (wMD G b w dep kept mark start) H := hP
  have hD : va_D A (wMD G b w dep kept mark start) := hD
  refine lv_if_eq (tgt := 17) hx hb dX5_setFinalizable_5 (by decide) (fun c3 => ?_) (fun c3 => ?_)
  · replace hm := it_t c3 hm
    refine lv_iconst (v := (-1)) hx hb dX5_setFinalizable_17 (by decide) ?_
    cases hm
    exact rt_i hx hb hr hlocks hP hD hS dX5_setFinalizable_18
  · replace hm := it_f c3 hm
    refine lv_iload_n hx hb dX5_setFinalizable_8 rfl (lv_at hl 2 rfl) ?_
    refine lv_iconst (v := 0) hx hb dX5_setFinalizable_9 (by decide) ?_
    refine lv_iconst (v := 1) hx hb dX5_setFinalizable_10 (by decide) ?_
    obtain ⟨q4, hc5, hm⟩ := bd_s hm
    refine k0_i (ws := (wMD G b w dep kept mark start)) (rS (As := [.int p2, .int 0, .int 1]) (rest := []) (wi := ([] : va_W)) hF hK k0_P (k0_D (A := A)) (c_X5_within l G p2 0 1 q4 hc5 H.size) (va_cwS 3 hts gX5_setFinalizable_X5_within rfl rfl rfl (by decide +kernel) ⟨Nat.le_of_ble_eq_true rfl, Nat.le_of_ble_eq_true rfl⟩) rfl hl.1 rfl (Nat.le_of_ble_eq_true rfl) dX5_setFinalizable_11 ⟨Nat.le_of_ble_eq_true rfl, Nat.le_of_ble_eq_true rfl⟩) hP hS hA (fun H locs hP hS => ?_)
    refine lv_if_ne (tgt := 19) hx hb dX5_setFinalizable_14 (by decide) (fun c6 => ?_) (fun c6 => ?_)
    · replace hm := it_f c6 hm
      refine lv_aload_n hx hb dX5_setFinalizable_19 rfl (lv_at hl 0 rfl) ?_
      refine lv_iload_n hx hb dX5_setFinalizable_20 rfl (lv_at hl 1 rfl) ?_
      refine lv_iconst (v := 1) hx hb dX5_setFinalizable_21 (by decide) ?_
      obtain ⟨q7, hc8, hm⟩ := bd_s hm
      refine ks_i (wo := (wMD G b w dep kept mark start)) (rV (As := [.int p1, .int 1]) (rest := []) (b := (b 0)) (wi := (wMD G b w dep kept mark start)) hF hK hP hD (c_X5_part l G b w dep kept mark start p1 1 q7 hc8 H.size) (cwV 2 hts gX5_setFinalizable_X5_part rfl rfl rfl (by decide +kernel) ⟨Nat.le_of_ble_eq_true rfl, Nat.le_of_ble_eq_true rfl⟩) (va_recv hK.1 hP (ci := 5) (q0 := 0) rfl rfl) rfl hl.1 rfl (Nat.le_of_ble_eq_true rfl) dX5_setFinalizable_22 ⟨Nat.le_of_ble_eq_true rfl, Nat.le_of_ble_eq_true rfl⟩) hD hS hA (fun H locs hP hD hS => ?_)
      have hP : va_P G.1 vwCl (wMD G b w dep kept mark start) H := hP
      have hD : va_D A (wMD G b w dep kept mark start) := hD
      refine lv_iload_n hx hb dX5_setFinalizable_25 rfl (lv_at hl 2 rfl) ?_
      refine lv_icmp_ne (tgt := 32) hx hb dX5_setFinalizable_26 (by decide) (fun c9 => ?_) (fun c9 => ?_)
      · replace hm := it_f c9 hm
        refine lv_aload_n hx hb dX5_setFinalizable_32 rfl (lv_at hl 0 rfl) ?_
        obtain ⟨q10, hc11, hm⟩ := bd_s hm
        refine ks_v (wo := (wMD G b q10.1 q10.2 kept mark start)) (rV (As := []) (rest := []) (b := (b 0)) (wi := (wMD G b w dep kept mark start)) hF hK hP hD (c_X5_saveState l G N b w dep kept mark start q10 hc11 H.size) (cwV 0 hts gX5_setFinalizable_X5_saveState rfl rfl rfl (by decide +kernel) ⟨Nat.le_of_ble_eq_true rfl, Nat.le_of_ble_eq_true rfl⟩) (va_recv hK.1 hP (ci := 5) (q0 := 0) rfl rfl) rfl hl.1 rfl (Nat.le_of_ble_eq_true rfl) dX5_setFinalizable_33 ⟨Nat.le_of_ble_eq_true rfl, Nat.le_of_ble_eq_true rfl⟩) hD hS hA (fun H locs hP hD hS => ?_)
        have hP : va_P G.1 vwCl (wMD G b q10.1 q10.2 kept mark start) H := hP
        have hD : va_D A (wMD G b q10.1 q10.2 kept mark start) := hD
        refine lv_aload_n hx hb dX5_setFinalizable_36 rfl (lv_at hl 0 rfl) ?_
        refine va_get (D := G.1) (ci := 5) (v := .ref (b 1)) (C := RX5) (T := TX5) (N := 5) hx hb hts w1_X5_setFinalizable hown hK.1 hP 0 rfl rfl 0 (by decide) (hts _ w0_X5_setFinalizable) (fun _ h9 => h9) rfl dX5_setFinalizable_37 ?_
        refine lv_bipush (v := 15) hx hb dX5_setFinalizable_40 (by decide) ?_
        refine lv_iload_n hx hb dX5_setFinalizable_42 rfl (lv_at hl 1 rfl) ?_
        refine lv_imul hx hb dX5_setFinalizable_43 ?_
        refine lv_iconst (v := 1) hx hb dX5_setFinalizable_44 (by decide) ?_
        refine lv_iadd hx hb dX5_setFinalizable_45 ?_
        refine lv_iload_n hx hb dX5_setFinalizable_46 rfl (lv_at hl 2 rfl) ?_
        obtain ⟨hi12, hm⟩ := gd_s hm
        refine va_iast hx hb hK.1 hP hD hS 1 0 rfl rfl hi12 dX5_setFinalizable_47 (fun H locs hP hD hS => ?_)
        have hP : va_P G.1 vwCl (wMD G b (upd q10.1 ((15 * p1) + 1).toNatClampNeg p2) q10.2 kept mark start) H := hP
        have hD : va_D A (wMD G b (upd q10.1 ((15 * p1) + 1).toNatClampNeg p2) q10.2 kept mark start) := hD
        refine lv_iconst (v := 0) hx hb dX5_setFinalizable_48 (by decide) ?_
        refine lv_istore_n (lv' := [(3, .int 0), (0, .ref (b 0)), (1, .int p1), (2, .int p2)]) hx hb dX5_setFinalizable_49 rfl hl (by decide) rfl (fun ls hl => ?_)
        refine lv_iconst (v := 0) hx hb dX5_setFinalizable_50 (by decide) ?_
        refine lv_istore (lv' := [(4, .int 0), (3, .int 0), (0, .ref (b 0)), (1, .int p1), (2, .int p2)]) hx hb dX5_setFinalizable_51 hl (by decide) rfl (fun ls hl => ?_)
        have L53 : ∀ (u53_1 : Int32) (u53_2 : Int32) (w53u : Nat → Int32) (dep53u : Int32) (n53 : Nat) (v53_3 : Int32) (v53_4 : Int32), M_X5_setFinalizable_L53 w53u dep53u n53 v53_3 v53_4 = some q → ∀ (H : Heap) (locs : List Loc) (ls : Array Slot), va_P G.1 vwCl (wMD G b w53u dep53u kept mark start) H → va_D A (wMD G b w53u dep53u kept mark start) → va_S A s.heap H locs → lv_has ls 5 [(0, .ref (b 0)), (1, .int u53_1), (2, .int u53_2), (3, .int v53_3), (4, .int v53_4)] → W p l e rm_X5_setFinalizable s m args below meth c H locs 0 0 (MQ below (QI G A q.1 (wMD G b q.2.1 q.2.2 kept mark start)) args s rm_X5_setFinalizable.cells rm_X5_setFinalizable.slots A) (F0 m 53 ls []) := by
          intro u53_1 u53_2 w53u dep53u n53
          induction n53 with
          | zero => intro v53_3 v53_4 hm; cases hm
          | succ n53 ih53 =>
            intro v53_3 v53_4 hm H locs ls hP hD hS hl
            rw [M_X5_setFinalizable_L53] at hm
            refine lv_iload hx hb dX5_setFinalizable_53 (lv_at hl 4 rfl) ?_
            refine lv_bipush (v := 24) hx hb dX5_setFinalizable_55 (by decide) ?_
            refine lv_icmp_ge (tgt := 89) hx hb dX5_setFinalizable_57 (by decide) (fun c5301 => ?_) (fun c5301 => ?_)
            · replace hm := it_t c5301 hm
              refine lv_iload_n hx hb dX5_setFinalizable_89 rfl (lv_at hl 3 rfl) ?_
              cases hm
              exact rt_i hx hb hr hlocks hP hD hS dX5_setFinalizable_90
            · replace hm := it_f c5301 hm
              refine lv_iload_n hx hb dX5_setFinalizable_60 rfl (lv_at hl 3 rfl) ?_
              refine lv_aload_n hx hb dX5_setFinalizable_61 rfl (lv_at hl 0 rfl) ?_
              refine lv_iload hx hb dX5_setFinalizable_62 (lv_at hl 4 rfl) ?_
              obtain ⟨q5302, hc5303, hm⟩ := bd_s hm
              refine ks_i (wo := (wMD G b w53u dep53u kept mark start)) (rV (As := [.int v53_4]) (rest := [.int v53_3]) (b := (b 0)) (wi := (wMD G b w53u dep53u kept mark start)) hF hK hP hD (c_X5_isAllocated l G b w53u dep53u kept mark start v53_4 q5302 hc5303 H.size) (cwV 1 hts gX5_setFinalizable_X5_isAllocated rfl rfl rfl (by decide +kernel) ⟨Nat.le_of_ble_eq_true rfl, Nat.le_of_ble_eq_true rfl⟩) (va_recv hK.1 hP (ci := 5) (q0 := 0) rfl rfl) rfl hl.1 rfl (Nat.le_of_ble_eq_true rfl) dX5_setFinalizable_64 ⟨Nat.le_of_ble_eq_true rfl, Nat.le_of_ble_eq_true rfl⟩) hD hS hA (fun H locs hP hD hS => ?_)
              have hP : va_P G.1 vwCl (wMD G b w53u dep53u kept mark start) H := hP
              have hD : va_D A (wMD G b w53u dep53u kept mark start) := hD
              refine lv_if_eq (tgt := 80) hx hb dX5_setFinalizable_67 (by decide) (fun c5304 => ?_) (fun c5304 => ?_)
              · replace hm := it_t c5304 hm
                refine lv_iconst (v := 0) hx hb dX5_setFinalizable_80 (by decide) ?_
                refine lv_iadd hx hb dX5_setFinalizable_81 ?_
                refine lv_istore_n (lv' := [(3, .int (v53_3 + 0)), (0, .ref (b 0)), (1, .int u53_1), (2, .int u53_2), (4, .int v53_4)]) hx hb dX5_setFinalizable_82 rfl hl (by decide) rfl (fun ls hl => ?_)
                refine lv_iinc (v := (v53_4 + 1)) (lv' := [(4, .int (v53_4 + 1)), (3, .int (v53_3 + 0)), (0, .ref (b 0)), (1, .int u53_1), (2, .int u53_2)]) hx hb dX5_setFinalizable_83 hl (k := 4) rfl rfl (by decide) rfl (fun ls hl => ?_)
                refine lv_goto (tgt := 53) hx hb dX5_setFinalizable_86 (by decide) ?_
                exact ih53 (v53_3 + 0) (v53_4 + 1) hm _ _ _ hP hD hS (lv_sub hl [2, 3, 4, 1, 0] rfl)
              · replace hm := it_f c5304 hm
                refine lv_aload_n hx hb dX5_setFinalizable_70 rfl (lv_at hl 0 rfl) ?_
                refine lv_iload hx hb dX5_setFinalizable_71 (lv_at hl 4 rfl) ?_
                refine lv_iconst (v := 1) hx hb dX5_setFinalizable_73 (by decide) ?_
                obtain ⟨q5305, hc5306, hm⟩ := bd_s hm
                refine ks_i (wo := (wMD G b w53u dep53u kept mark start)) (rV (As := [.int v53_4, .int 1]) (rest := [.int v53_3]) (b := (b 0)) (wi := (wMD G b w53u dep53u kept mark start)) hF hK hP hD (c_X5_part l G b w53u dep53u kept mark start v53_4 1 q5305 hc5306 H.size) (cwV 2 hts gX5_setFinalizable_X5_part rfl rfl rfl (by decide +kernel) ⟨Nat.le_of_ble_eq_true rfl, Nat.le_of_ble_eq_true rfl⟩) (va_recv hK.1 hP (ci := 5) (q0 := 0) rfl rfl) rfl hl.1 rfl (Nat.le_of_ble_eq_true rfl) dX5_setFinalizable_74 ⟨Nat.le_of_ble_eq_true rfl, Nat.le_of_ble_eq_true rfl⟩) hD hS hA (fun H locs hP hD hS => ?_)
                have hP : va_P G.1 vwCl (wMD G b w53u dep53u kept mark start) H := hP
                have hD : va_D A (wMD G b w53u dep53u kept mark start) := hD
                refine lv_goto (tgt := 81) hx hb dX5_setFinalizable_77 (by decide) ?_
                refine lv_iadd hx hb dX5_setFinalizable_81 ?_
                refine lv_istore_n (lv' := [(3, .int (v53_3 + q5305)), (0, .ref (b 0)), (1, .int u53_1), (2, .int u53_2), (4, .int v53_4)]) hx hb dX5_setFinalizable_82 rfl hl (by decide) rfl (fun ls hl => ?_)
                refine lv_iinc (v := (v53_4 + 1)) (lv' := [(4, .int (v53_4 + 1)), (3, .int (v53_3 + q5305)), (0, .ref (b 0)), (1, .int u53_1), (2, .int u53_2)]) hx hb dX5_setFinalizable_83 hl (k := 4) rfl rfl (by decide) rfl (fun ls hl => ?_)
                refine lv_goto (tgt := 53) hx hb dX5_setFinalizable_86 (by decide) ?_
                exact ih53 (v53_3 + q5305) (v53_4 + 1) hm _ _ _ hP hD hS (lv_sub hl [2, 3, 4, 1, 0] rfl)
        exact L53 p1 p2 (upd q10.1 ((15 * p1) + 1).toNatClampNeg p2) q10.2 N 0 0 hm _ _ _ hP hD hS (lv_sub hl [2, 3, 4, 1, 0] rfl)
      · replace hm := it_t c9 hm
        refine lv_bipush (v := (-2)) hx hb dX5_setFinalizable_29 (by decide) ?_
        cases hm
        exact rt_i hx hb hr hlocks hP hD hS dX5_setFinalizable_31
    · replace hm := it_t c6 hm
      refine lv_iconst (v := (-1)) hx hb dX5_setFinalizable_17 (by decide) ?_
      cases hm
      exact rt_i hx hb hr hlocks hP hD hS dX5_setFinalizable_18
