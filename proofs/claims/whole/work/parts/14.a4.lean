def M_X4_kind (ki : Nat → Int32) (p1 : Int32) : Option (Int32) :=
  (M_X4_within p1 24).bind fun q1 => if q1 = 0 then (some (-9)) else (gd p1 24 (some (ki p1.toNatClampNeg)))
theorem w0_X4_kind : Cond.fieldLink RX4 10 "WeakTableHeap" "state" "LWeakTableHeap$State;" ∈ wsX4_kind := by decide +kernel
theorem w1_X4_kind : ∀ w ∈ u_ws RX4 TX4 4, w ∈ wsX4_kind := by decide +kernel
theorem w2_X4_kind : Cond.fieldLink RX4 58 "WeakTableHeap$State" "kinds" "[I" ∈ wsX4_kind := by decide +kernel
theorem w3_X4_kind : ∀ w ∈ u_ws RX3 TX3 9, w ∈ wsX4_kind := by decide +kernel
abbrev rm_X4_kind : Room := { frames := 1, cells := 0, slots := 0, locals := 21 }
set_option maxHeartbeats 4000000 in
set_option maxRecDepth 100000 in
theorem c_X4_kind (l : Launch) (G : GG) (x : Nat) (hh : Nat) (sl : Nat) (a : Nat → Nat) (k : Nat → Nat) (ki : Nat → Int32) (fi : Nat → Int32) (ke : Nat → Int32) (va : Nat → Int32) (ta : Nat → Int32) (ro : Nat → Int32) (qu : Nat → Int32) (nsz : Int32) (fin : Int32) (rnd : Int32) (rd : Nat → Int32) (mkd : Int32) (lr : Int32) (un : Int32) (p1 : Int32) (q : Int32) (hm : M_X4_kind ki p1 = some q) : CTi l yX4_kind wsX4_kind rm_X4_kind G [.ref x, .int p1] (wX4 G.2.1 x hh sl a k ki fi ke va ta ro qu nsz fin rnd rd mkd lr un) q (wX4 G.2.1 x hh sl a k ki fi ke va ta ro qu nsz fin rnd rd mkd lr un) := by
  intro sz
  refine mk_body (Qc := fun A => (QI G A q (wX4 G.2.1 x hh sl a k ki fi ke va ta ro qu nsz fin rnd rd mkd lr un))) (cc := cX4_kind) (maxL := 2) (ret := (some .int)) (lv := [(0, .ref x), (1, .int p1)]) (by decide) rfl rfl (Nat.le_of_ble_eq_true rfl) ?_
  intro p e s m args below meth c A H locs ls hF hr hlocks hname hK hA hP hD hS hl
  obtain ⟨hx, hb, hml, hown, hts⟩ := id hF
  unfold M_X4_kind at hm
  refine lv_iload_n hx hb dX4_kind_0 rfl (lv_at hl 1 rfl) ?_
  refine lv_bipush (v := 24) hx hb dX4_kind_1 (by decide) ?_
  obtain ⟨q1, hc2, hm⟩ := bd_s hm
  refine k0_i (ws := (wX4 G.2.1 x hh sl a k ki fi ke va ta ro qu nsz fin rnd rd mkd lr un)) (rS (As := [.int p1, .int 24]) (rest := []) (wi := ([] : va_W)) hF hK k0_P (k0_D (A := A)) (c_X4_within l G p1 24 q1 hc2 H.size) (va_cwS 2 hts gX4_kind_X4_within rfl rfl rfl (by decide +kernel) ⟨Nat.le_of_ble_eq_true rfl, Nat.le_of_ble_eq_true rfl⟩) rfl hl.1 rfl (Nat.le_of_ble_eq_true rfl) dX4_kind_3 ⟨Nat.le_of_ble_eq_true rfl, Nat.le_of_ble_eq_true rfl⟩) hP hS hA (fun H locs hP hS => ?_)
  refine lv_if_eq (tgt := 21) hx hb dX4_kind_6 (by decide) (fun c3 => ?_) (fun c3 => ?_)
  · replace hm := it_t c3 hm
    refine lv_bipush (v := (-9)) hx hb dX4_kind_21 (by decide) ?_
    cases hm
    exact rt_i hx hb hr hlocks hP hD hS dX4_kind_23
  · replace hm := it_f c3 hm
    refine lv_aload_n hx hb dX4_kind_9 rfl (lv_at hl 0 rfl) ?_
    refine va_get (D := G.1) (ci := 4) (v := .ref (a 0)) (C := RX4) (T := TX4) (N := 4) hx hb hts w1_X4_kind hown hK.1 hP 0 rfl rfl 0 (by decide) (hts _ w0_X4_kind) (fun _ h9 => h9) rfl dX4_kind_10 ?_
    refine va_get (D := G.1) (ci := 3) (v := .ref (a 1)) (C := RX3) (T := TX3) (N := 9) hx hb hts w3_X4_kind hown hK.1 hP 1 rfl rfl 0 (by decide) (hts _ w2_X4_kind) (fun _ h9 => h9) rfl dX4_kind_13 ?_
    refine lv_iload_n hx hb dX4_kind_16 rfl (lv_at hl 1 rfl) ?_
    obtain ⟨hi4, hm⟩ := gd_s hm
    refine va_iald hx hb hK.1 hP 2 0 rfl rfl hi4 dX4_kind_17 ?_
    refine lv_goto (tgt := 23) hx hb dX4_kind_18 (by decide) ?_
    cases hm
    exact rt_i hx hb hr hlocks hP hD hS dX4_kind_23
def M_X4_field (ki : Nat → Int32) (fi : Nat → Int32) (p1 : Int32) (p2 : Int32) : Option (Int32) :=
  (M_X3_hasKind ki p1 0).bind fun q1 => if q1 = 0 then (some (-1)) else ((M_X4_within p2 3).bind fun q4 => if q4 = 0 then (some (-1)) else (gd ((p1 * 3) + p2) 72 (some (fi ((p1 * 3) + p2).toNatClampNeg))))
theorem w0_X4_field : Cond.fieldLink RX4 10 "WeakTableHeap" "state" "LWeakTableHeap$State;" ∈ wsX4_field := by decide +kernel
theorem w1_X4_field : ∀ w ∈ u_ws RX4 TX4 4, w ∈ wsX4_field := by decide +kernel
theorem w2_X4_field : Cond.fieldLink RX4 68 "WeakTableHeap$State" "fields" "[I" ∈ wsX4_field := by decide +kernel
theorem w3_X4_field : ∀ w ∈ u_ws RX3 TX3 9, w ∈ wsX4_field := by decide +kernel
abbrev rm_X4_field : Room := { frames := 2, cells := 0, slots := 0, locals := 43 }
set_option maxHeartbeats 4000000 in
set_option maxRecDepth 100000 in
theorem c_X4_field (l : Launch) (G : GG) (x : Nat) (hh : Nat) (sl : Nat) (a : Nat → Nat) (k : Nat → Nat) (ki : Nat → Int32) (fi : Nat → Int32) (ke : Nat → Int32) (va : Nat → Int32) (ta : Nat → Int32) (ro : Nat → Int32) (qu : Nat → Int32) (nsz : Int32) (fin : Int32) (rnd : Int32) (rd : Nat → Int32) (mkd : Int32) (lr : Int32) (un : Int32) (p1 : Int32) (p2 : Int32) (q : Int32) (hm : M_X4_field ki fi p1 p2 = some q) : CTi l yX4_field wsX4_field rm_X4_field G [.ref x, .int p1, .int p2] (wX4 G.2.1 x hh sl a k ki fi ke va ta ro qu nsz fin rnd rd mkd lr un) q (wX4 G.2.1 x hh sl a k ki fi ke va ta ro qu nsz fin rnd rd mkd lr un) := by
  intro sz
  refine mk_body (Qc := fun A => (QI G A q (wX4 G.2.1 x hh sl a k ki fi ke va ta ro qu nsz fin rnd rd mkd lr un))) (cc := cX4_field) (maxL := 3) (ret := (some .int)) (lv := [(0, .ref x), (1, .int p1), (2, .int p2)]) (by decide) rfl rfl (Nat.le_of_ble_eq_true rfl) ?_
  intro p e s m args below meth c A H locs ls hF hr hlocks hname hK hA hP hD hS hl
  obtain ⟨hx, hb, hml, hown, hts⟩ := id hF
  unfold M_X4_field at hm
  refine lv_aload_n hx hb dX4_field_0 rfl (lv_at hl 0 rfl) ?_
  refine va_get (D := G.1) (ci := 4) (v := .ref (a 0)) (C := RX4) (T := TX4) (N := 4) hx hb hts w1_X4_field hown hK.1 hP 0 rfl rfl 0 (by decide) (hts _ w0_X4_field) (fun _ h9 => h9) rfl dX4_field_1 ?_
  refine lv_iload_n hx hb dX4_field_4 rfl (lv_at hl 1 rfl) ?_
  refine lv_iconst (v := 0) hx hb dX4_field_5 (by decide) ?_
  obtain ⟨q1, hc2, hm⟩ := bd_s hm
  refine kc_i (wi := (wST G.2.1 a ki fi ke va ta ro qu nsz fin rnd)) (wo := (wST G.2.1 a ki fi ke va ta ro qu nsz fin rnd)) (wr := [(x, .inr (4, [.ref (a 0), .ref hh, .ref sl, .ref (k 0)])), ((k 0), .inr (1, [.ref (k 1), .int mkd, .int lr, .int un])), ((k 1), .inl (G.2.1, 24, .inl rd))]) (ws' := (wX4 G.2.1 x hh sl a k ki fi ke va ta ro qu nsz fin rnd rd mkd lr un)) (rV (As := [.int p1, .int 0]) (rest := []) (b := (a 0)) (wi := (wST G.2.1 a ki fi ke va ta ro qu nsz fin rnd)) hF hK (hP.sub [1, 2, 3, 4, 5, 6, 7, 8, 9] rfl) (hD.sub [1, 2, 3, 4, 5, 6, 7, 8, 9] rfl rfl) (c_X3_hasKind l G a ki fi ke va ta ro qu nsz fin rnd p1 0 q1 hc2 H.size) (cwV 2 hts gX4_field_X3_hasKind rfl rfl rfl (by decide +kernel) ⟨Nat.le_of_ble_eq_true rfl, Nat.le_of_ble_eq_true rfl⟩) (va_recv hK.1 hP (ci := 3) (q0 := 1) rfl rfl) rfl hl.1 rfl (Nat.le_of_ble_eq_true rfl) dX4_field_6 ⟨Nat.le_of_ble_eq_true rfl, Nat.le_of_ble_eq_true rfl⟩) hP hD hS hA [1, 2, 3, 4, 5, 6, 7, 8, 9] [0, 10, 11] [0, 3, 4, 5, 6, 7, 8, 9, 10, 11, 1, 2] rfl rfl rfl (by decide) rfl rfl (fun H locs hP hD hS => ?_)
  refine lv_if_eq (tgt := 20) hx hb dX4_field_9 (by decide) (fun c3 => ?_) (fun c3 => ?_)
  · replace hm := it_t c3 hm
    refine lv_iconst (v := (-1)) hx hb dX4_field_20 (by decide) ?_
    cases hm
    exact rt_i hx hb hr hlocks hP hD hS dX4_field_21
  · replace hm := it_f c3 hm
    refine lv_iload_n hx hb dX4_field_12 rfl (lv_at hl 2 rfl) ?_
    refine lv_iconst (v := 3) hx hb dX4_field_13 (by decide) ?_
    obtain ⟨q4, hc5, hm⟩ := bd_s hm
    refine k0_i (ws := (wX4 G.2.1 x hh sl a k ki fi ke va ta ro qu nsz fin rnd rd mkd lr un)) (rS (As := [.int p2, .int 3]) (rest := []) (wi := ([] : va_W)) hF hK k0_P (k0_D (A := A)) (c_X4_within l G p2 3 q4 hc5 H.size) (va_cwS 2 hts gX4_field_X4_within rfl rfl rfl (by decide +kernel) ⟨Nat.le_of_ble_eq_true rfl, Nat.le_of_ble_eq_true rfl⟩) rfl hl.1 rfl (Nat.le_of_ble_eq_true rfl) dX4_field_14 ⟨Nat.le_of_ble_eq_true rfl, Nat.le_of_ble_eq_true rfl⟩) hP hS hA (fun H locs hP hS => ?_)
    refine lv_if_ne (tgt := 22) hx hb dX4_field_17 (by decide) (fun c6 => ?_) (fun c6 => ?_)
    · replace hm := it_f c6 hm
      refine lv_aload_n hx hb dX4_field_22 rfl (lv_at hl 0 rfl) ?_
      refine va_get (D := G.1) (ci := 4) (v := .ref (a 0)) (C := RX4) (T := TX4) (N := 4) hx hb hts w1_X4_field hown hK.1 hP 0 rfl rfl 0 (by decide) (hts _ w0_X4_field) (fun _ h9 => h9) rfl dX4_field_23 ?_
      refine va_get (D := G.1) (ci := 3) (v := .ref (a 2)) (C := RX3) (T := TX3) (N := 9) hx hb hts w3_X4_field hown hK.1 hP 1 rfl rfl 1 (by decide) (hts _ w2_X4_field) (fun _ h9 => h9) rfl dX4_field_26 ?_
      refine lv_iload_n hx hb dX4_field_29 rfl (lv_at hl 1 rfl) ?_
      refine lv_iconst (v := 3) hx hb dX4_field_30 (by decide) ?_
      refine lv_imul hx hb dX4_field_31 ?_
      refine lv_iload_n hx hb dX4_field_32 rfl (lv_at hl 2 rfl) ?_
      refine lv_iadd hx hb dX4_field_33 ?_
      obtain ⟨hi7, hm⟩ := gd_s hm
      refine va_iald hx hb hK.1 hP 3 0 rfl rfl hi7 dX4_field_34 ?_
      cases hm
      exact rt_i hx hb hr hlocks hP hD hS dX4_field_35
    · replace hm := it_t c6 hm
      refine lv_iconst (v := (-1)) hx hb dX4_field_20 (by decide) ?_
      cases hm
      exact rt_i hx hb hr hlocks hP hD hS dX4_field_21
def M_X4_root (ro : Nat → Int32) (p1 : Int32) : Option (Int32) :=
  (M_X4_within p1 6).bind fun q1 => if q1 = 0 then (some (-1)) else (gd p1 6 (some (ro p1.toNatClampNeg)))
theorem w0_X4_root : Cond.fieldLink RX4 10 "WeakTableHeap" "state" "LWeakTableHeap$State;" ∈ wsX4_root := by decide +kernel
theorem w1_X4_root : ∀ w ∈ u_ws RX4 TX4 4, w ∈ wsX4_root := by decide +kernel
theorem w2_X4_root : Cond.fieldLink RX4 71 "WeakTableHeap$State" "roots" "[I" ∈ wsX4_root := by decide +kernel
theorem w3_X4_root : ∀ w ∈ u_ws RX3 TX3 9, w ∈ wsX4_root := by decide +kernel
abbrev rm_X4_root : Room := { frames := 1, cells := 0, slots := 0, locals := 21 }
set_option maxHeartbeats 4000000 in
set_option maxRecDepth 100000 in
theorem c_X4_root (l : Launch) (G : GG) (x : Nat) (hh : Nat) (sl : Nat) (a : Nat → Nat) (k : Nat → Nat) (ki : Nat → Int32) (fi : Nat → Int32) (ke : Nat → Int32) (va : Nat → Int32) (ta : Nat → Int32) (ro : Nat → Int32) (qu : Nat → Int32) (nsz : Int32) (fin : Int32) (rnd : Int32) (rd : Nat → Int32) (mkd : Int32) (lr : Int32) (un : Int32) (p1 : Int32) (q : Int32) (hm : M_X4_root ro p1 = some q) : CTi l yX4_root wsX4_root rm_X4_root G [.ref x, .int p1] (wX4 G.2.1 x hh sl a k ki fi ke va ta ro qu nsz fin rnd rd mkd lr un) q (wX4 G.2.1 x hh sl a k ki fi ke va ta ro qu nsz fin rnd rd mkd lr un) := by
  intro sz
  refine mk_body (Qc := fun A => (QI G A q (wX4 G.2.1 x hh sl a k ki fi ke va ta ro qu nsz fin rnd rd mkd lr un))) (cc := cX4_root) (maxL := 2) (ret := (some .int)) (lv := [(0, .ref x), (1, .int p1)]) (by decide) rfl rfl (Nat.le_of_ble_eq_true rfl) ?_
  intro p e s m args below meth c A H locs ls hF hr hlocks hname hK hA hP hD hS hl
  obtain ⟨hx, hb, hml, hown, hts⟩ := id hF
  unfold M_X4_root at hm
  refine lv_iload_n hx hb dX4_root_0 rfl (lv_at hl 1 rfl) ?_
  refine lv_bipush (v := 6) hx hb dX4_root_1 (by decide) ?_
  obtain ⟨q1, hc2, hm⟩ := bd_s hm
  refine k0_i (ws := (wX4 G.2.1 x hh sl a k ki fi ke va ta ro qu nsz fin rnd rd mkd lr un)) (rS (As := [.int p1, .int 6]) (rest := []) (wi := ([] : va_W)) hF hK k0_P (k0_D (A := A)) (c_X4_within l G p1 6 q1 hc2 H.size) (va_cwS 2 hts gX4_root_X4_within rfl rfl rfl (by decide +kernel) ⟨Nat.le_of_ble_eq_true rfl, Nat.le_of_ble_eq_true rfl⟩) rfl hl.1 rfl (Nat.le_of_ble_eq_true rfl) dX4_root_3 ⟨Nat.le_of_ble_eq_true rfl, Nat.le_of_ble_eq_true rfl⟩) hP hS hA (fun H locs hP hS => ?_)
  refine lv_if_eq (tgt := 21) hx hb dX4_root_6 (by decide) (fun c3 => ?_) (fun c3 => ?_)
  · replace hm := it_t c3 hm
    refine lv_iconst (v := (-1)) hx hb dX4_root_21 (by decide) ?_
    cases hm
    exact rt_i hx hb hr hlocks hP hD hS dX4_root_22
  · replace hm := it_f c3 hm
    refine lv_aload_n hx hb dX4_root_9 rfl (lv_at hl 0 rfl) ?_
    refine va_get (D := G.1) (ci := 4) (v := .ref (a 0)) (C := RX4) (T := TX4) (N := 4) hx hb hts w1_X4_root hown hK.1 hP 0 rfl rfl 0 (by decide) (hts _ w0_X4_root) (fun _ h9 => h9) rfl dX4_root_10 ?_
    refine va_get (D := G.1) (ci := 3) (v := .ref (a 6)) (C := RX3) (T := TX3) (N := 9) hx hb hts w3_X4_root hown hK.1 hP 1 rfl rfl 5 (by decide) (hts _ w2_X4_root) (fun _ h9 => h9) rfl dX4_root_13 ?_
    refine lv_iload_n hx hb dX4_root_16 rfl (lv_at hl 1 rfl) ?_
    obtain ⟨hi4, hm⟩ := gd_s hm
    refine va_iald hx hb hK.1 hP 7 0 rfl rfl hi4 dX4_root_17 ?_
    refine lv_goto (tgt := 22) hx hb dX4_root_18 (by decide) ?_
    cases hm
    exact rt_i hx hb hr hlocks hP hD hS dX4_root_22
def M_X4_target (ki : Nat → Int32) (ta : Nat → Int32) (p1 : Int32) : Option (Int32) :=
  (M_X3_hasKind ki p1 2).bind fun q1 => if q1 = 0 then (some (-1)) else (gd p1 24 (some (ta p1.toNatClampNeg)))
theorem w0_X4_target : Cond.fieldLink RX4 10 "WeakTableHeap" "state" "LWeakTableHeap$State;" ∈ wsX4_target := by decide +kernel
theorem w1_X4_target : ∀ w ∈ u_ws RX4 TX4 4, w ∈ wsX4_target := by decide +kernel
theorem w2_X4_target : Cond.fieldLink RX4 74 "WeakTableHeap$State" "targets" "[I" ∈ wsX4_target := by decide +kernel
theorem w3_X4_target : ∀ w ∈ u_ws RX3 TX3 9, w ∈ wsX4_target := by decide +kernel
abbrev rm_X4_target : Room := { frames := 2, cells := 0, slots := 0, locals := 43 }
set_option maxHeartbeats 4000000 in
set_option maxRecDepth 100000 in
theorem c_X4_target (l : Launch) (G : GG) (x : Nat) (hh : Nat) (sl : Nat) (a : Nat → Nat) (k : Nat → Nat) (ki : Nat → Int32) (fi : Nat → Int32) (ke : Nat → Int32) (va : Nat → Int32) (ta : Nat → Int32) (ro : Nat → Int32) (qu : Nat → Int32) (nsz : Int32) (fin : Int32) (rnd : Int32) (rd : Nat → Int32) (mkd : Int32) (lr : Int32) (un : Int32) (p1 : Int32) (q : Int32) (hm : M_X4_target ki ta p1 = some q) : CTi l yX4_target wsX4_target rm_X4_target G [.ref x, .int p1] (wX4 G.2.1 x hh sl a k ki fi ke va ta ro qu nsz fin rnd rd mkd lr un) q (wX4 G.2.1 x hh sl a k ki fi ke va ta ro qu nsz fin rnd rd mkd lr un) := by
  intro sz
  refine mk_body (Qc := fun A => (QI G A q (wX4 G.2.1 x hh sl a k ki fi ke va ta ro qu nsz fin rnd rd mkd lr un))) (cc := cX4_target) (maxL := 2) (ret := (some .int)) (lv := [(0, .ref x), (1, .int p1)]) (by decide) rfl rfl (Nat.le_of_ble_eq_true rfl) ?_
  intro p e s m args below meth c A H locs ls hF hr hlocks hname hK hA hP hD hS hl
  obtain ⟨hx, hb, hml, hown, hts⟩ := id hF
  unfold M_X4_target at hm
  refine lv_aload_n hx hb dX4_target_0 rfl (lv_at hl 0 rfl) ?_
  refine va_get (D := G.1) (ci := 4) (v := .ref (a 0)) (C := RX4) (T := TX4) (N := 4) hx hb hts w1_X4_target hown hK.1 hP 0 rfl rfl 0 (by decide) (hts _ w0_X4_target) (fun _ h9 => h9) rfl dX4_target_1 ?_
  refine lv_iload_n hx hb dX4_target_4 rfl (lv_at hl 1 rfl) ?_
  refine lv_iconst (v := 2) hx hb dX4_target_5 (by decide) ?_
  obtain ⟨q1, hc2, hm⟩ := bd_s hm
  refine kc_i (wi := (wST G.2.1 a ki fi ke va ta ro qu nsz fin rnd)) (wo := (wST G.2.1 a ki fi ke va ta ro qu nsz fin rnd)) (wr := [(x, .inr (4, [.ref (a 0), .ref hh, .ref sl, .ref (k 0)])), ((k 0), .inr (1, [.ref (k 1), .int mkd, .int lr, .int un])), ((k 1), .inl (G.2.1, 24, .inl rd))]) (ws' := (wX4 G.2.1 x hh sl a k ki fi ke va ta ro qu nsz fin rnd rd mkd lr un)) (rV (As := [.int p1, .int 2]) (rest := []) (b := (a 0)) (wi := (wST G.2.1 a ki fi ke va ta ro qu nsz fin rnd)) hF hK (hP.sub [1, 2, 3, 4, 5, 6, 7, 8, 9] rfl) (hD.sub [1, 2, 3, 4, 5, 6, 7, 8, 9] rfl rfl) (c_X3_hasKind l G a ki fi ke va ta ro qu nsz fin rnd p1 2 q1 hc2 H.size) (cwV 2 hts gX4_target_X3_hasKind rfl rfl rfl (by decide +kernel) ⟨Nat.le_of_ble_eq_true rfl, Nat.le_of_ble_eq_true rfl⟩) (va_recv hK.1 hP (ci := 3) (q0 := 1) rfl rfl) rfl hl.1 rfl (Nat.le_of_ble_eq_true rfl) dX4_target_6 ⟨Nat.le_of_ble_eq_true rfl, Nat.le_of_ble_eq_true rfl⟩) hP hD hS hA [1, 2, 3, 4, 5, 6, 7, 8, 9] [0, 10, 11] [0, 3, 4, 5, 6, 7, 8, 9, 10, 11, 1, 2] rfl rfl rfl (by decide) rfl rfl (fun H locs hP hD hS => ?_)
  refine lv_if_eq (tgt := 24) hx hb dX4_target_9 (by decide) (fun c3 => ?_) (fun c3 => ?_)
  · replace hm := it_t c3 hm
    refine lv_iconst (v := (-1)) hx hb dX4_target_24 (by decide) ?_
    cases hm
    exact rt_i hx hb hr hlocks hP hD hS dX4_target_25
  · replace hm := it_f c3 hm
    refine lv_aload_n hx hb dX4_target_12 rfl (lv_at hl 0 rfl) ?_
    refine va_get (D := G.1) (ci := 4) (v := .ref (a 0)) (C := RX4) (T := TX4) (N := 4) hx hb hts w1_X4_target hown hK.1 hP 0 rfl rfl 0 (by decide) (hts _ w0_X4_target) (fun _ h9 => h9) rfl dX4_target_13 ?_
    refine va_get (D := G.1) (ci := 3) (v := .ref (a 5)) (C := RX3) (T := TX3) (N := 9) hx hb hts w3_X4_target hown hK.1 hP 1 rfl rfl 4 (by decide) (hts _ w2_X4_target) (fun _ h9 => h9) rfl dX4_target_16 ?_
    refine lv_iload_n hx hb dX4_target_19 rfl (lv_at hl 1 rfl) ?_
    obtain ⟨hi4, hm⟩ := gd_s hm
    refine va_iald hx hb hK.1 hP 6 0 rfl rfl hi4 dX4_target_20 ?_
    refine lv_goto (tgt := 25) hx hb dX4_target_21 (by decide) ?_
    cases hm
    exact rt_i hx hb hr hlocks hP hD hS dX4_target_25
def M_X4_get (N : Nat) (ki : Nat → Int32) (ke : Nat → Int32) (va : Nat → Int32) (p1 : Int32) (p2 : Int32) : Option (Int32) :=
  (M_X3_isTableAndKey ki p1 p2).bind fun q1 => if q1 = 0 then (some (-1)) else ((M_X3_placeOfKey N ke p1 p2).bind fun q4 => if q4 = (-9) then (some (-9)) else (gd q4 144 (some (va q4.toNatClampNeg))))
theorem w0_X4_get : Cond.fieldLink RX4 10 "WeakTableHeap" "state" "LWeakTableHeap$State;" ∈ wsX4_get := by decide +kernel
theorem w1_X4_get : ∀ w ∈ u_ws RX4 TX4 4, w ∈ wsX4_get := by decide +kernel
theorem w2_X4_get : Cond.fieldLink RX4 99 "WeakTableHeap$State" "values" "[I" ∈ wsX4_get := by decide +kernel
theorem w3_X4_get : ∀ w ∈ u_ws RX3 TX3 9, w ∈ wsX4_get := by decide +kernel
abbrev rm_X4_get : Room := { frames := 3, cells := 0, slots := 0, locals := 65 }
set_option maxHeartbeats 4000000 in
set_option maxRecDepth 100000 in
theorem c_X4_get (l : Launch) (G : GG) (N : Nat) (x : Nat) (hh : Nat) (sl : Nat) (a : Nat → Nat) (k : Nat → Nat) (ki : Nat → Int32) (fi : Nat → Int32) (ke : Nat → Int32) (va : Nat → Int32) (ta : Nat → Int32) (ro : Nat → Int32) (qu : Nat → Int32) (nsz : Int32) (fin : Int32) (rnd : Int32) (rd : Nat → Int32) (mkd : Int32) (lr : Int32) (un : Int32) (p1 : Int32) (p2 : Int32) (q : Int32) (hm : M_X4_get N ki ke va p1 p2 = some q) : CTi l yX4_get wsX4_get rm_X4_get G [.ref x, .int p1, .int p2] (wX4 G.2.1 x hh sl a k ki fi ke va ta ro qu nsz fin rnd rd mkd lr un) q (wX4 G.2.1 x hh sl a k ki fi ke va ta ro qu nsz fin rnd rd mkd lr un) := by
  intro sz
  refine mk_body (Qc := fun A => (QI G A q (wX4 G.2.1 x hh sl a k ki fi ke va ta ro qu nsz fin rnd rd mkd lr un))) (cc := cX4_get) (maxL := 4) (ret := (some .int)) (lv := [(0, .ref x), (1, .int p1), (2, .int p2)]) (by decide) rfl rfl (Nat.le_of_ble_eq_true rfl) ?_
  intro p e s m args below meth c A H locs ls hF hr hlocks hname hK hA hP hD hS hl
  obtain ⟨hx, hb, hml, hown, hts⟩ := id hF
  unfold M_X4_get at hm
  refine lv_aload_n hx hb dX4_get_0 rfl (lv_at hl 0 rfl) ?_
  refine va_get (D := G.1) (ci := 4) (v := .ref (a 0)) (C := RX4) (T := TX4) (N := 4) hx hb hts w1_X4_get hown hK.1 hP 0 rfl rfl 0 (by decide) (hts _ w0_X4_get) (fun _ h9 => h9) rfl dX4_get_1 ?_
  refine lv_iload_n hx hb dX4_get_4 rfl (lv_at hl 1 rfl) ?_
  refine lv_iload_n hx hb dX4_get_5 rfl (lv_at hl 2 rfl) ?_
  obtain ⟨q1, hc2, hm⟩ := bd_s hm
  refine kc_i (wi := (wST G.2.1 a ki fi ke va ta ro qu nsz fin rnd)) (wo := (wST G.2.1 a ki fi ke va ta ro qu nsz fin rnd)) (wr := [(x, .inr (4, [.ref (a 0), .ref hh, .ref sl, .ref (k 0)])), ((k 0), .inr (1, [.ref (k 1), .int mkd, .int lr, .int un])), ((k 1), .inl (G.2.1, 24, .inl rd))]) (ws' := (wX4 G.2.1 x hh sl a k ki fi ke va ta ro qu nsz fin rnd rd mkd lr un)) (rV (As := [.int p1, .int p2]) (rest := []) (b := (a 0)) (wi := (wST G.2.1 a ki fi ke va ta ro qu nsz fin rnd)) hF hK (hP.sub [1, 2, 3, 4, 5, 6, 7, 8, 9] rfl) (hD.sub [1, 2, 3, 4, 5, 6, 7, 8, 9] rfl rfl) (c_X3_isTableAndKey l G a ki fi ke va ta ro qu nsz fin rnd p1 p2 q1 hc2 H.size) (cwV 2 hts gX4_get_X3_isTableAndKey rfl rfl rfl (by decide +kernel) ⟨Nat.le_of_ble_eq_true rfl, Nat.le_of_ble_eq_true rfl⟩) (va_recv hK.1 hP (ci := 3) (q0 := 1) rfl rfl) rfl hl.1 rfl (Nat.le_of_ble_eq_true rfl) dX4_get_6 ⟨Nat.le_of_ble_eq_true rfl, Nat.le_of_ble_eq_true rfl⟩) hP hD hS hA [1, 2, 3, 4, 5, 6, 7, 8, 9] [0, 10, 11] [0, 3, 4, 5, 6, 7, 8, 9, 10, 11, 1, 2] rfl rfl rfl (by decide) rfl rfl (fun H locs hP hD hS => ?_)
  refine lv_if_ne (tgt := 14) hx hb dX4_get_9 (by decide) (fun c3 => ?_) (fun c3 => ?_)
  · replace hm := it_f c3 hm
    refine lv_aload_n hx hb dX4_get_14 rfl (lv_at hl 0 rfl) ?_
    refine va_get (D := G.1) (ci := 4) (v := .ref (a 0)) (C := RX4) (T := TX4) (N := 4) hx hb hts w1_X4_get hown hK.1 hP 0 rfl rfl 0 (by decide) (hts _ w0_X4_get) (fun _ h9 => h9) rfl dX4_get_15 ?_
    refine lv_iload_n hx hb dX4_get_18 rfl (lv_at hl 1 rfl) ?_
    refine lv_iload_n hx hb dX4_get_19 rfl (lv_at hl 2 rfl) ?_
    obtain ⟨q4, hc5, hm⟩ := bd_s hm
    refine kc_i (wi := (wST G.2.1 a ki fi ke va ta ro qu nsz fin rnd)) (wo := (wST G.2.1 a ki fi ke va ta ro qu nsz fin rnd)) (wr := [(x, .inr (4, [.ref (a 0), .ref hh, .ref sl, .ref (k 0)])), ((k 0), .inr (1, [.ref (k 1), .int mkd, .int lr, .int un])), ((k 1), .inl (G.2.1, 24, .inl rd))]) (ws' := (wX4 G.2.1 x hh sl a k ki fi ke va ta ro qu nsz fin rnd rd mkd lr un)) (rV (As := [.int p1, .int p2]) (rest := []) (b := (a 0)) (wi := (wST G.2.1 a ki fi ke va ta ro qu nsz fin rnd)) hF hK (hP.sub [1, 2, 3, 4, 5, 6, 7, 8, 9] rfl) (hD.sub [1, 2, 3, 4, 5, 6, 7, 8, 9] rfl rfl) (c_X3_placeOfKey l G N a ki fi ke va ta ro qu nsz fin rnd p1 p2 q4 hc5 H.size) (cwV 2 hts gX4_get_X3_placeOfKey rfl rfl rfl (by decide +kernel) ⟨Nat.le_of_ble_eq_true rfl, Nat.le_of_ble_eq_true rfl⟩) (va_recv hK.1 hP (ci := 3) (q0 := 1) rfl rfl) rfl hl.1 rfl (Nat.le_of_ble_eq_true rfl) dX4_get_20 ⟨Nat.le_of_ble_eq_true rfl, Nat.le_of_ble_eq_true rfl⟩) hP hD hS hA [1, 2, 3, 4, 5, 6, 7, 8, 9] [0, 10, 11] [0, 3, 4, 5, 6, 7, 8, 9, 10, 11, 1, 2] rfl rfl rfl (by decide) rfl rfl (fun H locs hP hD hS => ?_)
    refine lv_istore_n (lv' := [(3, .int q4), (0, .ref x), (1, .int p1), (2, .int p2)]) hx hb dX4_get_23 rfl hl (by decide) rfl (fun ls hl => ?_)
    refine lv_iload_n hx hb dX4_get_24 rfl (lv_at hl 0 rfl) ?_
    refine lv_bipush (v := (-9)) hx hb dX4_get_25 (by decide) ?_
    refine lv_icmp_ne (tgt := 35) hx hb dX4_get_27 (by decide) (fun c6 => ?_) (fun c6 => ?_)
    · replace hm := it_f c6 hm
      refine lv_aload_n hx hb dX4_get_35 rfl (lv_at hl 1 rfl) ?_
      refine va_get (D := G.1) (ci := 4) (v := .ref (a 0)) (C := RX4) (T := TX4) (N := 4) hx hb hts w1_X4_get hown hK.1 hP 0 rfl rfl 0 (by decide) (hts _ w0_X4_get) (fun _ h9 => h9) rfl dX4_get_36 ?_
      refine va_get (D := G.1) (ci := 3) (v := .ref (a 4)) (C := RX3) (T := TX3) (N := 9) hx hb hts w3_X4_get hown hK.1 hP 1 rfl rfl 3 (by decide) (hts _ w2_X4_get) (fun _ h9 => h9) rfl dX4_get_39 ?_
      refine lv_iload_n hx hb dX4_get_42 rfl (lv_at hl 0 rfl) ?_
      obtain ⟨hi7, hm⟩ := gd_s hm
      refine va_iald hx hb hK.1 hP 5 0 rfl rfl hi7 dX4_get_43 ?_
      cases hm
      exact rt_i hx hb hr hlocks hP hD hS dX4_get_44
    · replace hm := it_t c6 hm
      refine lv_bipush (v := (-9)) hx hb dX4_get_30 (by decide) ?_
      refine lv_goto (tgt := 44) hx hb dX4_get_32 (by decide) ?_
      cases hm
      exact rt_i hx hb hr hlocks hP hD hS dX4_get_44
  · replace hm := it_t c3 hm
    refine lv_iconst (v := (-1)) hx hb dX4_get_12 (by decide) ?_
    cases hm
    exact rt_i hx hb hr hlocks hP hD hS dX4_get_13
def M_X4_entryCount (N : Nat) (ki : Nat → Int32) (ke : Nat → Int32) (p1 : Int32) : Option (Int32) :=
  (M_X3_hasKind ki p1 1).bind fun q1 => if q1 = 0 then (some (-1)) else ((M_X3_placeOfKey N ke p1 (-9)).bind fun q4 => if q4 = (-9) then (some 6) else (some (q4 - (p1 * 6))))
theorem w0_X4_entryCount : Cond.fieldLink RX4 10 "WeakTableHeap" "state" "LWeakTableHeap$State;" ∈ wsX4_entryCount := by decide +kernel
theorem w1_X4_entryCount : ∀ w ∈ u_ws RX4 TX4 4, w ∈ wsX4_entryCount := by decide +kernel
abbrev rm_X4_entryCount : Room := { frames := 2, cells := 0, slots := 0, locals := 44 }
set_option maxHeartbeats 4000000 in
set_option maxRecDepth 100000 in
theorem c_X4_entryCount (l : Launch) (G : GG) (N : Nat) (x : Nat) (hh : Nat) (sl : Nat) (a : Nat → Nat) (k : Nat → Nat) (ki : Nat → Int32) (fi : Nat → Int32) (ke : Nat → Int32) (va : Nat → Int32) (ta : Nat → Int32) (ro : Nat → Int32) (qu : Nat → Int32) (nsz : Int32) (fin : Int32) (rnd : Int32) (rd : Nat → Int32) (mkd : Int32) (lr : Int32) (un : Int32) (p1 : Int32) (q : Int32) (hm : M_X4_entryCount N ki ke p1 = some q) : CTi l yX4_entryCount wsX4_entryCount rm_X4_entryCount G [.ref x, .int p1] (wX4 G.2.1 x hh sl a k ki fi ke va ta ro qu nsz fin rnd rd mkd lr un) q (wX4 G.2.1 x hh sl a k ki fi ke va ta ro qu nsz fin rnd rd mkd lr un) := by
  intro sz
  refine mk_body (Qc := fun A => (QI G A q (wX4 G.2.1 x hh sl a k ki fi ke va ta ro qu nsz fin rnd rd mkd lr un))) (cc := cX4_entryCount) (maxL := 3) (ret := (some .int)) (lv := [(0, .ref x), (1, .int p1)]) (by decide) rfl rfl (Nat.le_of_ble_eq_true rfl) ?_
  intro p e s m args below meth c A H locs ls hF hr hlocks hname hK hA hP hD hS hl
  obtain ⟨hx, hb, hml, hown, hts⟩ := id hF
  unfold M_X4_entryCount at hm
  refine lv_aload_n hx hb dX4_entryCount_0 rfl (lv_at hl 0 rfl) ?_
  refine va_get (D := G.1) (ci := 4) (v := .ref (a 0)) (C := RX4) (T := TX4) (N := 4) hx hb hts w1_X4_entryCount hown hK.1 hP 0 rfl rfl 0 (by decide) (hts _ w0_X4_entryCount) (fun _ h9 => h9) rfl dX4_entryCount_1 ?_
  refine lv_iload_n hx hb dX4_entryCount_4 rfl (lv_at hl 1 rfl) ?_
  refine lv_iconst (v := 1) hx hb dX4_entryCount_5 (by decide) ?_
  obtain ⟨q1, hc2, hm⟩ := bd_s hm
  refine kc_i (wi := (wST G.2.1 a ki fi ke va ta ro qu nsz fin rnd)) (wo := (wST G.2.1 a ki fi ke va ta ro qu nsz fin rnd)) (wr := [(x, .inr (4, [.ref (a 0), .ref hh, .ref sl, .ref (k 0)])), ((k 0), .inr (1, [.ref (k 1), .int mkd, .int lr, .int un])), ((k 1), .inl (G.2.1, 24, .inl rd))]) (ws' := (wX4 G.2.1 x hh sl a k ki fi ke va ta ro qu nsz fin rnd rd mkd lr un)) (rV (As := [.int p1, .int 1]) (rest := []) (b := (a 0)) (wi := (wST G.2.1 a ki fi ke va ta ro qu nsz fin rnd)) hF hK (hP.sub [1, 2, 3, 4, 5, 6, 7, 8, 9] rfl) (hD.sub [1, 2, 3, 4, 5, 6, 7, 8, 9] rfl rfl) (c_X3_hasKind l G a ki fi ke va ta ro qu nsz fin rnd p1 1 q1 hc2 H.size) (cwV 2 hts gX4_entryCount_X3_hasKind rfl rfl rfl (by decide +kernel) ⟨Nat.le_of_ble_eq_true rfl, Nat.le_of_ble_eq_true rfl⟩) (va_recv hK.1 hP (ci := 3) (q0 := 1) rfl rfl) rfl hl.1 rfl (Nat.le_of_ble_eq_true rfl) dX4_entryCount_6 ⟨Nat.le_of_ble_eq_true rfl, Nat.le_of_ble_eq_true rfl⟩) hP hD hS hA [1, 2, 3, 4, 5, 6, 7, 8, 9] [0, 10, 11] [0, 3, 4, 5, 6, 7, 8, 9, 10, 11, 1, 2] rfl rfl rfl (by decide) rfl rfl (fun H locs hP hD hS => ?_)
  refine lv_if_ne (tgt := 14) hx hb dX4_entryCount_9 (by decide) (fun c3 => ?_) (fun c3 => ?_)
  · replace hm := it_f c3 hm
    refine lv_aload_n hx hb dX4_entryCount_14 rfl (lv_at hl 0 rfl) ?_
    refine va_get (D := G.1) (ci := 4) (v := .ref (a 0)) (C := RX4) (T := TX4) (N := 4) hx hb hts w1_X4_entryCount hown hK.1 hP 0 rfl rfl 0 (by decide) (hts _ w0_X4_entryCount) (fun _ h9 => h9) rfl dX4_entryCount_15 ?_
    refine lv_iload_n hx hb dX4_entryCount_18 rfl (lv_at hl 1 rfl) ?_
    refine lv_bipush (v := (-9)) hx hb dX4_entryCount_19 (by decide) ?_
    obtain ⟨q4, hc5, hm⟩ := bd_s hm
    refine kc_i (wi := (wST G.2.1 a ki fi ke va ta ro qu nsz fin rnd)) (wo := (wST G.2.1 a ki fi ke va ta ro qu nsz fin rnd)) (wr := [(x, .inr (4, [.ref (a 0), .ref hh, .ref sl, .ref (k 0)])), ((k 0), .inr (1, [.ref (k 1), .int mkd, .int lr, .int un])), ((k 1), .inl (G.2.1, 24, .inl rd))]) (ws' := (wX4 G.2.1 x hh sl a k ki fi ke va ta ro qu nsz fin rnd rd mkd lr un)) (rV (As := [.int p1, .int (-9)]) (rest := []) (b := (a 0)) (wi := (wST G.2.1 a ki fi ke va ta ro qu nsz fin rnd)) hF hK (hP.sub [1, 2, 3, 4, 5, 6, 7, 8, 9] rfl) (hD.sub [1, 2, 3, 4, 5, 6, 7, 8, 9] rfl rfl) (c_X3_placeOfKey l G N a ki fi ke va ta ro qu nsz fin rnd p1 (-9) q4 hc5 H.size) (cwV 2 hts gX4_entryCount_X3_placeOfKey rfl rfl rfl (by decide +kernel) ⟨Nat.le_of_ble_eq_true rfl, Nat.le_of_ble_eq_true rfl⟩) (va_recv hK.1 hP (ci := 3) (q0 := 1) rfl rfl) rfl hl.1 rfl (Nat.le_of_ble_eq_true rfl) dX4_entryCount_21 ⟨Nat.le_of_ble_eq_true rfl, Nat.le_of_ble_eq_true rfl⟩) hP hD hS hA [1, 2, 3, 4, 5, 6, 7, 8, 9] [0, 10, 11] [0, 3, 4, 5, 6, 7, 8, 9, 10, 11, 1, 2] rfl rfl rfl (by decide) rfl rfl (fun H locs hP hD hS => ?_)
    refine lv_istore_n (lv' := [(2, .int q4), (0, .ref x), (1, .int p1)]) hx hb dX4_entryCount_24 rfl hl (by decide) rfl (fun ls hl => ?_)
    refine lv_iload_n hx hb dX4_entryCount_25 rfl (lv_at hl 0 rfl) ?_
    refine lv_bipush (v := (-9)) hx hb dX4_entryCount_26 (by decide) ?_
    refine lv_icmp_ne (tgt := 36) hx hb dX4_entryCount_28 (by decide) (fun c6 => ?_) (fun c6 => ?_)
    · replace hm := it_f c6 hm
      refine lv_iload_n hx hb dX4_entryCount_36 rfl (lv_at hl 0 rfl) ?_
      refine lv_iload_n hx hb dX4_entryCount_37 rfl (lv_at hl 2 rfl) ?_
      refine lv_bipush (v := 6) hx hb dX4_entryCount_38 (by decide) ?_
      refine lv_imul hx hb dX4_entryCount_40 ?_
      refine lv_isub hx hb dX4_entryCount_41 ?_
      cases hm
      exact rt_i hx hb hr hlocks hP hD hS dX4_entryCount_42
    · replace hm := it_t c6 hm
      refine lv_bipush (v := 6) hx hb dX4_entryCount_31 (by decide) ?_
      refine lv_goto (tgt := 42) hx hb dX4_entryCount_33 (by decide) ?_
      cases hm
      exact rt_i hx hb hr hlocks hP hD hS dX4_entryCount_42
  · replace hm := it_t c3 hm
    refine lv_iconst (v := (-1)) hx hb dX4_entryCount_12 (by decide) ?_
    cases hm
    exact rt_i hx hb hr hlocks hP hD hS dX4_entryCount_13
def M_X4_entryKey (ki : Nat → Int32) (ke : Nat → Int32) (p1 : Int32) (p2 : Int32) : Option (Int32) :=
  (M_X3_hasKind ki p1 1).bind fun q1 => if q1 = 0 then (some (-1)) else (if 0 ≤ p2 then (if 6 ≤ p2 then (some (-9)) else (gd ((p1 * 6) + p2) 144 (some (ke ((p1 * 6) + p2).toNatClampNeg)))) else (some (-1)))
theorem w0_X4_entryKey : Cond.fieldLink RX4 10 "WeakTableHeap" "state" "LWeakTableHeap$State;" ∈ wsX4_entryKey := by decide +kernel
theorem w1_X4_entryKey : ∀ w ∈ u_ws RX4 TX4 4, w ∈ wsX4_entryKey := by decide +kernel
theorem w2_X4_entryKey : Cond.fieldLink RX4 102 "WeakTableHeap$State" "keys" "[I" ∈ wsX4_entryKey := by decide +kernel
theorem w3_X4_entryKey : ∀ w ∈ u_ws RX3 TX3 9, w ∈ wsX4_entryKey := by decide +kernel
abbrev rm_X4_entryKey : Room := { frames := 2, cells := 0, slots := 0, locals := 43 }
set_option maxHeartbeats 4000000 in
set_option maxRecDepth 100000 in
theorem c_X4_entryKey (l : Launch) (G : GG) (x : Nat) (hh : Nat) (sl : Nat) (a : Nat → Nat) (k : Nat → Nat) (ki : Nat → Int32) (fi : Nat → Int32) (ke : Nat → Int32) (va : Nat → Int32) (ta : Nat → Int32) (ro : Nat → Int32) (qu : Nat → Int32) (nsz : Int32) (fin : Int32) (rnd : Int32) (rd : Nat → Int32) (mkd : Int32) (lr : Int32) (un : Int32) (p1 : Int32) (p2 : Int32) (q : Int32) (hm : M_X4_entryKey ki ke p1 p2 = some q) : CTi l yX4_entryKey wsX4_entryKey rm_X4_entryKey G [.ref x, .int p1, .int p2] (wX4 G.2.1 x hh sl a k ki fi ke va ta ro qu nsz fin rnd rd mkd lr un) q (wX4 G.2.1 x hh sl a k ki fi ke va ta ro qu nsz fin rnd rd mkd lr un) := by
  intro sz
  refine mk_body (Qc := fun A => (QI G A q (wX4 G.2.1 x hh sl a k ki fi ke va ta ro qu nsz fin rnd rd mkd lr un))) (cc := cX4_entryKey) (maxL := 3) (ret := (some .int)) (lv := [(0, .ref x), (1, .int p1), (2, .int p2)]) (by decide) rfl rfl (Nat.le_of_ble_eq_true rfl) ?_
  intro p e s m args below meth c A H locs ls hF hr hlocks hname hK hA hP hD hS hl
  obtain ⟨hx, hb, hml, hown, hts⟩ := id hF
  unfold M_X4_entryKey at hm
  refine lv_aload_n hx hb dX4_entryKey_0 rfl (lv_at hl 0 rfl) ?_
  refine va_get (D := G.1) (ci := 4) (v := .ref (a 0)) (C := RX4) (T := TX4) (N := 4) hx hb hts w1_X4_entryKey hown hK.1 hP 0 rfl rfl 0 (by decide) (hts _ w0_X4_entryKey) (fun _ h9 => h9) rfl dX4_entryKey_1 ?_
  refine lv_iload_n hx hb dX4_entryKey_4 rfl (lv_at hl 1 rfl) ?_
  refine lv_iconst (v := 1) hx hb dX4_entryKey_5 (by decide) ?_
  obtain ⟨q1, hc2, hm⟩ := bd_s hm
  refine kc_i (wi := (wST G.2.1 a ki fi ke va ta ro qu nsz fin rnd)) (wo := (wST G.2.1 a ki fi ke va ta ro qu nsz fin rnd)) (wr := [(x, .inr (4, [.ref (a 0), .ref hh, .ref sl, .ref (k 0)])), ((k 0), .inr (1, [.ref (k 1), .int mkd, .int lr, .int un])), ((k 1), .inl (G.2.1, 24, .inl rd))]) (ws' := (wX4 G.2.1 x hh sl a k ki fi ke va ta ro qu nsz fin rnd rd mkd lr un)) (rV (As := [.int p1, .int 1]) (rest := []) (b := (a 0)) (wi := (wST G.2.1 a ki fi ke va ta ro qu nsz fin rnd)) hF hK (hP.sub [1, 2, 3, 4, 5, 6, 7, 8, 9] rfl) (hD.sub [1, 2, 3, 4, 5, 6, 7, 8, 9] rfl rfl) (c_X3_hasKind l G a ki fi ke va ta ro qu nsz fin rnd p1 1 q1 hc2 H.size) (cwV 2 hts gX4_entryKey_X3_hasKind rfl rfl rfl (by decide +kernel) ⟨Nat.le_of_ble_eq_true rfl, Nat.le_of_ble_eq_true rfl⟩) (va_recv hK.1 hP (ci := 3) (q0 := 1) rfl rfl) rfl hl.1 rfl (Nat.le_of_ble_eq_true rfl) dX4_entryKey_6 ⟨Nat.le_of_ble_eq_true rfl, Nat.le_of_ble_eq_true rfl⟩) hP hD hS hA [1, 2, 3, 4, 5, 6, 7, 8, 9] [0, 10, 11] [0, 3, 4, 5, 6, 7, 8, 9, 10, 11, 1, 2] rfl rfl rfl (by decide) rfl rfl (fun H locs hP hD hS => ?_)
  refine lv_if_eq (tgt := 16) hx hb dX4_entryKey_9 (by decide) (fun c3 => ?_) (fun c3 => ?_)
  · replace hm := it_t c3 hm
    refine lv_iconst (v := (-1)) hx hb dX4_entryKey_16 (by decide) ?_
    cases hm
    exact rt_i hx hb hr hlocks hP hD hS dX4_entryKey_17
  · replace hm := it_f c3 hm
    refine lv_iload_n hx hb dX4_entryKey_12 rfl (lv_at hl 2 rfl) ?_
    refine lv_if_ge (tgt := 18) hx hb dX4_entryKey_13 (by decide) (fun c4 => ?_) (fun c4 => ?_)
    · replace hm := it_t c4 hm
      refine lv_iload_n hx hb dX4_entryKey_18 rfl (lv_at hl 2 rfl) ?_
      refine lv_bipush (v := 6) hx hb dX4_entryKey_19 (by decide) ?_
      refine lv_icmp_ge (tgt := 41) hx hb dX4_entryKey_21 (by decide) (fun c5 => ?_) (fun c5 => ?_)
      · replace hm := it_t c5 hm
        refine lv_bipush (v := (-9)) hx hb dX4_entryKey_41 (by decide) ?_
        cases hm
        exact rt_i hx hb hr hlocks hP hD hS dX4_entryKey_43
      · replace hm := it_f c5 hm
        refine lv_aload_n hx hb dX4_entryKey_24 rfl (lv_at hl 0 rfl) ?_
        refine va_get (D := G.1) (ci := 4) (v := .ref (a 0)) (C := RX4) (T := TX4) (N := 4) hx hb hts w1_X4_entryKey hown hK.1 hP 0 rfl rfl 0 (by decide) (hts _ w0_X4_entryKey) (fun _ h9 => h9) rfl dX4_entryKey_25 ?_
        refine va_get (D := G.1) (ci := 3) (v := .ref (a 3)) (C := RX3) (T := TX3) (N := 9) hx hb hts w3_X4_entryKey hown hK.1 hP 1 rfl rfl 2 (by decide) (hts _ w2_X4_entryKey) (fun _ h9 => h9) rfl dX4_entryKey_28 ?_
        refine lv_iload_n hx hb dX4_entryKey_31 rfl (lv_at hl 1 rfl) ?_
        refine lv_bipush (v := 6) hx hb dX4_entryKey_32 (by decide) ?_
        refine lv_imul hx hb dX4_entryKey_34 ?_
        refine lv_iload_n hx hb dX4_entryKey_35 rfl (lv_at hl 2 rfl) ?_
        refine lv_iadd hx hb dX4_entryKey_36 ?_
        obtain ⟨hi6, hm⟩ := gd_s hm
        refine va_iald hx hb hK.1 hP 4 0 rfl rfl hi6 dX4_entryKey_37 ?_
        refine lv_goto (tgt := 43) hx hb dX4_entryKey_38 (by decide) ?_
        cases hm
        exact rt_i hx hb hr hlocks hP hD hS dX4_entryKey_43
    · replace hm := it_f c4 hm
      refine lv_iconst (v := (-1)) hx hb dX4_entryKey_16 (by decide) ?_
      cases hm
      exact rt_i hx hb hr hlocks hP hD hS dX4_entryKey_17
def M_X4_lastRounds (rnd : Int32) : Option (Int32) :=
  some rnd
theorem w0_X4_lastRounds : Cond.fieldLink RX4 10 "WeakTableHeap" "state" "LWeakTableHeap$State;" ∈ wsX4_lastRounds := by decide +kernel
theorem w1_X4_lastRounds : ∀ w ∈ u_ws RX4 TX4 4, w ∈ wsX4_lastRounds := by decide +kernel
theorem w2_X4_lastRounds : Cond.fieldLink RX4 115 "WeakTableHeap$State" "roundsOfCollection" "I" ∈ wsX4_lastRounds := by decide +kernel
theorem w3_X4_lastRounds : ∀ w ∈ u_ws RX3 TX3 9, w ∈ wsX4_lastRounds := by decide +kernel
abbrev rm_X4_lastRounds : Room := { frames := 0, cells := 0, slots := 0, locals := 0 }
set_option maxHeartbeats 4000000 in
set_option maxRecDepth 100000 in
theorem c_X4_lastRounds (l : Launch) (G : GG) (x : Nat) (hh : Nat) (sl : Nat) (a : Nat → Nat) (k : Nat → Nat) (ki : Nat → Int32) (fi : Nat → Int32) (ke : Nat → Int32) (va : Nat → Int32) (ta : Nat → Int32) (ro : Nat → Int32) (qu : Nat → Int32) (nsz : Int32) (fin : Int32) (rnd : Int32) (rd : Nat → Int32) (mkd : Int32) (lr : Int32) (un : Int32) (q : Int32) (hm : M_X4_lastRounds rnd = some q) : CTi l yX4_lastRounds wsX4_lastRounds rm_X4_lastRounds G [.ref x] (wX4 G.2.1 x hh sl a k ki fi ke va ta ro qu nsz fin rnd rd mkd lr un) q (wX4 G.2.1 x hh sl a k ki fi ke va ta ro qu nsz fin rnd rd mkd lr un) := by
  intro sz
  refine mk_body (Qc := fun A => (QI G A q (wX4 G.2.1 x hh sl a k ki fi ke va ta ro qu nsz fin rnd rd mkd lr un))) (cc := cX4_lastRounds) (maxL := 1) (ret := (some .int)) (lv := [(0, .ref x)]) (by decide) rfl rfl (Nat.le_of_ble_eq_true rfl) ?_
  intro p e s m args below meth c A H locs ls hF hr hlocks hname hK hA hP hD hS hl
  obtain ⟨hx, hb, hml, hown, hts⟩ := id hF
  unfold M_X4_lastRounds at hm
  refine lv_aload_n hx hb dX4_lastRounds_0 rfl (lv_at hl 0 rfl) ?_
  refine va_get (D := G.1) (ci := 4) (v := .ref (a 0)) (C := RX4) (T := TX4) (N := 4) hx hb hts w1_X4_lastRounds hown hK.1 hP 0 rfl rfl 0 (by decide) (hts _ w0_X4_lastRounds) (fun _ h9 => h9) rfl dX4_lastRounds_1 ?_
  refine va_get (D := G.1) (ci := 3) (v := .int rnd) (C := RX3) (T := TX3) (N := 9) hx hb hts w3_X4_lastRounds hown hK.1 hP 1 rfl rfl 8 (by decide) (hts _ w2_X4_lastRounds) (fun _ h9 => h9) rfl dX4_lastRounds_4 ?_
  cases hm
  exact rt_i hx hb hr hlocks hP hD hS dX4_lastRounds_7
def M_X4_noticeCount (nsz : Int32) : Option (Int32) :=
  some nsz
theorem w0_X4_noticeCount : Cond.fieldLink RX4 10 "WeakTableHeap" "state" "LWeakTableHeap$State;" ∈ wsX4_noticeCount := by decide +kernel
theorem w1_X4_noticeCount : ∀ w ∈ u_ws RX4 TX4 4, w ∈ wsX4_noticeCount := by decide +kernel
theorem w2_X4_noticeCount : Cond.fieldLink RX4 141 "WeakTableHeap$State" "notices" "LWeakTableHeap$Notices;" ∈ wsX4_noticeCount := by decide +kernel
theorem w3_X4_noticeCount : ∀ w ∈ u_ws RX3 TX3 9, w ∈ wsX4_noticeCount := by decide +kernel
theorem w4_X4_noticeCount : Cond.fieldLink RX4 145 "WeakTableHeap$Notices" "size" "I" ∈ wsX4_noticeCount := by decide +kernel
theorem w5_X4_noticeCount : ∀ w ∈ u_ws RX2 TX2 2, w ∈ wsX4_noticeCount := by decide +kernel
abbrev rm_X4_noticeCount : Room := { frames := 0, cells := 0, slots := 0, locals := 0 }
set_option maxHeartbeats 4000000 in
set_option maxRecDepth 100000 in
theorem c_X4_noticeCount (l : Launch) (G : GG) (x : Nat) (hh : Nat) (sl : Nat) (a : Nat → Nat) (k : Nat → Nat) (ki : Nat → Int32) (fi : Nat → Int32) (ke : Nat → Int32) (va : Nat → Int32) (ta : Nat → Int32) (ro : Nat → Int32) (qu : Nat → Int32) (nsz : Int32) (fin : Int32) (rnd : Int32) (rd : Nat → Int32) (mkd : Int32) (lr : Int32) (un : Int32) (q : Int32) (hm : M_X4_noticeCount nsz = some q) : CTi l yX4_noticeCount wsX4_noticeCount rm_X4_noticeCount G [.ref x] (wX4 G.2.1 x hh sl a k ki fi ke va ta ro qu nsz fin rnd rd mkd lr un) q (wX4 G.2.1 x hh sl a k ki fi ke va ta ro qu nsz fin rnd rd mkd lr un) := by
  intro sz
  refine mk_body (Qc := fun A => (QI G A q (wX4 G.2.1 x hh sl a k ki fi ke va ta ro qu nsz fin rnd rd mkd lr un))) (cc := cX4_noticeCount) (maxL := 1) (ret := (some .int)) (lv := [(0, .ref x)]) (by decide) rfl rfl (Nat.le_of_ble_eq_true rfl) ?_
  intro p e s m args below meth c A H locs ls hF hr hlocks hname hK hA hP hD hS hl
  obtain ⟨hx, hb, hml, hown, hts⟩ := id hF
  unfold M_X4_noticeCount at hm
  refine lv_aload_n hx hb dX4_noticeCount_0 rfl (lv_at hl 0 rfl) ?_
  refine va_get (D := G.1) (ci := 4) (v := .ref (a 0)) (C := RX4) (T := TX4) (N := 4) hx hb hts w1_X4_noticeCount hown hK.1 hP 0 rfl rfl 0 (by decide) (hts _ w0_X4_noticeCount) (fun _ h9 => h9) rfl dX4_noticeCount_1 ?_
  refine va_get (D := G.1) (ci := 3) (v := .ref (a 7)) (C := RX3) (T := TX3) (N := 9) hx hb hts w3_X4_noticeCount hown hK.1 hP 1 rfl rfl 6 (by decide) (hts _ w2_X4_noticeCount) (fun _ h9 => h9) rfl dX4_noticeCount_4 ?_
  refine va_get (D := G.1) (ci := 2) (v := .int nsz) (C := RX2) (T := TX2) (N := 2) hx hb hts w5_X4_noticeCount hown hK.1 hP 8 rfl rfl 1 (by decide) (hts _ w4_X4_noticeCount) (fun _ h9 => h9) rfl dX4_noticeCount_7 ?_
  cases hm
  exact rt_i hx hb hr hlocks hP hD hS dX4_noticeCount_10
def M_X4_objectCount (N : Nat) (ki : Nat → Int32) : Option (Int32) :=
  (M_X3_allocated N ki).bind fun q1 => (M_J6_bitCount_0f7a4 q1).bind fun q3 => some q3
theorem w0_X4_objectCount : Cond.fieldLink RX4 10 "WeakTableHeap" "state" "LWeakTableHeap$State;" ∈ wsX4_objectCount := by decide +kernel
theorem w1_X4_objectCount : ∀ w ∈ u_ws RX4 TX4 4, w ∈ wsX4_objectCount := by decide +kernel
abbrev rm_X4_objectCount : Room := { frames := 2, cells := 0, slots := 0, locals := 42 }
set_option maxHeartbeats 4000000 in
set_option maxRecDepth 100000 in
theorem c_X4_objectCount (l : Launch) (G : GG) (N : Nat) (x : Nat) (hh : Nat) (sl : Nat) (a : Nat → Nat) (k : Nat → Nat) (ki : Nat → Int32) (fi : Nat → Int32) (ke : Nat → Int32) (va : Nat → Int32) (ta : Nat → Int32) (ro : Nat → Int32) (qu : Nat → Int32) (nsz : Int32) (fin : Int32) (rnd : Int32) (rd : Nat → Int32) (mkd : Int32) (lr : Int32) (un : Int32) (q : Int32) (hm : M_X4_objectCount N ki = some q) : CTi l yX4_objectCount wsX4_objectCount rm_X4_objectCount G [.ref x] (wX4 G.2.1 x hh sl a k ki fi ke va ta ro qu nsz fin rnd rd mkd lr un) q (wX4 G.2.1 x hh sl a k ki fi ke va ta ro qu nsz fin rnd rd mkd lr un) := by
  intro sz
  refine mk_body (Qc := fun A => (QI G A q (wX4 G.2.1 x hh sl a k ki fi ke va ta ro qu nsz fin rnd rd mkd lr un))) (cc := cX4_objectCount) (maxL := 1) (ret := (some .int)) (lv := [(0, .ref x)]) (by decide) rfl rfl (Nat.le_of_ble_eq_true rfl) ?_
  intro p e s m args below meth c A H locs ls hF hr hlocks hname hK hA hP hD hS hl
  obtain ⟨hx, hb, hml, hown, hts⟩ := id hF
  unfold M_X4_objectCount at hm
  refine lv_aload_n hx hb dX4_objectCount_0 rfl (lv_at hl 0 rfl) ?_
  refine va_get (D := G.1) (ci := 4) (v := .ref (a 0)) (C := RX4) (T := TX4) (N := 4) hx hb hts w1_X4_objectCount hown hK.1 hP 0 rfl rfl 0 (by decide) (hts _ w0_X4_objectCount) (fun _ h9 => h9) rfl dX4_objectCount_1 ?_
  obtain ⟨q1, hc2, hm⟩ := bd_s hm
  refine kc_i (wi := (wST G.2.1 a ki fi ke va ta ro qu nsz fin rnd)) (wo := (wST G.2.1 a ki fi ke va ta ro qu nsz fin rnd)) (wr := [(x, .inr (4, [.ref (a 0), .ref hh, .ref sl, .ref (k 0)])), ((k 0), .inr (1, [.ref (k 1), .int mkd, .int lr, .int un])), ((k 1), .inl (G.2.1, 24, .inl rd))]) (ws' := (wX4 G.2.1 x hh sl a k ki fi ke va ta ro qu nsz fin rnd rd mkd lr un)) (rV (As := []) (rest := []) (b := (a 0)) (wi := (wST G.2.1 a ki fi ke va ta ro qu nsz fin rnd)) hF hK (hP.sub [1, 2, 3, 4, 5, 6, 7, 8, 9] rfl) (hD.sub [1, 2, 3, 4, 5, 6, 7, 8, 9] rfl rfl) (c_X3_allocated l G N a ki fi ke va ta ro qu nsz fin rnd q1 hc2 H.size) (cwV 0 hts gX4_objectCount_X3_allocated rfl rfl rfl (by decide +kernel) ⟨Nat.le_of_ble_eq_true rfl, Nat.le_of_ble_eq_true rfl⟩) (va_recv hK.1 hP (ci := 3) (q0 := 1) rfl rfl) rfl hl.1 rfl (Nat.le_of_ble_eq_true rfl) dX4_objectCount_4 ⟨Nat.le_of_ble_eq_true rfl, Nat.le_of_ble_eq_true rfl⟩) hP hD hS hA [1, 2, 3, 4, 5, 6, 7, 8, 9] [0, 10, 11] [0, 3, 4, 5, 6, 7, 8, 9, 10, 11, 1, 2] rfl rfl rfl (by decide) rfl rfl (fun H locs hP hD hS => ?_)
  obtain ⟨q3, hc4, hm⟩ := bd_s hm
  refine k0_i (ws := (wX4 G.2.1 x hh sl a k ki fi ke va ta ro qu nsz fin rnd rd mkd lr un)) (rS (As := [.int q1]) (rest := []) (wi := ([] : va_W)) hF hK k0_P (k0_D (A := A)) (c_J6_bitCount_0f7a4 l G q1 q3 hc4 H.size) (va_cwS 1 hts gX4_objectCount_J6_bitCount_0f7a4 rfl rfl rfl (by decide +kernel) ⟨Nat.le_of_ble_eq_true rfl, Nat.le_of_ble_eq_true rfl⟩) rfl hl.1 rfl (Nat.le_of_ble_eq_true rfl) dX4_objectCount_7 ⟨Nat.le_of_ble_eq_true rfl, Nat.le_of_ble_eq_true rfl⟩) hP hS hA (fun H locs hP hS => ?_)
  cases hm
  exact rt_i hx hb hr hlocks hP hD hS dX4_objectCount_10
def M_X4_markFromRoots (N : Nat) (fi : Nat → Int32) (ke : Nat → Int32) (va : Nat → Int32) (ro : Nat → Int32) (rd : Nat → Int32) : Option ((Nat → Int32) × Int32 × Int32 × Int32) :=
  (M_X3_rootObjects N ro).bind fun q1 => (M_X1_run N rd fi ke va q1 0).bind fun q3 => some (q3.1, q3.2.1, q3.2.2.1, q3.2.2.2)
theorem w0_X4_markFromRoots : Cond.fieldLink RX4 30 "WeakTableHeap" "marking" "LWeakTableHeap$Marking;" ∈ wsX4_markFromRoots := by decide +kernel
theorem w1_X4_markFromRoots : ∀ w ∈ u_ws RX4 TX4 4, w ∈ wsX4_markFromRoots := by decide +kernel
theorem w2_X4_markFromRoots : Cond.fieldLink RX4 10 "WeakTableHeap" "state" "LWeakTableHeap$State;" ∈ wsX4_markFromRoots := by decide +kernel
abbrev rm_X4_markFromRoots : Room := { frames := 5, cells := 0, slots := 0, locals := 115 }
set_option maxHeartbeats 4000000 in
set_option maxRecDepth 100000 in
theorem c_X4_markFromRoots (l : Launch) (G : GG) (N : Nat) (x : Nat) (hh : Nat) (sl : Nat) (a : Nat → Nat) (k : Nat → Nat) (ki : Nat → Int32) (fi : Nat → Int32) (ke : Nat → Int32) (va : Nat → Int32) (ta : Nat → Int32) (ro : Nat → Int32) (qu : Nat → Int32) (nsz : Int32) (fin : Int32) (rnd : Int32) (rd : Nat → Int32) (mkd : Int32) (lr : Int32) (un : Int32) (q : (Nat → Int32) × Int32 × Int32 × Int32) (hm : M_X4_markFromRoots N fi ke va ro rd = some q) : CTv l yX4_markFromRoots wsX4_markFromRoots rm_X4_markFromRoots G [.ref x] (wX4 G.2.1 x hh sl a k ki fi ke va ta ro qu nsz fin rnd rd mkd lr un) (wX4 G.2.1 x hh sl a k ki fi ke va ta ro qu nsz fin rnd q.1 q.2.1 q.2.2.1 q.2.2.2) := by
  intro sz
  refine mk_body (Qc := fun A => (QV G A (wX4 G.2.1 x hh sl a k ki fi ke va ta ro qu nsz fin rnd q.1 q.2.1 q.2.2.1 q.2.2.2))) (cc := cX4_markFromRoots) (maxL := 1) (ret := none) (lv := [(0, .ref x)]) (by decide) rfl rfl (Nat.le_of_ble_eq_true rfl) ?_
  intro p e s m args below meth c A H locs ls hF hr hlocks hname hK hA hP hD hS hl
  obtain ⟨hx, hb, hml, hown, hts⟩ := id hF
  unfold M_X4_markFromRoots at hm
  refine lv_aload_n hx hb dX4_markFromRoots_0 rfl (lv_at hl 0 rfl) ?_
  refine va_get (D := G.1) (ci := 4) (v := .ref (k 0)) (C := RX4) (T := TX4) (N := 4) hx hb hts w1_X4_markFromRoots hown hK.1 hP 0 rfl rfl 3 (by decide) (hts _ w0_X4_markFromRoots) (fun _ h9 => h9) rfl dX4_markFromRoots_1 ?_
  refine lv_aload_n hx hb dX4_markFromRoots_4 rfl (lv_at hl 0 rfl) ?_
  refine va_get (D := G.1) (ci := 4) (v := .ref (a 0)) (C := RX4) (T := TX4) (N := 4) hx hb hts w1_X4_markFromRoots hown hK.1 hP 0 rfl rfl 0 (by decide) (hts _ w2_X4_markFromRoots) (fun _ h9 => h9) rfl dX4_markFromRoots_5 ?_
  refine lv_aload_n hx hb dX4_markFromRoots_8 rfl (lv_at hl 0 rfl) ?_
  refine va_get (D := G.1) (ci := 4) (v := .ref (a 0)) (C := RX4) (T := TX4) (N := 4) hx hb hts w1_X4_markFromRoots hown hK.1 hP 0 rfl rfl 0 (by decide) (hts _ w2_X4_markFromRoots) (fun _ h9 => h9) rfl dX4_markFromRoots_9 ?_
  obtain ⟨q1, hc2, hm⟩ := bd_s hm
  refine kc_i (wi := (wST G.2.1 a ki fi ke va ta ro qu nsz fin rnd)) (wo := (wST G.2.1 a ki fi ke va ta ro qu nsz fin rnd)) (wr := [(x, .inr (4, [.ref (a 0), .ref hh, .ref sl, .ref (k 0)])), ((k 0), .inr (1, [.ref (k 1), .int mkd, .int lr, .int un])), ((k 1), .inl (G.2.1, 24, .inl rd))]) (ws' := (wX4 G.2.1 x hh sl a k ki fi ke va ta ro qu nsz fin rnd rd mkd lr un)) (rV (As := []) (rest := [.ref (a 0), .ref (k 0)]) (b := (a 0)) (wi := (wST G.2.1 a ki fi ke va ta ro qu nsz fin rnd)) hF hK (hP.sub [1, 2, 3, 4, 5, 6, 7, 8, 9] rfl) (hD.sub [1, 2, 3, 4, 5, 6, 7, 8, 9] rfl rfl) (c_X3_rootObjects l G N a ki fi ke va ta ro qu nsz fin rnd q1 hc2 H.size) (cwV 0 hts gX4_markFromRoots_X3_rootObjects rfl rfl rfl (by decide +kernel) ⟨Nat.le_of_ble_eq_true rfl, Nat.le_of_ble_eq_true rfl⟩) (va_recv hK.1 hP (ci := 3) (q0 := 1) rfl rfl) rfl hl.1 rfl (Nat.le_of_ble_eq_true rfl) dX4_markFromRoots_12 ⟨Nat.le_of_ble_eq_true rfl, Nat.le_of_ble_eq_true rfl⟩) hP hD hS hA [1, 2, 3, 4, 5, 6, 7, 8, 9] [0, 10, 11] [0, 3, 4, 5, 6, 7, 8, 9, 10, 11, 1, 2] rfl rfl rfl (by decide) rfl rfl (fun H locs hP hD hS => ?_)
  refine lv_iconst (v := 0) hx hb dX4_markFromRoots_15 (by decide) ?_
  obtain ⟨q3, hc4, hm⟩ := bd_s hm
  refine kc_v (wi := (wMK G.2.1 k rd mkd lr un ++ wST G.2.1 a ki fi ke va ta ro qu nsz fin rnd)) (wo := (wMK G.2.1 k q3.1 q3.2.1 q3.2.2.1 q3.2.2.2 ++ wST G.2.1 a ki fi ke va ta ro qu nsz fin rnd)) (wr := [(x, .inr (4, [.ref (a 0), .ref hh, .ref sl, .ref (k 0)]))]) (ws' := (wX4 G.2.1 x hh sl a k ki fi ke va ta ro qu nsz fin rnd q3.1 q3.2.1 q3.2.2.1 q3.2.2.2)) (rV (As := [.ref (a 0), .int q1, .int 0]) (rest := []) (b := (k 0)) (wi := (wMK G.2.1 k rd mkd lr un ++ wST G.2.1 a ki fi ke va ta ro qu nsz fin rnd)) hF hK (hP.sub [10, 11, 1, 2, 3, 4, 5, 6, 7, 8, 9] rfl) (hD.sub [10, 11, 1, 2, 3, 4, 5, 6, 7, 8, 9] rfl rfl) (c_X1_run l G N k a rd mkd lr un ki fi ke va ta ro qu nsz fin rnd q1 0 q3 hc4 H.size) (cwV 3 hts gX4_markFromRoots_X1_run rfl rfl rfl (by decide +kernel) ⟨Nat.le_of_ble_eq_true rfl, Nat.le_of_ble_eq_true rfl⟩) (va_recv hK.1 hP (ci := 1) (q0 := 10) rfl rfl) rfl hl.1 rfl (Nat.le_of_ble_eq_true rfl) dX4_markFromRoots_16 ⟨Nat.le_of_ble_eq_true rfl, Nat.le_of_ble_eq_true rfl⟩) hP hD hS hA [10, 11, 1, 2, 3, 4, 5, 6, 7, 8, 9] [0] [0, 3, 4, 5, 6, 7, 8, 9, 10, 11, 1, 2] rfl rfl rfl (by decide) rfl rfl (fun H locs hP hD hS => ?_)
  cases hm
  exact rt_v hx hb hr hlocks hP hD hS dX4_markFromRoots_19
def M_X4_markFromRootsAnd (N : Nat) (fi : Nat → Int32) (ke : Nat → Int32) (va : Nat → Int32) (ro : Nat → Int32) (rd : Nat → Int32) (p1 : Int32) : Option ((Nat → Int32) × Int32 × Int32 × Int32) :=
  (M_X3_rootObjects N ro).bind fun q1 => (M_X1_run N rd fi ke va (q1 ||| p1) 0).bind fun q3 => some (q3.1, q3.2.1, q3.2.2.1, q3.2.2.2)
theorem w0_X4_markFromRootsAnd : Cond.fieldLink RX4 30 "WeakTableHeap" "marking" "LWeakTableHeap$Marking;" ∈ wsX4_markFromRootsAnd := by decide +kernel
theorem w1_X4_markFromRootsAnd : ∀ w ∈ u_ws RX4 TX4 4, w ∈ wsX4_markFromRootsAnd := by decide +kernel
theorem w2_X4_markFromRootsAnd : Cond.fieldLink RX4 10 "WeakTableHeap" "state" "LWeakTableHeap$State;" ∈ wsX4_markFromRootsAnd := by decide +kernel
abbrev rm_X4_markFromRootsAnd : Room := { frames := 5, cells := 0, slots := 0, locals := 115 }
set_option maxHeartbeats 4000000 in
set_option maxRecDepth 100000 in
theorem c_X4_markFromRootsAnd (l : Launch) (G : GG) (N : Nat) (x : Nat) (hh : Nat) (sl : Nat) (a : Nat → Nat) (k : Nat → Nat) (ki : Nat → Int32) (fi : Nat → Int32) (ke : Nat → Int32) (va : Nat → Int32) (ta : Nat → Int32) (ro : Nat → Int32) (qu : Nat → Int32) (nsz : Int32) (fin : Int32) (rnd : Int32) (rd : Nat → Int32) (mkd : Int32) (lr : Int32) (un : Int32) (p1 : Int32) (q : (Nat → Int32) × Int32 × Int32 × Int32) (hm : M_X4_markFromRootsAnd N fi ke va ro rd p1 = some q) : CTv l yX4_markFromRootsAnd wsX4_markFromRootsAnd rm_X4_markFromRootsAnd G [.ref x, .int p1] (wX4 G.2.1 x hh sl a k ki fi ke va ta ro qu nsz fin rnd rd mkd lr un) (wX4 G.2.1 x hh sl a k ki fi ke va ta ro qu nsz fin rnd q.1 q.2.1 q.2.2.1 q.2.2.2) := by
  intro sz
  refine mk_body (Qc := fun A => (QV G A (wX4 G.2.1 x hh sl a k ki fi ke va ta ro qu nsz fin rnd q.1 q.2.1 q.2.2.1 q.2.2.2))) (cc := cX4_markFromRootsAnd) (maxL := 2) (ret := none) (lv := [(0, .ref x), (1, .int p1)]) (by decide) rfl rfl (Nat.le_of_ble_eq_true rfl) ?_
  intro p e s m args below meth c A H locs ls hF hr hlocks hname hK hA hP hD hS hl
  obtain ⟨hx, hb, hml, hown, hts⟩ := id hF
  unfold M_X4_markFromRootsAnd at hm
  refine lv_aload_n hx hb dX4_markFromRootsAnd_0 rfl (lv_at hl 0 rfl) ?_
  refine va_get (D := G.1) (ci := 4) (v := .ref (k 0)) (C := RX4) (T := TX4) (N := 4) hx hb hts w1_X4_markFromRootsAnd hown hK.1 hP 0 rfl rfl 3 (by decide) (hts _ w0_X4_markFromRootsAnd) (fun _ h9 => h9) rfl dX4_markFromRootsAnd_1 ?_
  refine lv_aload_n hx hb dX4_markFromRootsAnd_4 rfl (lv_at hl 0 rfl) ?_
  refine va_get (D := G.1) (ci := 4) (v := .ref (a 0)) (C := RX4) (T := TX4) (N := 4) hx hb hts w1_X4_markFromRootsAnd hown hK.1 hP 0 rfl rfl 0 (by decide) (hts _ w2_X4_markFromRootsAnd) (fun _ h9 => h9) rfl dX4_markFromRootsAnd_5 ?_
  refine lv_aload_n hx hb dX4_markFromRootsAnd_8 rfl (lv_at hl 0 rfl) ?_
  refine va_get (D := G.1) (ci := 4) (v := .ref (a 0)) (C := RX4) (T := TX4) (N := 4) hx hb hts w1_X4_markFromRootsAnd hown hK.1 hP 0 rfl rfl 0 (by decide) (hts _ w2_X4_markFromRootsAnd) (fun _ h9 => h9) rfl dX4_markFromRootsAnd_9 ?_
  obtain ⟨q1, hc2, hm⟩ := bd_s hm
  refine kc_i (wi := (wST G.2.1 a ki fi ke va ta ro qu nsz fin rnd)) (wo := (wST G.2.1 a ki fi ke va ta ro qu nsz fin rnd)) (wr := [(x, .inr (4, [.ref (a 0), .ref hh, .ref sl, .ref (k 0)])), ((k 0), .inr (1, [.ref (k 1), .int mkd, .int lr, .int un])), ((k 1), .inl (G.2.1, 24, .inl rd))]) (ws' := (wX4 G.2.1 x hh sl a k ki fi ke va ta ro qu nsz fin rnd rd mkd lr un)) (rV (As := []) (rest := [.ref (a 0), .ref (k 0)]) (b := (a 0)) (wi := (wST G.2.1 a ki fi ke va ta ro qu nsz fin rnd)) hF hK (hP.sub [1, 2, 3, 4, 5, 6, 7, 8, 9] rfl) (hD.sub [1, 2, 3, 4, 5, 6, 7, 8, 9] rfl rfl) (c_X3_rootObjects l G N a ki fi ke va ta ro qu nsz fin rnd q1 hc2 H.size) (cwV 0 hts gX4_markFromRootsAnd_X3_rootObjects rfl rfl rfl (by decide +kernel) ⟨Nat.le_of_ble_eq_true rfl, Nat.le_of_ble_eq_true rfl⟩) (va_recv hK.1 hP (ci := 3) (q0 := 1) rfl rfl) rfl hl.1 rfl (Nat.le_of_ble_eq_true rfl) dX4_markFromRootsAnd_12 ⟨Nat.le_of_ble_eq_true rfl, Nat.le_of_ble_eq_true rfl⟩) hP hD hS hA [1, 2, 3, 4, 5, 6, 7, 8, 9] [0, 10, 11] [0, 3, 4, 5, 6, 7, 8, 9, 10, 11, 1, 2] rfl rfl rfl (by decide) rfl rfl (fun H locs hP hD hS => ?_)
  refine lv_iload_n hx hb dX4_markFromRootsAnd_15 rfl (lv_at hl 1 rfl) ?_
  refine lv_ior hx hb dX4_markFromRootsAnd_16 ?_
  refine lv_iconst (v := 0) hx hb dX4_markFromRootsAnd_17 (by decide) ?_
  obtain ⟨q3, hc4, hm⟩ := bd_s hm
  refine kc_v (wi := (wMK G.2.1 k rd mkd lr un ++ wST G.2.1 a ki fi ke va ta ro qu nsz fin rnd)) (wo := (wMK G.2.1 k q3.1 q3.2.1 q3.2.2.1 q3.2.2.2 ++ wST G.2.1 a ki fi ke va ta ro qu nsz fin rnd)) (wr := [(x, .inr (4, [.ref (a 0), .ref hh, .ref sl, .ref (k 0)]))]) (ws' := (wX4 G.2.1 x hh sl a k ki fi ke va ta ro qu nsz fin rnd q3.1 q3.2.1 q3.2.2.1 q3.2.2.2)) (rV (As := [.ref (a 0), .int (q1 ||| p1), .int 0]) (rest := []) (b := (k 0)) (wi := (wMK G.2.1 k rd mkd lr un ++ wST G.2.1 a ki fi ke va ta ro qu nsz fin rnd)) hF hK (hP.sub [10, 11, 1, 2, 3, 4, 5, 6, 7, 8, 9] rfl) (hD.sub [10, 11, 1, 2, 3, 4, 5, 6, 7, 8, 9] rfl rfl) (c_X1_run l G N k a rd mkd lr un ki fi ke va ta ro qu nsz fin rnd (q1 ||| p1) 0 q3 hc4 H.size) (cwV 3 hts gX4_markFromRootsAnd_X1_run rfl rfl rfl (by decide +kernel) ⟨Nat.le_of_ble_eq_true rfl, Nat.le_of_ble_eq_true rfl⟩) (va_recv hK.1 hP (ci := 1) (q0 := 10) rfl rfl) rfl hl.1 rfl (Nat.le_of_ble_eq_true rfl) dX4_markFromRootsAnd_18 ⟨Nat.le_of_ble_eq_true rfl, Nat.le_of_ble_eq_true rfl⟩) hP hD hS hA [10, 11, 1, 2, 3, 4, 5, 6, 7, 8, 9] [0] [0, 3, 4, 5, 6, 7, 8, 9, 10, 11, 1, 2] rfl rfl rfl (by decide) rfl rfl (fun H locs hP hD hS => ?_)
  cases hm
  exact rt_v hx hb hr hlocks hP hD hS dX4_markFromRootsAnd_21
def M_X4_reachableCount (N : Nat) (fi : Nat → Int32) (ke : Nat → Int32) (va : Nat → Int32) (ro : Nat → Int32) (rd : Nat → Int32) : Option (Int32 × (Nat → Int32) × Int32 × Int32 × Int32) :=
  (M_X4_markFromRoots N fi ke va ro rd).bind fun q1 => (M_J6_bitCount_0f7a4 q1.2.1).bind fun q3 => some (q3, q1.1, q1.2.1, q1.2.2.1, q1.2.2.2)
theorem w0_X4_reachableCount : Cond.fieldLink RX4 30 "WeakTableHeap" "marking" "LWeakTableHeap$Marking;" ∈ wsX4_reachableCount := by decide +kernel
theorem w1_X4_reachableCount : ∀ w ∈ u_ws RX4 TX4 4, w ∈ wsX4_reachableCount := by decide +kernel
theorem w2_X4_reachableCount : Cond.fieldLink RX4 118 "WeakTableHeap$Marking" "marked" "I" ∈ wsX4_reachableCount := by decide +kernel
theorem w3_X4_reachableCount : ∀ w ∈ u_ws RX1 TX1 4, w ∈ wsX4_reachableCount := by decide +kernel
abbrev rm_X4_reachableCount : Room := { frames := 6, cells := 0, slots := 0, locals := 135 }
set_option maxHeartbeats 4000000 in
set_option maxRecDepth 100000 in
theorem c_X4_reachableCount (l : Launch) (G : GG) (N : Nat) (x : Nat) (hh : Nat) (sl : Nat) (a : Nat → Nat) (k : Nat → Nat) (ki : Nat → Int32) (fi : Nat → Int32) (ke : Nat → Int32) (va : Nat → Int32) (ta : Nat → Int32) (ro : Nat → Int32) (qu : Nat → Int32) (nsz : Int32) (fin : Int32) (rnd : Int32) (rd : Nat → Int32) (mkd : Int32) (lr : Int32) (un : Int32) (q : Int32 × (Nat → Int32) × Int32 × Int32 × Int32) (hm : M_X4_reachableCount N fi ke va ro rd = some q) : CTi l yX4_reachableCount wsX4_reachableCount rm_X4_reachableCount G [.ref x] (wX4 G.2.1 x hh sl a k ki fi ke va ta ro qu nsz fin rnd rd mkd lr un) q.1 (wX4 G.2.1 x hh sl a k ki fi ke va ta ro qu nsz fin rnd q.2.1 q.2.2.1 q.2.2.2.1 q.2.2.2.2) := by
  intro sz
  refine mk_body (Qc := fun A => (QI G A q.1 (wX4 G.2.1 x hh sl a k ki fi ke va ta ro qu nsz fin rnd q.2.1 q.2.2.1 q.2.2.2.1 q.2.2.2.2))) (cc := cX4_reachableCount) (maxL := 1) (ret := (some .int)) (lv := [(0, .ref x)]) (by decide) rfl rfl (Nat.le_of_ble_eq_true rfl) ?_
  intro p e s m args below meth c A H locs ls hF hr hlocks hname hK hA hP hD hS hl
  obtain ⟨hx, hb, hml, hown, hts⟩ := id hF
  unfold M_X4_reachableCount at hm
  refine lv_aload_n hx hb dX4_reachableCount_0 rfl (lv_at hl 0 rfl) ?_
  obtain ⟨q1, hc2, hm⟩ := bd_s hm
  refine ks_v (wo := (wX4 G.2.1 x hh sl a k ki fi ke va ta ro qu nsz fin rnd q1.1 q1.2.1 q1.2.2.1 q1.2.2.2)) (rV (As := []) (rest := []) (b := x) (wi := (wX4 G.2.1 x hh sl a k ki fi ke va ta ro qu nsz fin rnd rd mkd lr un)) hF hK hP hD (c_X4_markFromRoots l G N x hh sl a k ki fi ke va ta ro qu nsz fin rnd rd mkd lr un q1 hc2 H.size) (cwV 0 hts gX4_reachableCount_X4_markFromRoots rfl rfl rfl (by decide +kernel) ⟨Nat.le_of_ble_eq_true rfl, Nat.le_of_ble_eq_true rfl⟩) (va_recv hK.1 hP (ci := 4) (q0 := 0) rfl rfl) rfl hl.1 rfl (Nat.le_of_ble_eq_true rfl) dX4_reachableCount_1 ⟨Nat.le_of_ble_eq_true rfl, Nat.le_of_ble_eq_true rfl⟩) hD hS hA (fun H locs hP hD hS => ?_)
  have hP : va_P G.1 vwCl (wX4 G.2.1 x hh sl a k ki fi ke va ta ro qu nsz fin rnd q1.1 q1.2.1 q1.2.2.1 q1.2.2.2) H := hP
  have hD : va_D A (wX4 G.2.1 x hh sl a k ki fi ke va ta ro qu nsz fin rnd q1.1 q1.2.1 q1.2.2.1 q1.2.2.2) := hD
  refine lv_aload_n hx hb dX4_reachableCount_4 rfl (lv_at hl 0 rfl) ?_
  refine va_get (D := G.1) (ci := 4) (v := .ref (k 0)) (C := RX4) (T := TX4) (N := 4) hx hb hts w1_X4_reachableCount hown hK.1 hP 0 rfl rfl 3 (by decide) (hts _ w0_X4_reachableCount) (fun _ h9 => h9) rfl dX4_reachableCount_5 ?_
  refine va_get (D := G.1) (ci := 1) (v := .int q1.2.1) (C := RX1) (T := TX1) (N := 4) hx hb hts w3_X4_reachableCount hown hK.1 hP 10 rfl rfl 1 (by decide) (hts _ w2_X4_reachableCount) (fun _ h9 => h9) rfl dX4_reachableCount_8 ?_
  obtain ⟨q3, hc4, hm⟩ := bd_s hm
  refine k0_i (ws := (wX4 G.2.1 x hh sl a k ki fi ke va ta ro qu nsz fin rnd q1.1 q1.2.1 q1.2.2.1 q1.2.2.2)) (rS (As := [.int q1.2.1]) (rest := []) (wi := ([] : va_W)) hF hK k0_P (k0_D (A := A)) (c_J6_bitCount_0f7a4 l G q1.2.1 q3 hc4 H.size) (va_cwS 1 hts gX4_reachableCount_J6_bitCount_0f7a4 rfl rfl rfl (by decide +kernel) ⟨Nat.le_of_ble_eq_true rfl, Nat.le_of_ble_eq_true rfl⟩) rfl hl.1 rfl (Nat.le_of_ble_eq_true rfl) dX4_reachableCount_11 ⟨Nat.le_of_ble_eq_true rfl, Nat.le_of_ble_eq_true rfl⟩) hP hS hA (fun H locs hP hS => ?_)
  cases hm
  exact rt_i hx hb hr hlocks hP hD hS dX4_reachableCount_14
def M_X4_markRound (N : Nat) (ki : Nat → Int32) (fi : Nat → Int32) (ke : Nat → Int32) (va : Nat → Int32) (ro : Nat → Int32) (rd : Nat → Int32) (mkd : Int32) (lr : Int32) (un : Int32) (p1 : Int32) : Option (Int32 × (Nat → Int32) × Int32 × Int32 × Int32) :=
  (M_X3_isAllocated ki p1).bind fun q1 => if q1 = 0 then (some ((-1), rd, mkd, lr, un)) else ((M_X4_markFromRoots N fi ke va ro rd).bind fun q4 => gd p1 24 (some ((q4.1 p1.toNatClampNeg), q4.1, q4.2.1, q4.2.2.1, q4.2.2.2)))
theorem w0_X4_markRound : Cond.fieldLink RX4 10 "WeakTableHeap" "state" "LWeakTableHeap$State;" ∈ wsX4_markRound := by decide +kernel
theorem w1_X4_markRound : ∀ w ∈ u_ws RX4 TX4 4, w ∈ wsX4_markRound := by decide +kernel
theorem w2_X4_markRound : Cond.fieldLink RX4 30 "WeakTableHeap" "marking" "LWeakTableHeap$Marking;" ∈ wsX4_markRound := by decide +kernel
theorem w3_X4_markRound : Cond.fieldLink RX4 153 "WeakTableHeap$Marking" "rounds" "[I" ∈ wsX4_markRound := by decide +kernel
theorem w4_X4_markRound : ∀ w ∈ u_ws RX1 TX1 4, w ∈ wsX4_markRound := by decide +kernel
abbrev rm_X4_markRound : Room := { frames := 6, cells := 0, slots := 0, locals := 135 }
set_option maxHeartbeats 4000000 in
set_option maxRecDepth 100000 in
theorem c_X4_markRound (l : Launch) (G : GG) (N : Nat) (x : Nat) (hh : Nat) (sl : Nat) (a : Nat → Nat) (k : Nat → Nat) (ki : Nat → Int32) (fi : Nat → Int32) (ke : Nat → Int32) (va : Nat → Int32) (ta : Nat → Int32) (ro : Nat → Int32) (qu : Nat → Int32) (nsz : Int32) (fin : Int32) (rnd : Int32) (rd : Nat → Int32) (mkd : Int32) (lr : Int32) (un : Int32) (p1 : Int32) (q : Int32 × (Nat → Int32) × Int32 × Int32 × Int32) (hm : M_X4_markRound N ki fi ke va ro rd mkd lr un p1 = some q) : CTi l yX4_markRound wsX4_markRound rm_X4_markRound G [.ref x, .int p1] (wX4 G.2.1 x hh sl a k ki fi ke va ta ro qu nsz fin rnd rd mkd lr un) q.1 (wX4 G.2.1 x hh sl a k ki fi ke va ta ro qu nsz fin rnd q.2.1 q.2.2.1 q.2.2.2.1 q.2.2.2.2) := by
  intro sz
  refine mk_body (Qc := fun A => (QI G A q.1 (wX4 G.2.1 x hh sl a k ki fi ke va ta ro qu nsz fin rnd q.2.1 q.2.2.1 q.2.2.2.1 q.2.2.2.2))) (cc := cX4_markRound) (maxL := 2) (ret := (some .int)) (lv := [(0, .ref x), (1, .int p1)]) (by decide) rfl rfl (Nat.le_of_ble_eq_true rfl) ?_
  intro p e s m args below meth c A H locs ls hF hr hlocks hname hK hA hP hD hS hl
  obtain ⟨hx, hb, hml, hown, hts⟩ := id hF
  unfold M_X4_markRound at hm
  refine lv_aload_n hx hb dX4_markRound_0 rfl (lv_at hl 0 rfl) ?_
  refine va_get (D := G.1) (ci := 4) (v := .ref (a 0)) (C := RX4) (T := TX4) (N := 4) hx hb hts w1_X4_markRound hown hK.1 hP 0 rfl rfl 0 (by decide) (hts _ w0_X4_markRound) (fun _ h9 => h9) rfl dX4_markRound_1 ?_
  refine lv_iload_n hx hb dX4_markRound_4 rfl (lv_at hl 1 rfl) ?_
  obtain ⟨q1, hc2, hm⟩ := bd_s hm
  refine kc_i (wi := (wST G.2.1 a ki fi ke va ta ro qu nsz fin rnd)) (wo := (wST G.2.1 a ki fi ke va ta ro qu nsz fin rnd)) (wr := [(x, .inr (4, [.ref (a 0), .ref hh, .ref sl, .ref (k 0)])), ((k 0), .inr (1, [.ref (k 1), .int mkd, .int lr, .int un])), ((k 1), .inl (G.2.1, 24, .inl rd))]) (ws' := (wX4 G.2.1 x hh sl a k ki fi ke va ta ro qu nsz fin rnd rd mkd lr un)) (rV (As := [.int p1]) (rest := []) (b := (a 0)) (wi := (wST G.2.1 a ki fi ke va ta ro qu nsz fin rnd)) hF hK (hP.sub [1, 2, 3, 4, 5, 6, 7, 8, 9] rfl) (hD.sub [1, 2, 3, 4, 5, 6, 7, 8, 9] rfl rfl) (c_X3_isAllocated l G a ki fi ke va ta ro qu nsz fin rnd p1 q1 hc2 H.size) (cwV 1 hts gX4_markRound_X3_isAllocated rfl rfl rfl (by decide +kernel) ⟨Nat.le_of_ble_eq_true rfl, Nat.le_of_ble_eq_true rfl⟩) (va_recv hK.1 hP (ci := 3) (q0 := 1) rfl rfl) rfl hl.1 rfl (Nat.le_of_ble_eq_true rfl) dX4_markRound_5 ⟨Nat.le_of_ble_eq_true rfl, Nat.le_of_ble_eq_true rfl⟩) hP hD hS hA [1, 2, 3, 4, 5, 6, 7, 8, 9] [0, 10, 11] [0, 3, 4, 5, 6, 7, 8, 9, 10, 11, 1, 2] rfl rfl rfl (by decide) rfl rfl (fun H locs hP hD hS => ?_)
  refine lv_if_ne (tgt := 13) hx hb dX4_markRound_8 (by decide) (fun c3 => ?_) (fun c3 => ?_)
  · replace hm := it_f c3 hm
    refine lv_aload_n hx hb dX4_markRound_13 rfl (lv_at hl 0 rfl) ?_
    obtain ⟨q4, hc5, hm⟩ := bd_s hm
    refine ks_v (wo := (wX4 G.2.1 x hh sl a k ki fi ke va ta ro qu nsz fin rnd q4.1 q4.2.1 q4.2.2.1 q4.2.2.2)) (rV (As := []) (rest := []) (b := x) (wi := (wX4 G.2.1 x hh sl a k ki fi ke va ta ro qu nsz fin rnd rd mkd lr un)) hF hK hP hD (c_X4_markFromRoots l G N x hh sl a k ki fi ke va ta ro qu nsz fin rnd rd mkd lr un q4 hc5 H.size) (cwV 0 hts gX4_markRound_X4_markFromRoots rfl rfl rfl (by decide +kernel) ⟨Nat.le_of_ble_eq_true rfl, Nat.le_of_ble_eq_true rfl⟩) (va_recv hK.1 hP (ci := 4) (q0 := 0) rfl rfl) rfl hl.1 rfl (Nat.le_of_ble_eq_true rfl) dX4_markRound_14 ⟨Nat.le_of_ble_eq_true rfl, Nat.le_of_ble_eq_true rfl⟩) hD hS hA (fun H locs hP hD hS => ?_)
    have hP : va_P G.1 vwCl (wX4 G.2.1 x hh sl a k ki fi ke va ta ro qu nsz fin rnd q4.1 q4.2.1 q4.2.2.1 q4.2.2.2) H := hP
    have hD : va_D A (wX4 G.2.1 x hh sl a k ki fi ke va ta ro qu nsz fin rnd q4.1 q4.2.1 q4.2.2.1 q4.2.2.2) := hD
    refine lv_aload_n hx hb dX4_markRound_17 rfl (lv_at hl 0 rfl) ?_
    refine va_get (D := G.1) (ci := 4) (v := .ref (k 0)) (C := RX4) (T := TX4) (N := 4) hx hb hts w1_X4_markRound hown hK.1 hP 0 rfl rfl 3 (by decide) (hts _ w2_X4_markRound) (fun _ h9 => h9) rfl dX4_markRound_18 ?_
    refine va_get (D := G.1) (ci := 1) (v := .ref (k 1)) (C := RX1) (T := TX1) (N := 4) hx hb hts w4_X4_markRound hown hK.1 hP 10 rfl rfl 0 (by decide) (hts _ w3_X4_markRound) (fun _ h9 => h9) rfl dX4_markRound_21 ?_
    refine lv_iload_n hx hb dX4_markRound_24 rfl (lv_at hl 1 rfl) ?_
    obtain ⟨hi6, hm⟩ := gd_s hm
    refine va_iald hx hb hK.1 hP 11 0 rfl rfl hi6 dX4_markRound_25 ?_
    cases hm
    exact rt_i hx hb hr hlocks hP hD hS dX4_markRound_26
  · replace hm := it_t c3 hm
    refine lv_iconst (v := (-1)) hx hb dX4_markRound_11 (by decide) ?_
    cases hm
    exact rt_i hx hb hr hlocks hP hD hS dX4_markRound_12
def M_X4_wouldFree (N : Nat) (ki : Nat → Int32) (fi : Nat → Int32) (ke : Nat → Int32) (va : Nat → Int32) (ro : Nat → Int32) (fin : Int32) (rd : Nat → Int32) : Option (Int32 × (Nat → Int32) × Int32 × Int32 × Int32) :=
  (M_X4_markFromRootsAnd N fi ke va ro rd fin).bind fun q1 => (M_X3_allocated N ki).bind fun q3 => (M_J6_bitCount_0f7a4 (q3 &&& (q1.2.1 ^^^ (-1)))).bind fun q5 => some (q5, q1.1, q1.2.1, q1.2.2.1, q1.2.2.2)
theorem w0_X4_wouldFree : Cond.fieldLink RX4 10 "WeakTableHeap" "state" "LWeakTableHeap$State;" ∈ wsX4_wouldFree := by decide +kernel
theorem w1_X4_wouldFree : ∀ w ∈ u_ws RX4 TX4 4, w ∈ wsX4_wouldFree := by decide +kernel
theorem w2_X4_wouldFree : Cond.fieldLink RX4 77 "WeakTableHeap$State" "finalizable" "I" ∈ wsX4_wouldFree := by decide +kernel
theorem w3_X4_wouldFree : ∀ w ∈ u_ws RX3 TX3 9, w ∈ wsX4_wouldFree := by decide +kernel
theorem w4_X4_wouldFree : Cond.fieldLink RX4 30 "WeakTableHeap" "marking" "LWeakTableHeap$Marking;" ∈ wsX4_wouldFree := by decide +kernel
theorem w5_X4_wouldFree : Cond.fieldLink RX4 118 "WeakTableHeap$Marking" "marked" "I" ∈ wsX4_wouldFree := by decide +kernel
theorem w6_X4_wouldFree : ∀ w ∈ u_ws RX1 TX1 4, w ∈ wsX4_wouldFree := by decide +kernel
abbrev rm_X4_wouldFree : Room := { frames := 6, cells := 0, slots := 0, locals := 136 }
set_option maxHeartbeats 4000000 in
set_option maxRecDepth 100000 in
theorem c_X4_wouldFree (l : Launch) (G : GG) (N : Nat) (x : Nat) (hh : Nat) (sl : Nat) (a : Nat → Nat) (k : Nat → Nat) (ki : Nat → Int32) (fi : Nat → Int32) (ke : Nat → Int32) (va : Nat → Int32) (ta : Nat → Int32) (ro : Nat → Int32) (qu : Nat → Int32) (nsz : Int32) (fin : Int32) (rnd : Int32) (rd : Nat → Int32) (mkd : Int32) (lr : Int32) (un : Int32) (q : Int32 × (Nat → Int32) × Int32 × Int32 × Int32) (hm : M_X4_wouldFree N ki fi ke va ro fin rd = some q) : CTi l yX4_wouldFree wsX4_wouldFree rm_X4_wouldFree G [.ref x] (wX4 G.2.1 x hh sl a k ki fi ke va ta ro qu nsz fin rnd rd mkd lr un) q.1 (wX4 G.2.1 x hh sl a k ki fi ke va ta ro qu nsz fin rnd q.2.1 q.2.2.1 q.2.2.2.1 q.2.2.2.2) := by
  intro sz
  refine mk_body (Qc := fun A => (QI G A q.1 (wX4 G.2.1 x hh sl a k ki fi ke va ta ro qu nsz fin rnd q.2.1 q.2.2.1 q.2.2.2.1 q.2.2.2.2))) (cc := cX4_wouldFree) (maxL := 1) (ret := (some .int)) (lv := [(0, .ref x)]) (by decide) rfl rfl (Nat.le_of_ble_eq_true rfl) ?_
  intro p e s m args below meth c A H locs ls hF hr hlocks hname hK hA hP hD hS hl
  obtain ⟨hx, hb, hml, hown, hts⟩ := id hF
  unfold M_X4_wouldFree at hm
  refine lv_aload_n hx hb dX4_wouldFree_0 rfl (lv_at hl 0 rfl) ?_
  refine lv_aload_n hx hb dX4_wouldFree_1 rfl (lv_at hl 0 rfl) ?_
  refine va_get (D := G.1) (ci := 4) (v := .ref (a 0)) (C := RX4) (T := TX4) (N := 4) hx hb hts w1_X4_wouldFree hown hK.1 hP 0 rfl rfl 0 (by decide) (hts _ w0_X4_wouldFree) (fun _ h9 => h9) rfl dX4_wouldFree_2 ?_
  refine va_get (D := G.1) (ci := 3) (v := .int fin) (C := RX3) (T := TX3) (N := 9) hx hb hts w3_X4_wouldFree hown hK.1 hP 1 rfl rfl 7 (by decide) (hts _ w2_X4_wouldFree) (fun _ h9 => h9) rfl dX4_wouldFree_5 ?_
  obtain ⟨q1, hc2, hm⟩ := bd_s hm
  refine ks_v (wo := (wX4 G.2.1 x hh sl a k ki fi ke va ta ro qu nsz fin rnd q1.1 q1.2.1 q1.2.2.1 q1.2.2.2)) (rV (As := [.int fin]) (rest := []) (b := x) (wi := (wX4 G.2.1 x hh sl a k ki fi ke va ta ro qu nsz fin rnd rd mkd lr un)) hF hK hP hD (c_X4_markFromRootsAnd l G N x hh sl a k ki fi ke va ta ro qu nsz fin rnd rd mkd lr un fin q1 hc2 H.size) (cwV 1 hts gX4_wouldFree_X4_markFromRootsAnd rfl rfl rfl (by decide +kernel) ⟨Nat.le_of_ble_eq_true rfl, Nat.le_of_ble_eq_true rfl⟩) (va_recv hK.1 hP (ci := 4) (q0 := 0) rfl rfl) rfl hl.1 rfl (Nat.le_of_ble_eq_true rfl) dX4_wouldFree_8 ⟨Nat.le_of_ble_eq_true rfl, Nat.le_of_ble_eq_true rfl⟩) hD hS hA (fun H locs hP hD hS => ?_)
  have hP : va_P G.1 vwCl (wX4 G.2.1 x hh sl a k ki fi ke va ta ro qu nsz fin rnd q1.1 q1.2.1 q1.2.2.1 q1.2.2.2) H := hP
  have hD : va_D A (wX4 G.2.1 x hh sl a k ki fi ke va ta ro qu nsz fin rnd q1.1 q1.2.1 q1.2.2.1 q1.2.2.2) := hD
  refine lv_aload_n hx hb dX4_wouldFree_11 rfl (lv_at hl 0 rfl) ?_
  refine va_get (D := G.1) (ci := 4) (v := .ref (a 0)) (C := RX4) (T := TX4) (N := 4) hx hb hts w1_X4_wouldFree hown hK.1 hP 0 rfl rfl 0 (by decide) (hts _ w0_X4_wouldFree) (fun _ h9 => h9) rfl dX4_wouldFree_12 ?_
  obtain ⟨q3, hc4, hm⟩ := bd_s hm
  refine kc_i (wi := (wST G.2.1 a ki fi ke va ta ro qu nsz fin rnd)) (wo := (wST G.2.1 a ki fi ke va ta ro qu nsz fin rnd)) (wr := [(x, .inr (4, [.ref (a 0), .ref hh, .ref sl, .ref (k 0)])), ((k 0), .inr (1, [.ref (k 1), .int q1.2.1, .int q1.2.2.1, .int q1.2.2.2])), ((k 1), .inl (G.2.1, 24, .inl q1.1))]) (ws' := (wX4 G.2.1 x hh sl a k ki fi ke va ta ro qu nsz fin rnd q1.1 q1.2.1 q1.2.2.1 q1.2.2.2)) (rV (As := []) (rest := []) (b := (a 0)) (wi := (wST G.2.1 a ki fi ke va ta ro qu nsz fin rnd)) hF hK (hP.sub [1, 2, 3, 4, 5, 6, 7, 8, 9] rfl) (hD.sub [1, 2, 3, 4, 5, 6, 7, 8, 9] rfl rfl) (c_X3_allocated l G N a ki fi ke va ta ro qu nsz fin rnd q3 hc4 H.size) (cwV 0 hts gX4_wouldFree_X3_allocated rfl rfl rfl (by decide +kernel) ⟨Nat.le_of_ble_eq_true rfl, Nat.le_of_ble_eq_true rfl⟩) (va_recv hK.1 hP (ci := 3) (q0 := 1) rfl rfl) rfl hl.1 rfl (Nat.le_of_ble_eq_true rfl) dX4_wouldFree_15 ⟨Nat.le_of_ble_eq_true rfl, Nat.le_of_ble_eq_true rfl⟩) hP hD hS hA [1, 2, 3, 4, 5, 6, 7, 8, 9] [0, 10, 11] [0, 3, 4, 5, 6, 7, 8, 9, 10, 11, 1, 2] rfl rfl rfl (by decide) rfl rfl (fun H locs hP hD hS => ?_)
  refine lv_aload_n hx hb dX4_wouldFree_18 rfl (lv_at hl 0 rfl) ?_
  refine va_get (D := G.1) (ci := 4) (v := .ref (k 0)) (C := RX4) (T := TX4) (N := 4) hx hb hts w1_X4_wouldFree hown hK.1 hP 0 rfl rfl 3 (by decide) (hts _ w4_X4_wouldFree) (fun _ h9 => h9) rfl dX4_wouldFree_19 ?_
  refine va_get (D := G.1) (ci := 1) (v := .int q1.2.1) (C := RX1) (T := TX1) (N := 4) hx hb hts w6_X4_wouldFree hown hK.1 hP 10 rfl rfl 1 (by decide) (hts _ w5_X4_wouldFree) (fun _ h9 => h9) rfl dX4_wouldFree_22 ?_
  refine lv_iconst (v := (-1)) hx hb dX4_wouldFree_25 (by decide) ?_
  refine lv_ixor hx hb dX4_wouldFree_26 ?_
  refine lv_iand hx hb dX4_wouldFree_27 ?_
  obtain ⟨q5, hc6, hm⟩ := bd_s hm
  refine k0_i (ws := (wX4 G.2.1 x hh sl a k ki fi ke va ta ro qu nsz fin rnd q1.1 q1.2.1 q1.2.2.1 q1.2.2.2)) (rS (As := [.int (q3 &&& (q1.2.1 ^^^ (-1)))]) (rest := []) (wi := ([] : va_W)) hF hK k0_P (k0_D (A := A)) (c_J6_bitCount_0f7a4 l G (q3 &&& (q1.2.1 ^^^ (-1))) q5 hc6 H.size) (va_cwS 1 hts gX4_wouldFree_J6_bitCount_0f7a4 rfl rfl rfl (by decide +kernel) ⟨Nat.le_of_ble_eq_true rfl, Nat.le_of_ble_eq_true rfl⟩) rfl hl.1 rfl (Nat.le_of_ble_eq_true rfl) dX4_wouldFree_28 ⟨Nat.le_of_ble_eq_true rfl, Nat.le_of_ble_eq_true rfl⟩) hP hS hA (fun H locs hP hS => ?_)
  cases hm
  exact rt_i hx hb hr hlocks hP hD hS dX4_wouldFree_31
def M_X4_retainedSize (N : Nat) (ki : Nat → Int32) (fi : Nat → Int32) (ke : Nat → Int32) (va : Nat → Int32) (ro : Nat → Int32) (rd : Nat → Int32) (mkd : Int32) (lr : Int32) (un : Int32) (p1 : Int32) : Option (Int32 × (Nat → Int32) × Int32 × Int32 × Int32) :=
  (M_X3_isAllocated ki p1).bind fun q1 => if q1 = 0 then (some ((-1), rd, mkd, lr, un)) else ((M_X4_markFromRoots N fi ke va ro rd).bind fun q4 => (M_X3_rootObjects N ro).bind fun q6 => (M_X4_setOf p1).bind fun q8 => (M_X1_run N q4.1 fi ke va q6 q8).bind fun q10 => (M_J6_bitCount_0f7a4 (q4.2.1 &&& (q10.2.1 ^^^ (-1)))).bind fun q12 => some (q12, q10.1, q10.2.1, q10.2.2.1, q10.2.2.2))
theorem w0_X4_retainedSize : Cond.fieldLink RX4 10 "WeakTableHeap" "state" "LWeakTableHeap$State;" ∈ wsX4_retainedSize := by decide +kernel
theorem w1_X4_retainedSize : ∀ w ∈ u_ws RX4 TX4 4, w ∈ wsX4_retainedSize := by decide +kernel
theorem w2_X4_retainedSize : Cond.fieldLink RX4 30 "WeakTableHeap" "marking" "LWeakTableHeap$Marking;" ∈ wsX4_retainedSize := by decide +kernel
theorem w3_X4_retainedSize : Cond.fieldLink RX4 118 "WeakTableHeap$Marking" "marked" "I" ∈ wsX4_retainedSize := by decide +kernel
theorem w4_X4_retainedSize : ∀ w ∈ u_ws RX1 TX1 4, w ∈ wsX4_retainedSize := by decide +kernel
abbrev rm_X4_retainedSize : Room := { frames := 6, cells := 0, slots := 0, locals := 135 }
set_option maxHeartbeats 4000000 in
set_option maxRecDepth 100000 in
theorem c_X4_retainedSize (l : Launch) (G : GG) (N : Nat) (x : Nat) (hh : Nat) (sl : Nat) (a : Nat → Nat) (k : Nat → Nat) (ki : Nat → Int32) (fi : Nat → Int32) (ke : Nat → Int32) (va : Nat → Int32) (ta : Nat → Int32) (ro : Nat → Int32) (qu : Nat → Int32) (nsz : Int32) (fin : Int32) (rnd : Int32) (rd : Nat → Int32) (mkd : Int32) (lr : Int32) (un : Int32) (p1 : Int32) (q : Int32 × (Nat → Int32) × Int32 × Int32 × Int32) (hm : M_X4_retainedSize N ki fi ke va ro rd mkd lr un p1 = some q) : CTi l yX4_retainedSize wsX4_retainedSize rm_X4_retainedSize G [.ref x, .int p1] (wX4 G.2.1 x hh sl a k ki fi ke va ta ro qu nsz fin rnd rd mkd lr un) q.1 (wX4 G.2.1 x hh sl a k ki fi ke va ta ro qu nsz fin rnd q.2.1 q.2.2.1 q.2.2.2.1 q.2.2.2.2) := by
  intro sz
  refine mk_body (Qc := fun A => (QI G A q.1 (wX4 G.2.1 x hh sl a k ki fi ke va ta ro qu nsz fin rnd q.2.1 q.2.2.1 q.2.2.2.1 q.2.2.2.2))) (cc := cX4_retainedSize) (maxL := 3) (ret := (some .int)) (lv := [(0, .ref x), (1, .int p1)]) (by decide) rfl rfl (Nat.le_of_ble_eq_true rfl) ?_
  intro p e s m args below meth c A H locs ls hF hr hlocks hname hK hA hP hD hS hl
  obtain ⟨hx, hb, hml, hown, hts⟩ := id hF
  unfold M_X4_retainedSize at hm
  refine lv_aload_n hx hb dX4_retainedSize_0 rfl (lv_at hl 0 rfl) ?_
  refine va_get (D := G.1) (ci := 4) (v := .ref (a 0)) (C := RX4) (T := TX4) (N := 4) hx hb hts w1_X4_retainedSize hown hK.1 hP 0 rfl rfl 0 (by decide) (hts _ w0_X4_retainedSize) (fun _ h9 => h9) rfl dX4_retainedSize_1 ?_
  refine lv_iload_n hx hb dX4_retainedSize_4 rfl (lv_at hl 1 rfl) ?_
  obtain ⟨q1, hc2, hm⟩ := bd_s hm
  refine kc_i (wi := (wST G.2.1 a ki fi ke va ta ro qu nsz fin rnd)) (wo := (wST G.2.1 a ki fi ke va ta ro qu nsz fin rnd)) (wr := [(x, .inr (4, [.ref (a 0), .ref hh, .ref sl, .ref (k 0)])), ((k 0), .inr (1, [.ref (k 1), .int mkd, .int lr, .int un])), ((k 1), .inl (G.2.1, 24, .inl rd))]) (ws' := (wX4 G.2.1 x hh sl a k ki fi ke va ta ro qu nsz fin rnd rd mkd lr un)) (rV (As := [.int p1]) (rest := []) (b := (a 0)) (wi := (wST G.2.1 a ki fi ke va ta ro qu nsz fin rnd)) hF hK (hP.sub [1, 2, 3, 4, 5, 6, 7, 8, 9] rfl) (hD.sub [1, 2, 3, 4, 5, 6, 7, 8, 9] rfl rfl) (c_X3_isAllocated l G a ki fi ke va ta ro qu nsz fin rnd p1 q1 hc2 H.size) (cwV 1 hts gX4_retainedSize_X3_isAllocated rfl rfl rfl (by decide +kernel) ⟨Nat.le_of_ble_eq_true rfl, Nat.le_of_ble_eq_true rfl⟩) (va_recv hK.1 hP (ci := 3) (q0 := 1) rfl rfl) rfl hl.1 rfl (Nat.le_of_ble_eq_true rfl) dX4_retainedSize_5 ⟨Nat.le_of_ble_eq_true rfl, Nat.le_of_ble_eq_true rfl⟩) hP hD hS hA [1, 2, 3, 4, 5, 6, 7, 8, 9] [0, 10, 11] [0, 3, 4, 5, 6, 7, 8, 9, 10, 11, 1, 2] rfl rfl rfl (by decide) rfl rfl (fun H locs hP hD hS => ?_)
  refine lv_if_ne (tgt := 13) hx hb dX4_retainedSize_8 (by decide) (fun c3 => ?_) (fun c3 => ?_)
  · replace hm := it_f c3 hm
    refine lv_aload_n hx hb dX4_retainedSize_13 rfl (lv_at hl 0 rfl) ?_
    obtain ⟨q4, hc5, hm⟩ := bd_s hm
    refine ks_v (wo := (wX4 G.2.1 x hh sl a k ki fi ke va ta ro qu nsz fin rnd q4.1 q4.2.1 q4.2.2.1 q4.2.2.2)) (rV (As := []) (rest := []) (b := x) (wi := (wX4 G.2.1 x hh sl a k ki fi ke va ta ro qu nsz fin rnd rd mkd lr un)) hF hK hP hD (c_X4_markFromRoots l G N x hh sl a k ki fi ke va ta ro qu nsz fin rnd rd mkd lr un q4 hc5 H.size) (cwV 0 hts gX4_retainedSize_X4_markFromRoots rfl rfl rfl (by decide +kernel) ⟨Nat.le_of_ble_eq_true rfl, Nat.le_of_ble_eq_true rfl⟩) (va_recv hK.1 hP (ci := 4) (q0 := 0) rfl rfl) rfl hl.1 rfl (Nat.le_of_ble_eq_true rfl) dX4_retainedSize_14 ⟨Nat.le_of_ble_eq_true rfl, Nat.le_of_ble_eq_true rfl⟩) hD hS hA (fun H locs hP hD hS => ?_)
    have hP : va_P G.1 vwCl (wX4 G.2.1 x hh sl a k ki fi ke va ta ro qu nsz fin rnd q4.1 q4.2.1 q4.2.2.1 q4.2.2.2) H := hP
    have hD : va_D A (wX4 G.2.1 x hh sl a k ki fi ke va ta ro qu nsz fin rnd q4.1 q4.2.1 q4.2.2.1 q4.2.2.2) := hD
    refine lv_aload_n hx hb dX4_retainedSize_17 rfl (lv_at hl 0 rfl) ?_
    refine va_get (D := G.1) (ci := 4) (v := .ref (k 0)) (C := RX4) (T := TX4) (N := 4) hx hb hts w1_X4_retainedSize hown hK.1 hP 0 rfl rfl 3 (by decide) (hts _ w2_X4_retainedSize) (fun _ h9 => h9) rfl dX4_retainedSize_18 ?_
    refine va_get (D := G.1) (ci := 1) (v := .int q4.2.1) (C := RX1) (T := TX1) (N := 4) hx hb hts w4_X4_retainedSize hown hK.1 hP 10 rfl rfl 1 (by decide) (hts _ w3_X4_retainedSize) (fun _ h9 => h9) rfl dX4_retainedSize_21 ?_
    refine lv_istore_n (lv' := [(2, .int q4.2.1), (0, .ref x), (1, .int p1)]) hx hb dX4_retainedSize_24 rfl hl (by decide) rfl (fun ls hl => ?_)
    refine lv_aload_n hx hb dX4_retainedSize_25 rfl (lv_at hl 1 rfl) ?_
    refine va_get (D := G.1) (ci := 4) (v := .ref (k 0)) (C := RX4) (T := TX4) (N := 4) hx hb hts w1_X4_retainedSize hown hK.1 hP 0 rfl rfl 3 (by decide) (hts _ w2_X4_retainedSize) (fun _ h9 => h9) rfl dX4_retainedSize_26 ?_
    refine lv_aload_n hx hb dX4_retainedSize_29 rfl (lv_at hl 1 rfl) ?_
    refine va_get (D := G.1) (ci := 4) (v := .ref (a 0)) (C := RX4) (T := TX4) (N := 4) hx hb hts w1_X4_retainedSize hown hK.1 hP 0 rfl rfl 0 (by decide) (hts _ w0_X4_retainedSize) (fun _ h9 => h9) rfl dX4_retainedSize_30 ?_
    refine lv_aload_n hx hb dX4_retainedSize_33 rfl (lv_at hl 1 rfl) ?_
    refine va_get (D := G.1) (ci := 4) (v := .ref (a 0)) (C := RX4) (T := TX4) (N := 4) hx hb hts w1_X4_retainedSize hown hK.1 hP 0 rfl rfl 0 (by decide) (hts _ w0_X4_retainedSize) (fun _ h9 => h9) rfl dX4_retainedSize_34 ?_
    obtain ⟨q6, hc7, hm⟩ := bd_s hm
    refine kc_i (wi := (wST G.2.1 a ki fi ke va ta ro qu nsz fin rnd)) (wo := (wST G.2.1 a ki fi ke va ta ro qu nsz fin rnd)) (wr := [(x, .inr (4, [.ref (a 0), .ref hh, .ref sl, .ref (k 0)])), ((k 0), .inr (1, [.ref (k 1), .int q4.2.1, .int q4.2.2.1, .int q4.2.2.2])), ((k 1), .inl (G.2.1, 24, .inl q4.1))]) (ws' := (wX4 G.2.1 x hh sl a k ki fi ke va ta ro qu nsz fin rnd q4.1 q4.2.1 q4.2.2.1 q4.2.2.2)) (rV (As := []) (rest := [.ref (a 0), .ref (k 0)]) (b := (a 0)) (wi := (wST G.2.1 a ki fi ke va ta ro qu nsz fin rnd)) hF hK (hP.sub [1, 2, 3, 4, 5, 6, 7, 8, 9] rfl) (hD.sub [1, 2, 3, 4, 5, 6, 7, 8, 9] rfl rfl) (c_X3_rootObjects l G N a ki fi ke va ta ro qu nsz fin rnd q6 hc7 H.size) (cwV 0 hts gX4_retainedSize_X3_rootObjects rfl rfl rfl (by decide +kernel) ⟨Nat.le_of_ble_eq_true rfl, Nat.le_of_ble_eq_true rfl⟩) (va_recv hK.1 hP (ci := 3) (q0 := 1) rfl rfl) rfl hl.1 rfl (Nat.le_of_ble_eq_true rfl) dX4_retainedSize_37 ⟨Nat.le_of_ble_eq_true rfl, Nat.le_of_ble_eq_true rfl⟩) hP hD hS hA [1, 2, 3, 4, 5, 6, 7, 8, 9] [0, 10, 11] [0, 3, 4, 5, 6, 7, 8, 9, 10, 11, 1, 2] rfl rfl rfl (by decide) rfl rfl (fun H locs hP hD hS => ?_)
    refine lv_iload_n hx hb dX4_retainedSize_40 rfl (lv_at hl 2 rfl) ?_
    obtain ⟨q8, hc9, hm⟩ := bd_s hm
    refine k0_i (ws := (wX4 G.2.1 x hh sl a k ki fi ke va ta ro qu nsz fin rnd q4.1 q4.2.1 q4.2.2.1 q4.2.2.2)) (rS (As := [.int p1]) (rest := [.int q6, .ref (a 0), .ref (k 0)]) (wi := ([] : va_W)) hF hK k0_P (k0_D (A := A)) (c_X4_setOf l G p1 q8 hc9 H.size) (va_cwS 1 hts gX4_retainedSize_X4_setOf rfl rfl rfl (by decide +kernel) ⟨Nat.le_of_ble_eq_true rfl, Nat.le_of_ble_eq_true rfl⟩) rfl hl.1 rfl (Nat.le_of_ble_eq_true rfl) dX4_retainedSize_41 ⟨Nat.le_of_ble_eq_true rfl, Nat.le_of_ble_eq_true rfl⟩) hP hS hA (fun H locs hP hS => ?_)
    obtain ⟨q10, hc11, hm⟩ := bd_s hm
    refine kc_v (wi := (wMK G.2.1 k q4.1 q4.2.1 q4.2.2.1 q4.2.2.2 ++ wST G.2.1 a ki fi ke va ta ro qu nsz fin rnd)) (wo := (wMK G.2.1 k q10.1 q10.2.1 q10.2.2.1 q10.2.2.2 ++ wST G.2.1 a ki fi ke va ta ro qu nsz fin rnd)) (wr := [(x, .inr (4, [.ref (a 0), .ref hh, .ref sl, .ref (k 0)]))]) (ws' := (wX4 G.2.1 x hh sl a k ki fi ke va ta ro qu nsz fin rnd q10.1 q10.2.1 q10.2.2.1 q10.2.2.2)) (rV (As := [.ref (a 0), .int q6, .int q8]) (rest := []) (b := (k 0)) (wi := (wMK G.2.1 k q4.1 q4.2.1 q4.2.2.1 q4.2.2.2 ++ wST G.2.1 a ki fi ke va ta ro qu nsz fin rnd)) hF hK (hP.sub [10, 11, 1, 2, 3, 4, 5, 6, 7, 8, 9] rfl) (hD.sub [10, 11, 1, 2, 3, 4, 5, 6, 7, 8, 9] rfl rfl) (c_X1_run l G N k a q4.1 q4.2.1 q4.2.2.1 q4.2.2.2 ki fi ke va ta ro qu nsz fin rnd q6 q8 q10 hc11 H.size) (cwV 3 hts gX4_retainedSize_X1_run rfl rfl rfl (by decide +kernel) ⟨Nat.le_of_ble_eq_true rfl, Nat.le_of_ble_eq_true rfl⟩) (va_recv hK.1 hP (ci := 1) (q0 := 10) rfl rfl) rfl hl.1 rfl (Nat.le_of_ble_eq_true rfl) dX4_retainedSize_44 ⟨Nat.le_of_ble_eq_true rfl, Nat.le_of_ble_eq_true rfl⟩) hP hD hS hA [10, 11, 1, 2, 3, 4, 5, 6, 7, 8, 9] [0] [0, 3, 4, 5, 6, 7, 8, 9, 10, 11, 1, 2] rfl rfl rfl (by decide) rfl rfl (fun H locs hP hD hS => ?_)
    refine lv_iload_n hx hb dX4_retainedSize_47 rfl (lv_at hl 0 rfl) ?_
    refine lv_aload_n hx hb dX4_retainedSize_48 rfl (lv_at hl 1 rfl) ?_
    refine va_get (D := G.1) (ci := 4) (v := .ref (k 0)) (C := RX4) (T := TX4) (N := 4) hx hb hts w1_X4_retainedSize hown hK.1 hP 0 rfl rfl 3 (by decide) (hts _ w2_X4_retainedSize) (fun _ h9 => h9) rfl dX4_retainedSize_49 ?_
    refine va_get (D := G.1) (ci := 1) (v := .int q10.2.1) (C := RX1) (T := TX1) (N := 4) hx hb hts w4_X4_retainedSize hown hK.1 hP 10 rfl rfl 1 (by decide) (hts _ w3_X4_retainedSize) (fun _ h9 => h9) rfl dX4_retainedSize_52 ?_
    refine lv_iconst (v := (-1)) hx hb dX4_retainedSize_55 (by decide) ?_
    refine lv_ixor hx hb dX4_retainedSize_56 ?_
    refine lv_iand hx hb dX4_retainedSize_57 ?_
    obtain ⟨q12, hc13, hm⟩ := bd_s hm
    refine k0_i (ws := (wX4 G.2.1 x hh sl a k ki fi ke va ta ro qu nsz fin rnd q10.1 q10.2.1 q10.2.2.1 q10.2.2.2)) (rS (As := [.int (q4.2.1 &&& (q10.2.1 ^^^ (-1)))]) (rest := []) (wi := ([] : va_W)) hF hK k0_P (k0_D (A := A)) (c_J6_bitCount_0f7a4 l G (q4.2.1 &&& (q10.2.1 ^^^ (-1))) q12 hc13 H.size) (va_cwS 1 hts gX4_retainedSize_J6_bitCount_0f7a4 rfl rfl rfl (by decide +kernel) ⟨Nat.le_of_ble_eq_true rfl, Nat.le_of_ble_eq_true rfl⟩) rfl hl.1 rfl (Nat.le_of_ble_eq_true rfl) dX4_retainedSize_58 ⟨Nat.le_of_ble_eq_true rfl, Nat.le_of_ble_eq_true rfl⟩) hP hS hA (fun H locs hP hS => ?_)
    cases hm
    exact rt_i hx hb hr hlocks hP hD hS dX4_retainedSize_61
  · replace hm := it_t c3 hm
    refine lv_iconst (v := (-1)) hx hb dX4_retainedSize_11 (by decide) ?_
    cases hm
    exact rt_i hx hb hr hlocks hP hD hS dX4_retainedSize_12
def M_X4_waitingEntries (N : Nat) (ki : Nat → Int32) (fi : Nat → Int32) (ke : Nat → Int32) (va : Nat → Int32) (ro : Nat → Int32) (rd : Nat → Int32) (mkd : Int32) (lr : Int32) (un : Int32) (p1 : Int32) : Option (Int32 × (Nat → Int32) × Int32 × Int32 × Int32) :=
  (M_X3_isAllocated ki p1).bind fun q1 => if q1 = 0 then (some ((-1), rd, mkd, lr, un)) else ((M_X4_markFromRoots N fi ke va ro rd).bind fun q4 => (M_X4_contains q4.2.1 p1).bind fun q6 => if q6 = 0 then ((M_X3_tablesWithKey N ke q4.2.1 p1).bind fun q9 => some (q9, q4.1, q4.2.1, q4.2.2.1, q4.2.2.2)) else (some (0, q4.1, q4.2.1, q4.2.2.1, q4.2.2.2)))
theorem w0_X4_waitingEntries : Cond.fieldLink RX4 10 "WeakTableHeap" "state" "LWeakTableHeap$State;" ∈ wsX4_waitingEntries := by decide +kernel
theorem w1_X4_waitingEntries : ∀ w ∈ u_ws RX4 TX4 4, w ∈ wsX4_waitingEntries := by decide +kernel
theorem w2_X4_waitingEntries : Cond.fieldLink RX4 30 "WeakTableHeap" "marking" "LWeakTableHeap$Marking;" ∈ wsX4_waitingEntries := by decide +kernel
theorem w3_X4_waitingEntries : Cond.fieldLink RX4 118 "WeakTableHeap$Marking" "marked" "I" ∈ wsX4_waitingEntries := by decide +kernel
theorem w4_X4_waitingEntries : ∀ w ∈ u_ws RX1 TX1 4, w ∈ wsX4_waitingEntries := by decide +kernel
abbrev rm_X4_waitingEntries : Room := { frames := 6, cells := 0, slots := 0, locals := 135 }
set_option maxHeartbeats 4000000 in
set_option maxRecDepth 100000 in
theorem c_X4_waitingEntries (l : Launch) (G : GG) (N : Nat) (x : Nat) (hh : Nat) (sl : Nat) (a : Nat → Nat) (k : Nat → Nat) (ki : Nat → Int32) (fi : Nat → Int32) (ke : Nat → Int32) (va : Nat → Int32) (ta : Nat → Int32) (ro : Nat → Int32) (qu : Nat → Int32) (nsz : Int32) (fin : Int32) (rnd : Int32) (rd : Nat → Int32) (mkd : Int32) (lr : Int32) (un : Int32) (p1 : Int32) (q : Int32 × (Nat → Int32) × Int32 × Int32 × Int32) (hm : M_X4_waitingEntries N ki fi ke va ro rd mkd lr un p1 = some q) : CTi l yX4_waitingEntries wsX4_waitingEntries rm_X4_waitingEntries G [.ref x, .int p1] (wX4 G.2.1 x hh sl a k ki fi ke va ta ro qu nsz fin rnd rd mkd lr un) q.1 (wX4 G.2.1 x hh sl a k ki fi ke va ta ro qu nsz fin rnd q.2.1 q.2.2.1 q.2.2.2.1 q.2.2.2.2) := by
  intro sz
  refine mk_body (Qc := fun A => (QI G A q.1 (wX4 G.2.1 x hh sl a k ki fi ke va ta ro qu nsz fin rnd q.2.1 q.2.2.1 q.2.2.2.1 q.2.2.2.2))) (cc := cX4_waitingEntries) (maxL := 2) (ret := (some .int)) (lv := [(0, .ref x), (1, .int p1)]) (by decide) rfl rfl (Nat.le_of_ble_eq_true rfl) ?_
  intro p e s m args below meth c A H locs ls hF hr hlocks hname hK hA hP hD hS hl
  obtain ⟨hx, hb, hml, hown, hts⟩ := id hF
  unfold M_X4_waitingEntries at hm
  refine lv_aload_n hx hb dX4_waitingEntries_0 rfl (lv_at hl 0 rfl) ?_
  refine va_get (D := G.1) (ci := 4) (v := .ref (a 0)) (C := RX4) (T := TX4) (N := 4) hx hb hts w1_X4_waitingEntries hown hK.1 hP 0 rfl rfl 0 (by decide) (hts _ w0_X4_waitingEntries) (fun _ h9 => h9) rfl dX4_waitingEntries_1 ?_
  refine lv_iload_n hx hb dX4_waitingEntries_4 rfl (lv_at hl 1 rfl) ?_
  obtain ⟨q1, hc2, hm⟩ := bd_s hm
  refine kc_i (wi := (wST G.2.1 a ki fi ke va ta ro qu nsz fin rnd)) (wo := (wST G.2.1 a ki fi ke va ta ro qu nsz fin rnd)) (wr := [(x, .inr (4, [.ref (a 0), .ref hh, .ref sl, .ref (k 0)])), ((k 0), .inr (1, [.ref (k 1), .int mkd, .int lr, .int un])), ((k 1), .inl (G.2.1, 24, .inl rd))]) (ws' := (wX4 G.2.1 x hh sl a k ki fi ke va ta ro qu nsz fin rnd rd mkd lr un)) (rV (As := [.int p1]) (rest := []) (b := (a 0)) (wi := (wST G.2.1 a ki fi ke va ta ro qu nsz fin rnd)) hF hK (hP.sub [1, 2, 3, 4, 5, 6, 7, 8, 9] rfl) (hD.sub [1, 2, 3, 4, 5, 6, 7, 8, 9] rfl rfl) (c_X3_isAllocated l G a ki fi ke va ta ro qu nsz fin rnd p1 q1 hc2 H.size) (cwV 1 hts gX4_waitingEntries_X3_isAllocated rfl rfl rfl (by decide +kernel) ⟨Nat.le_of_ble_eq_true rfl, Nat.le_of_ble_eq_true rfl⟩) (va_recv hK.1 hP (ci := 3) (q0 := 1) rfl rfl) rfl hl.1 rfl (Nat.le_of_ble_eq_true rfl) dX4_waitingEntries_5 ⟨Nat.le_of_ble_eq_true rfl, Nat.le_of_ble_eq_true rfl⟩) hP hD hS hA [1, 2, 3, 4, 5, 6, 7, 8, 9] [0, 10, 11] [0, 3, 4, 5, 6, 7, 8, 9, 10, 11, 1, 2] rfl rfl rfl (by decide) rfl rfl (fun H locs hP hD hS => ?_)
  refine lv_if_ne (tgt := 13) hx hb dX4_waitingEntries_8 (by decide) (fun c3 => ?_) (fun c3 => ?_)
  · replace hm := it_f c3 hm
    refine lv_aload_n hx hb dX4_waitingEntries_13 rfl (lv_at hl 0 rfl) ?_
    obtain ⟨q4, hc5, hm⟩ := bd_s hm
    refine ks_v (wo := (wX4 G.2.1 x hh sl a k ki fi ke va ta ro qu nsz fin rnd q4.1 q4.2.1 q4.2.2.1 q4.2.2.2)) (rV (As := []) (rest := []) (b := x) (wi := (wX4 G.2.1 x hh sl a k ki fi ke va ta ro qu nsz fin rnd rd mkd lr un)) hF hK hP hD (c_X4_markFromRoots l G N x hh sl a k ki fi ke va ta ro qu nsz fin rnd rd mkd lr un q4 hc5 H.size) (cwV 0 hts gX4_waitingEntries_X4_markFromRoots rfl rfl rfl (by decide +kernel) ⟨Nat.le_of_ble_eq_true rfl, Nat.le_of_ble_eq_true rfl⟩) (va_recv hK.1 hP (ci := 4) (q0 := 0) rfl rfl) rfl hl.1 rfl (Nat.le_of_ble_eq_true rfl) dX4_waitingEntries_14 ⟨Nat.le_of_ble_eq_true rfl, Nat.le_of_ble_eq_true rfl⟩) hD hS hA (fun H locs hP hD hS => ?_)
    have hP : va_P G.1 vwCl (wX4 G.2.1 x hh sl a k ki fi ke va ta ro qu nsz fin rnd q4.1 q4.2.1 q4.2.2.1 q4.2.2.2) H := hP
    have hD : va_D A (wX4 G.2.1 x hh sl a k ki fi ke va ta ro qu nsz fin rnd q4.1 q4.2.1 q4.2.2.1 q4.2.2.2) := hD
    refine lv_aload_n hx hb dX4_waitingEntries_17 rfl (lv_at hl 0 rfl) ?_
    refine va_get (D := G.1) (ci := 4) (v := .ref (k 0)) (C := RX4) (T := TX4) (N := 4) hx hb hts w1_X4_waitingEntries hown hK.1 hP 0 rfl rfl 3 (by decide) (hts _ w2_X4_waitingEntries) (fun _ h9 => h9) rfl dX4_waitingEntries_18 ?_
    refine va_get (D := G.1) (ci := 1) (v := .int q4.2.1) (C := RX1) (T := TX1) (N := 4) hx hb hts w4_X4_waitingEntries hown hK.1 hP 10 rfl rfl 1 (by decide) (hts _ w3_X4_waitingEntries) (fun _ h9 => h9) rfl dX4_waitingEntries_21 ?_
    refine lv_iload_n hx hb dX4_waitingEntries_24 rfl (lv_at hl 1 rfl) ?_
    obtain ⟨q6, hc7, hm⟩ := bd_s hm
    refine k0_i (ws := (wX4 G.2.1 x hh sl a k ki fi ke va ta ro qu nsz fin rnd q4.1 q4.2.1 q4.2.2.1 q4.2.2.2)) (rS (As := [.int q4.2.1, .int p1]) (rest := []) (wi := ([] : va_W)) hF hK k0_P (k0_D (A := A)) (c_X4_contains l G q4.2.1 p1 q6 hc7 H.size) (va_cwS 2 hts gX4_waitingEntries_X4_contains rfl rfl rfl (by decide +kernel) ⟨Nat.le_of_ble_eq_true rfl, Nat.le_of_ble_eq_true rfl⟩) rfl hl.1 rfl (Nat.le_of_ble_eq_true rfl) dX4_waitingEntries_25 ⟨Nat.le_of_ble_eq_true rfl, Nat.le_of_ble_eq_true rfl⟩) hP hS hA (fun H locs hP hS => ?_)
    refine lv_if_eq (tgt := 35) hx hb dX4_waitingEntries_28 (by decide) (fun c8 => ?_) (fun c8 => ?_)
    · replace hm := it_t c8 hm
      refine lv_aload_n hx hb dX4_waitingEntries_35 rfl (lv_at hl 0 rfl) ?_
      refine va_get (D := G.1) (ci := 4) (v := .ref (a 0)) (C := RX4) (T := TX4) (N := 4) hx hb hts w1_X4_waitingEntries hown hK.1 hP 0 rfl rfl 0 (by decide) (hts _ w0_X4_waitingEntries) (fun _ h9 => h9) rfl dX4_waitingEntries_36 ?_
      refine lv_aload_n hx hb dX4_waitingEntries_39 rfl (lv_at hl 0 rfl) ?_
      refine va_get (D := G.1) (ci := 4) (v := .ref (k 0)) (C := RX4) (T := TX4) (N := 4) hx hb hts w1_X4_waitingEntries hown hK.1 hP 0 rfl rfl 3 (by decide) (hts _ w2_X4_waitingEntries) (fun _ h9 => h9) rfl dX4_waitingEntries_40 ?_
      refine va_get (D := G.1) (ci := 1) (v := .int q4.2.1) (C := RX1) (T := TX1) (N := 4) hx hb hts w4_X4_waitingEntries hown hK.1 hP 10 rfl rfl 1 (by decide) (hts _ w3_X4_waitingEntries) (fun _ h9 => h9) rfl dX4_waitingEntries_43 ?_
      refine lv_iload_n hx hb dX4_waitingEntries_46 rfl (lv_at hl 1 rfl) ?_
      obtain ⟨q9, hc10, hm⟩ := bd_s hm
      refine kc_i (wi := (wST G.2.1 a ki fi ke va ta ro qu nsz fin rnd)) (wo := (wST G.2.1 a ki fi ke va ta ro qu nsz fin rnd)) (wr := [(x, .inr (4, [.ref (a 0), .ref hh, .ref sl, .ref (k 0)])), ((k 0), .inr (1, [.ref (k 1), .int q4.2.1, .int q4.2.2.1, .int q4.2.2.2])), ((k 1), .inl (G.2.1, 24, .inl q4.1))]) (ws' := (wX4 G.2.1 x hh sl a k ki fi ke va ta ro qu nsz fin rnd q4.1 q4.2.1 q4.2.2.1 q4.2.2.2)) (rV (As := [.int q4.2.1, .int p1]) (rest := []) (b := (a 0)) (wi := (wST G.2.1 a ki fi ke va ta ro qu nsz fin rnd)) hF hK (hP.sub [1, 2, 3, 4, 5, 6, 7, 8, 9] rfl) (hD.sub [1, 2, 3, 4, 5, 6, 7, 8, 9] rfl rfl) (c_X3_tablesWithKey l G N a ki fi ke va ta ro qu nsz fin rnd q4.2.1 p1 q9 hc10 H.size) (cwV 2 hts gX4_waitingEntries_X3_tablesWithKey rfl rfl rfl (by decide +kernel) ⟨Nat.le_of_ble_eq_true rfl, Nat.le_of_ble_eq_true rfl⟩) (va_recv hK.1 hP (ci := 3) (q0 := 1) rfl rfl) rfl hl.1 rfl (Nat.le_of_ble_eq_true rfl) dX4_waitingEntries_47 ⟨Nat.le_of_ble_eq_true rfl, Nat.le_of_ble_eq_true rfl⟩) hP hD hS hA [1, 2, 3, 4, 5, 6, 7, 8, 9] [0, 10, 11] [0, 3, 4, 5, 6, 7, 8, 9, 10, 11, 1, 2] rfl rfl rfl (by decide) rfl rfl (fun H locs hP hD hS => ?_)
      cases hm
      exact rt_i hx hb hr hlocks hP hD hS dX4_waitingEntries_50
    · replace hm := it_f c8 hm
      refine lv_iconst (v := 0) hx hb dX4_waitingEntries_31 (by decide) ?_
      refine lv_goto (tgt := 50) hx hb dX4_waitingEntries_32 (by decide) ?_
      cases hm
      exact rt_i hx hb hr hlocks hP hD hS dX4_waitingEntries_50
  · replace hm := it_t c3 hm
    refine lv_iconst (v := (-1)) hx hb dX4_waitingEntries_11 (by decide) ?_
    cases hm
    exact rt_i hx hb hr hlocks hP hD hS dX4_waitingEntries_12
def M_X4_referenceCount (N : Nat) (ki : Nat → Int32) (fi : Nat → Int32) (ke : Nat → Int32) (va : Nat → Int32) (ta : Nat → Int32) (ro : Nat → Int32) (p1 : Int32) : Option (Int32) :=
  (M_X3_isAllocated ki p1).bind fun q1 => if q1 = 0 then (some (-1)) else ((M_X4_occurrences N 6 ro p1).bind fun q4 => (M_X4_occurrences N 72 fi p1).bind fun q6 => (M_X4_occurrences N 144 ke p1).bind fun q8 => (M_X4_occurrences N 144 va p1).bind fun q10 => (M_X4_occurrences N 24 ta p1).bind fun q12 => some ((((q4 + q6) + q8) + q10) + q12))
theorem w0_X4_referenceCount : Cond.fieldLink RX4 10 "WeakTableHeap" "state" "LWeakTableHeap$State;" ∈ wsX4_referenceCount := by decide +kernel
theorem w1_X4_referenceCount : ∀ w ∈ u_ws RX4 TX4 4, w ∈ wsX4_referenceCount := by decide +kernel
theorem w2_X4_referenceCount : Cond.fieldLink RX4 71 "WeakTableHeap$State" "roots" "[I" ∈ wsX4_referenceCount := by decide +kernel
theorem w3_X4_referenceCount : ∀ w ∈ u_ws RX3 TX3 9, w ∈ wsX4_referenceCount := by decide +kernel
theorem w4_X4_referenceCount : Cond.fieldLink RX4 68 "WeakTableHeap$State" "fields" "[I" ∈ wsX4_referenceCount := by decide +kernel
theorem w5_X4_referenceCount : Cond.fieldLink RX4 102 "WeakTableHeap$State" "keys" "[I" ∈ wsX4_referenceCount := by decide +kernel
theorem w6_X4_referenceCount : Cond.fieldLink RX4 99 "WeakTableHeap$State" "values" "[I" ∈ wsX4_referenceCount := by decide +kernel
theorem w7_X4_referenceCount : Cond.fieldLink RX4 74 "WeakTableHeap$State" "targets" "[I" ∈ wsX4_referenceCount := by decide +kernel
abbrev rm_X4_referenceCount : Room := { frames := 2, cells := 0, slots := 0, locals := 42 }
set_option maxHeartbeats 4000000 in
set_option maxRecDepth 100000 in
theorem c_X4_referenceCount (l : Launch) (G : GG) (N : Nat) (x : Nat) (hh : Nat) (sl : Nat) (a : Nat → Nat) (k : Nat → Nat) (ki : Nat → Int32) (fi : Nat → Int32) (ke : Nat → Int32) (va : Nat → Int32) (ta : Nat → Int32) (ro : Nat → Int32) (qu : Nat → Int32) (nsz : Int32) (fin : Int32) (rnd : Int32) (rd : Nat → Int32) (mkd : Int32) (lr : Int32) (un : Int32) (p1 : Int32) (q : Int32) (hm : M_X4_referenceCount N ki fi ke va ta ro p1 = some q) : CTi l yX4_referenceCount wsX4_referenceCount rm_X4_referenceCount G [.ref x, .int p1] (wX4 G.2.1 x hh sl a k ki fi ke va ta ro qu nsz fin rnd rd mkd lr un) q (wX4 G.2.1 x hh sl a k ki fi ke va ta ro qu nsz fin rnd rd mkd lr un) := by
  intro sz
  refine mk_body (Qc := fun A => (QI G A q (wX4 G.2.1 x hh sl a k ki fi ke va ta ro qu nsz fin rnd rd mkd lr un))) (cc := cX4_referenceCount) (maxL := 2) (ret := (some .int)) (lv := [(0, .ref x), (1, .int p1)]) (by decide) rfl rfl (Nat.le_of_ble_eq_true rfl) ?_
  intro p e s m args below meth c A H locs ls hF hr hlocks hname hK hA hP hD hS hl
  obtain ⟨hx, hb, hml, hown, hts⟩ := id hF
  unfold M_X4_referenceCount at hm
  refine lv_aload_n hx hb dX4_referenceCount_0 rfl (lv_at hl 0 rfl) ?_
  refine va_get (D := G.1) (ci := 4) (v := .ref (a 0)) (C := RX4) (T := TX4) (N := 4) hx hb hts w1_X4_referenceCount hown hK.1 hP 0 rfl rfl 0 (by decide) (hts _ w0_X4_referenceCount) (fun _ h9 => h9) rfl dX4_referenceCount_1 ?_
  refine lv_iload_n hx hb dX4_referenceCount_4 rfl (lv_at hl 1 rfl) ?_
  obtain ⟨q1, hc2, hm⟩ := bd_s hm
  refine kc_i (wi := (wST G.2.1 a ki fi ke va ta ro qu nsz fin rnd)) (wo := (wST G.2.1 a ki fi ke va ta ro qu nsz fin rnd)) (wr := [(x, .inr (4, [.ref (a 0), .ref hh, .ref sl, .ref (k 0)])), ((k 0), .inr (1, [.ref (k 1), .int mkd, .int lr, .int un])), ((k 1), .inl (G.2.1, 24, .inl rd))]) (ws' := (wX4 G.2.1 x hh sl a k ki fi ke va ta ro qu nsz fin rnd rd mkd lr un)) (rV (As := [.int p1]) (rest := []) (b := (a 0)) (wi := (wST G.2.1 a ki fi ke va ta ro qu nsz fin rnd)) hF hK (hP.sub [1, 2, 3, 4, 5, 6, 7, 8, 9] rfl) (hD.sub [1, 2, 3, 4, 5, 6, 7, 8, 9] rfl rfl) (c_X3_isAllocated l G a ki fi ke va ta ro qu nsz fin rnd p1 q1 hc2 H.size) (cwV 1 hts gX4_referenceCount_X3_isAllocated rfl rfl rfl (by decide +kernel) ⟨Nat.le_of_ble_eq_true rfl, Nat.le_of_ble_eq_true rfl⟩) (va_recv hK.1 hP (ci := 3) (q0 := 1) rfl rfl) rfl hl.1 rfl (Nat.le_of_ble_eq_true rfl) dX4_referenceCount_5 ⟨Nat.le_of_ble_eq_true rfl, Nat.le_of_ble_eq_true rfl⟩) hP hD hS hA [1, 2, 3, 4, 5, 6, 7, 8, 9] [0, 10, 11] [0, 3, 4, 5, 6, 7, 8, 9, 10, 11, 1, 2] rfl rfl rfl (by decide) rfl rfl (fun H locs hP hD hS => ?_)
  refine lv_if_ne (tgt := 13) hx hb dX4_referenceCount_8 (by decide) (fun c3 => ?_) (fun c3 => ?_)
  · replace hm := it_f c3 hm
    refine lv_aload_n hx hb dX4_referenceCount_13 rfl (lv_at hl 0 rfl) ?_
    refine va_get (D := G.1) (ci := 4) (v := .ref (a 0)) (C := RX4) (T := TX4) (N := 4) hx hb hts w1_X4_referenceCount hown hK.1 hP 0 rfl rfl 0 (by decide) (hts _ w0_X4_referenceCount) (fun _ h9 => h9) rfl dX4_referenceCount_14 ?_
    refine va_get (D := G.1) (ci := 3) (v := .ref (a 6)) (C := RX3) (T := TX3) (N := 9) hx hb hts w3_X4_referenceCount hown hK.1 hP 1 rfl rfl 5 (by decide) (hts _ w2_X4_referenceCount) (fun _ h9 => h9) rfl dX4_referenceCount_17 ?_
    refine lv_iload_n hx hb dX4_referenceCount_20 rfl (lv_at hl 1 rfl) ?_
    obtain ⟨q4, hc5, hm⟩ := bd_s hm
    refine kc_i (wi := [((a 6), .inl (G.2.1, 6, .inl ro))]) (wo := [((a 6), .inl (G.2.1, 6, .inl ro))]) (wr := [(x, .inr (4, [.ref (a 0), .ref hh, .ref sl, .ref (k 0)])), ((a 0), .inr (3, [.ref (a 1), .ref (a 2), .ref (a 3), .ref (a 4), .ref (a 5), .ref (a 6), .ref (a 7), .int fin, .int rnd])), ((a 1), .inl (G.2.1, 24, .inl ki)), ((a 2), .inl (G.2.1, 72, .inl fi)), ((a 3), .inl (G.2.1, 144, .inl ke)), ((a 4), .inl (G.2.1, 144, .inl va)), ((a 5), .inl (G.2.1, 24, .inl ta)), ((a 7), .inr (2, [.ref (a 8), .int nsz])), ((a 8), .inl (G.2.1, 20, .inl qu)), ((k 0), .inr (1, [.ref (k 1), .int mkd, .int lr, .int un])), ((k 1), .inl (G.2.1, 24, .inl rd))]) (ws' := (wX4 G.2.1 x hh sl a k ki fi ke va ta ro qu nsz fin rnd rd mkd lr un)) (rS (As := [.ref (a 6), .int p1]) (rest := []) (wi := [((a 6), .inl (G.2.1, 6, .inl ro))]) hF hK (hP.sub [7] rfl) (hD.sub [7] rfl rfl) (c_X4_occurrences l G N (a 6) 6 ro p1 q4 hc5 H.size) (va_cwS 2 hts gX4_referenceCount_X4_occurrences rfl rfl rfl (by decide +kernel) ⟨Nat.le_of_ble_eq_true rfl, Nat.le_of_ble_eq_true rfl⟩) rfl hl.1 rfl (Nat.le_of_ble_eq_true rfl) dX4_referenceCount_21 ⟨Nat.le_of_ble_eq_true rfl, Nat.le_of_ble_eq_true rfl⟩) hP hD hS hA [7] [0, 1, 2, 3, 4, 5, 6, 8, 9, 10, 11] [0, 1, 2, 3, 4, 5, 6, 11, 7, 8, 9, 10] rfl rfl rfl (by decide) rfl rfl (fun H locs hP hD hS => ?_)
    refine lv_aload_n hx hb dX4_referenceCount_24 rfl (lv_at hl 0 rfl) ?_
    refine va_get (D := G.1) (ci := 4) (v := .ref (a 0)) (C := RX4) (T := TX4) (N := 4) hx hb hts w1_X4_referenceCount hown hK.1 hP 0 rfl rfl 0 (by decide) (hts _ w0_X4_referenceCount) (fun _ h9 => h9) rfl dX4_referenceCount_25 ?_
    refine va_get (D := G.1) (ci := 3) (v := .ref (a 2)) (C := RX3) (T := TX3) (N := 9) hx hb hts w3_X4_referenceCount hown hK.1 hP 1 rfl rfl 1 (by decide) (hts _ w4_X4_referenceCount) (fun _ h9 => h9) rfl dX4_referenceCount_28 ?_
    refine lv_iload_n hx hb dX4_referenceCount_31 rfl (lv_at hl 1 rfl) ?_
    obtain ⟨q6, hc7, hm⟩ := bd_s hm
    refine kc_i (wi := [((a 2), .inl (G.2.1, 72, .inl fi))]) (wo := [((a 2), .inl (G.2.1, 72, .inl fi))]) (wr := [(x, .inr (4, [.ref (a 0), .ref hh, .ref sl, .ref (k 0)])), ((a 0), .inr (3, [.ref (a 1), .ref (a 2), .ref (a 3), .ref (a 4), .ref (a 5), .ref (a 6), .ref (a 7), .int fin, .int rnd])), ((a 1), .inl (G.2.1, 24, .inl ki)), ((a 3), .inl (G.2.1, 144, .inl ke)), ((a 4), .inl (G.2.1, 144, .inl va)), ((a 5), .inl (G.2.1, 24, .inl ta)), ((a 6), .inl (G.2.1, 6, .inl ro)), ((a 7), .inr (2, [.ref (a 8), .int nsz])), ((a 8), .inl (G.2.1, 20, .inl qu)), ((k 0), .inr (1, [.ref (k 1), .int mkd, .int lr, .int un])), ((k 1), .inl (G.2.1, 24, .inl rd))]) (ws' := (wX4 G.2.1 x hh sl a k ki fi ke va ta ro qu nsz fin rnd rd mkd lr un)) (rS (As := [.ref (a 2), .int p1]) (rest := [.int q4]) (wi := [((a 2), .inl (G.2.1, 72, .inl fi))]) hF hK (hP.sub [3] rfl) (hD.sub [3] rfl rfl) (c_X4_occurrences l G N (a 2) 72 fi p1 q6 hc7 H.size) (va_cwS 2 hts gX4_referenceCount_X4_occurrences rfl rfl rfl (by decide +kernel) ⟨Nat.le_of_ble_eq_true rfl, Nat.le_of_ble_eq_true rfl⟩) rfl hl.1 rfl (Nat.le_of_ble_eq_true rfl) dX4_referenceCount_32 ⟨Nat.le_of_ble_eq_true rfl, Nat.le_of_ble_eq_true rfl⟩) hP hD hS hA [3] [0, 1, 2, 4, 5, 6, 7, 8, 9, 10, 11] [0, 1, 2, 11, 3, 4, 5, 6, 7, 8, 9, 10] rfl rfl rfl (by decide) rfl rfl (fun H locs hP hD hS => ?_)
    refine lv_iadd hx hb dX4_referenceCount_35 ?_
    refine lv_aload_n hx hb dX4_referenceCount_36 rfl (lv_at hl 0 rfl) ?_
    refine va_get (D := G.1) (ci := 4) (v := .ref (a 0)) (C := RX4) (T := TX4) (N := 4) hx hb hts w1_X4_referenceCount hown hK.1 hP 0 rfl rfl 0 (by decide) (hts _ w0_X4_referenceCount) (fun _ h9 => h9) rfl dX4_referenceCount_37 ?_
    refine va_get (D := G.1) (ci := 3) (v := .ref (a 3)) (C := RX3) (T := TX3) (N := 9) hx hb hts w3_X4_referenceCount hown hK.1 hP 1 rfl rfl 2 (by decide) (hts _ w5_X4_referenceCount) (fun _ h9 => h9) rfl dX4_referenceCount_40 ?_
    refine lv_iload_n hx hb dX4_referenceCount_43 rfl (lv_at hl 1 rfl) ?_
    obtain ⟨q8, hc9, hm⟩ := bd_s hm
    refine kc_i (wi := [((a 3), .inl (G.2.1, 144, .inl ke))]) (wo := [((a 3), .inl (G.2.1, 144, .inl ke))]) (wr := [(x, .inr (4, [.ref (a 0), .ref hh, .ref sl, .ref (k 0)])), ((a 0), .inr (3, [.ref (a 1), .ref (a 2), .ref (a 3), .ref (a 4), .ref (a 5), .ref (a 6), .ref (a 7), .int fin, .int rnd])), ((a 1), .inl (G.2.1, 24, .inl ki)), ((a 2), .inl (G.2.1, 72, .inl fi)), ((a 4), .inl (G.2.1, 144, .inl va)), ((a 5), .inl (G.2.1, 24, .inl ta)), ((a 6), .inl (G.2.1, 6, .inl ro)), ((a 7), .inr (2, [.ref (a 8), .int nsz])), ((a 8), .inl (G.2.1, 20, .inl qu)), ((k 0), .inr (1, [.ref (k 1), .int mkd, .int lr, .int un])), ((k 1), .inl (G.2.1, 24, .inl rd))]) (ws' := (wX4 G.2.1 x hh sl a k ki fi ke va ta ro qu nsz fin rnd rd mkd lr un)) (rS (As := [.ref (a 3), .int p1]) (rest := [.int (q4 + q6)]) (wi := [((a 3), .inl (G.2.1, 144, .inl ke))]) hF hK (hP.sub [4] rfl) (hD.sub [4] rfl rfl) (c_X4_occurrences l G N (a 3) 144 ke p1 q8 hc9 H.size) (va_cwS 2 hts gX4_referenceCount_X4_occurrences rfl rfl rfl (by decide +kernel) ⟨Nat.le_of_ble_eq_true rfl, Nat.le_of_ble_eq_true rfl⟩) rfl hl.1 rfl (Nat.le_of_ble_eq_true rfl) dX4_referenceCount_44 ⟨Nat.le_of_ble_eq_true rfl, Nat.le_of_ble_eq_true rfl⟩) hP hD hS hA [4] [0, 1, 2, 3, 5, 6, 7, 8, 9, 10, 11] [0, 1, 2, 3, 11, 4, 5, 6, 7, 8, 9, 10] rfl rfl rfl (by decide) rfl rfl (fun H locs hP hD hS => ?_)
    refine lv_iadd hx hb dX4_referenceCount_47 ?_
    refine lv_aload_n hx hb dX4_referenceCount_48 rfl (lv_at hl 0 rfl) ?_
    refine va_get (D := G.1) (ci := 4) (v := .ref (a 0)) (C := RX4) (T := TX4) (N := 4) hx hb hts w1_X4_referenceCount hown hK.1 hP 0 rfl rfl 0 (by decide) (hts _ w0_X4_referenceCount) (fun _ h9 => h9) rfl dX4_referenceCount_49 ?_
    refine va_get (D := G.1) (ci := 3) (v := .ref (a 4)) (C := RX3) (T := TX3) (N := 9) hx hb hts w3_X4_referenceCount hown hK.1 hP 1 rfl rfl 3 (by decide) (hts _ w6_X4_referenceCount) (fun _ h9 => h9) rfl dX4_referenceCount_52 ?_
    refine lv_iload_n hx hb dX4_referenceCount_55 rfl (lv_at hl 1 rfl) ?_
    obtain ⟨q10, hc11, hm⟩ := bd_s hm
    refine kc_i (wi := [((a 4), .inl (G.2.1, 144, .inl va))]) (wo := [((a 4), .inl (G.2.1, 144, .inl va))]) (wr := [(x, .inr (4, [.ref (a 0), .ref hh, .ref sl, .ref (k 0)])), ((a 0), .inr (3, [.ref (a 1), .ref (a 2), .ref (a 3), .ref (a 4), .ref (a 5), .ref (a 6), .ref (a 7), .int fin, .int rnd])), ((a 1), .inl (G.2.1, 24, .inl ki)), ((a 2), .inl (G.2.1, 72, .inl fi)), ((a 3), .inl (G.2.1, 144, .inl ke)), ((a 5), .inl (G.2.1, 24, .inl ta)), ((a 6), .inl (G.2.1, 6, .inl ro)), ((a 7), .inr (2, [.ref (a 8), .int nsz])), ((a 8), .inl (G.2.1, 20, .inl qu)), ((k 0), .inr (1, [.ref (k 1), .int mkd, .int lr, .int un])), ((k 1), .inl (G.2.1, 24, .inl rd))]) (ws' := (wX4 G.2.1 x hh sl a k ki fi ke va ta ro qu nsz fin rnd rd mkd lr un)) (rS (As := [.ref (a 4), .int p1]) (rest := [.int ((q4 + q6) + q8)]) (wi := [((a 4), .inl (G.2.1, 144, .inl va))]) hF hK (hP.sub [5] rfl) (hD.sub [5] rfl rfl) (c_X4_occurrences l G N (a 4) 144 va p1 q10 hc11 H.size) (va_cwS 2 hts gX4_referenceCount_X4_occurrences rfl rfl rfl (by decide +kernel) ⟨Nat.le_of_ble_eq_true rfl, Nat.le_of_ble_eq_true rfl⟩) rfl hl.1 rfl (Nat.le_of_ble_eq_true rfl) dX4_referenceCount_56 ⟨Nat.le_of_ble_eq_true rfl, Nat.le_of_ble_eq_true rfl⟩) hP hD hS hA [5] [0, 1, 2, 3, 4, 6, 7, 8, 9, 10, 11] [0, 1, 2, 3, 4, 11, 5, 6, 7, 8, 9, 10] rfl rfl rfl (by decide) rfl rfl (fun H locs hP hD hS => ?_)
    refine lv_iadd hx hb dX4_referenceCount_59 ?_
    refine lv_aload_n hx hb dX4_referenceCount_60 rfl (lv_at hl 0 rfl) ?_
    refine va_get (D := G.1) (ci := 4) (v := .ref (a 0)) (C := RX4) (T := TX4) (N := 4) hx hb hts w1_X4_referenceCount hown hK.1 hP 0 rfl rfl 0 (by decide) (hts _ w0_X4_referenceCount) (fun _ h9 => h9) rfl dX4_referenceCount_61 ?_
    refine va_get (D := G.1) (ci := 3) (v := .ref (a 5)) (C := RX3) (T := TX3) (N := 9) hx hb hts w3_X4_referenceCount hown hK.1 hP 1 rfl rfl 4 (by decide) (hts _ w7_X4_referenceCount) (fun _ h9 => h9) rfl dX4_referenceCount_64 ?_
    refine lv_iload_n hx hb dX4_referenceCount_67 rfl (lv_at hl 1 rfl) ?_
    obtain ⟨q12, hc13, hm⟩ := bd_s hm
    refine kc_i (wi := [((a 5), .inl (G.2.1, 24, .inl ta))]) (wo := [((a 5), .inl (G.2.1, 24, .inl ta))]) (wr := [(x, .inr (4, [.ref (a 0), .ref hh, .ref sl, .ref (k 0)])), ((a 0), .inr (3, [.ref (a 1), .ref (a 2), .ref (a 3), .ref (a 4), .ref (a 5), .ref (a 6), .ref (a 7), .int fin, .int rnd])), ((a 1), .inl (G.2.1, 24, .inl ki)), ((a 2), .inl (G.2.1, 72, .inl fi)), ((a 3), .inl (G.2.1, 144, .inl ke)), ((a 4), .inl (G.2.1, 144, .inl va)), ((a 6), .inl (G.2.1, 6, .inl ro)), ((a 7), .inr (2, [.ref (a 8), .int nsz])), ((a 8), .inl (G.2.1, 20, .inl qu)), ((k 0), .inr (1, [.ref (k 1), .int mkd, .int lr, .int un])), ((k 1), .inl (G.2.1, 24, .inl rd))]) (ws' := (wX4 G.2.1 x hh sl a k ki fi ke va ta ro qu nsz fin rnd rd mkd lr un)) (rS (As := [.ref (a 5), .int p1]) (rest := [.int (((q4 + q6) + q8) + q10)]) (wi := [((a 5), .inl (G.2.1, 24, .inl ta))]) hF hK (hP.sub [6] rfl) (hD.sub [6] rfl rfl) (c_X4_occurrences l G N (a 5) 24 ta p1 q12 hc13 H.size) (va_cwS 2 hts gX4_referenceCount_X4_occurrences rfl rfl rfl (by decide +kernel) ⟨Nat.le_of_ble_eq_true rfl, Nat.le_of_ble_eq_true rfl⟩) rfl hl.1 rfl (Nat.le_of_ble_eq_true rfl) dX4_referenceCount_68 ⟨Nat.le_of_ble_eq_true rfl, Nat.le_of_ble_eq_true rfl⟩) hP hD hS hA [6] [0, 1, 2, 3, 4, 5, 7, 8, 9, 10, 11] [0, 1, 2, 3, 4, 5, 11, 6, 7, 8, 9, 10] rfl rfl rfl (by decide) rfl rfl (fun H locs hP hD hS => ?_)
    refine lv_iadd hx hb dX4_referenceCount_71 ?_
    cases hm
    exact rt_i hx hb hr hlocks hP hD hS dX4_referenceCount_72
  · replace hm := it_t c3 hm
    refine lv_iconst (v := (-1)) hx hb dX4_referenceCount_11 (by decide) ?_
    cases hm
    exact rt_i hx hb hr hlocks hP hD hS dX4_referenceCount_12
