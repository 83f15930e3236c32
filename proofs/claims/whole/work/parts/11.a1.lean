def M_X3_isAllocated (ki : Nat → Int32) (p1 : Int32) : Option (Int32) :=
  (M_X4_within p1 24).bind fun q1 => if q1 = 0 then (some 0) else (gd p1 24 (if (ki p1.toNatClampNeg) = (-9) then (some 0) else (some 1)))
theorem w0_X3_isAllocated : Cond.initialized RX4 ∈ wsX3_isAllocated := by decide +kernel
theorem w1_X3_isAllocated : Cond.static yX4_within ∈ wsX3_isAllocated := by decide +kernel
theorem w2_X3_isAllocated : Cond.fieldLink RX3 13 "WeakTableHeap$State" "kinds" "[I" ∈ wsX3_isAllocated := by decide +kernel
theorem w3_X3_isAllocated : ∀ w ∈ u_ws RX3 TX3 9, w ∈ wsX3_isAllocated := by decide +kernel
abbrev rm_X3_isAllocated : Room := { frames := 1, cells := 0, slots := 0, locals := 21 }
set_option maxHeartbeats 4000000 in
set_option maxRecDepth 100000 in
theorem c_X3_isAllocated (l : Launch) (G : GG) (a : Nat → Nat) (ki : Nat → Int32) (fi : Nat → Int32) (ke : Nat → Int32) (va : Nat → Int32) (ta : Nat → Int32) (ro : Nat → Int32) (qu : Nat → Int32) (nsz : Int32) (fin : Int32) (rnd : Int32) (p1 : Int32) (q : Int32) (hm : M_X3_isAllocated ki p1 = some q) : CTi l yX3_isAllocated wsX3_isAllocated rm_X3_isAllocated G [.ref (a 0), .int p1] (wST G.2.1 a ki fi ke va ta ro qu nsz fin rnd) q (wST G.2.1 a ki fi ke va ta ro qu nsz fin rnd) := by
  intro sz
  refine mk_body (Qc := fun A => (QI G A q (wST G.2.1 a ki fi ke va ta ro qu nsz fin rnd))) (cc := cX3_isAllocated) (maxL := 2) (ret := (some .boolean)) (lv := [(0, .ref (a 0)), (1, .int p1)]) (by decide) rfl rfl (Nat.le_of_ble_eq_true rfl) ?_
  intro p e s m args below meth c A H locs ls hF hr hlocks hname hK hA hP hD hS hl
  obtain ⟨hx, hb, hml, hown, hts⟩ := id hF
  unfold M_X3_isAllocated at hm
  refine lv_iload_n hx hb dX3_isAllocated_0 rfl (lv_at hl 1 rfl) ?_
  refine lv_bipush (v := 24) hx hb dX3_isAllocated_1 (by decide) ?_
  obtain ⟨q1, hc2, hm⟩ := bd_s hm
  refine k0_i (ws := (wST G.2.1 a ki fi ke va ta ro qu nsz fin rnd)) (rSN (As := [.int p1, .int 24]) (rest := []) (wi := ([] : va_W)) hF hK k0_P (k0_D (A := A)) (c_X4_within l G p1 24 q1 hc2 H.size) ⟨va_cnB 2 hts gX3_isAllocated_X4_within_n56 rfl rfl rfl (nw_RX3_56 hK) (hts _ w0_X3_isAllocated) (by decide +kernel) ⟨Nat.le_of_ble_eq_true rfl, Nat.le_of_ble_eq_true rfl⟩, hts _ w1_X3_isAllocated, trivial⟩ rfl hl.1 rfl (Nat.le_of_ble_eq_true rfl) dX3_isAllocated_3 ⟨Nat.le_of_ble_eq_true rfl, Nat.le_of_ble_eq_true rfl⟩) hP hS hA (fun H locs hP hS => ?_)
  refine lv_if_eq (tgt := 24) hx hb dX3_isAllocated_6 (by decide) (fun c3 => ?_) (fun c3 => ?_)
  · replace hm := it_t c3 hm
    refine lv_iconst (v := 0) hx hb dX3_isAllocated_24 (by decide) ?_
    cases hm
    exact rt_z (r := 0) hx hb hr hlocks rfl hP hD hS dX3_isAllocated_25
  · replace hm := it_f c3 hm
    refine lv_aload_n hx hb dX3_isAllocated_9 rfl (lv_at hl 0 rfl) ?_
    refine va_get (D := G.1) (ci := 3) (v := .ref (a 1)) (C := RX3) (T := TX3) (N := 9) hx hb hts w3_X3_isAllocated hown hK.1 hP 0 rfl rfl 0 (by decide) (hts _ w2_X3_isAllocated) (fun _ h9 => h9) rfl dX3_isAllocated_10 ?_
    refine lv_iload_n hx hb dX3_isAllocated_13 rfl (lv_at hl 1 rfl) ?_
    obtain ⟨hi4, hm⟩ := gd_s hm
    refine va_iald hx hb hK.1 hP 1 0 rfl rfl hi4 dX3_isAllocated_14 ?_
    refine lv_bipush (v := (-9)) hx hb dX3_isAllocated_15 (by decide) ?_
    refine lv_icmp_eq (tgt := 24) hx hb dX3_isAllocated_17 (by decide) (fun c5 => ?_) (fun c5 => ?_)
    · replace hm := it_t c5 hm
      refine lv_iconst (v := 0) hx hb dX3_isAllocated_24 (by decide) ?_
      cases hm
      exact rt_z (r := 0) hx hb hr hlocks rfl hP hD hS dX3_isAllocated_25
    · replace hm := it_f c5 hm
      refine lv_iconst (v := 1) hx hb dX3_isAllocated_20 (by decide) ?_
      refine lv_goto (tgt := 25) hx hb dX3_isAllocated_21 (by decide) ?_
      cases hm
      exact rt_z (r := 1) hx hb hr hlocks rfl hP hD hS dX3_isAllocated_25
def M_X3_hasKind (ki : Nat → Int32) (p1 : Int32) (p2 : Int32) : Option (Int32) :=
  (M_X4_within p1 24).bind fun q1 => if q1 = 0 then (some 0) else (gd p1 24 (if (ki p1.toNatClampNeg) = p2 then (some 1) else (some 0)))
theorem w0_X3_hasKind : Cond.initialized RX4 ∈ wsX3_hasKind := by decide +kernel
theorem w1_X3_hasKind : Cond.static yX4_within ∈ wsX3_hasKind := by decide +kernel
theorem w2_X3_hasKind : Cond.fieldLink RX3 13 "WeakTableHeap$State" "kinds" "[I" ∈ wsX3_hasKind := by decide +kernel
theorem w3_X3_hasKind : ∀ w ∈ u_ws RX3 TX3 9, w ∈ wsX3_hasKind := by decide +kernel
abbrev rm_X3_hasKind : Room := { frames := 1, cells := 0, slots := 0, locals := 21 }
set_option maxHeartbeats 4000000 in
set_option maxRecDepth 100000 in
theorem c_X3_hasKind (l : Launch) (G : GG) (a : Nat → Nat) (ki : Nat → Int32) (fi : Nat → Int32) (ke : Nat → Int32) (va : Nat → Int32) (ta : Nat → Int32) (ro : Nat → Int32) (qu : Nat → Int32) (nsz : Int32) (fin : Int32) (rnd : Int32) (p1 : Int32) (p2 : Int32) (q : Int32) (hm : M_X3_hasKind ki p1 p2 = some q) : CTi l yX3_hasKind wsX3_hasKind rm_X3_hasKind G [.ref (a 0), .int p1, .int p2] (wST G.2.1 a ki fi ke va ta ro qu nsz fin rnd) q (wST G.2.1 a ki fi ke va ta ro qu nsz fin rnd) := by
  intro sz
  refine mk_body (Qc := fun A => (QI G A q (wST G.2.1 a ki fi ke va ta ro qu nsz fin rnd))) (cc := cX3_hasKind) (maxL := 3) (ret := (some .boolean)) (lv := [(0, .ref (a 0)), (1, .int p1), (2, .int p2)]) (by decide) rfl rfl (Nat.le_of_ble_eq_true rfl) ?_
  intro p e s m args below meth c A H locs ls hF hr hlocks hname hK hA hP hD hS hl
  obtain ⟨hx, hb, hml, hown, hts⟩ := id hF
  unfold M_X3_hasKind at hm
  refine lv_iload_n hx hb dX3_hasKind_0 rfl (lv_at hl 1 rfl) ?_
  refine lv_bipush (v := 24) hx hb dX3_hasKind_1 (by decide) ?_
  obtain ⟨q1, hc2, hm⟩ := bd_s hm
  refine k0_i (ws := (wST G.2.1 a ki fi ke va ta ro qu nsz fin rnd)) (rSN (As := [.int p1, .int 24]) (rest := []) (wi := ([] : va_W)) hF hK k0_P (k0_D (A := A)) (c_X4_within l G p1 24 q1 hc2 H.size) ⟨va_cnB 2 hts gX3_hasKind_X4_within_n56 rfl rfl rfl (nw_RX3_56 hK) (hts _ w0_X3_hasKind) (by decide +kernel) ⟨Nat.le_of_ble_eq_true rfl, Nat.le_of_ble_eq_true rfl⟩, hts _ w1_X3_hasKind, trivial⟩ rfl hl.1 rfl (Nat.le_of_ble_eq_true rfl) dX3_hasKind_3 ⟨Nat.le_of_ble_eq_true rfl, Nat.le_of_ble_eq_true rfl⟩) hP hS hA (fun H locs hP hS => ?_)
  refine lv_if_eq (tgt := 23) hx hb dX3_hasKind_6 (by decide) (fun c3 => ?_) (fun c3 => ?_)
  · replace hm := it_t c3 hm
    refine lv_iconst (v := 0) hx hb dX3_hasKind_23 (by decide) ?_
    cases hm
    exact rt_z (r := 0) hx hb hr hlocks rfl hP hD hS dX3_hasKind_24
  · replace hm := it_f c3 hm
    refine lv_aload_n hx hb dX3_hasKind_9 rfl (lv_at hl 0 rfl) ?_
    refine va_get (D := G.1) (ci := 3) (v := .ref (a 1)) (C := RX3) (T := TX3) (N := 9) hx hb hts w3_X3_hasKind hown hK.1 hP 0 rfl rfl 0 (by decide) (hts _ w2_X3_hasKind) (fun _ h9 => h9) rfl dX3_hasKind_10 ?_
    refine lv_iload_n hx hb dX3_hasKind_13 rfl (lv_at hl 1 rfl) ?_
    obtain ⟨hi4, hm⟩ := gd_s hm
    refine va_iald hx hb hK.1 hP 1 0 rfl rfl hi4 dX3_hasKind_14 ?_
    refine lv_iload_n hx hb dX3_hasKind_15 rfl (lv_at hl 2 rfl) ?_
    refine lv_icmp_ne (tgt := 23) hx hb dX3_hasKind_16 (by decide) (fun c5 => ?_) (fun c5 => ?_)
    · replace hm := it_f c5 hm
      refine lv_iconst (v := 0) hx hb dX3_hasKind_23 (by decide) ?_
      cases hm
      exact rt_z (r := 0) hx hb hr hlocks rfl hP hD hS dX3_hasKind_24
    · replace hm := it_t c5 hm
      refine lv_iconst (v := 1) hx hb dX3_hasKind_19 (by decide) ?_
      refine lv_goto (tgt := 24) hx hb dX3_hasKind_20 (by decide) ?_
      cases hm
      exact rt_z (r := 1) hx hb hr hlocks rfl hP hD hS dX3_hasKind_24
def M_X3_isContent (ki : Nat → Int32) (p1 : Int32) : Option (Int32) :=
  if p1 = (-9) then (some 1) else ((M_X3_isAllocated ki p1).bind fun q2 => if q2 = 0 then (some 0) else (some 1))
abbrev rm_X3_isContent : Room := { frames := 2, cells := 0, slots := 0, locals := 42 }
set_option maxHeartbeats 4000000 in
set_option maxRecDepth 100000 in
theorem c_X3_isContent (l : Launch) (G : GG) (a : Nat → Nat) (ki : Nat → Int32) (fi : Nat → Int32) (ke : Nat → Int32) (va : Nat → Int32) (ta : Nat → Int32) (ro : Nat → Int32) (qu : Nat → Int32) (nsz : Int32) (fin : Int32) (rnd : Int32) (p1 : Int32) (q : Int32) (hm : M_X3_isContent ki p1 = some q) : CTi l yX3_isContent wsX3_isContent rm_X3_isContent G [.ref (a 0), .int p1] (wST G.2.1 a ki fi ke va ta ro qu nsz fin rnd) q (wST G.2.1 a ki fi ke va ta ro qu nsz fin rnd) := by
  intro sz
  refine mk_body (Qc := fun A => (QI G A q (wST G.2.1 a ki fi ke va ta ro qu nsz fin rnd))) (cc := cX3_isContent) (maxL := 2) (ret := (some .boolean)) (lv := [(0, .ref (a 0)), (1, .int p1)]) (by decide) rfl rfl (Nat.le_of_ble_eq_true rfl) ?_
  intro p e s m args below meth c A H locs ls hF hr hlocks hname hK hA hP hD hS hl
  obtain ⟨hx, hb, hml, hown, hts⟩ := id hF
  unfold M_X3_isContent at hm
  refine lv_iload_n hx hb dX3_isContent_0 rfl (lv_at hl 1 rfl) ?_
  refine lv_bipush (v := (-9)) hx hb dX3_isContent_1 (by decide) ?_
  refine lv_icmp_eq (tgt := 14) hx hb dX3_isContent_3 (by decide) (fun c1 => ?_) (fun c1 => ?_)
  · replace hm := it_t c1 hm
    refine lv_iconst (v := 1) hx hb dX3_isContent_14 (by decide) ?_
    refine lv_goto (tgt := 19) hx hb dX3_isContent_15 (by decide) ?_
    cases hm
    exact rt_z (r := 1) hx hb hr hlocks rfl hP hD hS dX3_isContent_19
  · replace hm := it_f c1 hm
    refine lv_aload_n hx hb dX3_isContent_6 rfl (lv_at hl 0 rfl) ?_
    refine lv_iload_n hx hb dX3_isContent_7 rfl (lv_at hl 1 rfl) ?_
    obtain ⟨q2, hc3, hm⟩ := bd_s hm
    refine ks_i (wo := (wST G.2.1 a ki fi ke va ta ro qu nsz fin rnd)) (rV (As := [.int p1]) (rest := []) (b := (a 0)) (wi := (wST G.2.1 a ki fi ke va ta ro qu nsz fin rnd)) hF hK hP hD (c_X3_isAllocated l G a ki fi ke va ta ro qu nsz fin rnd p1 q2 hc3 H.size) (cwV 1 hts gX3_isContent_X3_isAllocated rfl rfl rfl (by decide +kernel) ⟨Nat.le_of_ble_eq_true rfl, Nat.le_of_ble_eq_true rfl⟩) (va_recv hK.1 hP (ci := 3) (q0 := 0) rfl rfl) rfl hl.1 rfl (Nat.le_of_ble_eq_true rfl) dX3_isContent_8 ⟨Nat.le_of_ble_eq_true rfl, Nat.le_of_ble_eq_true rfl⟩) hD hS hA (fun H locs hP hD hS => ?_)
    have hP : va_P G.1 vwCl (wST G.2.1 a ki fi ke va ta ro qu nsz fin rnd) H := hP
    have hD : va_D A (wST G.2.1 a ki fi ke va ta ro qu nsz fin rnd) := hD
    refine lv_if_eq (tgt := 18) hx hb dX3_isContent_11 (by decide) (fun c4 => ?_) (fun c4 => ?_)
    · replace hm := it_t c4 hm
      refine lv_iconst (v := 0) hx hb dX3_isContent_18 (by decide) ?_
      cases hm
      exact rt_z (r := 0) hx hb hr hlocks rfl hP hD hS dX3_isContent_19
    · replace hm := it_f c4 hm
      refine lv_iconst (v := 1) hx hb dX3_isContent_14 (by decide) ?_
      refine lv_goto (tgt := 19) hx hb dX3_isContent_15 (by decide) ?_
      cases hm
      exact rt_z (r := 1) hx hb hr hlocks rfl hP hD hS dX3_isContent_19
def M_X3_isTableAndKey (ki : Nat → Int32) (p1 : Int32) (p2 : Int32) : Option (Int32) :=
  (M_X3_hasKind ki p1 1).bind fun q1 => if q1 = 0 then (some 0) else ((M_X3_isAllocated ki p2).bind fun q4 => if q4 = 0 then (some 0) else (some 1))
abbrev rm_X3_isTableAndKey : Room := { frames := 2, cells := 0, slots := 0, locals := 43 }
set_option maxHeartbeats 4000000 in
set_option maxRecDepth 100000 in
theorem c_X3_isTableAndKey (l : Launch) (G : GG) (a : Nat → Nat) (ki : Nat → Int32) (fi : Nat → Int32) (ke : Nat → Int32) (va : Nat → Int32) (ta : Nat → Int32) (ro : Nat → Int32) (qu : Nat → Int32) (nsz : Int32) (fin : Int32) (rnd : Int32) (p1 : Int32) (p2 : Int32) (q : Int32) (hm : M_X3_isTableAndKey ki p1 p2 = some q) : CTi l yX3_isTableAndKey wsX3_isTableAndKey rm_X3_isTableAndKey G [.ref (a 0), .int p1, .int p2] (wST G.2.1 a ki fi ke va ta ro qu nsz fin rnd) q (wST G.2.1 a ki fi ke va ta ro qu nsz fin rnd) := by
  intro sz
  refine mk_body (Qc := fun A => (QI G A q (wST G.2.1 a ki fi ke va ta ro qu nsz fin rnd))) (cc := cX3_isTableAndKey) (maxL := 3) (ret := (some .boolean)) (lv := [(0, .ref (a 0)), (1, .int p1), (2, .int p2)]) (by decide) rfl rfl (Nat.le_of_ble_eq_true rfl) ?_
  intro p e s m args below meth c A H locs ls hF hr hlocks hname hK hA hP hD hS hl
  obtain ⟨hx, hb, hml, hown, hts⟩ := id hF
  unfold M_X3_isTableAndKey at hm
  refine lv_aload_n hx hb dX3_isTableAndKey_0 rfl (lv_at hl 0 rfl) ?_
  refine lv_iload_n hx hb dX3_isTableAndKey_1 rfl (lv_at hl 1 rfl) ?_
  refine lv_iconst (v := 1) hx hb dX3_isTableAndKey_2 (by decide) ?_
  obtain ⟨q1, hc2, hm⟩ := bd_s hm
  refine ks_i (wo := (wST G.2.1 a ki fi ke va ta ro qu nsz fin rnd)) (rV (As := [.int p1, .int 1]) (rest := []) (b := (a 0)) (wi := (wST G.2.1 a ki fi ke va ta ro qu nsz fin rnd)) hF hK hP hD (c_X3_hasKind l G a ki fi ke va ta ro qu nsz fin rnd p1 1 q1 hc2 H.size) (cwV 2 hts gX3_isTableAndKey_X3_hasKind rfl rfl rfl (by decide +kernel) ⟨Nat.le_of_ble_eq_true rfl, Nat.le_of_ble_eq_true rfl⟩) (va_recv hK.1 hP (ci := 3) (q0 := 0) rfl rfl) rfl hl.1 rfl (Nat.le_of_ble_eq_true rfl) dX3_isTableAndKey_3 ⟨Nat.le_of_ble_eq_true rfl, Nat.le_of_ble_eq_true rfl⟩) hD hS hA (fun H locs hP hD hS => ?_)
  have hP : va_P G.1 vwCl (wST G.2.1 a ki fi ke va ta ro qu nsz fin rnd) H := hP
  have hD : va_D A (wST G.2.1 a ki fi ke va ta ro qu nsz fin rnd) := hD
  refine lv_if_eq (tgt := 21) hx hb dX3_isTableAndKey_6 (by decide) (fun c3 => ?_) (fun c3 => ?_)
  · replace hm := it_t c3 hm
    refine lv_iconst (v := 0) hx hb dX3_isTableAndKey_21 (by decide) ?_
    cases hm
    exact rt_z (r := 0) hx hb hr hlocks rfl hP hD hS dX3_isTableAndKey_22
  · replace hm := it_f c3 hm
    refine lv_aload_n hx hb dX3_isTableAndKey_9 rfl (lv_at hl 0 rfl) ?_
    refine lv_iload_n hx hb dX3_isTableAndKey_10 rfl (lv_at hl 2 rfl) ?_
    obtain ⟨q4, hc5, hm⟩ := bd_s hm
    refine ks_i (wo := (wST G.2.1 a ki fi ke va ta ro qu nsz fin rnd)) (rV (As := [.int p2]) (rest := []) (b := (a 0)) (wi := (wST G.2.1 a ki fi ke va ta ro qu nsz fin rnd)) hF hK hP hD (c_X3_isAllocated l G a ki fi ke va ta ro qu nsz fin rnd p2 q4 hc5 H.size) (cwV 1 hts gX3_isTableAndKey_X3_isAllocated rfl rfl rfl (by decide +kernel) ⟨Nat.le_of_ble_eq_true rfl, Nat.le_of_ble_eq_true rfl⟩) (va_recv hK.1 hP (ci := 3) (q0 := 0) rfl rfl) rfl hl.1 rfl (Nat.le_of_ble_eq_true rfl) dX3_isTableAndKey_11 ⟨Nat.le_of_ble_eq_true rfl, Nat.le_of_ble_eq_true rfl⟩) hD hS hA (fun H locs hP hD hS => ?_)
    have hP : va_P G.1 vwCl (wST G.2.1 a ki fi ke va ta ro qu nsz fin rnd) H := hP
    have hD : va_D A (wST G.2.1 a ki fi ke va ta ro qu nsz fin rnd) := hD
    refine lv_if_eq (tgt := 21) hx hb dX3_isTableAndKey_14 (by decide) (fun c6 => ?_) (fun c6 => ?_)
    · replace hm := it_t c6 hm
      refine lv_iconst (v := 0) hx hb dX3_isTableAndKey_21 (by decide) ?_
      cases hm
      exact rt_z (r := 0) hx hb hr hlocks rfl hP hD hS dX3_isTableAndKey_22
    · replace hm := it_f c6 hm
      refine lv_iconst (v := 1) hx hb dX3_isTableAndKey_17 (by decide) ?_
      refine lv_goto (tgt := 22) hx hb dX3_isTableAndKey_18 (by decide) ?_
      cases hm
      exact rt_z (r := 1) hx hb hr hlocks rfl hP hD hS dX3_isTableAndKey_22
def M_X3_smallestFree_L2 (ki : Nat → Int32) : Nat → (Int32) → Option (Int32)
  | 0, _ => none
  | n2 + 1, v2_1 => if 24 ≤ v2_1 then (some (-9)) else (gd v2_1 24 (if (ki v2_1.toNatClampNeg) = (-9) then (some v2_1) else (M_X3_smallestFree_L2 ki n2 (v2_1 + 1))))
def M_X3_smallestFree (N : Nat) (ki : Nat → Int32) : Option (Int32) :=
  M_X3_smallestFree_L2 ki N 0
theorem w0_X3_smallestFree : Cond.fieldLink RX3 13 "WeakTableHeap$State" "kinds" "[I" ∈ wsX3_smallestFree := by decide +kernel
theorem w1_X3_smallestFree : ∀ w ∈ u_ws RX3 TX3 9, w ∈ wsX3_smallestFree := by decide +kernel
abbrev rm_X3_smallestFree : Room := { frames := 0, cells := 0, slots := 0, locals := 0 }
set_option maxHeartbeats 4000000 in
set_option maxRecDepth 100000 in
theorem c_X3_smallestFree (l : Launch) (G : GG) (N : Nat) (a : Nat → Nat) (ki : Nat → Int32) (fi : Nat → Int32) (ke : Nat → Int32) (va : Nat → Int32) (ta : Nat → Int32) (ro : Nat → Int32) (qu : Nat → Int32) (nsz : Int32) (fin : Int32) (rnd : Int32) (q : Int32) (hm : M_X3_smallestFree N ki = some q) : CTi l yX3_smallestFree wsX3_smallestFree rm_X3_smallestFree G [.ref (a 0)] (wST G.2.1 a ki fi ke va ta ro qu nsz fin rnd) q (wST G.2.1 a ki fi ke va ta ro qu nsz fin rnd) := by
  intro sz
  refine mk_body (Qc := fun A => (QI G A q (wST G.2.1 a ki fi ke va ta ro qu nsz fin rnd))) (cc := cX3_smallestFree) (maxL := 2) (ret := (some .int)) (lv := [(0, .ref (a 0))]) (by decide) rfl rfl (Nat.le_of_ble_eq_true rfl) ?_
  intro p e s m args below meth c A H locs ls hF hr hlocks hname hK hA hP hD hS hl
  obtain ⟨hx, hb, hml, hown, hts⟩ := id hF
  unfold M_X3_smallestFree at hm
  refine lv_iconst (v := 0) hx hb dX3_smallestFree_0 (by decide) ?_
  refine lv_istore_n (lv' := [(1, .int 0), (0, .ref (a 0))]) hx hb dX3_smallestFree_1 rfl hl (by decide) rfl (fun ls hl => ?_)
  have L2 : ∀ (n2 : Nat) (v2_1 : Int32), M_X3_smallestFree_L2 ki n2 v2_1 = some q → ∀ (H : Heap) (locs : List Loc) (ls : Array Slot), va_P G.1 vwCl (wST G.2.1 a ki fi ke va ta ro qu nsz fin rnd) H → va_D A (wST G.2.1 a ki fi ke va ta ro qu nsz fin rnd) → va_S A s.heap H locs → lv_has ls 2 [(0, .ref (a 0)), (1, .int v2_1)] → W p l e rm_X3_smallestFree s m args below meth c H locs 0 0 (MQ below (QI G A q (wST G.2.1 a ki fi ke va ta ro qu nsz fin rnd)) args s rm_X3_smallestFree.cells rm_X3_smallestFree.slots A) (F0 m 2 ls []) := by
    intro  n2
    induction n2 with
    | zero => intro v2_1 hm; cases hm
    | succ n2 ih2 =>
      intro v2_1 hm H locs ls hP hD hS hl
      rw [M_X3_smallestFree_L2] at hm
      refine lv_iload_n hx hb dX3_smallestFree_2 rfl (lv_at hl 1 rfl) ?_
      refine lv_bipush (v := 24) hx hb dX3_smallestFree_3 (by decide) ?_
      refine lv_icmp_ge (tgt := 27) hx hb dX3_smallestFree_5 (by decide) (fun c201 => ?_) (fun c201 => ?_)
      · replace hm := it_t c201 hm
        refine lv_bipush (v := (-9)) hx hb dX3_smallestFree_27 (by decide) ?_
        cases hm
        exact rt_i hx hb hr hlocks hP hD hS dX3_smallestFree_29
      · replace hm := it_f c201 hm
        refine lv_aload_n hx hb dX3_smallestFree_8 rfl (lv_at hl 0 rfl) ?_
        refine va_get (D := G.1) (ci := 3) (v := .ref (a 1)) (C := RX3) (T := TX3) (N := 9) hx hb hts w1_X3_smallestFree hown hK.1 hP 0 rfl rfl 0 (by decide) (hts _ w0_X3_smallestFree) (fun _ h9 => h9) rfl dX3_smallestFree_9 ?_
        refine lv_iload_n hx hb dX3_smallestFree_12 rfl (lv_at hl 1 rfl) ?_
        obtain ⟨hi202, hm⟩ := gd_s hm
        refine va_iald hx hb hK.1 hP 1 0 rfl rfl hi202 dX3_smallestFree_13 ?_
        refine lv_bipush (v := (-9)) hx hb dX3_smallestFree_14 (by decide) ?_
        refine lv_icmp_ne (tgt := 21) hx hb dX3_smallestFree_16 (by decide) (fun c203 => ?_) (fun c203 => ?_)
        · replace hm := it_f c203 hm
          refine lv_iinc (v := (v2_1 + 1)) (lv' := [(1, .int (v2_1 + 1)), (0, .ref (a 0))]) hx hb dX3_smallestFree_21 hl (k := 1) rfl rfl (by decide) rfl (fun ls hl => ?_)
          refine lv_goto (tgt := 2) hx hb dX3_smallestFree_24 (by decide) ?_
          exact ih2 (v2_1 + 1) hm _ _ _ hP hD hS (lv_sub hl [1, 0] rfl)
        · replace hm := it_t c203 hm
          refine lv_iload_n hx hb dX3_smallestFree_19 rfl (lv_at hl 1 rfl) ?_
          cases hm
          exact rt_i hx hb hr hlocks hP hD hS dX3_smallestFree_20
  exact L2 N 0 hm _ _ _ hP hD hS (lv_sub hl [1, 0] rfl)
def M_X3_occupy (ki : Nat → Int32) (ta : Nat → Int32) (p1 : Int32) (p2 : Int32) (p3 : Int32) : Option ((Nat → Int32) × (Nat → Int32)) :=
  (M_X4_within p1 24).bind fun q1 => if q1 = 0 then (some (ki, ta)) else (gd p1 24 (gd p1 24 (some ((upd ki p1.toNatClampNeg p2), (upd ta p1.toNatClampNeg p3)))))
theorem w0_X3_occupy : Cond.initialized RX4 ∈ wsX3_occupy := by decide +kernel
theorem w1_X3_occupy : Cond.static yX4_within ∈ wsX3_occupy := by decide +kernel
theorem w2_X3_occupy : Cond.fieldLink RX3 13 "WeakTableHeap$State" "kinds" "[I" ∈ wsX3_occupy := by decide +kernel
theorem w3_X3_occupy : ∀ w ∈ u_ws RX3 TX3 9, w ∈ wsX3_occupy := by decide +kernel
theorem w4_X3_occupy : Cond.fieldLink RX3 28 "WeakTableHeap$State" "targets" "[I" ∈ wsX3_occupy := by decide +kernel
abbrev rm_X3_occupy : Room := { frames := 1, cells := 0, slots := 0, locals := 21 }
set_option maxHeartbeats 4000000 in
set_option maxRecDepth 100000 in
theorem c_X3_occupy (l : Launch) (G : GG) (a : Nat → Nat) (ki : Nat → Int32) (fi : Nat → Int32) (ke : Nat → Int32) (va : Nat → Int32) (ta : Nat → Int32) (ro : Nat → Int32) (qu : Nat → Int32) (nsz : Int32) (fin : Int32) (rnd : Int32) (p1 : Int32) (p2 : Int32) (p3 : Int32) (q : (Nat → Int32) × (Nat → Int32)) (hm : M_X3_occupy ki ta p1 p2 p3 = some q) : CTv l yX3_occupy wsX3_occupy rm_X3_occupy G [.ref (a 0), .int p1, .int p2, .int p3] (wST G.2.1 a ki fi ke va ta ro qu nsz fin rnd) (wST G.2.1 a q.1 fi ke va q.2 ro qu nsz fin rnd) := by
  intro sz
  refine mk_body (Qc := fun A => (QV G A (wST G.2.1 a q.1 fi ke va q.2 ro qu nsz fin rnd))) (cc := cX3_occupy) (maxL := 4) (ret := none) (lv := [(0, .ref (a 0)), (1, .int p1), (2, .int p2), (3, .int p3)]) (by decide) rfl rfl (Nat.le_of_ble_eq_true rfl) ?_
  intro p e s m args below meth c A H locs ls hF hr hlocks hname hK hA hP hD hS hl
  obtain ⟨hx, hb, hml, hown, hts⟩ := id hF
  unfold M_X3_occupy at hm
  refine lv_iload_n hx hb dX3_occupy_0 rfl (lv_at hl 1 rfl) ?_
  refine lv_bipush (v := 24) hx hb dX3_occupy_1 (by decide) ?_
  obtain ⟨q1, hc2, hm⟩ := bd_s hm
  refine k0_i (ws := (wST G.2.1 a ki fi ke va ta ro qu nsz fin rnd)) (rSN (As := [.int p1, .int 24]) (rest := []) (wi := ([] : va_W)) hF hK k0_P (k0_D (A := A)) (c_X4_within l G p1 24 q1 hc2 H.size) ⟨va_cnB 2 hts gX3_occupy_X4_within_n56 rfl rfl rfl (nw_RX3_56 hK) (hts _ w0_X3_occupy) (by decide +kernel) ⟨Nat.le_of_ble_eq_true rfl, Nat.le_of_ble_eq_true rfl⟩, hts _ w1_X3_occupy, trivial⟩ rfl hl.1 rfl (Nat.le_of_ble_eq_true rfl) dX3_occupy_3 ⟨Nat.le_of_ble_eq_true rfl, Nat.le_of_ble_eq_true rfl⟩) hP hS hA (fun H locs hP hS => ?_)
  refine lv_if_eq (tgt := 23) hx hb dX3_occupy_6 (by decide) (fun c3 => ?_) (fun c3 => ?_)
  · replace hm := it_t c3 hm
    cases hm
    exact rt_v hx hb hr hlocks hP hD hS dX3_occupy_23
  · replace hm := it_f c3 hm
    refine lv_aload_n hx hb dX3_occupy_9 rfl (lv_at hl 0 rfl) ?_
    refine va_get (D := G.1) (ci := 3) (v := .ref (a 1)) (C := RX3) (T := TX3) (N := 9) hx hb hts w3_X3_occupy hown hK.1 hP 0 rfl rfl 0 (by decide) (hts _ w2_X3_occupy) (fun _ h9 => h9) rfl dX3_occupy_10 ?_
    refine lv_iload_n hx hb dX3_occupy_13 rfl (lv_at hl 1 rfl) ?_
    refine lv_iload_n hx hb dX3_occupy_14 rfl (lv_at hl 2 rfl) ?_
    obtain ⟨hi4, hm⟩ := gd_s hm
    refine va_iast hx hb hK.1 hP hD hS 1 0 rfl rfl hi4 dX3_occupy_15 (fun H locs hP hD hS => ?_)
    have hP : va_P G.1 vwCl (wST G.2.1 a (upd ki p1.toNatClampNeg p2) fi ke va ta ro qu nsz fin rnd) H := hP
    have hD : va_D A (wST G.2.1 a (upd ki p1.toNatClampNeg p2) fi ke va ta ro qu nsz fin rnd) := hD
    refine lv_aload_n hx hb dX3_occupy_16 rfl (lv_at hl 0 rfl) ?_
    refine va_get (D := G.1) (ci := 3) (v := .ref (a 5)) (C := RX3) (T := TX3) (N := 9) hx hb hts w3_X3_occupy hown hK.1 hP 0 rfl rfl 4 (by decide) (hts _ w4_X3_occupy) (fun _ h9 => h9) rfl dX3_occupy_17 ?_
    refine lv_iload_n hx hb dX3_occupy_20 rfl (lv_at hl 1 rfl) ?_
    refine lv_iload_n hx hb dX3_occupy_21 rfl (lv_at hl 3 rfl) ?_
    obtain ⟨hi5, hm⟩ := gd_s hm
    refine va_iast hx hb hK.1 hP hD hS 5 0 rfl rfl hi5 dX3_occupy_22 (fun H locs hP hD hS => ?_)
    have hP : va_P G.1 vwCl (wST G.2.1 a (upd ki p1.toNatClampNeg p2) fi ke va (upd ta p1.toNatClampNeg p3) ro qu nsz fin rnd) H := hP
    have hD : va_D A (wST G.2.1 a (upd ki p1.toNatClampNeg p2) fi ke va (upd ta p1.toNatClampNeg p3) ro qu nsz fin rnd) := hD
    cases hm
    exact rt_v hx hb hr hlocks hP hD hS dX3_occupy_23
def M_X3_allocated_L4 (ki : Nat → Int32) : Nat → (Int32) → (Int32) → Option (Int32)
  | 0, _, _ => none
  | n4 + 1, v4_1, v4_2 => if 24 ≤ v4_2 then (some v4_1) else (gd v4_2 24 (if (ki v4_2.toNatClampNeg) = (-9) then (M_X3_allocated_L4 ki n4 v4_1 (v4_2 + 1)) else ((M_X4_setOf v4_2).bind fun q404 => M_X3_allocated_L4 ki n4 (v4_1 ||| q404) (v4_2 + 1))))
def M_X3_allocated (N : Nat) (ki : Nat → Int32) : Option (Int32) :=
  M_X3_allocated_L4 ki N 0 0
theorem w0_X3_allocated : Cond.fieldLink RX3 13 "WeakTableHeap$State" "kinds" "[I" ∈ wsX3_allocated := by decide +kernel
theorem w1_X3_allocated : ∀ w ∈ u_ws RX3 TX3 9, w ∈ wsX3_allocated := by decide +kernel
theorem w2_X3_allocated : Cond.initialized RX4 ∈ wsX3_allocated := by decide +kernel
theorem w3_X3_allocated : Cond.static yX4_setOf ∈ wsX3_allocated := by decide +kernel
abbrev rm_X3_allocated : Room := { frames := 1, cells := 0, slots := 0, locals := 20 }
set_option maxHeartbeats 4000000 in
set_option maxRecDepth 100000 in
theorem c_X3_allocated (l : Launch) (G : GG) (N : Nat) (a : Nat → Nat) (ki : Nat → Int32) (fi : Nat → Int32) (ke : Nat → Int32) (va : Nat → Int32) (ta : Nat → Int32) (ro : Nat → Int32) (qu : Nat → Int32) (nsz : Int32) (fin : Int32) (rnd : Int32) (q : Int32) (hm : M_X3_allocated N ki = some q) : CTi l yX3_allocated wsX3_allocated rm_X3_allocated G [.ref (a 0)] (wST G.2.1 a ki fi ke va ta ro qu nsz fin rnd) q (wST G.2.1 a ki fi ke va ta ro qu nsz fin rnd) := by
  intro sz
  refine mk_body (Qc := fun A => (QI G A q (wST G.2.1 a ki fi ke va ta ro qu nsz fin rnd))) (cc := cX3_allocated) (maxL := 3) (ret := (some .int)) (lv := [(0, .ref (a 0))]) (by decide) rfl rfl (Nat.le_of_ble_eq_true rfl) ?_
  intro p e s m args below meth c A H locs ls hF hr hlocks hname hK hA hP hD hS hl
  obtain ⟨hx, hb, hml, hown, hts⟩ := id hF
  unfold M_X3_allocated at hm
  refine lv_iconst (v := 0) hx hb dX3_allocated_0 (by decide) ?_
  refine lv_istore_n (lv' := [(1, .int 0), (0, .ref (a 0))]) hx hb dX3_allocated_1 rfl hl (by decide) rfl (fun ls hl => ?_)
  refine lv_iconst (v := 0) hx hb dX3_allocated_2 (by decide) ?_
  refine lv_istore_n (lv' := [(2, .int 0), (1, .int 0), (0, .ref (a 0))]) hx hb dX3_allocated_3 rfl hl (by decide) rfl (fun ls hl => ?_)
  have L4 : ∀ (n4 : Nat) (v4_1 : Int32) (v4_2 : Int32), M_X3_allocated_L4 ki n4 v4_1 v4_2 = some q → ∀ (H : Heap) (locs : List Loc) (ls : Array Slot), va_P G.1 vwCl (wST G.2.1 a ki fi ke va ta ro qu nsz fin rnd) H → va_D A (wST G.2.1 a ki fi ke va ta ro qu nsz fin rnd) → va_S A s.heap H locs → lv_has ls 3 [(0, .ref (a 0)), (1, .int v4_1), (2, .int v4_2)] → W p l e rm_X3_allocated s m args below meth c H locs 0 0 (MQ below (QI G A q (wST G.2.1 a ki fi ke va ta ro qu nsz fin rnd)) args s rm_X3_allocated.cells rm_X3_allocated.slots A) (F0 m 4 ls []) := by
    intro  n4
    induction n4 with
    | zero => intro v4_1 v4_2 hm; cases hm
    | succ n4 ih4 =>
      intro v4_1 v4_2 hm H locs ls hP hD hS hl
      rw [M_X3_allocated_L4] at hm
      refine lv_iload_n hx hb dX3_allocated_4 rfl (lv_at hl 2 rfl) ?_
      refine lv_bipush (v := 24) hx hb dX3_allocated_5 (by decide) ?_
      refine lv_icmp_ge (tgt := 34) hx hb dX3_allocated_7 (by decide) (fun c401 => ?_) (fun c401 => ?_)
      · replace hm := it_t c401 hm
        refine lv_iload_n hx hb dX3_allocated_34 rfl (lv_at hl 1 rfl) ?_
        cases hm
        exact rt_i hx hb hr hlocks hP hD hS dX3_allocated_35
      · replace hm := it_f c401 hm
        refine lv_aload_n hx hb dX3_allocated_10 rfl (lv_at hl 0 rfl) ?_
        refine va_get (D := G.1) (ci := 3) (v := .ref (a 1)) (C := RX3) (T := TX3) (N := 9) hx hb hts w1_X3_allocated hown hK.1 hP 0 rfl rfl 0 (by decide) (hts _ w0_X3_allocated) (fun _ h9 => h9) rfl dX3_allocated_11 ?_
        refine lv_iload_n hx hb dX3_allocated_14 rfl (lv_at hl 2 rfl) ?_
        obtain ⟨hi402, hm⟩ := gd_s hm
        refine va_iald hx hb hK.1 hP 1 0 rfl rfl hi402 dX3_allocated_15 ?_
        refine lv_bipush (v := (-9)) hx hb dX3_allocated_16 (by decide) ?_
        refine lv_icmp_eq (tgt := 28) hx hb dX3_allocated_18 (by decide) (fun c403 => ?_) (fun c403 => ?_)
        · replace hm := it_t c403 hm
          refine lv_iinc (v := (v4_2 + 1)) (lv' := [(2, .int (v4_2 + 1)), (0, .ref (a 0)), (1, .int v4_1)]) hx hb dX3_allocated_28 hl (k := 2) rfl rfl (by decide) rfl (fun ls hl => ?_)
          refine lv_goto (tgt := 4) hx hb dX3_allocated_31 (by decide) ?_
          exact ih4 v4_1 (v4_2 + 1) hm _ _ _ hP hD hS (lv_sub hl [1, 2, 0] rfl)
        · replace hm := it_f c403 hm
          refine lv_iload_n hx hb dX3_allocated_21 rfl (lv_at hl 1 rfl) ?_
          refine lv_iload_n hx hb dX3_allocated_22 rfl (lv_at hl 2 rfl) ?_
          obtain ⟨q404, hc405, hm⟩ := bd_s hm
          refine k0_i (ws := (wST G.2.1 a ki fi ke va ta ro qu nsz fin rnd)) (rSN (As := [.int v4_2]) (rest := [.int v4_1]) (wi := ([] : va_W)) hF hK k0_P (k0_D (A := A)) (c_X4_setOf l G v4_2 q404 hc405 H.size) ⟨va_cnB 1 hts gX3_allocated_X4_setOf_n67 rfl rfl rfl (nw_RX3_67 hK) (hts _ w2_X3_allocated) (by decide +kernel) ⟨Nat.le_of_ble_eq_true rfl, Nat.le_of_ble_eq_true rfl⟩, hts _ w3_X3_allocated, trivial⟩ rfl hl.1 rfl (Nat.le_of_ble_eq_true rfl) dX3_allocated_23 ⟨Nat.le_of_ble_eq_true rfl, Nat.le_of_ble_eq_true rfl⟩) hP hS hA (fun H locs hP hS => ?_)
          refine lv_ior hx hb dX3_allocated_26 ?_
          refine lv_istore_n (lv' := [(1, .int (v4_1 ||| q404)), (0, .ref (a 0)), (2, .int v4_2)]) hx hb dX3_allocated_27 rfl hl (by decide) rfl (fun ls hl => ?_)
          refine lv_iinc (v := (v4_2 + 1)) (lv' := [(2, .int (v4_2 + 1)), (1, .int (v4_1 ||| q404)), (0, .ref (a 0))]) hx hb dX3_allocated_28 hl (k := 2) rfl rfl (by decide) rfl (fun ls hl => ?_)
          refine lv_goto (tgt := 4) hx hb dX3_allocated_31 (by decide) ?_
          exact ih4 (v4_1 ||| q404) (v4_2 + 1) hm _ _ _ hP hD hS (lv_sub hl [2, 1, 0] rfl)
  exact L4 N 0 0 hm _ _ _ hP hD hS (lv_sub hl [2, 1, 0] rfl)
def M_X3_rootObjects_L4 (ro : Nat → Int32) : Nat → (Int32) → (Int32) → Option (Int32)
  | 0, _, _ => none
  | n4 + 1, v4_1, v4_2 => if 6 ≤ v4_2 then (some v4_1) else (gd v4_2 6 ((M_X4_setOf (ro v4_2.toNatClampNeg)).bind fun q403 => M_X3_rootObjects_L4 ro n4 (v4_1 ||| q403) (v4_2 + 1)))
def M_X3_rootObjects (N : Nat) (ro : Nat → Int32) : Option (Int32) :=
  M_X3_rootObjects_L4 ro N 0 0
theorem w0_X3_rootObjects : Cond.fieldLink RX3 31 "WeakTableHeap$State" "roots" "[I" ∈ wsX3_rootObjects := by decide +kernel
theorem w1_X3_rootObjects : ∀ w ∈ u_ws RX3 TX3 9, w ∈ wsX3_rootObjects := by decide +kernel
theorem w2_X3_rootObjects : Cond.initialized RX4 ∈ wsX3_rootObjects := by decide +kernel
theorem w3_X3_rootObjects : Cond.static yX4_setOf ∈ wsX3_rootObjects := by decide +kernel
abbrev rm_X3_rootObjects : Room := { frames := 1, cells := 0, slots := 0, locals := 20 }
set_option maxHeartbeats 4000000 in
set_option maxRecDepth 100000 in
theorem c_X3_rootObjects (l : Launch) (G : GG) (N : Nat) (a : Nat → Nat) (ki : Nat → Int32) (fi : Nat → Int32) (ke : Nat → Int32) (va : Nat → Int32) (ta : Nat → Int32) (ro : Nat → Int32) (qu : Nat → Int32) (nsz : Int32) (fin : Int32) (rnd : Int32) (q : Int32) (hm : M_X3_rootObjects N ro = some q) : CTi l yX3_rootObjects wsX3_rootObjects rm_X3_rootObjects G [.ref (a 0)] (wST G.2.1 a ki fi ke va ta ro qu nsz fin rnd) q (wST G.2.1 a ki fi ke va ta ro qu nsz fin rnd) := by
  intro sz
  refine mk_body (Qc := fun A => (QI G A q (wST G.2.1 a ki fi ke va ta ro qu nsz fin rnd))) (cc := cX3_rootObjects) (maxL := 3) (ret := (some .int)) (lv := [(0, .ref (a 0))]) (by decide) rfl rfl (Nat.le_of_ble_eq_true rfl) ?_
  intro p e s m args below meth c A H locs ls hF hr hlocks hname hK hA hP hD hS hl
  obtain ⟨hx, hb, hml, hown, hts⟩ := id hF
  unfold M_X3_rootObjects at hm
  refine lv_iconst (v := 0) hx hb dX3_rootObjects_0 (by decide) ?_
  refine lv_istore_n (lv' := [(1, .int 0), (0, .ref (a 0))]) hx hb dX3_rootObjects_1 rfl hl (by decide) rfl (fun ls hl => ?_)
  refine lv_iconst (v := 0) hx hb dX3_rootObjects_2 (by decide) ?_
  refine lv_istore_n (lv' := [(2, .int 0), (1, .int 0), (0, .ref (a 0))]) hx hb dX3_rootObjects_3 rfl hl (by decide) rfl (fun ls hl => ?_)
  have L4 : ∀ (n4 : Nat) (v4_1 : Int32) (v4_2 : Int32), M_X3_rootObjects_L4 ro n4 v4_1 v4_2 = some q → ∀ (H : Heap) (locs : List Loc) (ls : Array Slot), va_P G.1 vwCl (wST G.2.1 a ki fi ke va ta ro qu nsz fin rnd) H → va_D A (wST G.2.1 a ki fi ke va ta ro qu nsz fin rnd) → va_S A s.heap H locs → lv_has ls 3 [(0, .ref (a 0)), (1, .int v4_1), (2, .int v4_2)] → W p l e rm_X3_rootObjects s m args below meth c H locs 0 0 (MQ below (QI G A q (wST G.2.1 a ki fi ke va ta ro qu nsz fin rnd)) args s rm_X3_rootObjects.cells rm_X3_rootObjects.slots A) (F0 m 4 ls []) := by
    intro  n4
    induction n4 with
    | zero => intro v4_1 v4_2 hm; cases hm
    | succ n4 ih4 =>
      intro v4_1 v4_2 hm H locs ls hP hD hS hl
      rw [M_X3_rootObjects_L4] at hm
      refine lv_iload_n hx hb dX3_rootObjects_4 rfl (lv_at hl 2 rfl) ?_
      refine lv_bipush (v := 6) hx hb dX3_rootObjects_5 (by decide) ?_
      refine lv_icmp_ge (tgt := 28) hx hb dX3_rootObjects_7 (by decide) (fun c401 => ?_) (fun c401 => ?_)
      · replace hm := it_t c401 hm
        refine lv_iload_n hx hb dX3_rootObjects_28 rfl (lv_at hl 1 rfl) ?_
        cases hm
        exact rt_i hx hb hr hlocks hP hD hS dX3_rootObjects_29
      · replace hm := it_f c401 hm
        refine lv_iload_n hx hb dX3_rootObjects_10 rfl (lv_at hl 1 rfl) ?_
        refine lv_aload_n hx hb dX3_rootObjects_11 rfl (lv_at hl 0 rfl) ?_
        refine va_get (D := G.1) (ci := 3) (v := .ref (a 6)) (C := RX3) (T := TX3) (N := 9) hx hb hts w1_X3_rootObjects hown hK.1 hP 0 rfl rfl 5 (by decide) (hts _ w0_X3_rootObjects) (fun _ h9 => h9) rfl dX3_rootObjects_12 ?_
        refine lv_iload_n hx hb dX3_rootObjects_15 rfl (lv_at hl 2 rfl) ?_
        obtain ⟨hi402, hm⟩ := gd_s hm
        refine va_iald hx hb hK.1 hP 6 0 rfl rfl hi402 dX3_rootObjects_16 ?_
        obtain ⟨q403, hc404, hm⟩ := bd_s hm
        refine k0_i (ws := (wST G.2.1 a ki fi ke va ta ro qu nsz fin rnd)) (rSN (As := [.int (ro v4_2.toNatClampNeg)]) (rest := [.int v4_1]) (wi := ([] : va_W)) hF hK k0_P (k0_D (A := A)) (c_X4_setOf l G (ro v4_2.toNatClampNeg) q403 hc404 H.size) ⟨va_cnB 1 hts gX3_rootObjects_X4_setOf_n67 rfl rfl rfl (nw_RX3_67 hK) (hts _ w2_X3_rootObjects) (by decide +kernel) ⟨Nat.le_of_ble_eq_true rfl, Nat.le_of_ble_eq_true rfl⟩, hts _ w3_X3_rootObjects, trivial⟩ rfl hl.1 rfl (Nat.le_of_ble_eq_true rfl) dX3_rootObjects_17 ⟨Nat.le_of_ble_eq_true rfl, Nat.le_of_ble_eq_true rfl⟩) hP hS hA (fun H locs hP hS => ?_)
        refine lv_ior hx hb dX3_rootObjects_20 ?_
        refine lv_istore_n (lv' := [(1, .int (v4_1 ||| q403)), (0, .ref (a 0)), (2, .int v4_2)]) hx hb dX3_rootObjects_21 rfl hl (by decide) rfl (fun ls hl => ?_)
        refine lv_iinc (v := (v4_2 + 1)) (lv' := [(2, .int (v4_2 + 1)), (1, .int (v4_1 ||| q403)), (0, .ref (a 0))]) hx hb dX3_rootObjects_22 hl (k := 2) rfl rfl (by decide) rfl (fun ls hl => ?_)
        refine lv_goto (tgt := 4) hx hb dX3_rootObjects_25 (by decide) ?_
        exact ih4 (v4_1 ||| q403) (v4_2 + 1) hm _ _ _ hP hD hS (lv_sub hl [2, 1, 0] rfl)
  exact L4 N 0 0 hm _ _ _ hP hD hS (lv_sub hl [2, 1, 0] rfl)
def M_X3_fieldTargetsOf_L6 (u6_1 : Int32) (fi : Nat → Int32) : Nat → (Int32) → (Int32) → Option (Int32)
  | 0, _, _ => none
  | n6 + 1, v6_2, v6_3 => if ((u6_1 + 1) * 3) ≤ v6_3 then (some v6_2) else (gd v6_3 72 ((M_X4_setOf (fi v6_3.toNatClampNeg)).bind fun q603 => M_X3_fieldTargetsOf_L6 u6_1 fi n6 (v6_2 ||| q603) (v6_3 + 1)))
def M_X3_fieldTargetsOf (N : Nat) (fi : Nat → Int32) (p1 : Int32) : Option (Int32) :=
  M_X3_fieldTargetsOf_L6 p1 fi N 0 (p1 * 3)
theorem w0_X3_fieldTargetsOf : Cond.fieldLink RX3 19 "WeakTableHeap$State" "fields" "[I" ∈ wsX3_fieldTargetsOf := by decide +kernel
theorem w1_X3_fieldTargetsOf : ∀ w ∈ u_ws RX3 TX3 9, w ∈ wsX3_fieldTargetsOf := by decide +kernel
theorem w2_X3_fieldTargetsOf : Cond.initialized RX4 ∈ wsX3_fieldTargetsOf := by decide +kernel
theorem w3_X3_fieldTargetsOf : Cond.static yX4_setOf ∈ wsX3_fieldTargetsOf := by decide +kernel
abbrev rm_X3_fieldTargetsOf : Room := { frames := 1, cells := 0, slots := 0, locals := 20 }
set_option maxHeartbeats 4000000 in
set_option maxRecDepth 100000 in
theorem c_X3_fieldTargetsOf (l : Launch) (G : GG) (N : Nat) (a : Nat → Nat) (ki : Nat → Int32) (fi : Nat → Int32) (ke : Nat → Int32) (va : Nat → Int32) (ta : Nat → Int32) (ro : Nat → Int32) (qu : Nat → Int32) (nsz : Int32) (fin : Int32) (rnd : Int32) (p1 : Int32) (q : Int32) (hm : M_X3_fieldTargetsOf N fi p1 = some q) : CTi l yX3_fieldTargetsOf wsX3_fieldTargetsOf rm_X3_fieldTargetsOf G [.ref (a 0), .int p1] (wST G.2.1 a ki fi ke va ta ro qu nsz fin rnd) q (wST G.2.1 a ki fi ke va ta ro qu nsz fin rnd) := by
  intro sz
  refine mk_body (Qc := fun A => (QI G A q (wST G.2.1 a ki fi ke va ta ro qu nsz fin rnd))) (cc := cX3_fieldTargetsOf) (maxL := 4) (ret := (some .int)) (lv := [(0, .ref (a 0)), (1, .int p1)]) (by decide) rfl rfl (Nat.le_of_ble_eq_true rfl) ?_
  intro p e s m args below meth c A H locs ls hF hr hlocks hname hK hA hP hD hS hl
  obtain ⟨hx, hb, hml, hown, hts⟩ := id hF
  unfold M_X3_fieldTargetsOf at hm
  refine lv_iconst (v := 0) hx hb dX3_fieldTargetsOf_0 (by decide) ?_
  refine lv_istore_n (lv' := [(2, .int 0), (0, .ref (a 0)), (1, .int p1)]) hx hb dX3_fieldTargetsOf_1 rfl hl (by decide) rfl (fun ls hl => ?_)
  refine lv_iload_n hx hb dX3_fieldTargetsOf_2 rfl (lv_at hl 2 rfl) ?_
  refine lv_iconst (v := 3) hx hb dX3_fieldTargetsOf_3 (by decide) ?_
  refine lv_imul hx hb dX3_fieldTargetsOf_4 ?_
  refine lv_istore_n (lv' := [(3, .int (p1 * 3)), (2, .int 0), (0, .ref (a 0)), (1, .int p1)]) hx hb dX3_fieldTargetsOf_5 rfl hl (by decide) rfl (fun ls hl => ?_)
  have L6 : ∀ (u6_1 : Int32) (n6 : Nat) (v6_2 : Int32) (v6_3 : Int32), M_X3_fieldTargetsOf_L6 u6_1 fi n6 v6_2 v6_3 = some q → ∀ (H : Heap) (locs : List Loc) (ls : Array Slot), va_P G.1 vwCl (wST G.2.1 a ki fi ke va ta ro qu nsz fin rnd) H → va_D A (wST G.2.1 a ki fi ke va ta ro qu nsz fin rnd) → va_S A s.heap H locs → lv_has ls 4 [(0, .ref (a 0)), (1, .int u6_1), (2, .int v6_2), (3, .int v6_3)] → W p l e rm_X3_fieldTargetsOf s m args below meth c H locs 0 0 (MQ below (QI G A q (wST G.2.1 a ki fi ke va ta ro qu nsz fin rnd)) args s rm_X3_fieldTargetsOf.cells rm_X3_fieldTargetsOf.slots A) (F0 m 6 ls []) := by
    intro u6_1 n6
    induction n6 with
    | zero => intro v6_2 v6_3 hm; cases hm
    | succ n6 ih6 =>
      intro v6_2 v6_3 hm H locs ls hP hD hS hl
      rw [M_X3_fieldTargetsOf_L6] at hm
      refine lv_iload_n hx hb dX3_fieldTargetsOf_6 rfl (lv_at hl 3 rfl) ?_
      refine lv_iload_n hx hb dX3_fieldTargetsOf_7 rfl (lv_at hl 1 rfl) ?_
      refine lv_iconst (v := 1) hx hb dX3_fieldTargetsOf_8 (by decide) ?_
      refine lv_iadd hx hb dX3_fieldTargetsOf_9 ?_
      refine lv_iconst (v := 3) hx hb dX3_fieldTargetsOf_10 (by decide) ?_
      refine lv_imul hx hb dX3_fieldTargetsOf_11 ?_
      refine lv_icmp_ge (tgt := 33) hx hb dX3_fieldTargetsOf_12 (by decide) (fun c601 => ?_) (fun c601 => ?_)
      · replace hm := it_t c601 hm
        refine lv_iload_n hx hb dX3_fieldTargetsOf_33 rfl (lv_at hl 2 rfl) ?_
        cases hm
        exact rt_i hx hb hr hlocks hP hD hS dX3_fieldTargetsOf_34
      · replace hm := it_f c601 hm
        refine lv_iload_n hx hb dX3_fieldTargetsOf_15 rfl (lv_at hl 2 rfl) ?_
        refine lv_aload_n hx hb dX3_fieldTargetsOf_16 rfl (lv_at hl 0 rfl) ?_
        refine va_get (D := G.1) (ci := 3) (v := .ref (a 2)) (C := RX3) (T := TX3) (N := 9) hx hb hts w1_X3_fieldTargetsOf hown hK.1 hP 0 rfl rfl 1 (by decide) (hts _ w0_X3_fieldTargetsOf) (fun _ h9 => h9) rfl dX3_fieldTargetsOf_17 ?_
        refine lv_iload_n hx hb dX3_fieldTargetsOf_20 rfl (lv_at hl 3 rfl) ?_
        obtain ⟨hi602, hm⟩ := gd_s hm
        refine va_iald hx hb hK.1 hP 2 0 rfl rfl hi602 dX3_fieldTargetsOf_21 ?_
        obtain ⟨q603, hc604, hm⟩ := bd_s hm
        refine k0_i (ws := (wST G.2.1 a ki fi ke va ta ro qu nsz fin rnd)) (rSN (As := [.int (fi v6_3.toNatClampNeg)]) (rest := [.int v6_2]) (wi := ([] : va_W)) hF hK k0_P (k0_D (A := A)) (c_X4_setOf l G (fi v6_3.toNatClampNeg) q603 hc604 H.size) ⟨va_cnB 1 hts gX3_fieldTargetsOf_X4_setOf_n67 rfl rfl rfl (nw_RX3_67 hK) (hts _ w2_X3_fieldTargetsOf) (by decide +kernel) ⟨Nat.le_of_ble_eq_true rfl, Nat.le_of_ble_eq_true rfl⟩, hts _ w3_X3_fieldTargetsOf, trivial⟩ rfl hl.1 rfl (Nat.le_of_ble_eq_true rfl) dX3_fieldTargetsOf_22 ⟨Nat.le_of_ble_eq_true rfl, Nat.le_of_ble_eq_true rfl⟩) hP hS hA (fun H locs hP hS => ?_)
        refine lv_ior hx hb dX3_fieldTargetsOf_25 ?_
        refine lv_istore_n (lv' := [(2, .int (v6_2 ||| q603)), (0, .ref (a 0)), (1, .int u6_1), (3, .int v6_3)]) hx hb dX3_fieldTargetsOf_26 rfl hl (by decide) rfl (fun ls hl => ?_)
        refine lv_iinc (v := (v6_3 + 1)) (lv' := [(3, .int (v6_3 + 1)), (2, .int (v6_2 ||| q603)), (0, .ref (a 0)), (1, .int u6_1)]) hx hb dX3_fieldTargetsOf_27 hl (k := 3) rfl rfl (by decide) rfl (fun ls hl => ?_)
        refine lv_goto (tgt := 6) hx hb dX3_fieldTargetsOf_30 (by decide) ?_
        exact ih6 (v6_2 ||| q603) (v6_3 + 1) hm _ _ _ hP hD hS (lv_sub hl [2, 3, 1, 0] rfl)
  exact L6 p1 N 0 (p1 * 3) hm _ _ _ hP hD hS (lv_sub hl [2, 3, 1, 0] rfl)
def M_X3_fieldTargets_L4 (N : Nat) (u4_1 : Int32) (fi : Nat → Int32) : Nat → (Int32) → (Int32) → Option (Int32)
  | 0, _, _ => none
  | n4 + 1, v4_2, v4_3 => if 24 ≤ v4_3 then (some v4_2) else ((M_X4_contains u4_1 v4_3).bind fun q402 => if q402 = 0 then (M_X3_fieldTargets_L4 N u4_1 fi n4 v4_2 (v4_3 + 1)) else ((M_X3_fieldTargetsOf N fi v4_3).bind fun q405 => M_X3_fieldTargets_L4 N u4_1 fi n4 (v4_2 ||| q405) (v4_3 + 1)))
def M_X3_fieldTargets (N : Nat) (fi : Nat → Int32) (p1 : Int32) : Option (Int32) :=
  M_X3_fieldTargets_L4 N p1 fi N 0 0
theorem w0_X3_fieldTargets : Cond.initialized RX4 ∈ wsX3_fieldTargets := by decide +kernel
theorem w1_X3_fieldTargets : Cond.static yX4_contains ∈ wsX3_fieldTargets := by decide +kernel
abbrev rm_X3_fieldTargets : Room := { frames := 2, cells := 0, slots := 0, locals := 43 }
set_option maxHeartbeats 4000000 in
set_option maxRecDepth 100000 in
theorem c_X3_fieldTargets (l : Launch) (G : GG) (N : Nat) (a : Nat → Nat) (ki : Nat → Int32) (fi : Nat → Int32) (ke : Nat → Int32) (va : Nat → Int32) (ta : Nat → Int32) (ro : Nat → Int32) (qu : Nat → Int32) (nsz : Int32) (fin : Int32) (rnd : Int32) (p1 : Int32) (q : Int32) (hm : M_X3_fieldTargets N fi p1 = some q) : CTi l yX3_fieldTargets wsX3_fieldTargets rm_X3_fieldTargets G [.ref (a 0), .int p1] (wST G.2.1 a ki fi ke va ta ro qu nsz fin rnd) q (wST G.2.1 a ki fi ke va ta ro qu nsz fin rnd) := by
  intro sz
  refine mk_body (Qc := fun A => (QI G A q (wST G.2.1 a ki fi ke va ta ro qu nsz fin rnd))) (cc := cX3_fieldTargets) (maxL := 4) (ret := (some .int)) (lv := [(0, .ref (a 0)), (1, .int p1)]) (by decide) rfl rfl (Nat.le_of_ble_eq_true rfl) ?_
  intro p e s m args below meth c A H locs ls hF hr hlocks hname hK hA hP hD hS hl
  obtain ⟨hx, hb, hml, hown, hts⟩ := id hF
  unfold M_X3_fieldTargets at hm
  refine lv_iconst (v := 0) hx hb dX3_fieldTargets_0 (by decide) ?_
  refine lv_istore_n (lv' := [(2, .int 0), (0, .ref (a 0)), (1, .int p1)]) hx hb dX3_fieldTargets_1 rfl hl (by decide) rfl (fun ls hl => ?_)
  refine lv_iconst (v := 0) hx hb dX3_fieldTargets_2 (by decide) ?_
  refine lv_istore_n (lv' := [(3, .int 0), (2, .int 0), (0, .ref (a 0)), (1, .int p1)]) hx hb dX3_fieldTargets_3 rfl hl (by decide) rfl (fun ls hl => ?_)
  have L4 : ∀ (u4_1 : Int32) (n4 : Nat) (v4_2 : Int32) (v4_3 : Int32), M_X3_fieldTargets_L4 N u4_1 fi n4 v4_2 v4_3 = some q → ∀ (H : Heap) (locs : List Loc) (ls : Array Slot), va_P G.1 vwCl (wST G.2.1 a ki fi ke va ta ro qu nsz fin rnd) H → va_D A (wST G.2.1 a ki fi ke va ta ro qu nsz fin rnd) → va_S A s.heap H locs → lv_has ls 4 [(0, .ref (a 0)), (1, .int u4_1), (2, .int v4_2), (3, .int v4_3)] → W p l e rm_X3_fieldTargets s m args below meth c H locs 0 0 (MQ below (QI G A q (wST G.2.1 a ki fi ke va ta ro qu nsz fin rnd)) args s rm_X3_fieldTargets.cells rm_X3_fieldTargets.slots A) (F0 m 4 ls []) := by
    intro u4_1 n4
    induction n4 with
    | zero => intro v4_2 v4_3 hm; cases hm
    | succ n4 ih4 =>
      intro v4_2 v4_3 hm H locs ls hP hD hS hl
      rw [M_X3_fieldTargets_L4] at hm
      refine lv_iload_n hx hb dX3_fieldTargets_4 rfl (lv_at hl 3 rfl) ?_
      refine lv_bipush (v := 24) hx hb dX3_fieldTargets_5 (by decide) ?_
      refine lv_icmp_ge (tgt := 32) hx hb dX3_fieldTargets_7 (by decide) (fun c401 => ?_) (fun c401 => ?_)
      · replace hm := it_t c401 hm
        refine lv_iload_n hx hb dX3_fieldTargets_32 rfl (lv_at hl 2 rfl) ?_
        cases hm
        exact rt_i hx hb hr hlocks hP hD hS dX3_fieldTargets_33
      · replace hm := it_f c401 hm
        refine lv_iload_n hx hb dX3_fieldTargets_10 rfl (lv_at hl 1 rfl) ?_
        refine lv_iload_n hx hb dX3_fieldTargets_11 rfl (lv_at hl 3 rfl) ?_
        obtain ⟨q402, hc403, hm⟩ := bd_s hm
        refine k0_i (ws := (wST G.2.1 a ki fi ke va ta ro qu nsz fin rnd)) (rSN (As := [.int u4_1, .int v4_3]) (rest := []) (wi := ([] : va_W)) hF hK k0_P (k0_D (A := A)) (c_X4_contains l G u4_1 v4_3 q402 hc403 H.size) ⟨va_cnB 2 hts gX3_fieldTargets_X4_contains_n71 rfl rfl rfl (nw_RX3_71 hK) (hts _ w0_X3_fieldTargets) (by decide +kernel) ⟨Nat.le_of_ble_eq_true rfl, Nat.le_of_ble_eq_true rfl⟩, hts _ w1_X3_fieldTargets, trivial⟩ rfl hl.1 rfl (Nat.le_of_ble_eq_true rfl) dX3_fieldTargets_12 ⟨Nat.le_of_ble_eq_true rfl, Nat.le_of_ble_eq_true rfl⟩) hP hS hA (fun H locs hP hS => ?_)
        refine lv_if_eq (tgt := 26) hx hb dX3_fieldTargets_15 (by decide) (fun c404 => ?_) (fun c404 => ?_)
        · replace hm := it_t c404 hm
          refine lv_iinc (v := (v4_3 + 1)) (lv' := [(3, .int (v4_3 + 1)), (0, .ref (a 0)), (1, .int u4_1), (2, .int v4_2)]) hx hb dX3_fieldTargets_26 hl (k := 3) rfl rfl (by decide) rfl (fun ls hl => ?_)
          refine lv_goto (tgt := 4) hx hb dX3_fieldTargets_29 (by decide) ?_
          exact ih4 v4_2 (v4_3 + 1) hm _ _ _ hP hD hS (lv_sub hl [1, 2, 3, 0] rfl)
        · replace hm := it_f c404 hm
          refine lv_iload_n hx hb dX3_fieldTargets_18 rfl (lv_at hl 2 rfl) ?_
          refine lv_aload_n hx hb dX3_fieldTargets_19 rfl (lv_at hl 0 rfl) ?_
          refine lv_iload_n hx hb dX3_fieldTargets_20 rfl (lv_at hl 3 rfl) ?_
          obtain ⟨q405, hc406, hm⟩ := bd_s hm
          refine ks_i (wo := (wST G.2.1 a ki fi ke va ta ro qu nsz fin rnd)) (rV (As := [.int v4_3]) (rest := [.int v4_2]) (b := (a 0)) (wi := (wST G.2.1 a ki fi ke va ta ro qu nsz fin rnd)) hF hK hP hD (c_X3_fieldTargetsOf l G N a ki fi ke va ta ro qu nsz fin rnd v4_3 q405 hc406 H.size) (cwV 1 hts gX3_fieldTargets_X3_fieldTargetsOf rfl rfl rfl (by decide +kernel) ⟨Nat.le_of_ble_eq_true rfl, Nat.le_of_ble_eq_true rfl⟩) (va_recv hK.1 hP (ci := 3) (q0 := 0) rfl rfl) rfl hl.1 rfl (Nat.le_of_ble_eq_true rfl) dX3_fieldTargets_21 ⟨Nat.le_of_ble_eq_true rfl, Nat.le_of_ble_eq_true rfl⟩) hD hS hA (fun H locs hP hD hS => ?_)
          have hP : va_P G.1 vwCl (wST G.2.1 a ki fi ke va ta ro qu nsz fin rnd) H := hP
          have hD : va_D A (wST G.2.1 a ki fi ke va ta ro qu nsz fin rnd) := hD
          refine lv_ior hx hb dX3_fieldTargets_24 ?_
          refine lv_istore_n (lv' := [(2, .int (v4_2 ||| q405)), (0, .ref (a 0)), (1, .int u4_1), (3, .int v4_3)]) hx hb dX3_fieldTargets_25 rfl hl (by decide) rfl (fun ls hl => ?_)
          refine lv_iinc (v := (v4_3 + 1)) (lv' := [(3, .int (v4_3 + 1)), (2, .int (v4_2 ||| q405)), (0, .ref (a 0)), (1, .int u4_1)]) hx hb dX3_fieldTargets_26 hl (k := 3) rfl rfl (by decide) rfl (fun ls hl => ?_)
          refine lv_goto (tgt := 4) hx hb dX3_fieldTargets_29 (by decide) ?_
          exact ih4 (v4_2 ||| q405) (v4_3 + 1) hm _ _ _ hP hD hS (lv_sub hl [2, 3, 1, 0] rfl)
  exact L4 p1 N 0 0 hm _ _ _ hP hD hS (lv_sub hl [2, 3, 1, 0] rfl)
def M_X3_valuesOfEntriesOf_L8 (u8_1 : Int32) (u8_2 : Int32) (ke : Nat → Int32) (va : Nat → Int32) : Nat → (Int32) → (Int32) → Option (Int32)
  | 0, _, _ => none
  | n8 + 1, v8_3, v8_4 => if ((u8_1 + 1) * 6) ≤ v8_4 then (some v8_3) else (gd v8_4 144 ((M_X4_contains u8_2 (ke v8_4.toNatClampNeg)).bind fun q803 => if q803 = 0 then (M_X3_valuesOfEntriesOf_L8 u8_1 u8_2 ke va n8 v8_3 (v8_4 + 1)) else (gd v8_4 144 ((M_X4_setOf (va v8_4.toNatClampNeg)).bind fun q807 => M_X3_valuesOfEntriesOf_L8 u8_1 u8_2 ke va n8 (v8_3 ||| q807) (v8_4 + 1)))))
def M_X3_valuesOfEntriesOf (N : Nat) (ke : Nat → Int32) (va : Nat → Int32) (p1 : Int32) (p2 : Int32) : Option (Int32) :=
  M_X3_valuesOfEntriesOf_L8 p1 p2 ke va N 0 (p1 * 6)
theorem w0_X3_valuesOfEntriesOf : Cond.fieldLink RX3 22 "WeakTableHeap$State" "keys" "[I" ∈ wsX3_valuesOfEntriesOf := by decide +kernel
theorem w1_X3_valuesOfEntriesOf : ∀ w ∈ u_ws RX3 TX3 9, w ∈ wsX3_valuesOfEntriesOf := by decide +kernel
theorem w2_X3_valuesOfEntriesOf : Cond.initialized RX4 ∈ wsX3_valuesOfEntriesOf := by decide +kernel
theorem w3_X3_valuesOfEntriesOf : Cond.static yX4_contains ∈ wsX3_valuesOfEntriesOf := by decide +kernel
theorem w4_X3_valuesOfEntriesOf : Cond.fieldLink RX3 25 "WeakTableHeap$State" "values" "[I" ∈ wsX3_valuesOfEntriesOf := by decide +kernel
theorem w5_X3_valuesOfEntriesOf : Cond.static yX4_setOf ∈ wsX3_valuesOfEntriesOf := by decide +kernel
abbrev rm_X3_valuesOfEntriesOf : Room := { frames := 2, cells := 0, slots := 0, locals := 41 }
set_option maxHeartbeats 4000000 in
set_option maxRecDepth 100000 in
theorem c_X3_valuesOfEntriesOf (l : Launch) (G : GG) (N : Nat) (a : Nat → Nat) (ki : Nat → Int32) (fi : Nat → Int32) (ke : Nat → Int32) (va : Nat → Int32) (ta : Nat → Int32) (ro : Nat → Int32) (qu : Nat → Int32) (nsz : Int32) (fin : Int32) (rnd : Int32) (p1 : Int32) (p2 : Int32) (q : Int32) (hm : M_X3_valuesOfEntriesOf N ke va p1 p2 = some q) : CTi l yX3_valuesOfEntriesOf wsX3_valuesOfEntriesOf rm_X3_valuesOfEntriesOf G [.ref (a 0), .int p1, .int p2] (wST G.2.1 a ki fi ke va ta ro qu nsz fin rnd) q (wST G.2.1 a ki fi ke va ta ro qu nsz fin rnd) := by
  intro sz
  refine mk_body (Qc := fun A => (QI G A q (wST G.2.1 a ki fi ke va ta ro qu nsz fin rnd))) (cc := cX3_valuesOfEntriesOf) (maxL := 5) (ret := (some .int)) (lv := [(0, .ref (a 0)), (1, .int p1), (2, .int p2)]) (by decide) rfl rfl (Nat.le_of_ble_eq_true rfl) ?_
  intro p e s m args below meth c A H locs ls hF hr hlocks hname hK hA hP hD hS hl
  obtain ⟨hx, hb, hml, hown, hts⟩ := id hF
  unfold M_X3_valuesOfEntriesOf at hm
  refine lv_iconst (v := 0) hx hb dX3_valuesOfEntriesOf_0 (by decide) ?_
  refine lv_istore_n (lv' := [(3, .int 0), (0, .ref (a 0)), (1, .int p1), (2, .int p2)]) hx hb dX3_valuesOfEntriesOf_1 rfl hl (by decide) rfl (fun ls hl => ?_)
  refine lv_iload_n hx hb dX3_valuesOfEntriesOf_2 rfl (lv_at hl 2 rfl) ?_
  refine lv_bipush (v := 6) hx hb dX3_valuesOfEntriesOf_3 (by decide) ?_
  refine lv_imul hx hb dX3_valuesOfEntriesOf_5 ?_
  refine lv_istore (lv' := [(4, .int (p1 * 6)), (3, .int 0), (0, .ref (a 0)), (1, .int p1), (2, .int p2)]) hx hb dX3_valuesOfEntriesOf_6 hl (by decide) rfl (fun ls hl => ?_)
  have L8 : ∀ (u8_1 : Int32) (u8_2 : Int32) (n8 : Nat) (v8_3 : Int32) (v8_4 : Int32), M_X3_valuesOfEntriesOf_L8 u8_1 u8_2 ke va n8 v8_3 v8_4 = some q → ∀ (H : Heap) (locs : List Loc) (ls : Array Slot), va_P G.1 vwCl (wST G.2.1 a ki fi ke va ta ro qu nsz fin rnd) H → va_D A (wST G.2.1 a ki fi ke va ta ro qu nsz fin rnd) → va_S A s.heap H locs → lv_has ls 5 [(0, .ref (a 0)), (1, .int u8_1), (2, .int u8_2), (3, .int v8_3), (4, .int v8_4)] → W p l e rm_X3_valuesOfEntriesOf s m args below meth c H locs 0 0 (MQ below (QI G A q (wST G.2.1 a ki fi ke va ta ro qu nsz fin rnd)) args s rm_X3_valuesOfEntriesOf.cells rm_X3_valuesOfEntriesOf.slots A) (F0 m 8 ls []) := by
    intro u8_1 u8_2 n8
    induction n8 with
    | zero => intro v8_3 v8_4 hm; cases hm
    | succ n8 ih8 =>
      intro v8_3 v8_4 hm H locs ls hP hD hS hl
      rw [M_X3_valuesOfEntriesOf_L8] at hm
      refine lv_iload hx hb dX3_valuesOfEntriesOf_8 (lv_at hl 4 rfl) ?_
      refine lv_iload_n hx hb dX3_valuesOfEntriesOf_10 rfl (lv_at hl 1 rfl) ?_
      refine lv_iconst (v := 1) hx hb dX3_valuesOfEntriesOf_11 (by decide) ?_
      refine lv_iadd hx hb dX3_valuesOfEntriesOf_12 ?_
      refine lv_bipush (v := 6) hx hb dX3_valuesOfEntriesOf_13 (by decide) ?_
      refine lv_imul hx hb dX3_valuesOfEntriesOf_15 ?_
      refine lv_icmp_ge (tgt := 52) hx hb dX3_valuesOfEntriesOf_16 (by decide) (fun c801 => ?_) (fun c801 => ?_)
      · replace hm := it_t c801 hm
        refine lv_iload_n hx hb dX3_valuesOfEntriesOf_52 rfl (lv_at hl 3 rfl) ?_
        cases hm
        exact rt_i hx hb hr hlocks hP hD hS dX3_valuesOfEntriesOf_53
      · replace hm := it_f c801 hm
        refine lv_iload_n hx hb dX3_valuesOfEntriesOf_19 rfl (lv_at hl 2 rfl) ?_
        refine lv_aload_n hx hb dX3_valuesOfEntriesOf_20 rfl (lv_at hl 0 rfl) ?_
        refine va_get (D := G.1) (ci := 3) (v := .ref (a 3)) (C := RX3) (T := TX3) (N := 9) hx hb hts w1_X3_valuesOfEntriesOf hown hK.1 hP 0 rfl rfl 2 (by decide) (hts _ w0_X3_valuesOfEntriesOf) (fun _ h9 => h9) rfl dX3_valuesOfEntriesOf_21 ?_
        refine lv_iload hx hb dX3_valuesOfEntriesOf_24 (lv_at hl 4 rfl) ?_
        obtain ⟨hi802, hm⟩ := gd_s hm
        refine va_iald hx hb hK.1 hP 3 0 rfl rfl hi802 dX3_valuesOfEntriesOf_26 ?_
        obtain ⟨q803, hc804, hm⟩ := bd_s hm
        refine k0_i (ws := (wST G.2.1 a ki fi ke va ta ro qu nsz fin rnd)) (rSN (As := [.int u8_2, .int (ke v8_4.toNatClampNeg)]) (rest := []) (wi := ([] : va_W)) hF hK k0_P (k0_D (A := A)) (c_X4_contains l G u8_2 (ke v8_4.toNatClampNeg) q803 hc804 H.size) ⟨va_cnB 2 hts gX3_valuesOfEntriesOf_X4_contains_n71 rfl rfl rfl (nw_RX3_71 hK) (hts _ w2_X3_valuesOfEntriesOf) (by decide +kernel) ⟨Nat.le_of_ble_eq_true rfl, Nat.le_of_ble_eq_true rfl⟩, hts _ w3_X3_valuesOfEntriesOf, trivial⟩ rfl hl.1 rfl (Nat.le_of_ble_eq_true rfl) dX3_valuesOfEntriesOf_27 ⟨Nat.le_of_ble_eq_true rfl, Nat.le_of_ble_eq_true rfl⟩) hP hS hA (fun H locs hP hS => ?_)
        refine lv_if_eq (tgt := 46) hx hb dX3_valuesOfEntriesOf_30 (by decide) (fun c805 => ?_) (fun c805 => ?_)
        · replace hm := it_t c805 hm
          refine lv_iinc (v := (v8_4 + 1)) (lv' := [(4, .int (v8_4 + 1)), (0, .ref (a 0)), (1, .int u8_1), (2, .int u8_2), (3, .int v8_3)]) hx hb dX3_valuesOfEntriesOf_46 hl (k := 4) rfl rfl (by decide) rfl (fun ls hl => ?_)
          refine lv_goto (tgt := 8) hx hb dX3_valuesOfEntriesOf_49 (by decide) ?_
          exact ih8 v8_3 (v8_4 + 1) hm _ _ _ hP hD hS (lv_sub hl [1, 2, 3, 4, 0] rfl)
        · replace hm := it_f c805 hm
          refine lv_iload_n hx hb dX3_valuesOfEntriesOf_33 rfl (lv_at hl 3 rfl) ?_
          refine lv_aload_n hx hb dX3_valuesOfEntriesOf_34 rfl (lv_at hl 0 rfl) ?_
          refine va_get (D := G.1) (ci := 3) (v := .ref (a 4)) (C := RX3) (T := TX3) (N := 9) hx hb hts w1_X3_valuesOfEntriesOf hown hK.1 hP 0 rfl rfl 3 (by decide) (hts _ w4_X3_valuesOfEntriesOf) (fun _ h9 => h9) rfl dX3_valuesOfEntriesOf_35 ?_
          refine lv_iload hx hb dX3_valuesOfEntriesOf_38 (lv_at hl 4 rfl) ?_
          obtain ⟨hi806, hm⟩ := gd_s hm
          refine va_iald hx hb hK.1 hP 4 0 rfl rfl hi806 dX3_valuesOfEntriesOf_40 ?_
          obtain ⟨q807, hc808, hm⟩ := bd_s hm
          refine k0_i (ws := (wST G.2.1 a ki fi ke va ta ro qu nsz fin rnd)) (rSN (As := [.int (va v8_4.toNatClampNeg)]) (rest := [.int v8_3]) (wi := ([] : va_W)) hF hK k0_P (k0_D (A := A)) (c_X4_setOf l G (va v8_4.toNatClampNeg) q807 hc808 H.size) ⟨va_cnB 1 hts gX3_valuesOfEntriesOf_X4_setOf_n67 rfl rfl rfl (nw_RX3_67 hK) (hts _ w2_X3_valuesOfEntriesOf) (by decide +kernel) ⟨Nat.le_of_ble_eq_true rfl, Nat.le_of_ble_eq_true rfl⟩, hts _ w5_X3_valuesOfEntriesOf, trivial⟩ rfl hl.1 rfl (Nat.le_of_ble_eq_true rfl) dX3_valuesOfEntriesOf_41 ⟨Nat.le_of_ble_eq_true rfl, Nat.le_of_ble_eq_true rfl⟩) hP hS hA (fun H locs hP hS => ?_)
          refine lv_ior hx hb dX3_valuesOfEntriesOf_44 ?_
          refine lv_istore_n (lv' := [(3, .int (v8_3 ||| q807)), (0, .ref (a 0)), (1, .int u8_1), (2, .int u8_2), (4, .int v8_4)]) hx hb dX3_valuesOfEntriesOf_45 rfl hl (by decide) rfl (fun ls hl => ?_)
          refine lv_iinc (v := (v8_4 + 1)) (lv' := [(4, .int (v8_4 + 1)), (3, .int (v8_3 ||| q807)), (0, .ref (a 0)), (1, .int u8_1), (2, .int u8_2)]) hx hb dX3_valuesOfEntriesOf_46 hl (k := 4) rfl rfl (by decide) rfl (fun ls hl => ?_)
          refine lv_goto (tgt := 8) hx hb dX3_valuesOfEntriesOf_49 (by decide) ?_
          exact ih8 (v8_3 ||| q807) (v8_4 + 1) hm _ _ _ hP hD hS (lv_sub hl [2, 3, 4, 1, 0] rfl)
  exact L8 p1 p2 N 0 (p1 * 6) hm _ _ _ hP hD hS (lv_sub hl [2, 3, 4, 1, 0] rfl)
def M_X3_valuesOfEntries_L5 (N : Nat) (u5_1 : Int32) (u5_2 : Int32) (ke : Nat → Int32) (va : Nat → Int32) : Nat → (Int32) → (Int32) → Option (Int32)
  | 0, _, _ => none
  | n5 + 1, v5_3, v5_4 => if 24 ≤ v5_4 then (some v5_3) else ((M_X4_contains u5_1 v5_4).bind fun q502 => if q502 = 0 then (M_X3_valuesOfEntries_L5 N u5_1 u5_2 ke va n5 v5_3 (v5_4 + 1)) else ((M_X3_valuesOfEntriesOf N ke va v5_4 u5_2).bind fun q505 => M_X3_valuesOfEntries_L5 N u5_1 u5_2 ke va n5 (v5_3 ||| q505) (v5_4 + 1)))
def M_X3_valuesOfEntries (N : Nat) (ke : Nat → Int32) (va : Nat → Int32) (p1 : Int32) (p2 : Int32) : Option (Int32) :=
  M_X3_valuesOfEntries_L5 N p1 p2 ke va N 0 0
theorem w0_X3_valuesOfEntries : Cond.initialized RX4 ∈ wsX3_valuesOfEntries := by decide +kernel
theorem w1_X3_valuesOfEntries : Cond.static yX4_contains ∈ wsX3_valuesOfEntries := by decide +kernel
abbrev rm_X3_valuesOfEntries : Room := { frames := 3, cells := 0, slots := 0, locals := 65 }
set_option maxHeartbeats 4000000 in
set_option maxRecDepth 100000 in
theorem c_X3_valuesOfEntries (l : Launch) (G : GG) (N : Nat) (a : Nat → Nat) (ki : Nat → Int32) (fi : Nat → Int32) (ke : Nat → Int32) (va : Nat → Int32) (ta : Nat → Int32) (ro : Nat → Int32) (qu : Nat → Int32) (nsz : Int32) (fin : Int32) (rnd : Int32) (p1 : Int32) (p2 : Int32) (q : Int32) (hm : M_X3_valuesOfEntries N ke va p1 p2 = some q) : CTi l yX3_valuesOfEntries wsX3_valuesOfEntries rm_X3_valuesOfEntries G [.ref (a 0), .int p1, .int p2] (wST G.2.1 a ki fi ke va ta ro qu nsz fin rnd) q (wST G.2.1 a ki fi ke va ta ro qu nsz fin rnd) := by
  intro sz
  refine mk_body (Qc := fun A => (QI G A q (wST G.2.1 a ki fi ke va ta ro qu nsz fin rnd))) (cc := cX3_valuesOfEntries) (maxL := 5) (ret := (some .int)) (lv := [(0, .ref (a 0)), (1, .int p1), (2, .int p2)]) (by decide) rfl rfl (Nat.le_of_ble_eq_true rfl) ?_
  intro p e s m args below meth c A H locs ls hF hr hlocks hname hK hA hP hD hS hl
  obtain ⟨hx, hb, hml, hown, hts⟩ := id hF
  unfold M_X3_valuesOfEntries at hm
  refine lv_iconst (v := 0) hx hb dX3_valuesOfEntries_0 (by decide) ?_
  refine lv_istore_n (lv' := [(3, .int 0), (0, .ref (a 0)), (1, .int p1), (2, .int p2)]) hx hb dX3_valuesOfEntries_1 rfl hl (by decide) rfl (fun ls hl => ?_)
  refine lv_iconst (v := 0) hx hb dX3_valuesOfEntries_2 (by decide) ?_
  refine lv_istore (lv' := [(4, .int 0), (3, .int 0), (0, .ref (a 0)), (1, .int p1), (2, .int p2)]) hx hb dX3_valuesOfEntries_3 hl (by decide) rfl (fun ls hl => ?_)
  have L5 : ∀ (u5_1 : Int32) (u5_2 : Int32) (n5 : Nat) (v5_3 : Int32) (v5_4 : Int32), M_X3_valuesOfEntries_L5 N u5_1 u5_2 ke va n5 v5_3 v5_4 = some q → ∀ (H : Heap) (locs : List Loc) (ls : Array Slot), va_P G.1 vwCl (wST G.2.1 a ki fi ke va ta ro qu nsz fin rnd) H → va_D A (wST G.2.1 a ki fi ke va ta ro qu nsz fin rnd) → va_S A s.heap H locs → lv_has ls 5 [(0, .ref (a 0)), (1, .int u5_1), (2, .int u5_2), (3, .int v5_3), (4, .int v5_4)] → W p l e rm_X3_valuesOfEntries s m args below meth c H locs 0 0 (MQ below (QI G A q (wST G.2.1 a ki fi ke va ta ro qu nsz fin rnd)) args s rm_X3_valuesOfEntries.cells rm_X3_valuesOfEntries.slots A) (F0 m 5 ls []) := by
    intro u5_1 u5_2 n5
    induction n5 with
    | zero => intro v5_3 v5_4 hm; cases hm
    | succ n5 ih5 =>
      intro v5_3 v5_4 hm H locs ls hP hD hS hl
      rw [M_X3_valuesOfEntries_L5] at hm
      refine lv_iload hx hb dX3_valuesOfEntries_5 (lv_at hl 4 rfl) ?_
      refine lv_bipush (v := 24) hx hb dX3_valuesOfEntries_7 (by decide) ?_
      refine lv_icmp_ge (tgt := 37) hx hb dX3_valuesOfEntries_9 (by decide) (fun c501 => ?_) (fun c501 => ?_)
      · replace hm := it_t c501 hm
        refine lv_iload_n hx hb dX3_valuesOfEntries_37 rfl (lv_at hl 3 rfl) ?_
        cases hm
        exact rt_i hx hb hr hlocks hP hD hS dX3_valuesOfEntries_38
      · replace hm := it_f c501 hm
        refine lv_iload_n hx hb dX3_valuesOfEntries_12 rfl (lv_at hl 1 rfl) ?_
        refine lv_iload hx hb dX3_valuesOfEntries_13 (lv_at hl 4 rfl) ?_
        obtain ⟨q502, hc503, hm⟩ := bd_s hm
        refine k0_i (ws := (wST G.2.1 a ki fi ke va ta ro qu nsz fin rnd)) (rSN (As := [.int u5_1, .int v5_4]) (rest := []) (wi := ([] : va_W)) hF hK k0_P (k0_D (A := A)) (c_X4_contains l G u5_1 v5_4 q502 hc503 H.size) ⟨va_cnB 2 hts gX3_valuesOfEntries_X4_contains_n71 rfl rfl rfl (nw_RX3_71 hK) (hts _ w0_X3_valuesOfEntries) (by decide +kernel) ⟨Nat.le_of_ble_eq_true rfl, Nat.le_of_ble_eq_true rfl⟩, hts _ w1_X3_valuesOfEntries, trivial⟩ rfl hl.1 rfl (Nat.le_of_ble_eq_true rfl) dX3_valuesOfEntries_15 ⟨Nat.le_of_ble_eq_true rfl, Nat.le_of_ble_eq_true rfl⟩) hP hS hA (fun H locs hP hS => ?_)
        refine lv_if_eq (tgt := 31) hx hb dX3_valuesOfEntries_18 (by decide) (fun c504 => ?_) (fun c504 => ?_)
        · replace hm := it_t c504 hm
          refine lv_iinc (v := (v5_4 + 1)) (lv' := [(4, .int (v5_4 + 1)), (0, .ref (a 0)), (1, .int u5_1), (2, .int u5_2), (3, .int v5_3)]) hx hb dX3_valuesOfEntries_31 hl (k := 4) rfl rfl (by decide) rfl (fun ls hl => ?_)
          refine lv_goto (tgt := 5) hx hb dX3_valuesOfEntries_34 (by decide) ?_
          exact ih5 v5_3 (v5_4 + 1) hm _ _ _ hP hD hS (lv_sub hl [1, 2, 3, 4, 0] rfl)
        · replace hm := it_f c504 hm
          refine lv_iload_n hx hb dX3_valuesOfEntries_21 rfl (lv_at hl 3 rfl) ?_
          refine lv_aload_n hx hb dX3_valuesOfEntries_22 rfl (lv_at hl 0 rfl) ?_
          refine lv_iload hx hb dX3_valuesOfEntries_23 (lv_at hl 4 rfl) ?_
          refine lv_iload_n hx hb dX3_valuesOfEntries_25 rfl (lv_at hl 2 rfl) ?_
          obtain ⟨q505, hc506, hm⟩ := bd_s hm
          refine ks_i (wo := (wST G.2.1 a ki fi ke va ta ro qu nsz fin rnd)) (rV (As := [.int v5_4, .int u5_2]) (rest := [.int v5_3]) (b := (a 0)) (wi := (wST G.2.1 a ki fi ke va ta ro qu nsz fin rnd)) hF hK hP hD (c_X3_valuesOfEntriesOf l G N a ki fi ke va ta ro qu nsz fin rnd v5_4 u5_2 q505 hc506 H.size) (cwV 2 hts gX3_valuesOfEntries_X3_valuesOfEntriesOf rfl rfl rfl (by decide +kernel) ⟨Nat.le_of_ble_eq_true rfl, Nat.le_of_ble_eq_true rfl⟩) (va_recv hK.1 hP (ci := 3) (q0 := 0) rfl rfl) rfl hl.1 rfl (Nat.le_of_ble_eq_true rfl) dX3_valuesOfEntries_26 ⟨Nat.le_of_ble_eq_true rfl, Nat.le_of_ble_eq_true rfl⟩) hD hS hA (fun H locs hP hD hS => ?_)
          have hP : va_P G.1 vwCl (wST G.2.1 a ki fi ke va ta ro qu nsz fin rnd) H := hP
          have hD : va_D A (wST G.2.1 a ki fi ke va ta ro qu nsz fin rnd) := hD
          refine lv_ior hx hb dX3_valuesOfEntries_29 ?_
          refine lv_istore_n (lv' := [(3, .int (v5_3 ||| q505)), (0, .ref (a 0)), (1, .int u5_1), (2, .int u5_2), (4, .int v5_4)]) hx hb dX3_valuesOfEntries_30 rfl hl (by decide) rfl (fun ls hl => ?_)
          refine lv_iinc (v := (v5_4 + 1)) (lv' := [(4, .int (v5_4 + 1)), (3, .int (v5_3 ||| q505)), (0, .ref (a 0)), (1, .int u5_1), (2, .int u5_2)]) hx hb dX3_valuesOfEntries_31 hl (k := 4) rfl rfl (by decide) rfl (fun ls hl => ?_)
          refine lv_goto (tgt := 5) hx hb dX3_valuesOfEntries_34 (by decide) ?_
          exact ih5 (v5_3 ||| q505) (v5_4 + 1) hm _ _ _ hP hD hS (lv_sub hl [2, 3, 4, 1, 0] rfl)
  exact L5 p1 p2 N 0 0 hm _ _ _ hP hD hS (lv_sub hl [2, 3, 4, 1, 0] rfl)
def M_X3_placeOfKey_L17 (u17_1 : Int32) (u17_2 : Int32) (ke : Nat → Int32) : Nat → (Int32) → Option (Int32)
  | 0, _ => none
  | n17 + 1, v17_3 => if ((u17_1 + 1) * 6) ≤ v17_3 then (some (-9)) else (gd v17_3 144 (if (ke v17_3.toNatClampNeg) = u17_2 then (some v17_3) else (M_X3_placeOfKey_L17 u17_1 u17_2 ke n17 (v17_3 + 1))))
def M_X3_placeOfKey (N : Nat) (ke : Nat → Int32) (p1 : Int32) (p2 : Int32) : Option (Int32) :=
  (M_X4_within p1 24).bind fun q1 => if q1 = 0 then (some (-9)) else (M_X3_placeOfKey_L17 p1 p2 ke N (p1 * 6))
theorem w0_X3_placeOfKey : Cond.initialized RX4 ∈ wsX3_placeOfKey := by decide +kernel
theorem w1_X3_placeOfKey : Cond.static yX4_within ∈ wsX3_placeOfKey := by decide +kernel
theorem w2_X3_placeOfKey : Cond.fieldLink RX3 22 "WeakTableHeap$State" "keys" "[I" ∈ wsX3_placeOfKey := by decide +kernel
theorem w3_X3_placeOfKey : ∀ w ∈ u_ws RX3 TX3 9, w ∈ wsX3_placeOfKey := by decide +kernel
abbrev rm_X3_placeOfKey : Room := { frames := 1, cells := 0, slots := 0, locals := 21 }
set_option maxHeartbeats 4000000 in
set_option maxRecDepth 100000 in
theorem c_X3_placeOfKey (l : Launch) (G : GG) (N : Nat) (a : Nat → Nat) (ki : Nat → Int32) (fi : Nat → Int32) (ke : Nat → Int32) (va : Nat → Int32) (ta : Nat → Int32) (ro : Nat → Int32) (qu : Nat → Int32) (nsz : Int32) (fin : Int32) (rnd : Int32) (p1 : Int32) (p2 : Int32) (q : Int32) (hm : M_X3_placeOfKey N ke p1 p2 = some q) : CTi l yX3_placeOfKey wsX3_placeOfKey rm_X3_placeOfKey G [.ref (a 0), .int p1, .int p2] (wST G.2.1 a ki fi ke va ta ro qu nsz fin rnd) q (wST G.2.1 a ki fi ke va ta ro qu nsz fin rnd) := by
  intro sz
  refine mk_body (Qc := fun A => (QI G A q (wST G.2.1 a ki fi ke va ta ro qu nsz fin rnd))) (cc := cX3_placeOfKey) (maxL := 4) (ret := (some .int)) (lv := [(0, .ref (a 0)), (1, .int p1), (2, .int p2)]) (by decide) rfl rfl (Nat.le_of_ble_eq_true rfl) ?_
  intro p e s m args below meth c A H locs ls hF hr hlocks hname hK hA hP hD hS hl
  obtain ⟨hx, hb, hml, hown, hts⟩ := id hF
  unfold M_X3_placeOfKey at hm
  refine lv_iload_n hx hb dX3_placeOfKey_0 rfl (lv_at hl 1 rfl) ?_
  refine lv_bipush (v := 24) hx hb dX3_placeOfKey_1 (by decide) ?_
  obtain ⟨q1, hc2, hm⟩ := bd_s hm
  refine k0_i (ws := (wST G.2.1 a ki fi ke va ta ro qu nsz fin rnd)) (rSN (As := [.int p1, .int 24]) (rest := []) (wi := ([] : va_W)) hF hK k0_P (k0_D (A := A)) (c_X4_within l G p1 24 q1 hc2 H.size) ⟨va_cnB 2 hts gX3_placeOfKey_X4_within_n56 rfl rfl rfl (nw_RX3_56 hK) (hts _ w0_X3_placeOfKey) (by decide +kernel) ⟨Nat.le_of_ble_eq_true rfl, Nat.le_of_ble_eq_true rfl⟩, hts _ w1_X3_placeOfKey, trivial⟩ rfl hl.1 rfl (Nat.le_of_ble_eq_true rfl) dX3_placeOfKey_3 ⟨Nat.le_of_ble_eq_true rfl, Nat.le_of_ble_eq_true rfl⟩) hP hS hA (fun H locs hP hS => ?_)
  refine lv_if_ne (tgt := 12) hx hb dX3_placeOfKey_6 (by decide) (fun c3 => ?_) (fun c3 => ?_)
  · replace hm := it_f c3 hm
    refine lv_iload_n hx hb dX3_placeOfKey_12 rfl (lv_at hl 1 rfl) ?_
    refine lv_bipush (v := 6) hx hb dX3_placeOfKey_13 (by decide) ?_
    refine lv_imul hx hb dX3_placeOfKey_15 ?_
    refine lv_istore_n (lv' := [(3, .int (p1 * 6)), (0, .ref (a 0)), (1, .int p1), (2, .int p2)]) hx hb dX3_placeOfKey_16 rfl hl (by decide) rfl (fun ls hl => ?_)
    have L17 : ∀ (u17_1 : Int32) (u17_2 : Int32) (n17 : Nat) (v17_3 : Int32), M_X3_placeOfKey_L17 u17_1 u17_2 ke n17 v17_3 = some q → ∀ (H : Heap) (locs : List Loc) (ls : Array Slot), va_P G.1 vwCl (wST G.2.1 a ki fi ke va ta ro qu nsz fin rnd) H → va_D A (wST G.2.1 a ki fi ke va ta ro qu nsz fin rnd) → va_S A s.heap H locs → lv_has ls 4 [(0, .ref (a 0)), (1, .int u17_1), (2, .int u17_2), (3, .int v17_3)] → W p l e rm_X3_placeOfKey s m args below meth c H locs 0 0 (MQ below (QI G A q (wST G.2.1 a ki fi ke va ta ro qu nsz fin rnd)) args s rm_X3_placeOfKey.cells rm_X3_placeOfKey.slots A) (F0 m 17 ls []) := by
      intro u17_1 u17_2 n17
      induction n17 with
      | zero => intro v17_3 hm; cases hm
      | succ n17 ih17 =>
        intro v17_3 hm H locs ls hP hD hS hl
        rw [M_X3_placeOfKey_L17] at hm
        refine lv_iload_n hx hb dX3_placeOfKey_17 rfl (lv_at hl 3 rfl) ?_
        refine lv_iload_n hx hb dX3_placeOfKey_18 rfl (lv_at hl 1 rfl) ?_
        refine lv_iconst (v := 1) hx hb dX3_placeOfKey_19 (by decide) ?_
        refine lv_iadd hx hb dX3_placeOfKey_20 ?_
        refine lv_bipush (v := 6) hx hb dX3_placeOfKey_21 (by decide) ?_
        refine lv_imul hx hb dX3_placeOfKey_23 ?_
        refine lv_icmp_ge (tgt := 45) hx hb dX3_placeOfKey_24 (by decide) (fun c1701 => ?_) (fun c1701 => ?_)
        · replace hm := it_t c1701 hm
          refine lv_bipush (v := (-9)) hx hb dX3_placeOfKey_45 (by decide) ?_
          cases hm
          exact rt_i hx hb hr hlocks hP hD hS dX3_placeOfKey_47
        · replace hm := it_f c1701 hm
          refine lv_aload_n hx hb dX3_placeOfKey_27 rfl (lv_at hl 0 rfl) ?_
          refine va_get (D := G.1) (ci := 3) (v := .ref (a 3)) (C := RX3) (T := TX3) (N := 9) hx hb hts w3_X3_placeOfKey hown hK.1 hP 0 rfl rfl 2 (by decide) (hts _ w2_X3_placeOfKey) (fun _ h9 => h9) rfl dX3_placeOfKey_28 ?_
          refine lv_iload_n hx hb dX3_placeOfKey_31 rfl (lv_at hl 3 rfl) ?_
          obtain ⟨hi1702, hm⟩ := gd_s hm
          refine va_iald hx hb hK.1 hP 3 0 rfl rfl hi1702 dX3_placeOfKey_32 ?_
          refine lv_iload_n hx hb dX3_placeOfKey_33 rfl (lv_at hl 2 rfl) ?_
          refine lv_icmp_ne (tgt := 39) hx hb dX3_placeOfKey_34 (by decide) (fun c1703 => ?_) (fun c1703 => ?_)
          · replace hm := it_f c1703 hm
            refine lv_iinc (v := (v17_3 + 1)) (lv' := [(3, .int (v17_3 + 1)), (0, .ref (a 0)), (1, .int u17_1), (2, .int u17_2)]) hx hb dX3_placeOfKey_39 hl (k := 3) rfl rfl (by decide) rfl (fun ls hl => ?_)
            refine lv_goto (tgt := 17) hx hb dX3_placeOfKey_42 (by decide) ?_
            exact ih17 (v17_3 + 1) hm _ _ _ hP hD hS (lv_sub hl [1, 2, 3, 0] rfl)
          · replace hm := it_t c1703 hm
            refine lv_iload_n hx hb dX3_placeOfKey_37 rfl (lv_at hl 3 rfl) ?_
            cases hm
            exact rt_i hx hb hr hlocks hP hD hS dX3_placeOfKey_38
    exact L17 p1 p2 N (p1 * 6) hm _ _ _ hP hD hS (lv_sub hl [1, 2, 3, 0] rfl)
  · replace hm := it_t c3 hm
    refine lv_bipush (v := (-9)) hx hb dX3_placeOfKey_9 (by decide) ?_
    cases hm
    exact rt_i hx hb hr hlocks hP hD hS dX3_placeOfKey_11
def M_X3_tablesWithKey_L5 (N : Nat) (u5_1 : Int32) (u5_2 : Int32) (ke : Nat → Int32) : Nat → (Int32) → (Int32) → Option (Int32)
  | 0, _, _ => none
  | n5 + 1, v5_3, v5_4 => if 24 ≤ v5_4 then (some v5_3) else ((M_X4_contains u5_1 v5_4).bind fun q502 => if q502 = 0 then (M_X3_tablesWithKey_L5 N u5_1 u5_2 ke n5 v5_3 (v5_4 + 1)) else ((M_X3_placeOfKey N ke v5_4 u5_2).bind fun q505 => if q505 = (-9) then (M_X3_tablesWithKey_L5 N u5_1 u5_2 ke n5 v5_3 (v5_4 + 1)) else (M_X3_tablesWithKey_L5 N u5_1 u5_2 ke n5 (v5_3 + 1) (v5_4 + 1))))
def M_X3_tablesWithKey (N : Nat) (ke : Nat → Int32) (p1 : Int32) (p2 : Int32) : Option (Int32) :=
  M_X3_tablesWithKey_L5 N p1 p2 ke N 0 0
theorem w0_X3_tablesWithKey : Cond.initialized RX4 ∈ wsX3_tablesWithKey := by decide +kernel
theorem w1_X3_tablesWithKey : Cond.static yX4_contains ∈ wsX3_tablesWithKey := by decide +kernel
abbrev rm_X3_tablesWithKey : Room := { frames := 2, cells := 0, slots := 0, locals := 44 }
set_option maxHeartbeats 4000000 in
set_option maxRecDepth 100000 in
theorem c_X3_tablesWithKey (l : Launch) (G : GG) (N : Nat) (a : Nat → Nat) (ki : Nat → Int32) (fi : Nat → Int32) (ke : Nat → Int32) (va : Nat → Int32) (ta : Nat → Int32) (ro : Nat → Int32) (qu : Nat → Int32) (nsz : Int32) (fin : Int32) (rnd : Int32) (p1 : Int32) (p2 : Int32) (q : Int32) (hm : M_X3_tablesWithKey N ke p1 p2 = some q) : CTi l yX3_tablesWithKey wsX3_tablesWithKey rm_X3_tablesWithKey G [.ref (a 0), .int p1, .int p2] (wST G.2.1 a ki fi ke va ta ro qu nsz fin rnd) q (wST G.2.1 a ki fi ke va ta ro qu nsz fin rnd) := by
  intro sz
  refine mk_body (Qc := fun A => (QI G A q (wST G.2.1 a ki fi ke va ta ro qu nsz fin rnd))) (cc := cX3_tablesWithKey) (maxL := 5) (ret := (some .int)) (lv := [(0, .ref (a 0)), (1, .int p1), (2, .int p2)]) (by decide) rfl rfl (Nat.le_of_ble_eq_true rfl) ?_
  intro p e s m args below meth c A H locs ls hF hr hlocks hname hK hA hP hD hS hl
  obtain ⟨hx, hb, hml, hown, hts⟩ := id hF
  unfold M_X3_tablesWithKey at hm
  refine lv_iconst (v := 0) hx hb dX3_tablesWithKey_0 (by decide) ?_
  refine lv_istore_n (lv' := [(3, .int 0), (0, .ref (a 0)), (1, .int p1), (2, .int p2)]) hx hb dX3_tablesWithKey_1 rfl hl (by decide) rfl (fun ls hl => ?_)
  refine lv_iconst (v := 0) hx hb dX3_tablesWithKey_2 (by decide) ?_
  refine lv_istore (lv' := [(4, .int 0), (3, .int 0), (0, .ref (a 0)), (1, .int p1), (2, .int p2)]) hx hb dX3_tablesWithKey_3 hl (by decide) rfl (fun ls hl => ?_)
  have L5 : ∀ (u5_1 : Int32) (u5_2 : Int32) (n5 : Nat) (v5_3 : Int32) (v5_4 : Int32), M_X3_tablesWithKey_L5 N u5_1 u5_2 ke n5 v5_3 v5_4 = some q → ∀ (H : Heap) (locs : List Loc) (ls : Array Slot), va_P G.1 vwCl (wST G.2.1 a ki fi ke va ta ro qu nsz fin rnd) H → va_D A (wST G.2.1 a ki fi ke va ta ro qu nsz fin rnd) → va_S A s.heap H locs → lv_has ls 5 [(0, .ref (a 0)), (1, .int u5_1), (2, .int u5_2), (3, .int v5_3), (4, .int v5_4)] → W p l e rm_X3_tablesWithKey s m args below meth c H locs 0 0 (MQ below (QI G A q (wST G.2.1 a ki fi ke va ta ro qu nsz fin rnd)) args s rm_X3_tablesWithKey.cells rm_X3_tablesWithKey.slots A) (F0 m 5 ls []) := by
    intro u5_1 u5_2 n5
    induction n5 with
    | zero => intro v5_3 v5_4 hm; cases hm
    | succ n5 ih5 =>
      intro v5_3 v5_4 hm H locs ls hP hD hS hl
      rw [M_X3_tablesWithKey_L5] at hm
      refine lv_iload hx hb dX3_tablesWithKey_5 (lv_at hl 4 rfl) ?_
      refine lv_bipush (v := 24) hx hb dX3_tablesWithKey_7 (by decide) ?_
      refine lv_icmp_ge (tgt := 42) hx hb dX3_tablesWithKey_9 (by decide) (fun c501 => ?_) (fun c501 => ?_)
      · replace hm := it_t c501 hm
        refine lv_iload_n hx hb dX3_tablesWithKey_42 rfl (lv_at hl 3 rfl) ?_
        cases hm
        exact rt_i hx hb hr hlocks hP hD hS dX3_tablesWithKey_43
      · replace hm := it_f c501 hm
        refine lv_iload_n hx hb dX3_tablesWithKey_12 rfl (lv_at hl 1 rfl) ?_
        refine lv_iload hx hb dX3_tablesWithKey_13 (lv_at hl 4 rfl) ?_
        obtain ⟨q502, hc503, hm⟩ := bd_s hm
        refine k0_i (ws := (wST G.2.1 a ki fi ke va ta ro qu nsz fin rnd)) (rSN (As := [.int u5_1, .int v5_4]) (rest := []) (wi := ([] : va_W)) hF hK k0_P (k0_D (A := A)) (c_X4_contains l G u5_1 v5_4 q502 hc503 H.size) ⟨va_cnB 2 hts gX3_tablesWithKey_X4_contains_n71 rfl rfl rfl (nw_RX3_71 hK) (hts _ w0_X3_tablesWithKey) (by decide +kernel) ⟨Nat.le_of_ble_eq_true rfl, Nat.le_of_ble_eq_true rfl⟩, hts _ w1_X3_tablesWithKey, trivial⟩ rfl hl.1 rfl (Nat.le_of_ble_eq_true rfl) dX3_tablesWithKey_15 ⟨Nat.le_of_ble_eq_true rfl, Nat.le_of_ble_eq_true rfl⟩) hP hS hA (fun H locs hP hS => ?_)
        refine lv_if_eq (tgt := 36) hx hb dX3_tablesWithKey_18 (by decide) (fun c504 => ?_) (fun c504 => ?_)
        · replace hm := it_t c504 hm
          refine lv_iinc (v := (v5_4 + 1)) (lv' := [(4, .int (v5_4 + 1)), (0, .ref (a 0)), (1, .int u5_1), (2, .int u5_2), (3, .int v5_3)]) hx hb dX3_tablesWithKey_36 hl (k := 4) rfl rfl (by decide) rfl (fun ls hl => ?_)
          refine lv_goto (tgt := 5) hx hb dX3_tablesWithKey_39 (by decide) ?_
          exact ih5 v5_3 (v5_4 + 1) hm _ _ _ hP hD hS (lv_sub hl [1, 2, 3, 4, 0] rfl)
        · replace hm := it_f c504 hm
          refine lv_aload_n hx hb dX3_tablesWithKey_21 rfl (lv_at hl 0 rfl) ?_
          refine lv_iload hx hb dX3_tablesWithKey_22 (lv_at hl 4 rfl) ?_
          refine lv_iload_n hx hb dX3_tablesWithKey_24 rfl (lv_at hl 2 rfl) ?_
          obtain ⟨q505, hc506, hm⟩ := bd_s hm
          refine ks_i (wo := (wST G.2.1 a ki fi ke va ta ro qu nsz fin rnd)) (rV (As := [.int v5_4, .int u5_2]) (rest := []) (b := (a 0)) (wi := (wST G.2.1 a ki fi ke va ta ro qu nsz fin rnd)) hF hK hP hD (c_X3_placeOfKey l G N a ki fi ke va ta ro qu nsz fin rnd v5_4 u5_2 q505 hc506 H.size) (cwV 2 hts gX3_tablesWithKey_X3_placeOfKey rfl rfl rfl (by decide +kernel) ⟨Nat.le_of_ble_eq_true rfl, Nat.le_of_ble_eq_true rfl⟩) (va_recv hK.1 hP (ci := 3) (q0 := 0) rfl rfl) rfl hl.1 rfl (Nat.le_of_ble_eq_true rfl) dX3_tablesWithKey_25 ⟨Nat.le_of_ble_eq_true rfl, Nat.le_of_ble_eq_true rfl⟩) hD hS hA (fun H locs hP hD hS => ?_)
          have hP : va_P G.1 vwCl (wST G.2.1 a ki fi ke va ta ro qu nsz fin rnd) H := hP
          have hD : va_D A (wST G.2.1 a ki fi ke va ta ro qu nsz fin rnd) := hD
          refine lv_bipush (v := (-9)) hx hb dX3_tablesWithKey_28 (by decide) ?_
          refine lv_icmp_eq (tgt := 36) hx hb dX3_tablesWithKey_30 (by decide) (fun c507 => ?_) (fun c507 => ?_)
          · replace hm := it_t c507 hm
            refine lv_iinc (v := (v5_4 + 1)) (lv' := [(4, .int (v5_4 + 1)), (0, .ref (a 0)), (1, .int u5_1), (2, .int u5_2), (3, .int v5_3)]) hx hb dX3_tablesWithKey_36 hl (k := 4) rfl rfl (by decide) rfl (fun ls hl => ?_)
            refine lv_goto (tgt := 5) hx hb dX3_tablesWithKey_39 (by decide) ?_
            exact ih5 v5_3 (v5_4 + 1) hm _ _ _ hP hD hS (lv_sub hl [1, 2, 3, 4, 0] rfl)
          · replace hm := it_f c507 hm
            refine lv_iinc (v := (v5_3 + 1)) (lv' := [(3, .int (v5_3 + 1)), (0, .ref (a 0)), (1, .int u5_1), (2, .int u5_2), (4, .int v5_4)]) hx hb dX3_tablesWithKey_33 hl (k := 3) rfl rfl (by decide) rfl (fun ls hl => ?_)
            refine lv_iinc (v := (v5_4 + 1)) (lv' := [(4, .int (v5_4 + 1)), (3, .int (v5_3 + 1)), (0, .ref (a 0)), (1, .int u5_1), (2, .int u5_2)]) hx hb dX3_tablesWithKey_36 hl (k := 4) rfl rfl (by decide) rfl (fun ls hl => ?_)
            refine lv_goto (tgt := 5) hx hb dX3_tablesWithKey_39 (by decide) ?_
            exact ih5 (v5_3 + 1) (v5_4 + 1) hm _ _ _ hP hD hS (lv_sub hl [2, 3, 4, 1, 0] rfl)
  exact L5 p1 p2 N 0 0 hm _ _ _ hP hD hS (lv_sub hl [2, 3, 4, 1, 0] rfl)
