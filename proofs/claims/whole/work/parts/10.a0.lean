def M_X4_within (p0 : Int32) (p1 : Int32) : Option (Int32) :=
  if p0 < 0 then (some 0) else (if p1 ≤ p0 then (some 0) else (some 1))
abbrev rm_X4_within : Room := { frames := 0, cells := 0, slots := 0, locals := 0 }
set_option maxHeartbeats 4000000 in
set_option maxRecDepth 100000 in
theorem c_X4_within (l : Launch) (G : GG) (p0 : Int32) (p1 : Int32) (q : Int32) (hm : M_X4_within p0 p1 = some q) : CTi l yX4_within wsX4_within rm_X4_within G [.int p0, .int p1] ([] : va_W) q ([] : va_W) := by
  intro sz
  refine mk_body (Qc := fun A => (QI G A q ([] : va_W))) (cc := cX4_within) (maxL := 2) (ret := (some .boolean)) (lv := [(0, .int p0), (1, .int p1)]) (by decide) rfl rfl (Nat.le_of_ble_eq_true rfl) ?_
  intro p e s m args below meth c A H locs ls hF hr hlocks hname hK hA hP hD hS hl
  obtain ⟨hx, hb, hml, hown, hts⟩ := id hF
  unfold M_X4_within at hm
  refine lv_iload_n hx hb dX4_within_0 rfl (lv_at hl 0 rfl) ?_
  refine lv_if_lt (tgt := 13) hx hb dX4_within_1 (by decide) (fun c1 => ?_) (fun c1 => ?_)
  · replace hm := it_t c1 hm
    refine lv_iconst (v := 0) hx hb dX4_within_13 (by decide) ?_
    cases hm
    exact rt_z (r := 0) hx hb hr hlocks rfl hP hD hS dX4_within_14
  · replace hm := it_f c1 hm
    refine lv_iload_n hx hb dX4_within_4 rfl (lv_at hl 0 rfl) ?_
    refine lv_iload_n hx hb dX4_within_5 rfl (lv_at hl 1 rfl) ?_
    refine lv_icmp_ge (tgt := 13) hx hb dX4_within_6 (by decide) (fun c2 => ?_) (fun c2 => ?_)
    · replace hm := it_t c2 hm
      refine lv_iconst (v := 0) hx hb dX4_within_13 (by decide) ?_
      cases hm
      exact rt_z (r := 0) hx hb hr hlocks rfl hP hD hS dX4_within_14
    · replace hm := it_f c2 hm
      refine lv_iconst (v := 1) hx hb dX4_within_9 (by decide) ?_
      refine lv_goto (tgt := 14) hx hb dX4_within_10 (by decide) ?_
      cases hm
      exact rt_z (r := 1) hx hb hr hlocks rfl hP hD hS dX4_within_14
def M_X4_setOf (p0 : Int32) : Option (Int32) :=
  if p0 < 0 then (some 0) else (if 24 ≤ p0 then (some 0) else (some (1 <<< (p0 &&& 31))))
abbrev rm_X4_setOf : Room := { frames := 0, cells := 0, slots := 0, locals := 0 }
set_option maxHeartbeats 4000000 in
set_option maxRecDepth 100000 in
theorem c_X4_setOf (l : Launch) (G : GG) (p0 : Int32) (q : Int32) (hm : M_X4_setOf p0 = some q) : CTi l yX4_setOf wsX4_setOf rm_X4_setOf G [.int p0] ([] : va_W) q ([] : va_W) := by
  intro sz
  refine mk_body (Qc := fun A => (QI G A q ([] : va_W))) (cc := cX4_setOf) (maxL := 1) (ret := (some .int)) (lv := [(0, .int p0)]) (by decide) rfl rfl (Nat.le_of_ble_eq_true rfl) ?_
  intro p e s m args below meth c A H locs ls hF hr hlocks hname hK hA hP hD hS hl
  obtain ⟨hx, hb, hml, hown, hts⟩ := id hF
  unfold M_X4_setOf at hm
  refine lv_iload_n hx hb dX4_setOf_0 rfl (lv_at hl 0 rfl) ?_
  refine lv_if_lt (tgt := 16) hx hb dX4_setOf_1 (by decide) (fun c1 => ?_) (fun c1 => ?_)
  · replace hm := it_t c1 hm
    refine lv_iconst (v := 0) hx hb dX4_setOf_16 (by decide) ?_
    cases hm
    exact rt_i hx hb hr hlocks hP hD hS dX4_setOf_17
  · replace hm := it_f c1 hm
    refine lv_iload_n hx hb dX4_setOf_4 rfl (lv_at hl 0 rfl) ?_
    refine lv_bipush (v := 24) hx hb dX4_setOf_5 (by decide) ?_
    refine lv_icmp_ge (tgt := 16) hx hb dX4_setOf_7 (by decide) (fun c2 => ?_) (fun c2 => ?_)
    · replace hm := it_t c2 hm
      refine lv_iconst (v := 0) hx hb dX4_setOf_16 (by decide) ?_
      cases hm
      exact rt_i hx hb hr hlocks hP hD hS dX4_setOf_17
    · replace hm := it_f c2 hm
      refine lv_iconst (v := 1) hx hb dX4_setOf_10 (by decide) ?_
      refine lv_iload_n hx hb dX4_setOf_11 rfl (lv_at hl 0 rfl) ?_
      refine lv_ishl hx hb dX4_setOf_12 ?_
      refine lv_goto (tgt := 17) hx hb dX4_setOf_13 (by decide) ?_
      cases hm
      exact rt_i hx hb hr hlocks hP hD hS dX4_setOf_17
def M_X4_contains (p0 : Int32) (p1 : Int32) : Option (Int32) :=
  (M_X4_setOf p1).bind fun q1 => if (p0 &&& q1) = 0 then (some 0) else (some 1)
abbrev rm_X4_contains : Room := { frames := 1, cells := 0, slots := 0, locals := 20 }
set_option maxHeartbeats 4000000 in
set_option maxRecDepth 100000 in
theorem c_X4_contains (l : Launch) (G : GG) (p0 : Int32) (p1 : Int32) (q : Int32) (hm : M_X4_contains p0 p1 = some q) : CTi l yX4_contains wsX4_contains rm_X4_contains G [.int p0, .int p1] ([] : va_W) q ([] : va_W) := by
  intro sz
  refine mk_body (Qc := fun A => (QI G A q ([] : va_W))) (cc := cX4_contains) (maxL := 2) (ret := (some .boolean)) (lv := [(0, .int p0), (1, .int p1)]) (by decide) rfl rfl (Nat.le_of_ble_eq_true rfl) ?_
  intro p e s m args below meth c A H locs ls hF hr hlocks hname hK hA hP hD hS hl
  obtain ⟨hx, hb, hml, hown, hts⟩ := id hF
  unfold M_X4_contains at hm
  refine lv_iload_n hx hb dX4_contains_0 rfl (lv_at hl 0 rfl) ?_
  refine lv_iload_n hx hb dX4_contains_1 rfl (lv_at hl 1 rfl) ?_
  obtain ⟨q1, hc2, hm⟩ := bd_s hm
  refine k0_i (ws := ([] : va_W)) (rS (As := [.int p1]) (rest := [.int p0]) (wi := ([] : va_W)) hF hK k0_P (k0_D (A := A)) (c_X4_setOf l G p1 q1 hc2 H.size) (va_cwS 1 hts gX4_contains_X4_setOf rfl rfl rfl (by decide +kernel) ⟨Nat.le_of_ble_eq_true rfl, Nat.le_of_ble_eq_true rfl⟩) rfl hl.1 rfl (Nat.le_of_ble_eq_true rfl) dX4_contains_2 ⟨Nat.le_of_ble_eq_true rfl, Nat.le_of_ble_eq_true rfl⟩) hP hS hA (fun H locs hP hS => ?_)
  refine lv_iand hx hb dX4_contains_5 ?_
  refine lv_if_eq (tgt := 13) hx hb dX4_contains_6 (by decide) (fun c3 => ?_) (fun c3 => ?_)
  · replace hm := it_t c3 hm
    refine lv_iconst (v := 0) hx hb dX4_contains_13 (by decide) ?_
    cases hm
    exact rt_z (r := 0) hx hb hr hlocks rfl hP hD hS dX4_contains_14
  · replace hm := it_f c3 hm
    refine lv_iconst (v := 1) hx hb dX4_contains_9 (by decide) ?_
    refine lv_goto (tgt := 14) hx hb dX4_contains_10 (by decide) ?_
    cases hm
    exact rt_z (r := 1) hx hb hr hlocks rfl hP hD hS dX4_contains_14
def M_J6_bitCount_0f7a4 (p0 : Int32) : Option (Int32) :=
  some ((((((((p0 - (((p0.toUInt32 >>> ((1 : Int32).toUInt32 &&& Int32.toUInt32 31)).toInt32) &&& 1431655765)) &&& 858993459) + ((((p0 - (((p0.toUInt32 >>> ((1 : Int32).toUInt32 &&& Int32.toUInt32 31)).toInt32) &&& 1431655765)).toUInt32 >>> ((2 : Int32).toUInt32 &&& Int32.toUInt32 31)).toInt32) &&& 858993459)) + (((((p0 - (((p0.toUInt32 >>> ((1 : Int32).toUInt32 &&& Int32.toUInt32 31)).toInt32) &&& 1431655765)) &&& 858993459) + ((((p0 - (((p0.toUInt32 >>> ((1 : Int32).toUInt32 &&& Int32.toUInt32 31)).toInt32) &&& 1431655765)).toUInt32 >>> ((2 : Int32).toUInt32 &&& Int32.toUInt32 31)).toInt32) &&& 858993459)).toUInt32 >>> ((4 : Int32).toUInt32 &&& Int32.toUInt32 31)).toInt32)) &&& 252645135) + (((((((p0 - (((p0.toUInt32 >>> ((1 : Int32).toUInt32 &&& Int32.toUInt32 31)).toInt32) &&& 1431655765)) &&& 858993459) + ((((p0 - (((p0.toUInt32 >>> ((1 : Int32).toUInt32 &&& Int32.toUInt32 31)).toInt32) &&& 1431655765)).toUInt32 >>> ((2 : Int32).toUInt32 &&& Int32.toUInt32 31)).toInt32) &&& 858993459)) + (((((p0 - (((p0.toUInt32 >>> ((1 : Int32).toUInt32 &&& Int32.toUInt32 31)).toInt32) &&& 1431655765)) &&& 858993459) + ((((p0 - (((p0.toUInt32 >>> ((1 : Int32).toUInt32 &&& Int32.toUInt32 31)).toInt32) &&& 1431655765)).toUInt32 >>> ((2 : Int32).toUInt32 &&& Int32.toUInt32 31)).toInt32) &&& 858993459)).toUInt32 >>> ((4 : Int32).toUInt32 &&& Int32.toUInt32 31)).toInt32)) &&& 252645135).toUInt32 >>> ((8 : Int32).toUInt32 &&& Int32.toUInt32 31)).toInt32)) + ((((((((p0 - (((p0.toUInt32 >>> ((1 : Int32).toUInt32 &&& Int32.toUInt32 31)).toInt32) &&& 1431655765)) &&& 858993459) + ((((p0 - (((p0.toUInt32 >>> ((1 : Int32).toUInt32 &&& Int32.toUInt32 31)).toInt32) &&& 1431655765)).toUInt32 >>> ((2 : Int32).toUInt32 &&& Int32.toUInt32 31)).toInt32) &&& 858993459)) + (((((p0 - (((p0.toUInt32 >>> ((1 : Int32).toUInt32 &&& Int32.toUInt32 31)).toInt32) &&& 1431655765)) &&& 858993459) + ((((p0 - (((p0.toUInt32 >>> ((1 : Int32).toUInt32 &&& Int32.toUInt32 31)).toInt32) &&& 1431655765)).toUInt32 >>> ((2 : Int32).toUInt32 &&& Int32.toUInt32 31)).toInt32) &&& 858993459)).toUInt32 >>> ((4 : Int32).toUInt32 &&& Int32.toUInt32 31)).toInt32)) &&& 252645135) + (((((((p0 - (((p0.toUInt32 >>> ((1 : Int32).toUInt32 &&& Int32.toUInt32 31)).toInt32) &&& 1431655765)) &&& 858993459) + ((((p0 - (((p0.toUInt32 >>> ((1 : Int32).toUInt32 &&& Int32.toUInt32 31)).toInt32) &&& 1431655765)).toUInt32 >>> ((2 : Int32).toUInt32 &&& Int32.toUInt32 31)).toInt32) &&& 858993459)) + (((((p0 - (((p0.toUInt32 >>> ((1 : Int32).toUInt32 &&& Int32.toUInt32 31)).toInt32) &&& 1431655765)) &&& 858993459) + ((((p0 - (((p0.toUInt32 >>> ((1 : Int32).toUInt32 &&& Int32.toUInt32 31)).toInt32) &&& 1431655765)).toUInt32 >>> ((2 : Int32).toUInt32 &&& Int32.toUInt32 31)).toInt32) &&& 858993459)).toUInt32 >>> ((4 : Int32).toUInt32 &&& Int32.toUInt32 31)).toInt32)) &&& 252645135).toUInt32 >>> ((8 : Int32).toUInt32 &&& Int32.toUInt32 31)).toInt32)).toUInt32 >>> ((16 : Int32).toUInt32 &&& Int32.toUInt32 31)).toInt32)) &&& 63)
theorem w0_J6_bitCount_0f7a4 : Cond.constant RJ6 265 (1431655765) ∈ wsJ6_bitCount_0f7a4 := by decide +kernel
theorem w1_J6_bitCount_0f7a4 : Cond.constant RJ6 266 (858993459) ∈ wsJ6_bitCount_0f7a4 := by decide +kernel
theorem w2_J6_bitCount_0f7a4 : Cond.constant RJ6 267 (252645135) ∈ wsJ6_bitCount_0f7a4 := by decide +kernel
abbrev rm_J6_bitCount_0f7a4 : Room := { frames := 0, cells := 0, slots := 0, locals := 0 }
set_option maxHeartbeats 4000000 in
set_option maxRecDepth 100000 in
theorem c_J6_bitCount_0f7a4 (l : Launch) (G : GG) (p0 : Int32) (q : Int32) (hm : M_J6_bitCount_0f7a4 p0 = some q) : CTi l yJ6_bitCount_0f7a4 wsJ6_bitCount_0f7a4 rm_J6_bitCount_0f7a4 G [.int p0] ([] : va_W) q ([] : va_W) := by
  intro sz
  refine mk_body (Qc := fun A => (QI G A q ([] : va_W))) (cc := cJ6_bitCount_0f7a4) (maxL := 1) (ret := (some .int)) (lv := [(0, .int p0)]) (by decide) rfl rfl (Nat.le_of_ble_eq_true rfl) ?_
  intro p e s m args below meth c A H locs ls hF hr hlocks hname hK hA hP hD hS hl
  obtain ⟨hx, hb, hml, hown, hts⟩ := id hF
  unfold M_J6_bitCount_0f7a4 at hm
  refine lv_iload_n hx hb dJ6_bitCount_0f7a4_0 rfl (lv_at hl 0 rfl) ?_
  refine lv_iload_n hx hb dJ6_bitCount_0f7a4_1 rfl (lv_at hl 0 rfl) ?_
  refine lv_iconst (v := 1) hx hb dJ6_bitCount_0f7a4_2 (by decide) ?_
  refine lv_iushr (v := (p0.toUInt32 >>> ((1 : Int32).toUInt32 &&& Int32.toUInt32 31)).toInt32) hx hb dJ6_bitCount_0f7a4_3 rfl ?_
  refine lv_ldcw (v := 1431655765) hx hb hown (hts _ w0_J6_bitCount_0f7a4) dJ6_bitCount_0f7a4_4 ?_
  refine lv_iand hx hb dJ6_bitCount_0f7a4_7 ?_
  refine lv_isub hx hb dJ6_bitCount_0f7a4_8 ?_
  refine lv_istore_n (lv' := [(0, .int (p0 - (((p0.toUInt32 >>> ((1 : Int32).toUInt32 &&& Int32.toUInt32 31)).toInt32) &&& 1431655765)))]) hx hb dJ6_bitCount_0f7a4_9 rfl hl (by decide) rfl (fun ls hl => ?_)
  refine lv_iload_n hx hb dJ6_bitCount_0f7a4_10 rfl (lv_at hl 0 rfl) ?_
  refine lv_ldcw (v := 858993459) hx hb hown (hts _ w1_J6_bitCount_0f7a4) dJ6_bitCount_0f7a4_11 ?_
  refine lv_iand hx hb dJ6_bitCount_0f7a4_14 ?_
  refine lv_iload_n hx hb dJ6_bitCount_0f7a4_15 rfl (lv_at hl 0 rfl) ?_
  refine lv_iconst (v := 2) hx hb dJ6_bitCount_0f7a4_16 (by decide) ?_
  refine lv_iushr (v := ((p0 - (((p0.toUInt32 >>> ((1 : Int32).toUInt32 &&& Int32.toUInt32 31)).toInt32) &&& 1431655765)).toUInt32 >>> ((2 : Int32).toUInt32 &&& Int32.toUInt32 31)).toInt32) hx hb dJ6_bitCount_0f7a4_17 rfl ?_
  refine lv_ldcw (v := 858993459) hx hb hown (hts _ w1_J6_bitCount_0f7a4) dJ6_bitCount_0f7a4_18 ?_
  refine lv_iand hx hb dJ6_bitCount_0f7a4_21 ?_
  refine lv_iadd hx hb dJ6_bitCount_0f7a4_22 ?_
  refine lv_istore_n (lv' := [(0, .int (((p0 - (((p0.toUInt32 >>> ((1 : Int32).toUInt32 &&& Int32.toUInt32 31)).toInt32) &&& 1431655765)) &&& 858993459) + ((((p0 - (((p0.toUInt32 >>> ((1 : Int32).toUInt32 &&& Int32.toUInt32 31)).toInt32) &&& 1431655765)).toUInt32 >>> ((2 : Int32).toUInt32 &&& Int32.toUInt32 31)).toInt32) &&& 858993459)))]) hx hb dJ6_bitCount_0f7a4_23 rfl hl (by decide) rfl (fun ls hl => ?_)
  refine lv_iload_n hx hb dJ6_bitCount_0f7a4_24 rfl (lv_at hl 0 rfl) ?_
  refine lv_iload_n hx hb dJ6_bitCount_0f7a4_25 rfl (lv_at hl 0 rfl) ?_
  refine lv_iconst (v := 4) hx hb dJ6_bitCount_0f7a4_26 (by decide) ?_
  refine lv_iushr (v := ((((p0 - (((p0.toUInt32 >>> ((1 : Int32).toUInt32 &&& Int32.toUInt32 31)).toInt32) &&& 1431655765)) &&& 858993459) + ((((p0 - (((p0.toUInt32 >>> ((1 : Int32).toUInt32 &&& Int32.toUInt32 31)).toInt32) &&& 1431655765)).toUInt32 >>> ((2 : Int32).toUInt32 &&& Int32.toUInt32 31)).toInt32) &&& 858993459)).toUInt32 >>> ((4 : Int32).toUInt32 &&& Int32.toUInt32 31)).toInt32) hx hb dJ6_bitCount_0f7a4_27 rfl ?_
  refine lv_iadd hx hb dJ6_bitCount_0f7a4_28 ?_
  refine lv_ldcw (v := 252645135) hx hb hown (hts _ w2_J6_bitCount_0f7a4) dJ6_bitCount_0f7a4_29 ?_
  refine lv_iand hx hb dJ6_bitCount_0f7a4_32 ?_
  refine lv_istore_n (lv' := [(0, .int (((((p0 - (((p0.toUInt32 >>> ((1 : Int32).toUInt32 &&& Int32.toUInt32 31)).toInt32) &&& 1431655765)) &&& 858993459) + ((((p0 - (((p0.toUInt32 >>> ((1 : Int32).toUInt32 &&& Int32.toUInt32 31)).toInt32) &&& 1431655765)).toUInt32 >>> ((2 : Int32).toUInt32 &&& Int32.toUInt32 31)).toInt32) &&& 858993459)) + (((((p0 - (((p0.toUInt32 >>> ((1 : Int32).toUInt32 &&& Int32.toUInt32 31)).toInt32) &&& 1431655765)) &&& 858993459) + ((((p0 - (((p0.toUInt32 >>> ((1 : Int32).toUInt32 &&& Int32.toUInt32 31)).toInt32) &&& 1431655765)).toUInt32 >>> ((2 : Int32).toUInt32 &&& Int32.toUInt32 31)).toInt32) &&& 858993459)).toUInt32 >>> ((4 : Int32).toUInt32 &&& Int32.toUInt32 31)).toInt32)) &&& 252645135))]) hx hb dJ6_bitCount_0f7a4_33 rfl hl (by decide) rfl (fun ls hl => ?_)
  refine lv_iload_n hx hb dJ6_bitCount_0f7a4_34 rfl (lv_at hl 0 rfl) ?_
  refine lv_iload_n hx hb dJ6_bitCount_0f7a4_35 rfl (lv_at hl 0 rfl) ?_
  refine lv_bipush (v := 8) hx hb dJ6_bitCount_0f7a4_36 (by decide) ?_
  refine lv_iushr (v := ((((((p0 - (((p0.toUInt32 >>> ((1 : Int32).toUInt32 &&& Int32.toUInt32 31)).toInt32) &&& 1431655765)) &&& 858993459) + ((((p0 - (((p0.toUInt32 >>> ((1 : Int32).toUInt32 &&& Int32.toUInt32 31)).toInt32) &&& 1431655765)).toUInt32 >>> ((2 : Int32).toUInt32 &&& Int32.toUInt32 31)).toInt32) &&& 858993459)) + (((((p0 - (((p0.toUInt32 >>> ((1 : Int32).toUInt32 &&& Int32.toUInt32 31)).toInt32) &&& 1431655765)) &&& 858993459) + ((((p0 - (((p0.toUInt32 >>> ((1 : Int32).toUInt32 &&& Int32.toUInt32 31)).toInt32) &&& 1431655765)).toUInt32 >>> ((2 : Int32).toUInt32 &&& Int32.toUInt32 31)).toInt32) &&& 858993459)).toUInt32 >>> ((4 : Int32).toUInt32 &&& Int32.toUInt32 31)).toInt32)) &&& 252645135).toUInt32 >>> ((8 : Int32).toUInt32 &&& Int32.toUInt32 31)).toInt32) hx hb dJ6_bitCount_0f7a4_38 rfl ?_
  refine lv_iadd hx hb dJ6_bitCount_0f7a4_39 ?_
  refine lv_istore_n (lv' := [(0, .int ((((((p0 - (((p0.toUInt32 >>> ((1 : Int32).toUInt32 &&& Int32.toUInt32 31)).toInt32) &&& 1431655765)) &&& 858993459) + ((((p0 - (((p0.toUInt32 >>> ((1 : Int32).toUInt32 &&& Int32.toUInt32 31)).toInt32) &&& 1431655765)).toUInt32 >>> ((2 : Int32).toUInt32 &&& Int32.toUInt32 31)).toInt32) &&& 858993459)) + (((((p0 - (((p0.toUInt32 >>> ((1 : Int32).toUInt32 &&& Int32.toUInt32 31)).toInt32) &&& 1431655765)) &&& 858993459) + ((((p0 - (((p0.toUInt32 >>> ((1 : Int32).toUInt32 &&& Int32.toUInt32 31)).toInt32) &&& 1431655765)).toUInt32 >>> ((2 : Int32).toUInt32 &&& Int32.toUInt32 31)).toInt32) &&& 858993459)).toUInt32 >>> ((4 : Int32).toUInt32 &&& Int32.toUInt32 31)).toInt32)) &&& 252645135) + (((((((p0 - (((p0.toUInt32 >>> ((1 : Int32).toUInt32 &&& Int32.toUInt32 31)).toInt32) &&& 1431655765)) &&& 858993459) + ((((p0 - (((p0.toUInt32 >>> ((1 : Int32).toUInt32 &&& Int32.toUInt32 31)).toInt32) &&& 1431655765)).toUInt32 >>> ((2 : Int32).toUInt32 &&& Int32.toUInt32 31)).toInt32) &&& 858993459)) + (((((p0 - (((p0.toUInt32 >>> ((1 : Int32).toUInt32 &&& Int32.toUInt32 31)).toInt32) &&& 1431655765)) &&& 858993459) + ((((p0 - (((p0.toUInt32 >>> ((1 : Int32).toUInt32 &&& Int32.toUInt32 31)).toInt32) &&& 1431655765)).toUInt32 >>> ((2 : Int32).toUInt32 &&& Int32.toUInt32 31)).toInt32) &&& 858993459)).toUInt32 >>> ((4 : Int32).toUInt32 &&& Int32.toUInt32 31)).toInt32)) &&& 252645135).toUInt32 >>> ((8 : Int32).toUInt32 &&& Int32.toUInt32 31)).toInt32)))]) hx hb dJ6_bitCount_0f7a4_40 rfl hl (by decide) rfl (fun ls hl => ?_)
  refine lv_iload_n hx hb dJ6_bitCount_0f7a4_41 rfl (lv_at hl 0 rfl) ?_
  refine lv_iload_n hx hb dJ6_bitCount_0f7a4_42 rfl (lv_at hl 0 rfl) ?_
  refine lv_bipush (v := 16) hx hb dJ6_bitCount_0f7a4_43 (by decide) ?_
  refine lv_iushr (v := (((((((p0 - (((p0.toUInt32 >>> ((1 : Int32).toUInt32 &&& Int32.toUInt32 31)).toInt32) &&& 1431655765)) &&& 858993459) + ((((p0 - (((p0.toUInt32 >>> ((1 : Int32).toUInt32 &&& Int32.toUInt32 31)).toInt32) &&& 1431655765)).toUInt32 >>> ((2 : Int32).toUInt32 &&& Int32.toUInt32 31)).toInt32) &&& 858993459)) + (((((p0 - (((p0.toUInt32 >>> ((1 : Int32).toUInt32 &&& Int32.toUInt32 31)).toInt32) &&& 1431655765)) &&& 858993459) + ((((p0 - (((p0.toUInt32 >>> ((1 : Int32).toUInt32 &&& Int32.toUInt32 31)).toInt32) &&& 1431655765)).toUInt32 >>> ((2 : Int32).toUInt32 &&& Int32.toUInt32 31)).toInt32) &&& 858993459)).toUInt32 >>> ((4 : Int32).toUInt32 &&& Int32.toUInt32 31)).toInt32)) &&& 252645135) + (((((((p0 - (((p0.toUInt32 >>> ((1 : Int32).toUInt32 &&& Int32.toUInt32 31)).toInt32) &&& 1431655765)) &&& 858993459) + ((((p0 - (((p0.toUInt32 >>> ((1 : Int32).toUInt32 &&& Int32.toUInt32 31)).toInt32) &&& 1431655765)).toUInt32 >>> ((2 : Int32).toUInt32 &&& Int32.toUInt32 31)).toInt32) &&& 858993459)) + (((((p0 - (((p0.toUInt32 >>> ((1 : Int32).toUInt32 &&& Int32.toUInt32 31)).toInt32) &&& 1431655765)) &&& 858993459) + ((((p0 - (((p0.toUInt32 >>> ((1 : Int32).toUInt32 &&& Int32.toUInt32 31)).toInt32) &&& 1431655765)).toUInt32 >>> ((2 : Int32).toUInt32 &&& Int32.toUInt32 31)).toInt32) &&& 858993459)).toUInt32 >>> ((4 : Int32).toUInt32 &&& Int32.toUInt32 31)).toInt32)) &&& 252645135).toUInt32 >>> ((8 : Int32).toUInt32 &&& Int32.toUInt32 31)).toInt32)).toUInt32 >>> ((16 : Int32).toUInt32 &&& Int32.toUInt32 31)).toInt32) hx hb dJ6_bitCount_0f7a4_45 rfl ?_
  refine lv_iadd hx hb dJ6_bitCount_0f7a4_46 ?_
  refine lv_istore_n (lv' := [(0, .int (((((((p0 - (((p0.toUInt32 >>> ((1 : Int32).toUInt32 &&& Int32.toUInt32 31)).toInt32) &&& 1431655765)) &&& 858993459) + ((((p0 - (((p0.toUInt32 >>> ((1 : Int32).toUInt32 &&& Int32.toUInt32 31)).toInt32) &&& 1431655765)).toUInt32 >>> ((2 : Int32).toUInt32 &&& Int32.toUInt32 31)).toInt32) &&& 858993459)) + (((((p0 - (((p0.toUInt32 >>> ((1 : Int32).toUInt32 &&& Int32.toUInt32 31)).toInt32) &&& 1431655765)) &&& 858993459) + ((((p0 - (((p0.toUInt32 >>> ((1 : Int32).toUInt32 &&& Int32.toUInt32 31)).toInt32) &&& 1431655765)).toUInt32 >>> ((2 : Int32).toUInt32 &&& Int32.toUInt32 31)).toInt32) &&& 858993459)).toUInt32 >>> ((4 : Int32).toUInt32 &&& Int32.toUInt32 31)).toInt32)) &&& 252645135) + (((((((p0 - (((p0.toUInt32 >>> ((1 : Int32).toUInt32 &&& Int32.toUInt32 31)).toInt32) &&& 1431655765)) &&& 858993459) + ((((p0 - (((p0.toUInt32 >>> ((1 : Int32).toUInt32 &&& Int32.toUInt32 31)).toInt32) &&& 1431655765)).toUInt32 >>> ((2 : Int32).toUInt32 &&& Int32.toUInt32 31)).toInt32) &&& 858993459)) + (((((p0 - (((p0.toUInt32 >>> ((1 : Int32).toUInt32 &&& Int32.toUInt32 31)).toInt32) &&& 1431655765)) &&& 858993459) + ((((p0 - (((p0.toUInt32 >>> ((1 : Int32).toUInt32 &&& Int32.toUInt32 31)).toInt32) &&& 1431655765)).toUInt32 >>> ((2 : Int32).toUInt32 &&& Int32.toUInt32 31)).toInt32) &&& 858993459)).toUInt32 >>> ((4 : Int32).toUInt32 &&& Int32.toUInt32 31)).toInt32)) &&& 252645135).toUInt32 >>> ((8 : Int32).toUInt32 &&& Int32.toUInt32 31)).toInt32)) + ((((((((p0 - (((p0.toUInt32 >>> ((1 : Int32).toUInt32 &&& Int32.toUInt32 31)).toInt32) &&& 1431655765)) &&& 858993459) + ((((p0 - (((p0.toUInt32 >>> ((1 : Int32).toUInt32 &&& Int32.toUInt32 31)).toInt32) &&& 1431655765)).toUInt32 >>> ((2 : Int32).toUInt32 &&& Int32.toUInt32 31)).toInt32) &&& 858993459)) + (((((p0 - (((p0.toUInt32 >>> ((1 : Int32).toUInt32 &&& Int32.toUInt32 31)).toInt32) &&& 1431655765)) &&& 858993459) + ((((p0 - (((p0.toUInt32 >>> ((1 : Int32).toUInt32 &&& Int32.toUInt32 31)).toInt32) &&& 1431655765)).toUInt32 >>> ((2 : Int32).toUInt32 &&& Int32.toUInt32 31)).toInt32) &&& 858993459)).toUInt32 >>> ((4 : Int32).toUInt32 &&& Int32.toUInt32 31)).toInt32)) &&& 252645135) + (((((((p0 - (((p0.toUInt32 >>> ((1 : Int32).toUInt32 &&& Int32.toUInt32 31)).toInt32) &&& 1431655765)) &&& 858993459) + ((((p0 - (((p0.toUInt32 >>> ((1 : Int32).toUInt32 &&& Int32.toUInt32 31)).toInt32) &&& 1431655765)).toUInt32 >>> ((2 : Int32).toUInt32 &&& Int32.toUInt32 31)).toInt32) &&& 858993459)) + (((((p0 - (((p0.toUInt32 >>> ((1 : Int32).toUInt32 &&& Int32.toUInt32 31)).toInt32) &&& 1431655765)) &&& 858993459) + ((((p0 - (((p0.toUInt32 >>> ((1 : Int32).toUInt32 &&& Int32.toUInt32 31)).toInt32) &&& 1431655765)).toUInt32 >>> ((2 : Int32).toUInt32 &&& Int32.toUInt32 31)).toInt32) &&& 858993459)).toUInt32 >>> ((4 : Int32).toUInt32 &&& Int32.toUInt32 31)).toInt32)) &&& 252645135).toUInt32 >>> ((8 : Int32).toUInt32 &&& Int32.toUInt32 31)).toInt32)).toUInt32 >>> ((16 : Int32).toUInt32 &&& Int32.toUInt32 31)).toInt32)))]) hx hb dJ6_bitCount_0f7a4_47 rfl hl (by decide) rfl (fun ls hl => ?_)
  refine lv_iload_n hx hb dJ6_bitCount_0f7a4_48 rfl (lv_at hl 0 rfl) ?_
  refine lv_bipush (v := 63) hx hb dJ6_bitCount_0f7a4_49 (by decide) ?_
  refine lv_iand hx hb dJ6_bitCount_0f7a4_51 ?_
  cases hm
  exact rt_i hx hb hr hlocks hP hD hS dJ6_bitCount_0f7a4_52
def M_J7_rangeCheck_23922 (p0 : Int32) (p1 : Int32) (p2 : Int32) : Option (Unit) :=
  if p1 ≤ p2 then (if 0 ≤ p1 then (if p2 ≤ p0 then (some ()) else (none)) else (none)) else (none)
abbrev rm_J7_rangeCheck_23922 : Room := { frames := 0, cells := 0, slots := 0, locals := 0 }
set_option maxHeartbeats 4000000 in
set_option maxRecDepth 100000 in
theorem c_J7_rangeCheck_23922 (l : Launch) (G : GG) (p0 : Int32) (p1 : Int32) (p2 : Int32) (q : Unit) (hm : M_J7_rangeCheck_23922 p0 p1 p2 = some q) : CTv l yJ7_rangeCheck_23922 wsJ7_rangeCheck_23922 rm_J7_rangeCheck_23922 G [.int p0, .int p1, .int p2] ([] : va_W) ([] : va_W) := by
  intro sz
  refine mk_body (Qc := fun A => (QV G A ([] : va_W))) (cc := cJ7_rangeCheck_23922) (maxL := 3) (ret := none) (lv := [(0, .int p0), (1, .int p1), (2, .int p2)]) (by decide) rfl rfl (Nat.le_of_ble_eq_true rfl) ?_
  intro p e s m args below meth c A H locs ls hF hr hlocks hname hK hA hP hD hS hl
  obtain ⟨hx, hb, hml, hown, hts⟩ := id hF
  unfold M_J7_rangeCheck_23922 at hm
  refine lv_iload_n hx hb dJ7_rangeCheck_23922_0 rfl (lv_at hl 1 rfl) ?_
  refine lv_iload_n hx hb dJ7_rangeCheck_23922_1 rfl (lv_at hl 2 rfl) ?_
  refine lv_icmp_le (tgt := 46) hx hb dJ7_rangeCheck_23922_2 (by decide) (fun c1 => ?_) (fun c1 => ?_)
  · replace hm := it_t c1 hm
    refine lv_iload_n hx hb dJ7_rangeCheck_23922_46 rfl (lv_at hl 1 rfl) ?_
    refine lv_if_ge (tgt := 59) hx hb dJ7_rangeCheck_23922_47 (by decide) (fun c2 => ?_) (fun c2 => ?_)
    · replace hm := it_t c2 hm
      refine lv_iload_n hx hb dJ7_rangeCheck_23922_59 rfl (lv_at hl 2 rfl) ?_
      refine lv_iload_n hx hb dJ7_rangeCheck_23922_60 rfl (lv_at hl 0 rfl) ?_
      refine lv_icmp_le (tgt := 73) hx hb dJ7_rangeCheck_23922_61 (by decide) (fun c3 => ?_) (fun c3 => ?_)
      · replace hm := it_t c3 hm
        cases hm
        exact rt_v hx hb hr hlocks hP hD hS dJ7_rangeCheck_23922_73
      · replace hm := it_f c3 hm
        cases hm
    · replace hm := it_f c2 hm
      cases hm
  · replace hm := it_f c1 hm
    cases hm
def M_J7_fill_53178_L5 (n1 : Nat) (u5_1 : Int32) (u5_3 : Int32) : Nat → (Int32) → (Nat → Int32) → Option ((Nat → Int32))
  | 0, _, _ => none
  | n5 + 1, v5_2, f15_ => if u5_3 ≤ v5_2 then (some f15_) else (gd v5_2 n1 (M_J7_fill_53178_L5 n1 u5_1 u5_3 n5 (v5_2 + 1) (upd f15_ v5_2.toNatClampNeg u5_1)))
def M_J7_fill_53178 (N : Nat) (n1 : Nat) (f1 : Nat → Int32) (p1 : Int32) : Option ((Nat → Int32)) :=
  M_J7_fill_53178_L5 n1 p1 (Int32.ofNat n1) N 0 f1
abbrev rm_J7_fill_53178 : Room := { frames := 0, cells := 0, slots := 0, locals := 0 }
set_option maxHeartbeats 4000000 in
set_option maxRecDepth 100000 in
theorem c_J7_fill_53178 (l : Launch) (G : GG) (N : Nat) (x1 : Nat) (n1 : Nat) (f1 : Nat → Int32) (p1 : Int32) (q : (Nat → Int32)) (hm : M_J7_fill_53178 N n1 f1 p1 = some q) : CTv l yJ7_fill_53178 wsJ7_fill_53178 rm_J7_fill_53178 G [.ref x1, .int p1] [(x1, .inl (G.2.1, n1, .inl f1))] [(x1, .inl (G.2.1, n1, .inl q))] := by
  intro sz
  refine mk_body (Qc := fun A => (QV G A [(x1, .inl (G.2.1, n1, .inl q))])) (cc := cJ7_fill_53178) (maxL := 4) (ret := none) (lv := [(0, .ref x1), (1, .int p1)]) (by decide) rfl rfl (Nat.le_of_ble_eq_true rfl) ?_
  intro p e s m args below meth c A H locs ls hF hr hlocks hname hK hA hP hD hS hl
  obtain ⟨hx, hb, hml, hown, hts⟩ := id hF
  unfold M_J7_fill_53178 at hm
  refine lv_iconst (v := 0) hx hb dJ7_fill_53178_0 (by decide) ?_
  refine lv_istore_n (lv' := [(2, .int 0), (0, .ref x1), (1, .int p1)]) hx hb dJ7_fill_53178_1 rfl hl (by decide) rfl (fun ls hl => ?_)
  refine lv_aload_n hx hb dJ7_fill_53178_2 rfl (lv_at hl 1 rfl) ?_
  refine va_alen hx hb hK.1 hP 0 0 rfl rfl (v := (Int32.ofNat n1)) rfl dJ7_fill_53178_3 ?_
  refine lv_istore_n (lv' := [(3, .int (Int32.ofNat n1)), (2, .int 0), (0, .ref x1), (1, .int p1)]) hx hb dJ7_fill_53178_4 rfl hl (by decide) rfl (fun ls hl => ?_)
  have L5 : ∀ (u5_1 : Int32) (u5_3 : Int32) (n5 : Nat) (v5_2 : Int32) (f15_ : Nat → Int32), M_J7_fill_53178_L5 n1 u5_1 u5_3 n5 v5_2 f15_ = some q → ∀ (H : Heap) (locs : List Loc) (ls : Array Slot), va_P G.1 vwCl [(x1, .inl (G.2.1, n1, .inl f15_))] H → va_D A [(x1, .inl (G.2.1, n1, .inl f15_))] → va_S A s.heap H locs → lv_has ls 4 [(0, .ref x1), (1, .int u5_1), (2, .int v5_2), (3, .int u5_3)] → W p l e rm_J7_fill_53178 s m args below meth c H locs 0 0 (MQ below (QV G A [(x1, .inl (G.2.1, n1, .inl q))]) args s rm_J7_fill_53178.cells rm_J7_fill_53178.slots A) (F0 m 5 ls []) := by
    intro u5_1 u5_3 n5
    induction n5 with
    | zero => intro v5_2 f15_ hm; cases hm
    | succ n5 ih5 =>
      intro v5_2 f15_ hm H locs ls hP hD hS hl
      rw [M_J7_fill_53178_L5] at hm
      refine lv_iload_n hx hb dJ7_fill_53178_5 rfl (lv_at hl 2 rfl) ?_
      refine lv_iload_n hx hb dJ7_fill_53178_6 rfl (lv_at hl 3 rfl) ?_
      refine lv_icmp_ge (tgt := 20) hx hb dJ7_fill_53178_7 (by decide) (fun c501 => ?_) (fun c501 => ?_)
      · replace hm := it_t c501 hm
        cases hm
        exact rt_v hx hb hr hlocks hP hD hS dJ7_fill_53178_20
      · replace hm := it_f c501 hm
        refine lv_aload_n hx hb dJ7_fill_53178_10 rfl (lv_at hl 0 rfl) ?_
        refine lv_iload_n hx hb dJ7_fill_53178_11 rfl (lv_at hl 2 rfl) ?_
        refine lv_iload_n hx hb dJ7_fill_53178_12 rfl (lv_at hl 1 rfl) ?_
        obtain ⟨hi502, hm⟩ := gd_s hm
        refine va_iast hx hb hK.1 hP hD hS 0 0 rfl rfl hi502 dJ7_fill_53178_13 (fun H locs hP hD hS => ?_)
        have hP : va_P G.1 vwCl [(x1, .inl (G.2.1, n1, .inl (upd f15_ v5_2.toNatClampNeg u5_1)))] H := hP
        have hD : va_D A [(x1, .inl (G.2.1, n1, .inl (upd f15_ v5_2.toNatClampNeg u5_1)))] := hD
        refine lv_iinc (v := (v5_2 + 1)) (lv' := [(2, .int (v5_2 + 1)), (0, .ref x1), (1, .int u5_1), (3, .int u5_3)]) hx hb dJ7_fill_53178_14 hl (k := 2) rfl rfl (by decide) rfl (fun ls hl => ?_)
        refine lv_goto (tgt := 5) hx hb dJ7_fill_53178_17 (by decide) ?_
        exact ih5 (v5_2 + 1) (upd f15_ v5_2.toNatClampNeg u5_1) hm _ _ _ hP hD hS (lv_sub hl [1, 2, 0, 3] rfl)
  exact L5 p1 (Int32.ofNat n1) N 0 f1 hm _ _ _ hP hD hS (lv_sub hl [2, 3, 1, 0] rfl)
def M_J7_fill_fda19_L10 (n1 : Nat) (u10_2 : Int32) (u10_3 : Int32) : Nat → (Int32) → (Nat → Int32) → Option ((Nat → Int32))
  | 0, _, _ => none
  | n10 + 1, v10_4, f110_ => if u10_2 ≤ v10_4 then (some f110_) else (gd v10_4 n1 (M_J7_fill_fda19_L10 n1 u10_2 u10_3 n10 (v10_4 + 1) (upd f110_ v10_4.toNatClampNeg u10_3)))
def M_J7_fill_fda19 (N : Nat) (n1 : Nat) (f1 : Nat → Int32) (p1 : Int32) (p2 : Int32) (p3 : Int32) : Option ((Nat → Int32)) :=
  (M_J7_rangeCheck_23922 (Int32.ofNat n1) p1 p2).bind fun q1 => M_J7_fill_fda19_L10 n1 p2 p3 N p1 f1
abbrev rm_J7_fill_fda19 : Room := { frames := 1, cells := 0, slots := 0, locals := 22 }
set_option maxHeartbeats 4000000 in
set_option maxRecDepth 100000 in
theorem c_J7_fill_fda19 (l : Launch) (G : GG) (N : Nat) (x1 : Nat) (n1 : Nat) (f1 : Nat → Int32) (p1 : Int32) (p2 : Int32) (p3 : Int32) (q : (Nat → Int32)) (hm : M_J7_fill_fda19 N n1 f1 p1 p2 p3 = some q) : CTv l yJ7_fill_fda19 wsJ7_fill_fda19 rm_J7_fill_fda19 G [.ref x1, .int p1, .int p2, .int p3] [(x1, .inl (G.2.1, n1, .inl f1))] [(x1, .inl (G.2.1, n1, .inl q))] := by
  intro sz
  refine mk_body (Qc := fun A => (QV G A [(x1, .inl (G.2.1, n1, .inl q))])) (cc := cJ7_fill_fda19) (maxL := 5) (ret := none) (lv := [(0, .ref x1), (1, .int p1), (2, .int p2), (3, .int p3)]) (by decide) rfl rfl (Nat.le_of_ble_eq_true rfl) ?_
  intro p e s m args below meth c A H locs ls hF hr hlocks hname hK hA hP hD hS hl
  obtain ⟨hx, hb, hml, hown, hts⟩ := id hF
  unfold M_J7_fill_fda19 at hm
  refine lv_aload_n hx hb dJ7_fill_fda19_0 rfl (lv_at hl 0 rfl) ?_
  refine va_alen hx hb hK.1 hP 0 0 rfl rfl (v := (Int32.ofNat n1)) rfl dJ7_fill_fda19_1 ?_
  refine lv_iload_n hx hb dJ7_fill_fda19_2 rfl (lv_at hl 1 rfl) ?_
  refine lv_iload_n hx hb dJ7_fill_fda19_3 rfl (lv_at hl 2 rfl) ?_
  obtain ⟨q1, hc2, hm⟩ := bd_s hm
  refine k0_v (ws := [(x1, .inl (G.2.1, n1, .inl f1))]) (rS (As := [.int (Int32.ofNat n1), .int p1, .int p2]) (rest := []) (wi := ([] : va_W)) hF hK k0_P (k0_D (A := A)) (c_J7_rangeCheck_23922 l G (Int32.ofNat n1) p1 p2 q1 hc2 H.size) (va_cwS 3 hts gJ7_fill_fda19_J7_rangeCheck_23922 rfl rfl rfl (by decide +kernel) ⟨Nat.le_of_ble_eq_true rfl, Nat.le_of_ble_eq_true rfl⟩) rfl hl.1 rfl (Nat.le_of_ble_eq_true rfl) dJ7_fill_fda19_4 ⟨Nat.le_of_ble_eq_true rfl, Nat.le_of_ble_eq_true rfl⟩) hP hS hA (fun H locs hP hS => ?_)
  refine lv_iload_n hx hb dJ7_fill_fda19_7 rfl (lv_at hl 1 rfl) ?_
  refine lv_istore (lv' := [(4, .int p1), (0, .ref x1), (1, .int p1), (2, .int p2), (3, .int p3)]) hx hb dJ7_fill_fda19_8 hl (by decide) rfl (fun ls hl => ?_)
  have L10 : ∀ (u10_1 : Int32) (u10_2 : Int32) (u10_3 : Int32) (n10 : Nat) (v10_4 : Int32) (f110_ : Nat → Int32), M_J7_fill_fda19_L10 n1 u10_2 u10_3 n10 v10_4 f110_ = some q → ∀ (H : Heap) (locs : List Loc) (ls : Array Slot), va_P G.1 vwCl [(x1, .inl (G.2.1, n1, .inl f110_))] H → va_D A [(x1, .inl (G.2.1, n1, .inl f110_))] → va_S A s.heap H locs → lv_has ls 5 [(0, .ref x1), (1, .int u10_1), (2, .int u10_2), (3, .int u10_3), (4, .int v10_4)] → W p l e rm_J7_fill_fda19 s m args below meth c H locs 0 0 (MQ below (QV G A [(x1, .inl (G.2.1, n1, .inl q))]) args s rm_J7_fill_fda19.cells rm_J7_fill_fda19.slots A) (F0 m 10 ls []) := by
    intro u10_1 u10_2 u10_3 n10
    induction n10 with
    | zero => intro v10_4 f110_ hm; cases hm
    | succ n10 ih10 =>
      intro v10_4 f110_ hm H locs ls hP hD hS hl
      rw [M_J7_fill_fda19_L10] at hm
      refine lv_iload hx hb dJ7_fill_fda19_10 (lv_at hl 4 rfl) ?_
      refine lv_iload_n hx hb dJ7_fill_fda19_12 rfl (lv_at hl 2 rfl) ?_
      refine lv_icmp_ge (tgt := 27) hx hb dJ7_fill_fda19_13 (by decide) (fun c1001 => ?_) (fun c1001 => ?_)
      · replace hm := it_t c1001 hm
        cases hm
        exact rt_v hx hb hr hlocks hP hD hS dJ7_fill_fda19_27
      · replace hm := it_f c1001 hm
        refine lv_aload_n hx hb dJ7_fill_fda19_16 rfl (lv_at hl 0 rfl) ?_
        refine lv_iload hx hb dJ7_fill_fda19_17 (lv_at hl 4 rfl) ?_
        refine lv_iload_n hx hb dJ7_fill_fda19_19 rfl (lv_at hl 3 rfl) ?_
        obtain ⟨hi1002, hm⟩ := gd_s hm
        refine va_iast hx hb hK.1 hP hD hS 0 0 rfl rfl hi1002 dJ7_fill_fda19_20 (fun H locs hP hD hS => ?_)
        have hP : va_P G.1 vwCl [(x1, .inl (G.2.1, n1, .inl (upd f110_ v10_4.toNatClampNeg u10_3)))] H := hP
        have hD : va_D A [(x1, .inl (G.2.1, n1, .inl (upd f110_ v10_4.toNatClampNeg u10_3)))] := hD
        refine lv_iinc (v := (v10_4 + 1)) (lv' := [(4, .int (v10_4 + 1)), (0, .ref x1), (1, .int u10_1), (2, .int u10_2), (3, .int u10_3)]) hx hb dJ7_fill_fda19_21 hl (k := 4) rfl rfl (by decide) rfl (fun ls hl => ?_)
        refine lv_goto (tgt := 10) hx hb dJ7_fill_fda19_24 (by decide) ?_
        exact ih10 (v10_4 + 1) (upd f110_ v10_4.toNatClampNeg u10_3) hm _ _ _ hP hD hS (lv_sub hl [1, 2, 3, 4, 0] rfl)
  exact L10 p1 p2 p3 N p1 f1 hm _ _ _ hP hD hS (lv_sub hl [1, 2, 3, 4, 0] rfl)
def M_X4_copyRow (n1 : Nat) (n2 : Nat) (f1 : Nat → Int32) (f2 : Nat → Int32) : Option ((Nat → Int32)) :=
  gc (¬ (0 : Int32) < 0 ∧ ¬ (0 : Int32) < 0 ∧ ¬ (if (Int32.ofNat n2) < (Int32.ofNat n1) then (Int32.ofNat n2) else (Int32.ofNat n1)) < 0 ∧ (0 : Int32).toNatClampNeg + (if (Int32.ofNat n2) < (Int32.ofNat n1) then (Int32.ofNat n2) else (Int32.ofNat n1)).toNatClampNeg ≤ n1 ∧ (0 : Int32).toNatClampNeg + (if (Int32.ofNat n2) < (Int32.ofNat n1) then (Int32.ofNat n2) else (Int32.ofNat n1)).toNatClampNeg ≤ n2) (some (va_cpy f1 f2 (0 : Int32).toNatClampNeg (0 : Int32).toNatClampNeg (if (Int32.ofNat n2) < (Int32.ofNat n1) then (Int32.ofNat n2) else (Int32.ofNat n1)).toNatClampNeg))
theorem w0_X4_copyRow : Cond.methodLink RX4 194 Lib.Math.min.name ∈ wsX4_copyRow := by decide +kernel
theorem w1_X4_copyRow : Cond.static Lib.Math.min.name ∈ wsX4_copyRow := by decide +kernel
theorem w2_X4_copyRow : Cond.initialized "java/lang/Math" ∈ wsX4_copyRow := by decide +kernel
theorem w3_X4_copyRow : Cond.code Lib.Math.min.name Lib.Math.min.code 2 (some .int) ∈ wsX4_copyRow := by decide +kernel
theorem w4_X4_copyRow : Cond.methodLink RX4 197 arraycopyName ∈ wsX4_copyRow := by decide +kernel
theorem w5_X4_copyRow : Cond.native arraycopyName ∈ wsX4_copyRow := by decide +kernel
theorem w6_X4_copyRow : Cond.static arraycopyName ∈ wsX4_copyRow := by decide +kernel
theorem w7_X4_copyRow : Cond.initialized "java/lang/System" ∈ wsX4_copyRow := by decide +kernel
abbrev rm_X4_copyRow : Room := { frames := 1, cells := 0, slots := 0, locals := 18 }
set_option maxHeartbeats 4000000 in
set_option maxRecDepth 100000 in
theorem c_X4_copyRow (l : Launch) (G : GG) (x1 : Nat) (x2 : Nat) (n1 : Nat) (n2 : Nat) (f1 : Nat → Int32) (f2 : Nat → Int32) (q : (Nat → Int32)) (hm : M_X4_copyRow n1 n2 f1 f2 = some q) : CTv l yX4_copyRow wsX4_copyRow rm_X4_copyRow G [.ref x1, .ref x2] [(x1, .inl (G.2.1, n1, .inl f1)), (x2, .inl (G.2.1, n2, .inl f2))] [(x1, .inl (G.2.1, n1, .inl f1)), (x2, .inl (G.2.1, n2, .inl q))] := by
  intro sz
  refine mk_body (Qc := fun A => (QV G A [(x1, .inl (G.2.1, n1, .inl f1)), (x2, .inl (G.2.1, n2, .inl q))])) (cc := cX4_copyRow) (maxL := 2) (ret := none) (lv := [(0, .ref x1), (1, .ref x2)]) (by decide) rfl rfl (Nat.le_of_ble_eq_true rfl) ?_
  intro p e s m args below meth c A H locs ls hF hr hlocks hname hK hA hP hD hS hl
  obtain ⟨hx, hb, hml, hown, hts⟩ := id hF
  unfold M_X4_copyRow at hm
  refine lv_aload_n hx hb dX4_copyRow_0 rfl (lv_at hl 0 rfl) ?_
  refine lv_iconst (v := 0) hx hb dX4_copyRow_1 (by decide) ?_
  refine lv_aload_n hx hb dX4_copyRow_2 rfl (lv_at hl 1 rfl) ?_
  refine lv_iconst (v := 0) hx hb dX4_copyRow_3 (by decide) ?_
  refine lv_aload_n hx hb dX4_copyRow_4 rfl (lv_at hl 0 rfl) ?_
  refine va_alen hx hb hK.1 hP 0 0 rfl rfl (v := (Int32.ofNat n1)) rfl dX4_copyRow_5 ?_
  refine lv_aload_n hx hb dX4_copyRow_6 rfl (lv_at hl 1 rfl) ?_
  refine va_alen hx hb hK.1 hP 1 0 rfl rfl (v := (Int32.ofNat n2)) rfl dX4_copyRow_7 ?_
  refine va_mmin hx hb (hml.trans hl.1.symm) hown (hts _ w0_X4_copyRow) (hts _ w1_X4_copyRow) (hts _ w2_X4_copyRow) (hts _ w3_X4_copyRow) (Nat.le_of_ble_eq_true rfl) (Nat.le_of_ble_eq_true rfl) (Nat.le_of_ble_eq_true rfl) (Nat.le_of_ble_eq_true rfl) dX4_copyRow_8 ?_
  obtain ⟨hc1, hm⟩ := gc_s hm
  refine va_copyi hx hb (hml.trans hl.1.symm) hown (hts _ w4_X4_copyRow) (hts _ w5_X4_copyRow) (hts _ w6_X4_copyRow) (hts _ w7_X4_copyRow) hK.1 hP hD hS 0 1 0 0 rfl rfl rfl rfl rfl hc1.1 hc1.2.1 hc1.2.2.1 hc1.2.2.2.1 hc1.2.2.2.2 (fun _ _ => rfl) (Nat.le_of_ble_eq_true rfl) (Nat.le_of_ble_eq_true rfl) dX4_copyRow_11 (fun H locs hP hD hS => ?_)
  have hP : va_P G.1 vwCl [(x1, .inl (G.2.1, n1, .inl f1)), (x2, .inl (G.2.1, n2, .inl (va_cpy f1 f2 (0 : Int32).toNatClampNeg (0 : Int32).toNatClampNeg (if (Int32.ofNat n2) < (Int32.ofNat n1) then (Int32.ofNat n2) else (Int32.ofNat n1)).toNatClampNeg)))] H := hP
  have hD : va_D A [(x1, .inl (G.2.1, n1, .inl f1)), (x2, .inl (G.2.1, n2, .inl (va_cpy f1 f2 (0 : Int32).toNatClampNeg (0 : Int32).toNatClampNeg (if (Int32.ofNat n2) < (Int32.ofNat n1) then (Int32.ofNat n2) else (Int32.ofNat n1)).toNatClampNeg)))] := hD
  cases hm
  exact rt_v hx hb hr hlocks hP hD hS dX4_copyRow_14
def M_X4_occurrences_L4 (n1 : Nat) (u4_1 : Int32) (f1 : Nat → Int32) : Nat → (Int32) → (Int32) → Option (Int32)
  | 0, _, _ => none
  | n4 + 1, v4_2, v4_3 => if (Int32.ofNat n1) ≤ v4_3 then (some v4_2) else (gd v4_3 n1 (if (f1 v4_3.toNatClampNeg) = u4_1 then (M_X4_occurrences_L4 n1 u4_1 f1 n4 (v4_2 + 1) (v4_3 + 1)) else (M_X4_occurrences_L4 n1 u4_1 f1 n4 v4_2 (v4_3 + 1))))
def M_X4_occurrences (N : Nat) (n1 : Nat) (f1 : Nat → Int32) (p1 : Int32) : Option (Int32) :=
  M_X4_occurrences_L4 n1 p1 f1 N 0 0
abbrev rm_X4_occurrences : Room := { frames := 0, cells := 0, slots := 0, locals := 0 }
set_option maxHeartbeats 4000000 in
set_option maxRecDepth 100000 in
theorem c_X4_occurrences (l : Launch) (G : GG) (N : Nat) (x1 : Nat) (n1 : Nat) (f1 : Nat → Int32) (p1 : Int32) (q : Int32) (hm : M_X4_occurrences N n1 f1 p1 = some q) : CTi l yX4_occurrences wsX4_occurrences rm_X4_occurrences G [.ref x1, .int p1] [(x1, .inl (G.2.1, n1, .inl f1))] q [(x1, .inl (G.2.1, n1, .inl f1))] := by
  intro sz
  refine mk_body (Qc := fun A => (QI G A q [(x1, .inl (G.2.1, n1, .inl f1))])) (cc := cX4_occurrences) (maxL := 4) (ret := (some .int)) (lv := [(0, .ref x1), (1, .int p1)]) (by decide) rfl rfl (Nat.le_of_ble_eq_true rfl) ?_
  intro p e s m args below meth c A H locs ls hF hr hlocks hname hK hA hP hD hS hl
  obtain ⟨hx, hb, hml, hown, hts⟩ := id hF
  unfold M_X4_occurrences at hm
  refine lv_iconst (v := 0) hx hb dX4_occurrences_0 (by decide) ?_
  refine lv_istore_n (lv' := [(2, .int 0), (0, .ref x1), (1, .int p1)]) hx hb dX4_occurrences_1 rfl hl (by decide) rfl (fun ls hl => ?_)
  refine lv_iconst (v := 0) hx hb dX4_occurrences_2 (by decide) ?_
  refine lv_istore_n (lv' := [(3, .int 0), (2, .int 0), (0, .ref x1), (1, .int p1)]) hx hb dX4_occurrences_3 rfl hl (by decide) rfl (fun ls hl => ?_)
  have L4 : ∀ (u4_1 : Int32) (n4 : Nat) (v4_2 : Int32) (v4_3 : Int32), M_X4_occurrences_L4 n1 u4_1 f1 n4 v4_2 v4_3 = some q → ∀ (H : Heap) (locs : List Loc) (ls : Array Slot), va_P G.1 vwCl [(x1, .inl (G.2.1, n1, .inl f1))] H → va_D A [(x1, .inl (G.2.1, n1, .inl f1))] → va_S A s.heap H locs → lv_has ls 4 [(0, .ref x1), (1, .int u4_1), (2, .int v4_2), (3, .int v4_3)] → W p l e rm_X4_occurrences s m args below meth c H locs 0 0 (MQ below (QI G A q [(x1, .inl (G.2.1, n1, .inl f1))]) args s rm_X4_occurrences.cells rm_X4_occurrences.slots A) (F0 m 4 ls []) := by
    intro u4_1 n4
    induction n4 with
    | zero => intro v4_2 v4_3 hm; cases hm
    | succ n4 ih4 =>
      intro v4_2 v4_3 hm H locs ls hP hD hS hl
      rw [M_X4_occurrences_L4] at hm
      refine lv_iload_n hx hb dX4_occurrences_4 rfl (lv_at hl 3 rfl) ?_
      refine lv_aload_n hx hb dX4_occurrences_5 rfl (lv_at hl 0 rfl) ?_
      refine va_alen hx hb hK.1 hP 0 0 rfl rfl (v := (Int32.ofNat n1)) rfl dX4_occurrences_6 ?_
      refine lv_icmp_ge (tgt := 26) hx hb dX4_occurrences_7 (by decide) (fun c401 => ?_) (fun c401 => ?_)
      · replace hm := it_t c401 hm
        refine lv_iload_n hx hb dX4_occurrences_26 rfl (lv_at hl 2 rfl) ?_
        cases hm
        exact rt_i hx hb hr hlocks hP hD hS dX4_occurrences_27
      · replace hm := it_f c401 hm
        refine lv_aload_n hx hb dX4_occurrences_10 rfl (lv_at hl 0 rfl) ?_
        refine lv_iload_n hx hb dX4_occurrences_11 rfl (lv_at hl 3 rfl) ?_
        obtain ⟨hi402, hm⟩ := gd_s hm
        refine va_iald hx hb hK.1 hP 0 0 rfl rfl hi402 dX4_occurrences_12 ?_
        refine lv_iload_n hx hb dX4_occurrences_13 rfl (lv_at hl 1 rfl) ?_
        refine lv_icmp_ne (tgt := 20) hx hb dX4_occurrences_14 (by decide) (fun c403 => ?_) (fun c403 => ?_)
        · replace hm := it_f c403 hm
          refine lv_iinc (v := (v4_3 + 1)) (lv' := [(3, .int (v4_3 + 1)), (0, .ref x1), (1, .int u4_1), (2, .int v4_2)]) hx hb dX4_occurrences_20 hl (k := 3) rfl rfl (by decide) rfl (fun ls hl => ?_)
          refine lv_goto (tgt := 4) hx hb dX4_occurrences_23 (by decide) ?_
          exact ih4 v4_2 (v4_3 + 1) hm _ _ _ hP hD hS (lv_sub hl [1, 2, 3, 0] rfl)
        · replace hm := it_t c403 hm
          refine lv_iinc (v := (v4_2 + 1)) (lv' := [(2, .int (v4_2 + 1)), (0, .ref x1), (1, .int u4_1), (3, .int v4_3)]) hx hb dX4_occurrences_17 hl (k := 2) rfl rfl (by decide) rfl (fun ls hl => ?_)
          refine lv_iinc (v := (v4_3 + 1)) (lv' := [(3, .int (v4_3 + 1)), (2, .int (v4_2 + 1)), (0, .ref x1), (1, .int u4_1)]) hx hb dX4_occurrences_20 hl (k := 3) rfl rfl (by decide) rfl (fun ls hl => ?_)
          refine lv_goto (tgt := 4) hx hb dX4_occurrences_23 (by decide) ?_
          exact ih4 (v4_2 + 1) (v4_3 + 1) hm _ _ _ hP hD hS (lv_sub hl [2, 3, 1, 0] rfl)
  exact L4 p1 N 0 0 hm _ _ _ hP hD hS (lv_sub hl [2, 3, 1, 0] rfl)
def M_X2_copyFrom (qu : Nat → Int32) (oqu : Nat → Int32) (onsz : Int32) : Option ((Nat → Int32) × Int32) :=
  (M_X4_copyRow 20 20 oqu qu).bind fun q1 => some (q1, onsz)
theorem w0_X2_copyFrom : Cond.fieldLink RX2 9 "WeakTableHeap$Notices" "queue" "[I" ∈ wsX2_copyFrom := by decide +kernel
theorem w1_X2_copyFrom : ∀ w ∈ u_ws RX2 TX2 2, w ∈ wsX2_copyFrom := by decide +kernel
theorem w2_X2_copyFrom : Cond.initialized RX4 ∈ wsX2_copyFrom := by decide +kernel
theorem w3_X2_copyFrom : Cond.static yX4_copyRow ∈ wsX2_copyFrom := by decide +kernel
theorem w4_X2_copyFrom : Cond.fieldLink RX2 19 "WeakTableHeap$Notices" "size" "I" ∈ wsX2_copyFrom := by decide +kernel
abbrev rm_X2_copyFrom : Room := { frames := 2, cells := 0, slots := 0, locals := 39 }
set_option maxHeartbeats 4000000 in
set_option maxRecDepth 100000 in
theorem c_X2_copyFrom (l : Launch) (G : GG) (a7 : Nat) (a8 : Nat) (o7 : Nat) (o8 : Nat) (qu : Nat → Int32) (nsz : Int32) (oqu : Nat → Int32) (onsz : Int32) (q : (Nat → Int32) × Int32) (hm : M_X2_copyFrom qu oqu onsz = some q) : CTv l yX2_copyFrom wsX2_copyFrom rm_X2_copyFrom G [.ref a7, .ref o7] (wNT G.2.1 a7 a8 qu nsz ++ wNT G.2.1 o7 o8 oqu onsz) (wNT G.2.1 a7 a8 q.1 q.2 ++ wNT G.2.1 o7 o8 oqu onsz) := by
  intro sz
  refine mk_body (Qc := fun A => (QV G A (wNT G.2.1 a7 a8 q.1 q.2 ++ wNT G.2.1 o7 o8 oqu onsz))) (cc := cX2_copyFrom) (maxL := 2) (ret := none) (lv := [(0, .ref a7), (1, .ref o7)]) (by decide) rfl rfl (Nat.le_of_ble_eq_true rfl) ?_
  intro p e s m args below meth c A H locs ls hF hr hlocks hname hK hA hP hD hS hl
  obtain ⟨hx, hb, hml, hown, hts⟩ := id hF
  unfold M_X2_copyFrom at hm
  refine lv_aload_n hx hb dX2_copyFrom_0 rfl (lv_at hl 1 rfl) ?_
  refine va_get (D := G.1) (ci := 2) (v := .ref o8) (C := RX2) (T := TX2) (N := 2) hx hb hts w1_X2_copyFrom hown hK.1 hP 2 rfl rfl 0 (by decide) (hts _ w0_X2_copyFrom) (fun _ h9 => h9) rfl dX2_copyFrom_1 ?_
  refine lv_aload_n hx hb dX2_copyFrom_4 rfl (lv_at hl 0 rfl) ?_
  refine va_get (D := G.1) (ci := 2) (v := .ref a8) (C := RX2) (T := TX2) (N := 2) hx hb hts w1_X2_copyFrom hown hK.1 hP 0 rfl rfl 0 (by decide) (hts _ w0_X2_copyFrom) (fun _ h9 => h9) rfl dX2_copyFrom_5 ?_
  obtain ⟨q1, hc2, hm⟩ := bd_s hm
  refine kc_v (wi := [(o8, .inl (G.2.1, 20, .inl oqu)), (a8, .inl (G.2.1, 20, .inl qu))]) (wo := [(o8, .inl (G.2.1, 20, .inl oqu)), (a8, .inl (G.2.1, 20, .inl q1))]) (wr := [(a7, .inr (2, [.ref a8, .int nsz])), (o7, .inr (2, [.ref o8, .int onsz]))]) (ws' := (wNT G.2.1 a7 a8 q1 nsz ++ wNT G.2.1 o7 o8 oqu onsz)) (rSN (As := [.ref o8, .ref a8]) (rest := []) (wi := [(o8, .inl (G.2.1, 20, .inl oqu)), (a8, .inl (G.2.1, 20, .inl qu))]) hF hK (hP.sub [3, 1] rfl) (hD.sub [3, 1] rfl rfl) (c_X4_copyRow l G o8 a8 20 20 oqu qu q1 hc2 H.size) ⟨va_cnB 2 hts gX2_copyFrom_X4_copyRow_n15 rfl rfl rfl (nw_RX2_15 hK) (hts _ w2_X2_copyFrom) (by decide +kernel) ⟨Nat.le_of_ble_eq_true rfl, Nat.le_of_ble_eq_true rfl⟩, hts _ w3_X2_copyFrom, trivial⟩ rfl hl.1 rfl (Nat.le_of_ble_eq_true rfl) dX2_copyFrom_8 ⟨Nat.le_of_ble_eq_true rfl, Nat.le_of_ble_eq_true rfl⟩) hP hD hS hA [3, 1] [0, 2] [0, 3, 1, 2] rfl rfl rfl (by decide) rfl rfl (fun H locs hP hD hS => ?_)
  refine lv_aload_n hx hb dX2_copyFrom_11 rfl (lv_at hl 0 rfl) ?_
  refine lv_aload_n hx hb dX2_copyFrom_12 rfl (lv_at hl 1 rfl) ?_
  refine va_get (D := G.1) (ci := 2) (v := .int onsz) (C := RX2) (T := TX2) (N := 2) hx hb hts w1_X2_copyFrom hown hK.1 hP 2 rfl rfl 1 (by decide) (hts _ w4_X2_copyFrom) (fun _ h9 => h9) rfl dX2_copyFrom_13 ?_
  refine va_put (D := G.1) (ci := 2) (v := .int onsz) (ty := .int) (C := RX2) (T := TX2) (N := 2) hx hb hts w1_X2_copyFrom tyX2 tyX2_ok nmX2 hown hK.1 hP hD hS 0 rfl rfl 1 (by decide) (hts _ w4_X2_copyFrom) (fun _ h9 => h9) rfl (by decide +kernel) rfl rfl (Nat.le_of_ble_eq_true rfl) dX2_copyFrom_16 (fun H locs hP hD hS => ?_)
  have hP : va_P G.1 vwCl (wNT G.2.1 a7 a8 q1 onsz ++ wNT G.2.1 o7 o8 oqu onsz) H := hP
  have hD : va_D A (wNT G.2.1 a7 a8 q1 onsz ++ wNT G.2.1 o7 o8 oqu onsz) := hD
  cases hm
  exact rt_v hx hb hr hlocks hP hD hS dX2_copyFrom_19
def M_X2_removeOldest (qu : Nat → Int32) (nsz : Int32) : Option (Int32 × (Nat → Int32) × Int32) :=
  gd 0 20 (gc (¬ (1 : Int32) < 0 ∧ ¬ (0 : Int32) < 0 ∧ ¬ (19 : Int32) < 0 ∧ (1 : Int32).toNatClampNeg + (19 : Int32).toNatClampNeg ≤ 20 ∧ (0 : Int32).toNatClampNeg + (19 : Int32).toNatClampNeg ≤ 20) (some ((qu (0 : Int32).toNatClampNeg), (va_cpy qu qu (1 : Int32).toNatClampNeg (0 : Int32).toNatClampNeg (19 : Int32).toNatClampNeg), (if (nsz - 1) < 0 then 0 else (nsz - 1)))))
theorem w0_X2_removeOldest : Cond.fieldLink RX2 9 "WeakTableHeap$Notices" "queue" "[I" ∈ wsX2_removeOldest := by decide +kernel
theorem w1_X2_removeOldest : ∀ w ∈ u_ws RX2 TX2 2, w ∈ wsX2_removeOldest := by decide +kernel
theorem w2_X2_removeOldest : Cond.methodLink RX2 31 arraycopyName ∈ wsX2_removeOldest := by decide +kernel
theorem w3_X2_removeOldest : Cond.native arraycopyName ∈ wsX2_removeOldest := by decide +kernel
theorem w4_X2_removeOldest : Cond.static arraycopyName ∈ wsX2_removeOldest := by decide +kernel
theorem w5_X2_removeOldest : Cond.initialized "java/lang/System" ∈ wsX2_removeOldest := by decide +kernel
theorem w6_X2_removeOldest : Cond.fieldLink RX2 19 "WeakTableHeap$Notices" "size" "I" ∈ wsX2_removeOldest := by decide +kernel
theorem w7_X2_removeOldest : Cond.methodLink RX2 37 Lib.Math.max.name ∈ wsX2_removeOldest := by decide +kernel
theorem w8_X2_removeOldest : Cond.static Lib.Math.max.name ∈ wsX2_removeOldest := by decide +kernel
theorem w9_X2_removeOldest : Cond.initialized "java/lang/Math" ∈ wsX2_removeOldest := by decide +kernel
theorem w10_X2_removeOldest : Cond.code Lib.Math.max.name Lib.Math.max.code 2 (some .int) ∈ wsX2_removeOldest := by decide +kernel
abbrev rm_X2_removeOldest : Room := { frames := 1, cells := 0, slots := 0, locals := 18 }
set_option maxHeartbeats 4000000 in
set_option maxRecDepth 100000 in
theorem c_X2_removeOldest (l : Launch) (G : GG) (a7 : Nat) (a8 : Nat) (qu : Nat → Int32) (nsz : Int32) (q : Int32 × (Nat → Int32) × Int32) (hm : M_X2_removeOldest qu nsz = some q) : CTi l yX2_removeOldest wsX2_removeOldest rm_X2_removeOldest G [.ref a7] (wNT G.2.1 a7 a8 qu nsz) q.1 (wNT G.2.1 a7 a8 q.2.1 q.2.2) := by
  intro sz
  refine mk_body (Qc := fun A => (QI G A q.1 (wNT G.2.1 a7 a8 q.2.1 q.2.2))) (cc := cX2_removeOldest) (maxL := 2) (ret := (some .int)) (lv := [(0, .ref a7)]) (by decide) rfl rfl (Nat.le_of_ble_eq_true rfl) ?_
  intro p e s m args below meth c A H locs ls hF hr hlocks hname hK hA hP hD hS hl
  obtain ⟨hx, hb, hml, hown, hts⟩ := id hF
  unfold M_X2_removeOldest at hm
  refine lv_aload_n hx hb dX2_removeOldest_0 rfl (lv_at hl 0 rfl) ?_
  refine va_get (D := G.1) (ci := 2) (v := .ref a8) (C := RX2) (T := TX2) (N := 2) hx hb hts w1_X2_removeOldest hown hK.1 hP 0 rfl rfl 0 (by decide) (hts _ w0_X2_removeOldest) (fun _ h9 => h9) rfl dX2_removeOldest_1 ?_
  refine lv_iconst (v := 0) hx hb dX2_removeOldest_4 (by decide) ?_
  obtain ⟨hi1, hm⟩ := gd_s hm
  refine va_iald hx hb hK.1 hP 1 0 rfl rfl hi1 dX2_removeOldest_5 ?_
  refine lv_istore_n (lv' := [(1, .int (qu (0 : Int32).toNatClampNeg)), (0, .ref a7)]) hx hb dX2_removeOldest_6 rfl hl (by decide) rfl (fun ls hl => ?_)
  refine lv_aload_n hx hb dX2_removeOldest_7 rfl (lv_at hl 1 rfl) ?_
  refine va_get (D := G.1) (ci := 2) (v := .ref a8) (C := RX2) (T := TX2) (N := 2) hx hb hts w1_X2_removeOldest hown hK.1 hP 0 rfl rfl 0 (by decide) (hts _ w0_X2_removeOldest) (fun _ h9 => h9) rfl dX2_removeOldest_8 ?_
  refine lv_iconst (v := 1) hx hb dX2_removeOldest_11 (by decide) ?_
  refine lv_aload_n hx hb dX2_removeOldest_12 rfl (lv_at hl 1 rfl) ?_
  refine va_get (D := G.1) (ci := 2) (v := .ref a8) (C := RX2) (T := TX2) (N := 2) hx hb hts w1_X2_removeOldest hown hK.1 hP 0 rfl rfl 0 (by decide) (hts _ w0_X2_removeOldest) (fun _ h9 => h9) rfl dX2_removeOldest_13 ?_
  refine lv_iconst (v := 0) hx hb dX2_removeOldest_16 (by decide) ?_
  refine lv_bipush (v := 19) hx hb dX2_removeOldest_17 (by decide) ?_
  obtain ⟨hc2, hm⟩ := gc_s hm
  refine va_copyi hx hb (hml.trans hl.1.symm) hown (hts _ w2_X2_removeOldest) (hts _ w3_X2_removeOldest) (hts _ w4_X2_removeOldest) (hts _ w5_X2_removeOldest) hK.1 hP hD hS 1 1 0 0 rfl rfl rfl rfl rfl hc2.1 hc2.2.1 hc2.2.2.1 hc2.2.2.2.1 hc2.2.2.2.2 (fun _ _ => rfl) (Nat.le_of_ble_eq_true rfl) (Nat.le_of_ble_eq_true rfl) dX2_removeOldest_19 (fun H locs hP hD hS => ?_)
  have hP : va_P G.1 vwCl (wNT G.2.1 a7 a8 (va_cpy qu qu (1 : Int32).toNatClampNeg (0 : Int32).toNatClampNeg (19 : Int32).toNatClampNeg) nsz) H := hP
  have hD : va_D A (wNT G.2.1 a7 a8 (va_cpy qu qu (1 : Int32).toNatClampNeg (0 : Int32).toNatClampNeg (19 : Int32).toNatClampNeg) nsz) := hD
  refine lv_aload_n hx hb dX2_removeOldest_22 rfl (lv_at hl 1 rfl) ?_
  refine lv_aload_n hx hb dX2_removeOldest_23 rfl (lv_at hl 1 rfl) ?_
  refine va_get (D := G.1) (ci := 2) (v := .int nsz) (C := RX2) (T := TX2) (N := 2) hx hb hts w1_X2_removeOldest hown hK.1 hP 0 rfl rfl 1 (by decide) (hts _ w6_X2_removeOldest) (fun _ h9 => h9) rfl dX2_removeOldest_24 ?_
  refine lv_iconst (v := 1) hx hb dX2_removeOldest_27 (by decide) ?_
  refine lv_isub hx hb dX2_removeOldest_28 ?_
  refine lv_iconst (v := 0) hx hb dX2_removeOldest_29 (by decide) ?_
  refine va_mmax hx hb (hml.trans hl.1.symm) hown (hts _ w7_X2_removeOldest) (hts _ w8_X2_removeOldest) (hts _ w9_X2_removeOldest) (hts _ w10_X2_removeOldest) (Nat.le_of_ble_eq_true rfl) (Nat.le_of_ble_eq_true rfl) (Nat.le_of_ble_eq_true rfl) (Nat.le_of_ble_eq_true rfl) dX2_removeOldest_30 ?_
  refine va_put (D := G.1) (ci := 2) (v := .int (if (nsz - 1) < 0 then 0 else (nsz - 1))) (ty := .int) (C := RX2) (T := TX2) (N := 2) hx hb hts w1_X2_removeOldest tyX2 tyX2_ok nmX2 hown hK.1 hP hD hS 0 rfl rfl 1 (by decide) (hts _ w6_X2_removeOldest) (fun _ h9 => h9) rfl (by decide +kernel) rfl rfl (Nat.le_of_ble_eq_true rfl) dX2_removeOldest_33 (fun H locs hP hD hS => ?_)
  have hP : va_P G.1 vwCl (wNT G.2.1 a7 a8 (va_cpy qu qu (1 : Int32).toNatClampNeg (0 : Int32).toNatClampNeg (19 : Int32).toNatClampNeg) (if (nsz - 1) < 0 then 0 else (nsz - 1))) H := hP
  have hD : va_D A (wNT G.2.1 a7 a8 (va_cpy qu qu (1 : Int32).toNatClampNeg (0 : Int32).toNatClampNeg (19 : Int32).toNatClampNeg) (if (nsz - 1) < 0 then 0 else (nsz - 1))) := hD
  refine lv_iload_n hx hb dX2_removeOldest_36 rfl (lv_at hl 0 rfl) ?_
  cases hm
  exact rt_i hx hb hr hlocks hP hD hS dX2_removeOldest_37
def M_X2_issue (qu : Nat → Int32) (nsz : Int32) (p1 : Int32) : Option ((Nat → Int32) × Int32) :=
  if nsz < 20 then ((M_X4_within nsz 20).bind fun q2 => if q2 = 0 then (some (qu, nsz)) else (gd nsz 20 (some ((upd qu nsz.toNatClampNeg p1), (nsz + 1))))) else ((M_X2_removeOldest qu nsz).bind fun q6 => (M_X4_within q6.2.2 20).bind fun q8 => if q8 = 0 then (some (q6.2.1, q6.2.2)) else (gd q6.2.2 20 (some ((upd q6.2.1 q6.2.2.toNatClampNeg p1), (q6.2.2 + 1)))))
theorem w0_X2_issue : Cond.fieldLink RX2 19 "WeakTableHeap$Notices" "size" "I" ∈ wsX2_issue := by decide +kernel
theorem w1_X2_issue : ∀ w ∈ u_ws RX2 TX2 2, w ∈ wsX2_issue := by decide +kernel
theorem w2_X2_issue : Cond.initialized RX4 ∈ wsX2_issue := by decide +kernel
theorem w3_X2_issue : Cond.static yX4_within ∈ wsX2_issue := by decide +kernel
theorem w4_X2_issue : Cond.fieldLink RX2 9 "WeakTableHeap$Notices" "queue" "[I" ∈ wsX2_issue := by decide +kernel
abbrev rm_X2_issue : Room := { frames := 2, cells := 0, slots := 0, locals := 39 }
set_option maxHeartbeats 4000000 in
set_option maxRecDepth 100000 in
theorem c_X2_issue (l : Launch) (G : GG) (a7 : Nat) (a8 : Nat) (qu : Nat → Int32) (nsz : Int32) (p1 : Int32) (q : (Nat → Int32) × Int32) (hm : M_X2_issue qu nsz p1 = some q) : CTv l yX2_issue wsX2_issue rm_X2_issue G [.ref a7, .int p1] (wNT G.2.1 a7 a8 qu nsz) (wNT G.2.1 a7 a8 q.1 q.2) := by
  intro sz
  refine mk_body (Qc := fun A => (QV G A (wNT G.2.1 a7 a8 q.1 q.2))) (cc := cX2_issue) (maxL := 2) (ret := none) (lv := [(0, .ref a7), (1, .int p1)]) (by decide) rfl rfl (Nat.le_of_ble_eq_true rfl) ?_
  intro p e s m args below meth c A H locs ls hF hr hlocks hname hK hA hP hD hS hl
  obtain ⟨hx, hb, hml, hown, hts⟩ := id hF
  unfold M_X2_issue at hm
  refine lv_aload_n hx hb dX2_issue_0 rfl (lv_at hl 0 rfl) ?_
  refine va_get (D := G.1) (ci := 2) (v := .int nsz) (C := RX2) (T := TX2) (N := 2) hx hb hts w1_X2_issue hown hK.1 hP 0 rfl rfl 1 (by decide) (hts _ w0_X2_issue) (fun _ h9 => h9) rfl dX2_issue_1 ?_
  refine lv_bipush (v := 20) hx hb dX2_issue_4 (by decide) ?_
  refine lv_icmp_lt (tgt := 14) hx hb dX2_issue_6 (by decide) (fun c1 => ?_) (fun c1 => ?_)
  · replace hm := it_t c1 hm
    refine lv_aload_n hx hb dX2_issue_14 rfl (lv_at hl 0 rfl) ?_
    refine va_get (D := G.1) (ci := 2) (v := .int nsz) (C := RX2) (T := TX2) (N := 2) hx hb hts w1_X2_issue hown hK.1 hP 0 rfl rfl 1 (by decide) (hts _ w0_X2_issue) (fun _ h9 => h9) rfl dX2_issue_15 ?_
    refine lv_bipush (v := 20) hx hb dX2_issue_18 (by decide) ?_
    obtain ⟨q2, hc3, hm⟩ := bd_s hm
    refine k0_i (ws := (wNT G.2.1 a7 a8 qu nsz)) (rSN (As := [.int nsz, .int 20]) (rest := []) (wi := ([] : va_W)) hF hK k0_P (k0_D (A := A)) (c_X4_within l G nsz 20 q2 hc3 H.size) ⟨va_cnB 2 hts gX2_issue_X4_within_n27 rfl rfl rfl (nw_RX2_27 hK) (hts _ w2_X2_issue) (by decide +kernel) ⟨Nat.le_of_ble_eq_true rfl, Nat.le_of_ble_eq_true rfl⟩, hts _ w3_X2_issue, trivial⟩ rfl hl.1 rfl (Nat.le_of_ble_eq_true rfl) dX2_issue_20 ⟨Nat.le_of_ble_eq_true rfl, Nat.le_of_ble_eq_true rfl⟩) hP hS hA (fun H locs hP hS => ?_)
    refine lv_if_eq (tgt := 46) hx hb dX2_issue_23 (by decide) (fun c4 => ?_) (fun c4 => ?_)
    · replace hm := it_t c4 hm
      cases hm
      exact rt_v hx hb hr hlocks hP hD hS dX2_issue_46
    · replace hm := it_f c4 hm
      refine lv_aload_n hx hb dX2_issue_26 rfl (lv_at hl 0 rfl) ?_
      refine va_get (D := G.1) (ci := 2) (v := .ref a8) (C := RX2) (T := TX2) (N := 2) hx hb hts w1_X2_issue hown hK.1 hP 0 rfl rfl 0 (by decide) (hts _ w4_X2_issue) (fun _ h9 => h9) rfl dX2_issue_27 ?_
      refine lv_aload_n hx hb dX2_issue_30 rfl (lv_at hl 0 rfl) ?_
      refine va_get (D := G.1) (ci := 2) (v := .int nsz) (C := RX2) (T := TX2) (N := 2) hx hb hts w1_X2_issue hown hK.1 hP 0 rfl rfl 1 (by decide) (hts _ w0_X2_issue) (fun _ h9 => h9) rfl dX2_issue_31 ?_
      refine lv_iload_n hx hb dX2_issue_34 rfl (lv_at hl 1 rfl) ?_
      obtain ⟨hi5, hm⟩ := gd_s hm
      refine va_iast hx hb hK.1 hP hD hS 1 0 rfl rfl hi5 dX2_issue_35 (fun H locs hP hD hS => ?_)
      have hP : va_P G.1 vwCl (wNT G.2.1 a7 a8 (upd qu nsz.toNatClampNeg p1) nsz) H := hP
      have hD : va_D A (wNT G.2.1 a7 a8 (upd qu nsz.toNatClampNeg p1) nsz) := hD
      refine lv_aload_n hx hb dX2_issue_36 rfl (lv_at hl 0 rfl) ?_
      refine lv_dup hx hb dX2_issue_37 rfl ?_
      refine va_get (D := G.1) (ci := 2) (v := .int nsz) (C := RX2) (T := TX2) (N := 2) hx hb hts w1_X2_issue hown hK.1 hP 0 rfl rfl 1 (by decide) (hts _ w0_X2_issue) (fun _ h9 => h9) rfl dX2_issue_38 ?_
      refine lv_iconst (v := 1) hx hb dX2_issue_41 (by decide) ?_
      refine lv_iadd hx hb dX2_issue_42 ?_
      refine va_put (D := G.1) (ci := 2) (v := .int (nsz + 1)) (ty := .int) (C := RX2) (T := TX2) (N := 2) hx hb hts w1_X2_issue tyX2 tyX2_ok nmX2 hown hK.1 hP hD hS 0 rfl rfl 1 (by decide) (hts _ w0_X2_issue) (fun _ h9 => h9) rfl (by decide +kernel) rfl rfl (Nat.le_of_ble_eq_true rfl) dX2_issue_43 (fun H locs hP hD hS => ?_)
      have hP : va_P G.1 vwCl (wNT G.2.1 a7 a8 (upd qu nsz.toNatClampNeg p1) (nsz + 1)) H := hP
      have hD : va_D A (wNT G.2.1 a7 a8 (upd qu nsz.toNatClampNeg p1) (nsz + 1)) := hD
      cases hm
      exact rt_v hx hb hr hlocks hP hD hS dX2_issue_46
  · replace hm := it_f c1 hm
    refine lv_aload_n hx hb dX2_issue_9 rfl (lv_at hl 0 rfl) ?_
    obtain ⟨q6, hc7, hm⟩ := bd_s hm
    refine ks_i (wo := (wNT G.2.1 a7 a8 q6.2.1 q6.2.2)) (rV (As := []) (rest := []) (b := a7) (wi := (wNT G.2.1 a7 a8 qu nsz)) hF hK hP hD (c_X2_removeOldest l G a7 a8 qu nsz q6 hc7 H.size) (cwV 0 hts gX2_issue_X2_removeOldest rfl rfl rfl (by decide +kernel) ⟨Nat.le_of_ble_eq_true rfl, Nat.le_of_ble_eq_true rfl⟩) (va_recv hK.1 hP (ci := 2) (q0 := 0) rfl rfl) rfl hl.1 rfl (Nat.le_of_ble_eq_true rfl) dX2_issue_10 ⟨Nat.le_of_ble_eq_true rfl, Nat.le_of_ble_eq_true rfl⟩) hD hS hA (fun H locs hP hD hS => ?_)
    have hP : va_P G.1 vwCl (wNT G.2.1 a7 a8 q6.2.1 q6.2.2) H := hP
    have hD : va_D A (wNT G.2.1 a7 a8 q6.2.1 q6.2.2) := hD
    refine lv_pop hx hb dX2_issue_13 rfl ?_
    refine lv_aload_n hx hb dX2_issue_14 rfl (lv_at hl 0 rfl) ?_
    refine va_get (D := G.1) (ci := 2) (v := .int q6.2.2) (C := RX2) (T := TX2) (N := 2) hx hb hts w1_X2_issue hown hK.1 hP 0 rfl rfl 1 (by decide) (hts _ w0_X2_issue) (fun _ h9 => h9) rfl dX2_issue_15 ?_
    refine lv_bipush (v := 20) hx hb dX2_issue_18 (by decide) ?_
    obtain ⟨q8, hc9, hm⟩ := bd_s hm
    refine k0_i (ws := (wNT G.2.1 a7 a8 q6.2.1 q6.2.2)) (rSN (As := [.int q6.2.2, .int 20]) (rest := []) (wi := ([] : va_W)) hF hK k0_P (k0_D (A := A)) (c_X4_within l G q6.2.2 20 q8 hc9 H.size) ⟨va_cnB 2 hts gX2_issue_X4_within_n27 rfl rfl rfl (nw_RX2_27 hK) (hts _ w2_X2_issue) (by decide +kernel) ⟨Nat.le_of_ble_eq_true rfl, Nat.le_of_ble_eq_true rfl⟩, hts _ w3_X2_issue, trivial⟩ rfl hl.1 rfl (Nat.le_of_ble_eq_true rfl) dX2_issue_20 ⟨Nat.le_of_ble_eq_true rfl, Nat.le_of_ble_eq_true rfl⟩) hP hS hA (fun H locs hP hS => ?_)
    refine lv_if_eq (tgt := 46) hx hb dX2_issue_23 (by decide) (fun c10 => ?_) (fun c10 => ?_)
    · replace hm := it_t c10 hm
      cases hm
      exact rt_v hx hb hr hlocks hP hD hS dX2_issue_46
    · replace hm := it_f c10 hm
      refine lv_aload_n hx hb dX2_issue_26 rfl (lv_at hl 0 rfl) ?_
      refine va_get (D := G.1) (ci := 2) (v := .ref a8) (C := RX2) (T := TX2) (N := 2) hx hb hts w1_X2_issue hown hK.1 hP 0 rfl rfl 0 (by decide) (hts _ w4_X2_issue) (fun _ h9 => h9) rfl dX2_issue_27 ?_
      refine lv_aload_n hx hb dX2_issue_30 rfl (lv_at hl 0 rfl) ?_
      refine va_get (D := G.1) (ci := 2) (v := .int q6.2.2) (C := RX2) (T := TX2) (N := 2) hx hb hts w1_X2_issue hown hK.1 hP 0 rfl rfl 1 (by decide) (hts _ w0_X2_issue) (fun _ h9 => h9) rfl dX2_issue_31 ?_
      refine lv_iload_n hx hb dX2_issue_34 rfl (lv_at hl 1 rfl) ?_
      obtain ⟨hi11, hm⟩ := gd_s hm
      refine va_iast hx hb hK.1 hP hD hS 1 0 rfl rfl hi11 dX2_issue_35 (fun H locs hP hD hS => ?_)
      have hP : va_P G.1 vwCl (wNT G.2.1 a7 a8 (upd q6.2.1 q6.2.2.toNatClampNeg p1) q6.2.2) H := hP
      have hD : va_D A (wNT G.2.1 a7 a8 (upd q6.2.1 q6.2.2.toNatClampNeg p1) q6.2.2) := hD
      refine lv_aload_n hx hb dX2_issue_36 rfl (lv_at hl 0 rfl) ?_
      refine lv_dup hx hb dX2_issue_37 rfl ?_
      refine va_get (D := G.1) (ci := 2) (v := .int q6.2.2) (C := RX2) (T := TX2) (N := 2) hx hb hts w1_X2_issue hown hK.1 hP 0 rfl rfl 1 (by decide) (hts _ w0_X2_issue) (fun _ h9 => h9) rfl dX2_issue_38 ?_
      refine lv_iconst (v := 1) hx hb dX2_issue_41 (by decide) ?_
      refine lv_iadd hx hb dX2_issue_42 ?_
      refine va_put (D := G.1) (ci := 2) (v := .int (q6.2.2 + 1)) (ty := .int) (C := RX2) (T := TX2) (N := 2) hx hb hts w1_X2_issue tyX2 tyX2_ok nmX2 hown hK.1 hP hD hS 0 rfl rfl 1 (by decide) (hts _ w0_X2_issue) (fun _ h9 => h9) rfl (by decide +kernel) rfl rfl (Nat.le_of_ble_eq_true rfl) dX2_issue_43 (fun H locs hP hD hS => ?_)
      have hP : va_P G.1 vwCl (wNT G.2.1 a7 a8 (upd q6.2.1 q6.2.2.toNatClampNeg p1) (q6.2.2 + 1)) H := hP
      have hD : va_D A (wNT G.2.1 a7 a8 (upd q6.2.1 q6.2.2.toNatClampNeg p1) (q6.2.2 + 1)) := hD
      cases hm
      exact rt_v hx hb hr hlocks hP hD hS dX2_issue_46
