def M_X3_keepEntries_L21 (u21_1 : Int32) (u21_2 : Int32) : Nat → (Int32) → (Int32) → (Nat → Int32) → (Nat → Int32) → Option ((Nat → Int32) × (Nat → Int32))
  | 0, _, _, _, _ => none
  | n21 + 1, v21_3, v21_4, ke21_, va21_ => if ((u21_1 + 1) * 6) ≤ v21_4 then (some (ke21_, va21_)) else (gd v21_4 144 (gd v21_4 144 (gd v21_4 144 (gd v21_4 144 ((M_X4_contains u21_2 (ke21_ v21_4.toNatClampNeg)).bind fun q2106 => if q2106 = 0 then (M_X3_keepEntries_L21 u21_1 u21_2 n21 v21_3 (v21_4 + 1) (upd ke21_ v21_4.toNatClampNeg (-9)) (upd va21_ v21_4.toNatClampNeg (-9))) else (gd v21_3 144 (gd v21_3 144 (M_X3_keepEntries_L21 u21_1 u21_2 n21 (v21_3 + 1) (v21_4 + 1) (upd (upd ke21_ v21_4.toNatClampNeg (-9)) v21_3.toNatClampNeg (ke21_ v21_4.toNatClampNeg)) (upd (upd va21_ v21_4.toNatClampNeg (-9)) v21_3.toNatClampNeg (va21_ v21_4.toNatClampNeg))))))))))
def M_X3_keepEntries (N : Nat) (ke : Nat → Int32) (va : Nat → Int32) (p1 : Int32) (p2 : Int32) : Option ((Nat → Int32) × (Nat → Int32)) :=
  (M_X4_within p1 24).bind fun q1 => if q1 = 0 then (some (ke, va)) else (M_X3_keepEntries_L21 p1 p2 N (p1 * 6) (p1 * 6) ke va)
theorem w0_X3_keepEntries : Cond.initialized RX4 ∈ wsX3_keepEntries := by decide +kernel
theorem w1_X3_keepEntries : Cond.static yX4_within ∈ wsX3_keepEntries := by decide +kernel
theorem w2_X3_keepEntries : Cond.fieldLink RX3 22 "WeakTableHeap$State" "keys" "[I" ∈ wsX3_keepEntries := by decide +kernel
theorem w3_X3_keepEntries : ∀ w ∈ u_ws RX3 TX3 9, w ∈ wsX3_keepEntries := by decide +kernel
theorem w4_X3_keepEntries : Cond.fieldLink RX3 25 "WeakTableHeap$State" "values" "[I" ∈ wsX3_keepEntries := by decide +kernel
theorem w5_X3_keepEntries : Cond.static yX4_contains ∈ wsX3_keepEntries := by decide +kernel
abbrev rm_X3_keepEntries : Room := { frames := 2, cells := 0, slots := 0, locals := 41 }
set_option maxHeartbeats 4000000 in
set_option maxRecDepth 100000 in
theorem c_X3_keepEntries (l : Launch) (G : GG) (N : Nat) (a : Nat → Nat) (ki : Nat → Int32) (fi : Nat → Int32) (ke : Nat → Int32) (va : Nat → Int32) (ta : Nat → Int32) (ro : Nat → Int32) (qu : Nat → Int32) (nsz : Int32) (fin : Int32) (rnd : Int32) (p1 : Int32) (p2 : Int32) (q : (Nat → Int32) × (Nat → Int32)) (hm : M_X3_keepEntries N ke va p1 p2 = some q) : CTv l yX3_keepEntries wsX3_keepEntries rm_X3_keepEntries G [.ref (a 0), .int p1, .int p2] (wST G.2.1 a ki fi ke va ta ro qu nsz fin rnd) (wST G.2.1 a ki fi q.1 q.2 ta ro qu nsz fin rnd) := by
  intro sz
  refine mk_body (Qc := fun A => (QV G A (wST G.2.1 a ki fi q.1 q.2 ta ro qu nsz fin rnd))) (cc := cX3_keepEntries) (maxL := 7) (ret := none) (lv := [(0, .ref (a 0)), (1, .int p1), (2, .int p2)]) (by decide) rfl rfl (Nat.le_of_ble_eq_true rfl) ?_
  intro p e s m args below meth c A H locs ls hF hr hlocks hname hK hA hP hD hS hl
  obtain ⟨hx, hb, hml, hown, hts⟩ := id hF
  unfold M_X3_keepEntries at hm
  refine lv_iload_n hx hb dX3_keepEntries_0 rfl (lv_at hl 1 rfl) ?_
  refine lv_bipush (v := 24) hx hb dX3_keepEntries_1 (by decide) ?_
  obtain ⟨q1, hc2, hm⟩ := bd_s hm
  refine k0_i (ws := (wST G.2.1 a ki fi ke va ta ro qu nsz fin rnd)) (rSN (As := [.int p1, .int 24]) (rest := []) (wi := ([] : va_W)) hF hK k0_P (k0_D (A := A)) (c_X4_within l G p1 24 q1 hc2 H.size) ⟨va_cnB 2 hts gX3_keepEntries_X4_within_n56 rfl rfl rfl (nw_RX3_56 hK) (hts _ w0_X3_keepEntries) (by decide +kernel) ⟨Nat.le_of_ble_eq_true rfl, Nat.le_of_ble_eq_true rfl⟩, hts _ w1_X3_keepEntries, trivial⟩ rfl hl.1 rfl (Nat.le_of_ble_eq_true rfl) dX3_keepEntries_3 ⟨Nat.le_of_ble_eq_true rfl, Nat.le_of_ble_eq_true rfl⟩) hP hS hA (fun H locs hP hS => ?_)
  refine lv_if_ne (tgt := 10) hx hb dX3_keepEntries_6 (by decide) (fun c3 => ?_) (fun c3 => ?_)
  · replace hm := it_f c3 hm
    refine lv_iload_n hx hb dX3_keepEntries_10 rfl (lv_at hl 1 rfl) ?_
    refine lv_bipush (v := 6) hx hb dX3_keepEntries_11 (by decide) ?_
    refine lv_imul hx hb dX3_keepEntries_13 ?_
    refine lv_istore_n (lv' := [(3, .int (p1 * 6)), (0, .ref (a 0)), (1, .int p1), (2, .int p2)]) hx hb dX3_keepEntries_14 rfl hl (by decide) rfl (fun ls hl => ?_)
    refine lv_iload_n hx hb dX3_keepEntries_15 rfl (lv_at hl 2 rfl) ?_
    refine lv_bipush (v := 6) hx hb dX3_keepEntries_16 (by decide) ?_
    refine lv_imul hx hb dX3_keepEntries_18 ?_
    refine lv_istore (lv' := [(4, .int (p1 * 6)), (3, .int (p1 * 6)), (0, .ref (a 0)), (1, .int p1), (2, .int p2)]) hx hb dX3_keepEntries_19 hl (by decide) rfl (fun ls hl => ?_)
    have L21 : ∀ (u21_1 : Int32) (u21_2 : Int32) (n21 : Nat) (v21_3 : Int32) (v21_4 : Int32) (ke21_ : Nat → Int32) (va21_ : Nat → Int32), M_X3_keepEntries_L21 u21_1 u21_2 n21 v21_3 v21_4 ke21_ va21_ = some q → ∀ (H : Heap) (locs : List Loc) (ls : Array Slot), va_P G.1 vwCl (wST G.2.1 a ki fi ke21_ va21_ ta ro qu nsz fin rnd) H → va_D A (wST G.2.1 a ki fi ke21_ va21_ ta ro qu nsz fin rnd) → va_S A s.heap H locs → lv_has ls 7 [(0, .ref (a 0)), (1, .int u21_1), (2, .int u21_2), (3, .int v21_3), (4, .int v21_4)] → W p l e rm_X3_keepEntries s m args below meth c H locs 0 0 (MQ below (QV G A (wST G.2.1 a ki fi q.1 q.2 ta ro qu nsz fin rnd)) args s rm_X3_keepEntries.cells rm_X3_keepEntries.slots A) (F0 m 21 ls []) := by
      intro u21_1 u21_2 n21
      induction n21 with
      | zero => intro v21_3 v21_4 ke21_ va21_ hm; cases hm
      | succ n21 ih21 =>
        intro v21_3 v21_4 ke21_ va21_ hm H locs ls hP hD hS hl
        rw [M_X3_keepEntries_L21] at hm
        refine lv_iload hx hb dX3_keepEntries_21 (lv_at hl 4 rfl) ?_
        refine lv_iload_n hx hb dX3_keepEntries_23 rfl (lv_at hl 1 rfl) ?_
        refine lv_iconst (v := 1) hx hb dX3_keepEntries_24 (by decide) ?_
        refine lv_iadd hx hb dX3_keepEntries_25 ?_
        refine lv_bipush (v := 6) hx hb dX3_keepEntries_26 (by decide) ?_
        refine lv_imul hx hb dX3_keepEntries_28 ?_
        refine lv_icmp_ge (tgt := 102) hx hb dX3_keepEntries_29 (by decide) (fun c2101 => ?_) (fun c2101 => ?_)
        · replace hm := it_t c2101 hm
          cases hm
          exact rt_v hx hb hr hlocks hP hD hS dX3_keepEntries_102
        · replace hm := it_f c2101 hm
          refine lv_aload_n hx hb dX3_keepEntries_32 rfl (lv_at hl 0 rfl) ?_
          refine va_get (D := G.1) (ci := 3) (v := .ref (a 3)) (C := RX3) (T := TX3) (N := 9) hx hb hts w3_X3_keepEntries hown hK.1 hP 0 rfl rfl 2 (by decide) (hts _ w2_X3_keepEntries) (fun _ h9 => h9) rfl dX3_keepEntries_33 ?_
          refine lv_iload hx hb dX3_keepEntries_36 (lv_at hl 4 rfl) ?_
          obtain ⟨hi2102, hm⟩ := gd_s hm
          refine va_iald hx hb hK.1 hP 3 0 rfl rfl hi2102 dX3_keepEntries_38 ?_
          refine lv_istore (lv' := [(5, .int (ke21_ v21_4.toNatClampNeg)), (0, .ref (a 0)), (1, .int u21_1), (2, .int u21_2), (3, .int v21_3), (4, .int v21_4)]) hx hb dX3_keepEntries_39 hl (by decide) rfl (fun ls hl => ?_)
          refine lv_aload_n hx hb dX3_keepEntries_41 rfl (lv_at hl 1 rfl) ?_
          refine va_get (D := G.1) (ci := 3) (v := .ref (a 4)) (C := RX3) (T := TX3) (N := 9) hx hb hts w3_X3_keepEntries hown hK.1 hP 0 rfl rfl 3 (by decide) (hts _ w4_X3_keepEntries) (fun _ h9 => h9) rfl dX3_keepEntries_42 ?_
          refine lv_iload hx hb dX3_keepEntries_45 (lv_at hl 5 rfl) ?_
          obtain ⟨hi2103, hm⟩ := gd_s hm
          refine va_iald hx hb hK.1 hP 4 0 rfl rfl hi2103 dX3_keepEntries_47 ?_
          refine lv_istore (lv' := [(6, .int (va21_ v21_4.toNatClampNeg)), (5, .int (ke21_ v21_4.toNatClampNeg)), (0, .ref (a 0)), (1, .int u21_1), (2, .int u21_2), (3, .int v21_3), (4, .int v21_4)]) hx hb dX3_keepEntries_48 hl (by decide) rfl (fun ls hl => ?_)
          refine lv_aload_n hx hb dX3_keepEntries_50 rfl (lv_at hl 2 rfl) ?_
          refine va_get (D := G.1) (ci := 3) (v := .ref (a 3)) (C := RX3) (T := TX3) (N := 9) hx hb hts w3_X3_keepEntries hown hK.1 hP 0 rfl rfl 2 (by decide) (hts _ w2_X3_keepEntries) (fun _ h9 => h9) rfl dX3_keepEntries_51 ?_
          refine lv_iload hx hb dX3_keepEntries_54 (lv_at hl 6 rfl) ?_
          refine lv_bipush (v := (-9)) hx hb dX3_keepEntries_56 (by decide) ?_
          obtain ⟨hi2104, hm⟩ := gd_s hm
          refine va_iast hx hb hK.1 hP hD hS 3 0 rfl rfl hi2104 dX3_keepEntries_58 (fun H locs hP hD hS => ?_)
          have hP : va_P G.1 vwCl (wST G.2.1 a ki fi (upd ke21_ v21_4.toNatClampNeg (-9)) va21_ ta ro qu nsz fin rnd) H := hP
          have hD : va_D A (wST G.2.1 a ki fi (upd ke21_ v21_4.toNatClampNeg (-9)) va21_ ta ro qu nsz fin rnd) := hD
          refine lv_aload_n hx hb dX3_keepEntries_59 rfl (lv_at hl 2 rfl) ?_
          refine va_get (D := G.1) (ci := 3) (v := .ref (a 4)) (C := RX3) (T := TX3) (N := 9) hx hb hts w3_X3_keepEntries hown hK.1 hP 0 rfl rfl 3 (by decide) (hts _ w4_X3_keepEntries) (fun _ h9 => h9) rfl dX3_keepEntries_60 ?_
          refine lv_iload hx hb dX3_keepEntries_63 (lv_at hl 6 rfl) ?_
          refine lv_bipush (v := (-9)) hx hb dX3_keepEntries_65 (by decide) ?_
          obtain ⟨hi2105, hm⟩ := gd_s hm
          refine va_iast hx hb hK.1 hP hD hS 4 0 rfl rfl hi2105 dX3_keepEntries_67 (fun H locs hP hD hS => ?_)
          have hP : va_P G.1 vwCl (wST G.2.1 a ki fi (upd ke21_ v21_4.toNatClampNeg (-9)) (upd va21_ v21_4.toNatClampNeg (-9)) ta ro qu nsz fin rnd) H := hP
          have hD : va_D A (wST G.2.1 a ki fi (upd ke21_ v21_4.toNatClampNeg (-9)) (upd va21_ v21_4.toNatClampNeg (-9)) ta ro qu nsz fin rnd) := hD
          refine lv_iload_n hx hb dX3_keepEntries_68 rfl (lv_at hl 4 rfl) ?_
          refine lv_iload hx hb dX3_keepEntries_69 (lv_at hl 1 rfl) ?_
          obtain ⟨q2106, hc2107, hm⟩ := bd_s hm
          refine k0_i (ws := (wST G.2.1 a ki fi (upd ke21_ v21_4.toNatClampNeg (-9)) (upd va21_ v21_4.toNatClampNeg (-9)) ta ro qu nsz fin rnd)) (rSN (As := [.int u21_2, .int (ke21_ v21_4.toNatClampNeg)]) (rest := []) (wi := ([] : va_W)) hF hK k0_P (k0_D (A := A)) (c_X4_contains l G u21_2 (ke21_ v21_4.toNatClampNeg) q2106 hc2107 H.size) ⟨va_cnB 2 hts gX3_keepEntries_X4_contains_n71 rfl rfl rfl (nw_RX3_71 hK) (hts _ w0_X3_keepEntries) (by decide +kernel) ⟨Nat.le_of_ble_eq_true rfl, Nat.le_of_ble_eq_true rfl⟩, hts _ w5_X3_keepEntries, trivial⟩ rfl hl.1 rfl (Nat.le_of_ble_eq_true rfl) dX3_keepEntries_71 ⟨Nat.le_of_ble_eq_true rfl, Nat.le_of_ble_eq_true rfl⟩) hP hS hA (fun H locs hP hS => ?_)
          refine lv_if_eq (tgt := 96) hx hb dX3_keepEntries_74 (by decide) (fun c2108 => ?_) (fun c2108 => ?_)
          · replace hm := it_t c2108 hm
            refine lv_iinc (v := (v21_4 + 1)) (lv' := [(4, .int (v21_4 + 1)), (6, .int (va21_ v21_4.toNatClampNeg)), (5, .int (ke21_ v21_4.toNatClampNeg)), (0, .ref (a 0)), (1, .int u21_1), (2, .int u21_2), (3, .int v21_3)]) hx hb dX3_keepEntries_96 hl (k := 6) rfl rfl (by decide) rfl (fun ls hl => ?_)
            refine lv_goto (tgt := 21) hx hb dX3_keepEntries_99 (by decide) ?_
            exact ih21 v21_3 (v21_4 + 1) (upd ke21_ v21_4.toNatClampNeg (-9)) (upd va21_ v21_4.toNatClampNeg (-9)) hm _ _ _ hP hD hS (lv_sub hl [3, 4, 5, 6, 0] rfl)
          · replace hm := it_f c2108 hm
            refine lv_aload_n hx hb dX3_keepEntries_77 rfl (lv_at hl 2 rfl) ?_
            refine va_get (D := G.1) (ci := 3) (v := .ref (a 3)) (C := RX3) (T := TX3) (N := 9) hx hb hts w3_X3_keepEntries hown hK.1 hP 0 rfl rfl 2 (by decide) (hts _ w2_X3_keepEntries) (fun _ h9 => h9) rfl dX3_keepEntries_78 ?_
            refine lv_iload_n hx hb dX3_keepEntries_81 rfl (lv_at hl 5 rfl) ?_
            refine lv_iload hx hb dX3_keepEntries_82 (lv_at hl 1 rfl) ?_
            obtain ⟨hi2109, hm⟩ := gd_s hm
            refine va_iast hx hb hK.1 hP hD hS 3 0 rfl rfl hi2109 dX3_keepEntries_84 (fun H locs hP hD hS => ?_)
            have hP : va_P G.1 vwCl (wST G.2.1 a ki fi (upd (upd ke21_ v21_4.toNatClampNeg (-9)) v21_3.toNatClampNeg (ke21_ v21_4.toNatClampNeg)) (upd va21_ v21_4.toNatClampNeg (-9)) ta ro qu nsz fin rnd) H := hP
            have hD : va_D A (wST G.2.1 a ki fi (upd (upd ke21_ v21_4.toNatClampNeg (-9)) v21_3.toNatClampNeg (ke21_ v21_4.toNatClampNeg)) (upd va21_ v21_4.toNatClampNeg (-9)) ta ro qu nsz fin rnd) := hD
            refine lv_aload_n hx hb dX3_keepEntries_85 rfl (lv_at hl 2 rfl) ?_
            refine va_get (D := G.1) (ci := 3) (v := .ref (a 4)) (C := RX3) (T := TX3) (N := 9) hx hb hts w3_X3_keepEntries hown hK.1 hP 0 rfl rfl 3 (by decide) (hts _ w4_X3_keepEntries) (fun _ h9 => h9) rfl dX3_keepEntries_86 ?_
            refine lv_iload_n hx hb dX3_keepEntries_89 rfl (lv_at hl 5 rfl) ?_
            refine lv_iload hx hb dX3_keepEntries_90 (lv_at hl 0 rfl) ?_
            obtain ⟨hi2110, hm⟩ := gd_s hm
            refine va_iast hx hb hK.1 hP hD hS 4 0 rfl rfl hi2110 dX3_keepEntries_92 (fun H locs hP hD hS => ?_)
            have hP : va_P G.1 vwCl (wST G.2.1 a ki fi (upd (upd ke21_ v21_4.toNatClampNeg (-9)) v21_3.toNatClampNeg (ke21_ v21_4.toNatClampNeg)) (upd (upd va21_ v21_4.toNatClampNeg (-9)) v21_3.toNatClampNeg (va21_ v21_4.toNatClampNeg)) ta ro qu nsz fin rnd) H := hP
            have hD : va_D A (wST G.2.1 a ki fi (upd (upd ke21_ v21_4.toNatClampNeg (-9)) v21_3.toNatClampNeg (ke21_ v21_4.toNatClampNeg)) (upd (upd va21_ v21_4.toNatClampNeg (-9)) v21_3.toNatClampNeg (va21_ v21_4.toNatClampNeg)) ta ro qu nsz fin rnd) := hD
            refine lv_iinc (v := (v21_3 + 1)) (lv' := [(3, .int (v21_3 + 1)), (6, .int (va21_ v21_4.toNatClampNeg)), (5, .int (ke21_ v21_4.toNatClampNeg)), (0, .ref (a 0)), (1, .int u21_1), (2, .int u21_2), (4, .int v21_4)]) hx hb dX3_keepEntries_93 hl (k := 5) rfl rfl (by decide) rfl (fun ls hl => ?_)
            refine lv_iinc (v := (v21_4 + 1)) (lv' := [(4, .int (v21_4 + 1)), (3, .int (v21_3 + 1)), (6, .int (va21_ v21_4.toNatClampNeg)), (5, .int (ke21_ v21_4.toNatClampNeg)), (0, .ref (a 0)), (1, .int u21_1), (2, .int u21_2)]) hx hb dX3_keepEntries_96 hl (k := 6) rfl rfl (by decide) rfl (fun ls hl => ?_)
            refine lv_goto (tgt := 21) hx hb dX3_keepEntries_99 (by decide) ?_
            exact ih21 (v21_3 + 1) (v21_4 + 1) (upd (upd ke21_ v21_4.toNatClampNeg (-9)) v21_3.toNatClampNeg (ke21_ v21_4.toNatClampNeg)) (upd (upd va21_ v21_4.toNatClampNeg (-9)) v21_3.toNatClampNeg (va21_ v21_4.toNatClampNeg)) hm _ _ _ hP hD hS (lv_sub hl [4, 5, 6, 1, 0] rfl)
    exact L21 p1 p2 N (p1 * 6) (p1 * 6) ke va hm _ _ _ hP hD hS (lv_sub hl [2, 3, 4, 1, 0] rfl)
  · replace hm := it_t c3 hm
    cases hm
    exact rt_v hx hb hr hlocks hP hD hS dX3_keepEntries_9
def M_X3_emptyWeakReferences_L2 (u2_1 : Int32) (u2_2 : Int32) : Nat → (Int32) → (Nat → Int32) → (Nat → Int32) → (Int32) → Option ((Nat → Int32) × (Nat → Int32) × Int32)
  | 0, _, _, _, _ => none
  | n2 + 1, v2_3, ta2_, qu2_, nsz2_ => if 24 ≤ v2_3 then (some (ta2_, qu2_, nsz2_)) else (gd v2_3 24 (if (ta2_ v2_3.toNatClampNeg) = (-9) then (M_X3_emptyWeakReferences_L2 u2_1 u2_2 n2 (v2_3 + 1) ta2_ qu2_ nsz2_) else (gd v2_3 24 ((M_X4_contains u2_1 (ta2_ v2_3.toNatClampNeg)).bind fun q206 => if q206 = 0 then ((M_X4_contains u2_1 v2_3).bind fun q211 => if q211 = 0 then (M_X3_emptyWeakReferences_L2 u2_1 u2_2 n2 (v2_3 + 1) ta2_ qu2_ nsz2_) else (gd v2_3 24 (if u2_2 = 0 then (M_X3_emptyWeakReferences_L2 u2_1 u2_2 n2 (v2_3 + 1) (upd ta2_ v2_3.toNatClampNeg (-9)) qu2_ nsz2_) else ((M_X2_issue qu2_ nsz2_ (1000 + v2_3)).bind fun q216 => M_X3_emptyWeakReferences_L2 u2_1 u2_2 n2 (v2_3 + 1) (upd ta2_ v2_3.toNatClampNeg (-9)) q216.1 q216.2)))) else (M_X3_emptyWeakReferences_L2 u2_1 u2_2 n2 (v2_3 + 1) ta2_ qu2_ nsz2_)))))
def M_X3_emptyWeakReferences (N : Nat) (ta : Nat → Int32) (qu : Nat → Int32) (nsz : Int32) (p1 : Int32) (p2 : Int32) : Option ((Nat → Int32) × (Nat → Int32) × Int32) :=
  M_X3_emptyWeakReferences_L2 p1 p2 N 0 ta qu nsz
theorem w0_X3_emptyWeakReferences : Cond.fieldLink RX3 28 "WeakTableHeap$State" "targets" "[I" ∈ wsX3_emptyWeakReferences := by decide +kernel
theorem w1_X3_emptyWeakReferences : ∀ w ∈ u_ws RX3 TX3 9, w ∈ wsX3_emptyWeakReferences := by decide +kernel
theorem w2_X3_emptyWeakReferences : Cond.initialized RX4 ∈ wsX3_emptyWeakReferences := by decide +kernel
theorem w3_X3_emptyWeakReferences : Cond.static yX4_contains ∈ wsX3_emptyWeakReferences := by decide +kernel
theorem w4_X3_emptyWeakReferences : Cond.fieldLink RX3 37 "WeakTableHeap$State" "notices" "LWeakTableHeap$Notices;" ∈ wsX3_emptyWeakReferences := by decide +kernel
abbrev rm_X3_emptyWeakReferences : Room := { frames := 3, cells := 0, slots := 0, locals := 60 }
set_option maxHeartbeats 4000000 in
set_option maxRecDepth 100000 in
theorem c_X3_emptyWeakReferences (l : Launch) (G : GG) (N : Nat) (a : Nat → Nat) (ki : Nat → Int32) (fi : Nat → Int32) (ke : Nat → Int32) (va : Nat → Int32) (ta : Nat → Int32) (ro : Nat → Int32) (qu : Nat → Int32) (nsz : Int32) (fin : Int32) (rnd : Int32) (p1 : Int32) (p2 : Int32) (q : (Nat → Int32) × (Nat → Int32) × Int32) (hm : M_X3_emptyWeakReferences N ta qu nsz p1 p2 = some q) : CTv l yX3_emptyWeakReferences wsX3_emptyWeakReferences rm_X3_emptyWeakReferences G [.ref (a 0), .int p1, .int p2] (wST G.2.1 a ki fi ke va ta ro qu nsz fin rnd) (wST G.2.1 a ki fi ke va q.1 ro q.2.1 q.2.2 fin rnd) := by
  intro sz
  refine mk_body (Qc := fun A => (QV G A (wST G.2.1 a ki fi ke va q.1 ro q.2.1 q.2.2 fin rnd))) (cc := cX3_emptyWeakReferences) (maxL := 5) (ret := none) (lv := [(0, .ref (a 0)), (1, .int p1), (2, .int p2)]) (by decide) rfl rfl (Nat.le_of_ble_eq_true rfl) ?_
  intro p e s m args below meth c A H locs ls hF hr hlocks hname hK hA hP hD hS hl
  obtain ⟨hx, hb, hml, hown, hts⟩ := id hF
  unfold M_X3_emptyWeakReferences at hm
  refine lv_iconst (v := 0) hx hb dX3_emptyWeakReferences_0 (by decide) ?_
  refine lv_istore_n (lv' := [(3, .int 0), (0, .ref (a 0)), (1, .int p1), (2, .int p2)]) hx hb dX3_emptyWeakReferences_1 rfl hl (by decide) rfl (fun ls hl => ?_)
  have L2 : ∀ (u2_1 : Int32) (u2_2 : Int32) (n2 : Nat) (v2_3 : Int32) (ta2_ : Nat → Int32) (qu2_ : Nat → Int32) (nsz2_ : Int32), M_X3_emptyWeakReferences_L2 u2_1 u2_2 n2 v2_3 ta2_ qu2_ nsz2_ = some q → ∀ (H : Heap) (locs : List Loc) (ls : Array Slot), va_P G.1 vwCl (wST G.2.1 a ki fi ke va ta2_ ro qu2_ nsz2_ fin rnd) H → va_D A (wST G.2.1 a ki fi ke va ta2_ ro qu2_ nsz2_ fin rnd) → va_S A s.heap H locs → lv_has ls 5 [(0, .ref (a 0)), (1, .int u2_1), (2, .int u2_2), (3, .int v2_3)] → W p l e rm_X3_emptyWeakReferences s m args below meth c H locs 0 0 (MQ below (QV G A (wST G.2.1 a ki fi ke va q.1 ro q.2.1 q.2.2 fin rnd)) args s rm_X3_emptyWeakReferences.cells rm_X3_emptyWeakReferences.slots A) (F0 m 2 ls []) := by
    intro u2_1 u2_2 n2
    induction n2 with
    | zero => intro v2_3 ta2_ qu2_ nsz2_ hm; cases hm
    | succ n2 ih2 =>
      intro v2_3 ta2_ qu2_ nsz2_ hm H locs ls hP hD hS hl
      rw [M_X3_emptyWeakReferences_L2] at hm
      refine lv_iload_n hx hb dX3_emptyWeakReferences_2 rfl (lv_at hl 3 rfl) ?_
      refine lv_bipush (v := 24) hx hb dX3_emptyWeakReferences_3 (by decide) ?_
      refine lv_icmp_ge (tgt := 82) hx hb dX3_emptyWeakReferences_5 (by decide) (fun c201 => ?_) (fun c201 => ?_)
      · replace hm := it_t c201 hm
        cases hm
        exact rt_v hx hb hr hlocks hP hD hS dX3_emptyWeakReferences_82
      · replace hm := it_f c201 hm
        refine lv_aload_n hx hb dX3_emptyWeakReferences_8 rfl (lv_at hl 0 rfl) ?_
        refine va_get (D := G.1) (ci := 3) (v := .ref (a 5)) (C := RX3) (T := TX3) (N := 9) hx hb hts w1_X3_emptyWeakReferences hown hK.1 hP 0 rfl rfl 4 (by decide) (hts _ w0_X3_emptyWeakReferences) (fun _ h9 => h9) rfl dX3_emptyWeakReferences_9 ?_
        refine lv_iload_n hx hb dX3_emptyWeakReferences_12 rfl (lv_at hl 3 rfl) ?_
        obtain ⟨hi202, hm⟩ := gd_s hm
        refine va_iald hx hb hK.1 hP 5 0 rfl rfl hi202 dX3_emptyWeakReferences_13 ?_
        refine lv_bipush (v := (-9)) hx hb dX3_emptyWeakReferences_14 (by decide) ?_
        refine lv_icmp_eq (tgt := 36) hx hb dX3_emptyWeakReferences_16 (by decide) (fun c203 => ?_) (fun c203 => ?_)
        · replace hm := it_t c203 hm
          refine lv_iconst (v := 0) hx hb dX3_emptyWeakReferences_36 (by decide) ?_
          refine lv_istore (lv' := [(4, .int 0), (0, .ref (a 0)), (1, .int u2_1), (2, .int u2_2), (3, .int v2_3)]) hx hb dX3_emptyWeakReferences_37 hl (by decide) rfl (fun ls hl => ?_)
          refine lv_iload hx hb dX3_emptyWeakReferences_39 (lv_at hl 0 rfl) ?_
          refine lv_if_eq (tgt := 76) hx hb dX3_emptyWeakReferences_41 (by decide) (fun _ => ?_) (fun h9 => absurd (by decide) h9)
          refine lv_iinc (v := (v2_3 + 1)) (lv' := [(3, .int (v2_3 + 1)), (4, .int 0), (0, .ref (a 0)), (1, .int u2_1), (2, .int u2_2)]) hx hb dX3_emptyWeakReferences_76 hl (k := 4) rfl rfl (by decide) rfl (fun ls hl => ?_)
          refine lv_goto (tgt := 2) hx hb dX3_emptyWeakReferences_79 (by decide) ?_
          exact ih2 (v2_3 + 1) ta2_ qu2_ nsz2_ hm _ _ _ hP hD hS (lv_sub hl [2, 3, 4, 0] rfl)
        · replace hm := it_f c203 hm
          refine lv_iload_n hx hb dX3_emptyWeakReferences_19 rfl (lv_at hl 1 rfl) ?_
          refine lv_aload_n hx hb dX3_emptyWeakReferences_20 rfl (lv_at hl 0 rfl) ?_
          refine va_get (D := G.1) (ci := 3) (v := .ref (a 5)) (C := RX3) (T := TX3) (N := 9) hx hb hts w1_X3_emptyWeakReferences hown hK.1 hP 0 rfl rfl 4 (by decide) (hts _ w0_X3_emptyWeakReferences) (fun _ h9 => h9) rfl dX3_emptyWeakReferences_21 ?_
          refine lv_iload_n hx hb dX3_emptyWeakReferences_24 rfl (lv_at hl 3 rfl) ?_
          obtain ⟨hi205, hm⟩ := gd_s hm
          refine va_iald hx hb hK.1 hP 5 0 rfl rfl hi205 dX3_emptyWeakReferences_25 ?_
          obtain ⟨q206, hc207, hm⟩ := bd_s hm
          refine k0_i (ws := (wST G.2.1 a ki fi ke va ta2_ ro qu2_ nsz2_ fin rnd)) (rSN (As := [.int u2_1, .int (ta2_ v2_3.toNatClampNeg)]) (rest := []) (wi := ([] : va_W)) hF hK k0_P (k0_D (A := A)) (c_X4_contains l G u2_1 (ta2_ v2_3.toNatClampNeg) q206 hc207 H.size) ⟨va_cnB 2 hts gX3_emptyWeakReferences_X4_contains_n71 rfl rfl rfl (nw_RX3_71 hK) (hts _ w2_X3_emptyWeakReferences) (by decide +kernel) ⟨Nat.le_of_ble_eq_true rfl, Nat.le_of_ble_eq_true rfl⟩, hts _ w3_X3_emptyWeakReferences, trivial⟩ rfl hl.1 rfl (Nat.le_of_ble_eq_true rfl) dX3_emptyWeakReferences_26 ⟨Nat.le_of_ble_eq_true rfl, Nat.le_of_ble_eq_true rfl⟩) hP hS hA (fun H locs hP hS => ?_)
          refine lv_if_ne (tgt := 36) hx hb dX3_emptyWeakReferences_29 (by decide) (fun c208 => ?_) (fun c208 => ?_)
          · replace hm := it_f c208 hm
            refine lv_iconst (v := 0) hx hb dX3_emptyWeakReferences_36 (by decide) ?_
            refine lv_istore (lv' := [(4, .int 0), (0, .ref (a 0)), (1, .int u2_1), (2, .int u2_2), (3, .int v2_3)]) hx hb dX3_emptyWeakReferences_37 hl (by decide) rfl (fun ls hl => ?_)
            refine lv_iload hx hb dX3_emptyWeakReferences_39 (lv_at hl 0 rfl) ?_
            refine lv_if_eq (tgt := 76) hx hb dX3_emptyWeakReferences_41 (by decide) (fun _ => ?_) (fun h9 => absurd (by decide) h9)
            refine lv_iinc (v := (v2_3 + 1)) (lv' := [(3, .int (v2_3 + 1)), (4, .int 0), (0, .ref (a 0)), (1, .int u2_1), (2, .int u2_2)]) hx hb dX3_emptyWeakReferences_76 hl (k := 4) rfl rfl (by decide) rfl (fun ls hl => ?_)
            refine lv_goto (tgt := 2) hx hb dX3_emptyWeakReferences_79 (by decide) ?_
            exact ih2 (v2_3 + 1) ta2_ qu2_ nsz2_ hm _ _ _ hP hD hS (lv_sub hl [2, 3, 4, 0] rfl)
          · replace hm := it_t c208 hm
            refine lv_iconst (v := 1) hx hb dX3_emptyWeakReferences_32 (by decide) ?_
            refine lv_goto (tgt := 37) hx hb dX3_emptyWeakReferences_33 (by decide) ?_
            refine lv_istore (lv' := [(4, .int 1), (0, .ref (a 0)), (1, .int u2_1), (2, .int u2_2), (3, .int v2_3)]) hx hb dX3_emptyWeakReferences_37 hl (by decide) rfl (fun ls hl => ?_)
            refine lv_iload hx hb dX3_emptyWeakReferences_39 (lv_at hl 0 rfl) ?_
            refine lv_if_eq (tgt := 76) hx hb dX3_emptyWeakReferences_41 (by decide) (fun h9 => absurd h9 (by decide)) (fun _ => ?_)
            refine lv_iload_n hx hb dX3_emptyWeakReferences_44 rfl (lv_at hl 2 rfl) ?_
            refine lv_iload_n hx hb dX3_emptyWeakReferences_45 rfl (lv_at hl 4 rfl) ?_
            obtain ⟨q211, hc212, hm⟩ := bd_s hm
            refine k0_i (ws := (wST G.2.1 a ki fi ke va ta2_ ro qu2_ nsz2_ fin rnd)) (rSN (As := [.int u2_1, .int v2_3]) (rest := []) (wi := ([] : va_W)) hF hK k0_P (k0_D (A := A)) (c_X4_contains l G u2_1 v2_3 q211 hc212 H.size) ⟨va_cnB 2 hts gX3_emptyWeakReferences_X4_contains_n71 rfl rfl rfl (nw_RX3_71 hK) (hts _ w2_X3_emptyWeakReferences) (by decide +kernel) ⟨Nat.le_of_ble_eq_true rfl, Nat.le_of_ble_eq_true rfl⟩, hts _ w3_X3_emptyWeakReferences, trivial⟩ rfl hl.1 rfl (Nat.le_of_ble_eq_true rfl) dX3_emptyWeakReferences_46 ⟨Nat.le_of_ble_eq_true rfl, Nat.le_of_ble_eq_true rfl⟩) hP hS hA (fun H locs hP hS => ?_)
            refine lv_if_eq (tgt := 76) hx hb dX3_emptyWeakReferences_49 (by decide) (fun c213 => ?_) (fun c213 => ?_)
            · replace hm := it_t c213 hm
              refine lv_iinc (v := (v2_3 + 1)) (lv' := [(3, .int (v2_3 + 1)), (4, .int 1), (0, .ref (a 0)), (1, .int u2_1), (2, .int u2_2)]) hx hb dX3_emptyWeakReferences_76 hl (k := 4) rfl rfl (by decide) rfl (fun ls hl => ?_)
              refine lv_goto (tgt := 2) hx hb dX3_emptyWeakReferences_79 (by decide) ?_
              exact ih2 (v2_3 + 1) ta2_ qu2_ nsz2_ hm _ _ _ hP hD hS (lv_sub hl [2, 3, 4, 0] rfl)
            · replace hm := it_f c213 hm
              refine lv_aload_n hx hb dX3_emptyWeakReferences_52 rfl (lv_at hl 1 rfl) ?_
              refine va_get (D := G.1) (ci := 3) (v := .ref (a 5)) (C := RX3) (T := TX3) (N := 9) hx hb hts w1_X3_emptyWeakReferences hown hK.1 hP 0 rfl rfl 4 (by decide) (hts _ w0_X3_emptyWeakReferences) (fun _ h9 => h9) rfl dX3_emptyWeakReferences_53 ?_
              refine lv_iload_n hx hb dX3_emptyWeakReferences_56 rfl (lv_at hl 4 rfl) ?_
              refine lv_bipush (v := (-9)) hx hb dX3_emptyWeakReferences_57 (by decide) ?_
              obtain ⟨hi214, hm⟩ := gd_s hm
              refine va_iast hx hb hK.1 hP hD hS 5 0 rfl rfl hi214 dX3_emptyWeakReferences_59 (fun H locs hP hD hS => ?_)
              have hP : va_P G.1 vwCl (wST G.2.1 a ki fi ke va (upd ta2_ v2_3.toNatClampNeg (-9)) ro qu2_ nsz2_ fin rnd) H := hP
              have hD : va_D A (wST G.2.1 a ki fi ke va (upd ta2_ v2_3.toNatClampNeg (-9)) ro qu2_ nsz2_ fin rnd) := hD
              refine lv_iload_n hx hb dX3_emptyWeakReferences_60 rfl (lv_at hl 3 rfl) ?_
              refine lv_if_eq (tgt := 76) hx hb dX3_emptyWeakReferences_61 (by decide) (fun c215 => ?_) (fun c215 => ?_)
              · replace hm := it_t c215 hm
                refine lv_iinc (v := (v2_3 + 1)) (lv' := [(3, .int (v2_3 + 1)), (4, .int 1), (0, .ref (a 0)), (1, .int u2_1), (2, .int u2_2)]) hx hb dX3_emptyWeakReferences_76 hl (k := 4) rfl rfl (by decide) rfl (fun ls hl => ?_)
                refine lv_goto (tgt := 2) hx hb dX3_emptyWeakReferences_79 (by decide) ?_
                exact ih2 (v2_3 + 1) (upd ta2_ v2_3.toNatClampNeg (-9)) qu2_ nsz2_ hm _ _ _ hP hD hS (lv_sub hl [2, 3, 4, 0] rfl)
              · replace hm := it_f c215 hm
                refine lv_aload_n hx hb dX3_emptyWeakReferences_64 rfl (lv_at hl 1 rfl) ?_
                refine va_get (D := G.1) (ci := 3) (v := .ref (a 7)) (C := RX3) (T := TX3) (N := 9) hx hb hts w1_X3_emptyWeakReferences hown hK.1 hP 0 rfl rfl 6 (by decide) (hts _ w4_X3_emptyWeakReferences) (fun _ h9 => h9) rfl dX3_emptyWeakReferences_65 ?_
                refine lv_sipush (v := 1000) hx hb dX3_emptyWeakReferences_68 (by decide) ?_
                refine lv_iload_n hx hb dX3_emptyWeakReferences_71 rfl (lv_at hl 4 rfl) ?_
                refine lv_iadd hx hb dX3_emptyWeakReferences_72 ?_
                obtain ⟨q216, hc217, hm⟩ := bd_s hm
                refine kc_v (wi := (wNT G.2.1 (a 7) (a 8) qu2_ nsz2_)) (wo := (wNT G.2.1 (a 7) (a 8) q216.1 q216.2)) (wr := [((a 0), .inr (3, [.ref (a 1), .ref (a 2), .ref (a 3), .ref (a 4), .ref (a 5), .ref (a 6), .ref (a 7), .int fin, .int rnd])), ((a 1), .inl (G.2.1, 24, .inl ki)), ((a 2), .inl (G.2.1, 72, .inl fi)), ((a 3), .inl (G.2.1, 144, .inl ke)), ((a 4), .inl (G.2.1, 144, .inl va)), ((a 5), .inl (G.2.1, 24, .inl (upd ta2_ v2_3.toNatClampNeg (-9)))), ((a 6), .inl (G.2.1, 6, .inl ro))]) (ws' := (wST G.2.1 a ki fi ke va (upd ta2_ v2_3.toNatClampNeg (-9)) ro q216.1 q216.2 fin rnd)) (rV (As := [.int (1000 + v2_3)]) (rest := []) (b := (a 7)) (wi := (wNT G.2.1 (a 7) (a 8) qu2_ nsz2_)) hF hK (hP.sub [7, 8] rfl) (hD.sub [7, 8] rfl rfl) (c_X2_issue l G (a 7) (a 8) qu2_ nsz2_ (1000 + v2_3) q216 hc217 H.size) (cwV 1 hts gX3_emptyWeakReferences_X2_issue rfl rfl rfl (by decide +kernel) ⟨Nat.le_of_ble_eq_true rfl, Nat.le_of_ble_eq_true rfl⟩) (va_recv hK.1 hP (ci := 2) (q0 := 7) rfl rfl) rfl hl.1 rfl (Nat.le_of_ble_eq_true rfl) dX3_emptyWeakReferences_73 ⟨Nat.le_of_ble_eq_true rfl, Nat.le_of_ble_eq_true rfl⟩) hP hD hS hA [7, 8] [0, 1, 2, 3, 4, 5, 6] [0, 1, 2, 3, 4, 5, 6, 7, 8] rfl rfl rfl (by decide) rfl rfl (fun H locs hP hD hS => ?_)
                refine lv_iinc (v := (v2_3 + 1)) (lv' := [(3, .int (v2_3 + 1)), (4, .int 1), (0, .ref (a 0)), (1, .int u2_1), (2, .int u2_2)]) hx hb dX3_emptyWeakReferences_76 hl (k := 4) rfl rfl (by decide) rfl (fun ls hl => ?_)
                refine lv_goto (tgt := 2) hx hb dX3_emptyWeakReferences_79 (by decide) ?_
                exact ih2 (v2_3 + 1) (upd ta2_ v2_3.toNatClampNeg (-9)) q216.1 q216.2 hm _ _ _ hP hD hS (lv_sub hl [2, 3, 4, 0] rfl)
  exact L2 p1 p2 N 0 ta qu nsz hm _ _ _ hP hD hS (lv_sub hl [1, 2, 3, 0] rfl)
def M_X3_finalizeObjects_L2 (u2_1 : Int32) (fin2u : Int32) : Nat → (Int32) → (Nat → Int32) → (Int32) → Option ((Nat → Int32) × Int32 × Int32)
  | 0, _, _, _ => none
  | n2 + 1, v2_2, qu2_, nsz2_ => if 24 ≤ v2_2 then (some (qu2_, nsz2_, (fin2u &&& (u2_1 ^^^ (-1))))) else ((M_X4_contains u2_1 v2_2).bind fun q202 => if q202 = 0 then (M_X3_finalizeObjects_L2 u2_1 fin2u n2 (v2_2 + 1) qu2_ nsz2_) else ((M_X2_issue qu2_ nsz2_ (3000 + v2_2)).bind fun q205 => M_X3_finalizeObjects_L2 u2_1 fin2u n2 (v2_2 + 1) q205.1 q205.2))
def M_X3_finalizeObjects (N : Nat) (qu : Nat → Int32) (nsz : Int32) (fin : Int32) (p1 : Int32) : Option ((Nat → Int32) × Int32 × Int32) :=
  M_X3_finalizeObjects_L2 p1 fin N 0 qu nsz
theorem w0_X3_finalizeObjects : Cond.fieldLink RX3 49 "WeakTableHeap$State" "finalizable" "I" ∈ wsX3_finalizeObjects := by decide +kernel
theorem w1_X3_finalizeObjects : ∀ w ∈ u_ws RX3 TX3 9, w ∈ wsX3_finalizeObjects := by decide +kernel
theorem w2_X3_finalizeObjects : Cond.initialized RX4 ∈ wsX3_finalizeObjects := by decide +kernel
theorem w3_X3_finalizeObjects : Cond.static yX4_contains ∈ wsX3_finalizeObjects := by decide +kernel
theorem w4_X3_finalizeObjects : Cond.fieldLink RX3 37 "WeakTableHeap$State" "notices" "LWeakTableHeap$Notices;" ∈ wsX3_finalizeObjects := by decide +kernel
abbrev rm_X3_finalizeObjects : Room := { frames := 3, cells := 0, slots := 0, locals := 60 }
set_option maxHeartbeats 4000000 in
set_option maxRecDepth 100000 in
theorem c_X3_finalizeObjects (l : Launch) (G : GG) (N : Nat) (a : Nat → Nat) (ki : Nat → Int32) (fi : Nat → Int32) (ke : Nat → Int32) (va : Nat → Int32) (ta : Nat → Int32) (ro : Nat → Int32) (qu : Nat → Int32) (nsz : Int32) (fin : Int32) (rnd : Int32) (p1 : Int32) (q : (Nat → Int32) × Int32 × Int32) (hm : M_X3_finalizeObjects N qu nsz fin p1 = some q) : CTv l yX3_finalizeObjects wsX3_finalizeObjects rm_X3_finalizeObjects G [.ref (a 0), .int p1] (wST G.2.1 a ki fi ke va ta ro qu nsz fin rnd) (wST G.2.1 a ki fi ke va ta ro q.1 q.2.1 q.2.2 rnd) := by
  intro sz
  refine mk_body (Qc := fun A => (QV G A (wST G.2.1 a ki fi ke va ta ro q.1 q.2.1 q.2.2 rnd))) (cc := cX3_finalizeObjects) (maxL := 3) (ret := none) (lv := [(0, .ref (a 0)), (1, .int p1)]) (by decide) rfl rfl (Nat.le_of_ble_eq_true rfl) ?_
  intro p e s m args below meth c A H locs ls hF hr hlocks hname hK hA hP hD hS hl
  obtain ⟨hx, hb, hml, hown, hts⟩ := id hF
  unfold M_X3_finalizeObjects at hm
  refine lv_iconst (v := 0) hx hb dX3_finalizeObjects_0 (by decide) ?_
  refine lv_istore_n (lv' := [(2, .int 0), (0, .ref (a 0)), (1, .int p1)]) hx hb dX3_finalizeObjects_1 rfl hl (by decide) rfl (fun ls hl => ?_)
  have L2 : ∀ (u2_1 : Int32) (fin2u : Int32) (n2 : Nat) (v2_2 : Int32) (qu2_ : Nat → Int32) (nsz2_ : Int32), M_X3_finalizeObjects_L2 u2_1 fin2u n2 v2_2 qu2_ nsz2_ = some q → ∀ (H : Heap) (locs : List Loc) (ls : Array Slot), va_P G.1 vwCl (wST G.2.1 a ki fi ke va ta ro qu2_ nsz2_ fin2u rnd) H → va_D A (wST G.2.1 a ki fi ke va ta ro qu2_ nsz2_ fin2u rnd) → va_S A s.heap H locs → lv_has ls 3 [(0, .ref (a 0)), (1, .int u2_1), (2, .int v2_2)] → W p l e rm_X3_finalizeObjects s m args below meth c H locs 0 0 (MQ below (QV G A (wST G.2.1 a ki fi ke va ta ro q.1 q.2.1 q.2.2 rnd)) args s rm_X3_finalizeObjects.cells rm_X3_finalizeObjects.slots A) (F0 m 2 ls []) := by
    intro u2_1 fin2u n2
    induction n2 with
    | zero => intro v2_2 qu2_ nsz2_ hm; cases hm
    | succ n2 ih2 =>
      intro v2_2 qu2_ nsz2_ hm H locs ls hP hD hS hl
      rw [M_X3_finalizeObjects_L2] at hm
      refine lv_iload_n hx hb dX3_finalizeObjects_2 rfl (lv_at hl 2 rfl) ?_
      refine lv_bipush (v := 24) hx hb dX3_finalizeObjects_3 (by decide) ?_
      refine lv_icmp_ge (tgt := 34) hx hb dX3_finalizeObjects_5 (by decide) (fun c201 => ?_) (fun c201 => ?_)
      · replace hm := it_t c201 hm
        refine lv_aload_n hx hb dX3_finalizeObjects_34 rfl (lv_at hl 0 rfl) ?_
        refine lv_dup hx hb dX3_finalizeObjects_35 rfl ?_
        refine va_get (D := G.1) (ci := 3) (v := .int fin2u) (C := RX3) (T := TX3) (N := 9) hx hb hts w1_X3_finalizeObjects hown hK.1 hP 0 rfl rfl 7 (by decide) (hts _ w0_X3_finalizeObjects) (fun _ h9 => h9) rfl dX3_finalizeObjects_36 ?_
        refine lv_iload_n hx hb dX3_finalizeObjects_39 rfl (lv_at hl 1 rfl) ?_
        refine lv_iconst (v := (-1)) hx hb dX3_finalizeObjects_40 (by decide) ?_
        refine lv_ixor hx hb dX3_finalizeObjects_41 ?_
        refine lv_iand hx hb dX3_finalizeObjects_42 ?_
        refine va_put (D := G.1) (ci := 3) (v := .int (fin2u &&& (u2_1 ^^^ (-1)))) (ty := .int) (C := RX3) (T := TX3) (N := 9) hx hb hts w1_X3_finalizeObjects tyX3 tyX3_ok nmX3 hown hK.1 hP hD hS 0 rfl rfl 7 (by decide) (hts _ w0_X3_finalizeObjects) (fun _ h9 => h9) rfl (by decide +kernel) rfl rfl (Nat.le_of_ble_eq_true rfl) dX3_finalizeObjects_43 (fun H locs hP hD hS => ?_)
        have hP : va_P G.1 vwCl (wST G.2.1 a ki fi ke va ta ro qu2_ nsz2_ (fin2u &&& (u2_1 ^^^ (-1))) rnd) H := hP
        have hD : va_D A (wST G.2.1 a ki fi ke va ta ro qu2_ nsz2_ (fin2u &&& (u2_1 ^^^ (-1))) rnd) := hD
        cases hm
        exact rt_v hx hb hr hlocks hP hD hS dX3_finalizeObjects_46
      · replace hm := it_f c201 hm
        refine lv_iload_n hx hb dX3_finalizeObjects_8 rfl (lv_at hl 1 rfl) ?_
        refine lv_iload_n hx hb dX3_finalizeObjects_9 rfl (lv_at hl 2 rfl) ?_
        obtain ⟨q202, hc203, hm⟩ := bd_s hm
        refine k0_i (ws := (wST G.2.1 a ki fi ke va ta ro qu2_ nsz2_ fin2u rnd)) (rSN (As := [.int u2_1, .int v2_2]) (rest := []) (wi := ([] : va_W)) hF hK k0_P (k0_D (A := A)) (c_X4_contains l G u2_1 v2_2 q202 hc203 H.size) ⟨va_cnB 2 hts gX3_finalizeObjects_X4_contains_n71 rfl rfl rfl (nw_RX3_71 hK) (hts _ w2_X3_finalizeObjects) (by decide +kernel) ⟨Nat.le_of_ble_eq_true rfl, Nat.le_of_ble_eq_true rfl⟩, hts _ w3_X3_finalizeObjects, trivial⟩ rfl hl.1 rfl (Nat.le_of_ble_eq_true rfl) dX3_finalizeObjects_10 ⟨Nat.le_of_ble_eq_true rfl, Nat.le_of_ble_eq_true rfl⟩) hP hS hA (fun H locs hP hS => ?_)
        refine lv_if_eq (tgt := 28) hx hb dX3_finalizeObjects_13 (by decide) (fun c204 => ?_) (fun c204 => ?_)
        · replace hm := it_t c204 hm
          refine lv_iinc (v := (v2_2 + 1)) (lv' := [(2, .int (v2_2 + 1)), (0, .ref (a 0)), (1, .int u2_1)]) hx hb dX3_finalizeObjects_28 hl (k := 2) rfl rfl (by decide) rfl (fun ls hl => ?_)
          refine lv_goto (tgt := 2) hx hb dX3_finalizeObjects_31 (by decide) ?_
          exact ih2 (v2_2 + 1) qu2_ nsz2_ hm _ _ _ hP hD hS (lv_sub hl [1, 2, 0] rfl)
        · replace hm := it_f c204 hm
          refine lv_aload_n hx hb dX3_finalizeObjects_16 rfl (lv_at hl 0 rfl) ?_
          refine va_get (D := G.1) (ci := 3) (v := .ref (a 7)) (C := RX3) (T := TX3) (N := 9) hx hb hts w1_X3_finalizeObjects hown hK.1 hP 0 rfl rfl 6 (by decide) (hts _ w4_X3_finalizeObjects) (fun _ h9 => h9) rfl dX3_finalizeObjects_17 ?_
          refine lv_sipush (v := 3000) hx hb dX3_finalizeObjects_20 (by decide) ?_
          refine lv_iload_n hx hb dX3_finalizeObjects_23 rfl (lv_at hl 2 rfl) ?_
          refine lv_iadd hx hb dX3_finalizeObjects_24 ?_
          obtain ⟨q205, hc206, hm⟩ := bd_s hm
          refine kc_v (wi := (wNT G.2.1 (a 7) (a 8) qu2_ nsz2_)) (wo := (wNT G.2.1 (a 7) (a 8) q205.1 q205.2)) (wr := [((a 0), .inr (3, [.ref (a 1), .ref (a 2), .ref (a 3), .ref (a 4), .ref (a 5), .ref (a 6), .ref (a 7), .int fin2u, .int rnd])), ((a 1), .inl (G.2.1, 24, .inl ki)), ((a 2), .inl (G.2.1, 72, .inl fi)), ((a 3), .inl (G.2.1, 144, .inl ke)), ((a 4), .inl (G.2.1, 144, .inl va)), ((a 5), .inl (G.2.1, 24, .inl ta)), ((a 6), .inl (G.2.1, 6, .inl ro))]) (ws' := (wST G.2.1 a ki fi ke va ta ro q205.1 q205.2 fin2u rnd)) (rV (As := [.int (3000 + v2_2)]) (rest := []) (b := (a 7)) (wi := (wNT G.2.1 (a 7) (a 8) qu2_ nsz2_)) hF hK (hP.sub [7, 8] rfl) (hD.sub [7, 8] rfl rfl) (c_X2_issue l G (a 7) (a 8) qu2_ nsz2_ (3000 + v2_2) q205 hc206 H.size) (cwV 1 hts gX3_finalizeObjects_X2_issue rfl rfl rfl (by decide +kernel) ⟨Nat.le_of_ble_eq_true rfl, Nat.le_of_ble_eq_true rfl⟩) (va_recv hK.1 hP (ci := 2) (q0 := 7) rfl rfl) rfl hl.1 rfl (Nat.le_of_ble_eq_true rfl) dX3_finalizeObjects_25 ⟨Nat.le_of_ble_eq_true rfl, Nat.le_of_ble_eq_true rfl⟩) hP hD hS hA [7, 8] [0, 1, 2, 3, 4, 5, 6] [0, 1, 2, 3, 4, 5, 6, 7, 8] rfl rfl rfl (by decide) rfl rfl (fun H locs hP hD hS => ?_)
          refine lv_iinc (v := (v2_2 + 1)) (lv' := [(2, .int (v2_2 + 1)), (0, .ref (a 0)), (1, .int u2_1)]) hx hb dX3_finalizeObjects_28 hl (k := 2) rfl rfl (by decide) rfl (fun ls hl => ?_)
          refine lv_goto (tgt := 2) hx hb dX3_finalizeObjects_31 (by decide) ?_
          exact ih2 (v2_2 + 1) q205.1 q205.2 hm _ _ _ hP hD hS (lv_sub hl [1, 2, 0] rfl)
  exact L2 p1 fin N 0 qu nsz hm _ _ _ hP hD hS (lv_sub hl [1, 2, 0] rfl)
def M_X3_announceEntriesWithoutKey_L5 (u5_1 : Int32) (u5_2 : Int32) (ke : Nat → Int32) : Nat → (Int32) → (Nat → Int32) → (Int32) → Option ((Nat → Int32) × Int32)
  | 0, _, _, _ => none
  | n5 + 1, v5_3, qu5_, nsz5_ => if ((u5_1 + 1) * 6) ≤ v5_3 then (some (qu5_, nsz5_)) else (gd v5_3 144 (if (ke v5_3.toNatClampNeg) = (-9) then (M_X3_announceEntriesWithoutKey_L5 u5_1 u5_2 ke n5 (v5_3 + 1) qu5_ nsz5_) else (gd v5_3 144 ((M_X4_contains u5_2 (ke v5_3.toNatClampNeg)).bind fun q505 => if q505 = 0 then (gd v5_3 144 ((M_X2_issue qu5_ nsz5_ ((2000 + (32 * u5_1)) + (ke v5_3.toNatClampNeg))).bind fun q509 => M_X3_announceEntriesWithoutKey_L5 u5_1 u5_2 ke n5 (v5_3 + 1) q509.1 q509.2)) else (M_X3_announceEntriesWithoutKey_L5 u5_1 u5_2 ke n5 (v5_3 + 1) qu5_ nsz5_)))))
def M_X3_announceEntriesWithoutKey (N : Nat) (ke : Nat → Int32) (qu : Nat → Int32) (nsz : Int32) (p1 : Int32) (p2 : Int32) : Option ((Nat → Int32) × Int32) :=
  M_X3_announceEntriesWithoutKey_L5 p1 p2 ke N (p1 * 6) qu nsz
theorem w0_X3_announceEntriesWithoutKey : Cond.fieldLink RX3 22 "WeakTableHeap$State" "keys" "[I" ∈ wsX3_announceEntriesWithoutKey := by decide +kernel
theorem w1_X3_announceEntriesWithoutKey : ∀ w ∈ u_ws RX3 TX3 9, w ∈ wsX3_announceEntriesWithoutKey := by decide +kernel
theorem w2_X3_announceEntriesWithoutKey : Cond.initialized RX4 ∈ wsX3_announceEntriesWithoutKey := by decide +kernel
theorem w3_X3_announceEntriesWithoutKey : Cond.static yX4_contains ∈ wsX3_announceEntriesWithoutKey := by decide +kernel
theorem w4_X3_announceEntriesWithoutKey : Cond.fieldLink RX3 37 "WeakTableHeap$State" "notices" "LWeakTableHeap$Notices;" ∈ wsX3_announceEntriesWithoutKey := by decide +kernel
abbrev rm_X3_announceEntriesWithoutKey : Room := { frames := 3, cells := 0, slots := 0, locals := 60 }
set_option maxHeartbeats 4000000 in
set_option maxRecDepth 100000 in
theorem c_X3_announceEntriesWithoutKey (l : Launch) (G : GG) (N : Nat) (a : Nat → Nat) (ki : Nat → Int32) (fi : Nat → Int32) (ke : Nat → Int32) (va : Nat → Int32) (ta : Nat → Int32) (ro : Nat → Int32) (qu : Nat → Int32) (nsz : Int32) (fin : Int32) (rnd : Int32) (p1 : Int32) (p2 : Int32) (q : (Nat → Int32) × Int32) (hm : M_X3_announceEntriesWithoutKey N ke qu nsz p1 p2 = some q) : CTv l yX3_announceEntriesWithoutKey wsX3_announceEntriesWithoutKey rm_X3_announceEntriesWithoutKey G [.ref (a 0), .int p1, .int p2] (wST G.2.1 a ki fi ke va ta ro qu nsz fin rnd) (wST G.2.1 a ki fi ke va ta ro q.1 q.2 fin rnd) := by
  intro sz
  refine mk_body (Qc := fun A => (QV G A (wST G.2.1 a ki fi ke va ta ro q.1 q.2 fin rnd))) (cc := cX3_announceEntriesWithoutKey) (maxL := 4) (ret := none) (lv := [(0, .ref (a 0)), (1, .int p1), (2, .int p2)]) (by decide) rfl rfl (Nat.le_of_ble_eq_true rfl) ?_
  intro p e s m args below meth c A H locs ls hF hr hlocks hname hK hA hP hD hS hl
  obtain ⟨hx, hb, hml, hown, hts⟩ := id hF
  unfold M_X3_announceEntriesWithoutKey at hm
  refine lv_iload_n hx hb dX3_announceEntriesWithoutKey_0 rfl (lv_at hl 1 rfl) ?_
  refine lv_bipush (v := 6) hx hb dX3_announceEntriesWithoutKey_1 (by decide) ?_
  refine lv_imul hx hb dX3_announceEntriesWithoutKey_3 ?_
  refine lv_istore_n (lv' := [(3, .int (p1 * 6)), (0, .ref (a 0)), (1, .int p1), (2, .int p2)]) hx hb dX3_announceEntriesWithoutKey_4 rfl hl (by decide) rfl (fun ls hl => ?_)
  have L5 : ∀ (u5_1 : Int32) (u5_2 : Int32) (n5 : Nat) (v5_3 : Int32) (qu5_ : Nat → Int32) (nsz5_ : Int32), M_X3_announceEntriesWithoutKey_L5 u5_1 u5_2 ke n5 v5_3 qu5_ nsz5_ = some q → ∀ (H : Heap) (locs : List Loc) (ls : Array Slot), va_P G.1 vwCl (wST G.2.1 a ki fi ke va ta ro qu5_ nsz5_ fin rnd) H → va_D A (wST G.2.1 a ki fi ke va ta ro qu5_ nsz5_ fin rnd) → va_S A s.heap H locs → lv_has ls 4 [(0, .ref (a 0)), (1, .int u5_1), (2, .int u5_2), (3, .int v5_3)] → W p l e rm_X3_announceEntriesWithoutKey s m args below meth c H locs 0 0 (MQ below (QV G A (wST G.2.1 a ki fi ke va ta ro q.1 q.2 fin rnd)) args s rm_X3_announceEntriesWithoutKey.cells rm_X3_announceEntriesWithoutKey.slots A) (F0 m 5 ls []) := by
    intro u5_1 u5_2 n5
    induction n5 with
    | zero => intro v5_3 qu5_ nsz5_ hm; cases hm
    | succ n5 ih5 =>
      intro v5_3 qu5_ nsz5_ hm H locs ls hP hD hS hl
      rw [M_X3_announceEntriesWithoutKey_L5] at hm
      refine lv_iload_n hx hb dX3_announceEntriesWithoutKey_5 rfl (lv_at hl 3 rfl) ?_
      refine lv_iload_n hx hb dX3_announceEntriesWithoutKey_6 rfl (lv_at hl 1 rfl) ?_
      refine lv_iconst (v := 1) hx hb dX3_announceEntriesWithoutKey_7 (by decide) ?_
      refine lv_iadd hx hb dX3_announceEntriesWithoutKey_8 ?_
      refine lv_bipush (v := 6) hx hb dX3_announceEntriesWithoutKey_9 (by decide) ?_
      refine lv_imul hx hb dX3_announceEntriesWithoutKey_11 ?_
      refine lv_icmp_ge (tgt := 67) hx hb dX3_announceEntriesWithoutKey_12 (by decide) (fun c501 => ?_) (fun c501 => ?_)
      · replace hm := it_t c501 hm
        cases hm
        exact rt_v hx hb hr hlocks hP hD hS dX3_announceEntriesWithoutKey_67
      · replace hm := it_f c501 hm
        refine lv_aload_n hx hb dX3_announceEntriesWithoutKey_15 rfl (lv_at hl 0 rfl) ?_
        refine va_get (D := G.1) (ci := 3) (v := .ref (a 3)) (C := RX3) (T := TX3) (N := 9) hx hb hts w1_X3_announceEntriesWithoutKey hown hK.1 hP 0 rfl rfl 2 (by decide) (hts _ w0_X3_announceEntriesWithoutKey) (fun _ h9 => h9) rfl dX3_announceEntriesWithoutKey_16 ?_
        refine lv_iload_n hx hb dX3_announceEntriesWithoutKey_19 rfl (lv_at hl 3 rfl) ?_
        obtain ⟨hi502, hm⟩ := gd_s hm
        refine va_iald hx hb hK.1 hP 3 0 rfl rfl hi502 dX3_announceEntriesWithoutKey_20 ?_
        refine lv_bipush (v := (-9)) hx hb dX3_announceEntriesWithoutKey_21 (by decide) ?_
        refine lv_icmp_eq (tgt := 61) hx hb dX3_announceEntriesWithoutKey_23 (by decide) (fun c503 => ?_) (fun c503 => ?_)
        · replace hm := it_t c503 hm
          refine lv_iinc (v := (v5_3 + 1)) (lv' := [(3, .int (v5_3 + 1)), (0, .ref (a 0)), (1, .int u5_1), (2, .int u5_2)]) hx hb dX3_announceEntriesWithoutKey_61 hl (k := 3) rfl rfl (by decide) rfl (fun ls hl => ?_)
          refine lv_goto (tgt := 5) hx hb dX3_announceEntriesWithoutKey_64 (by decide) ?_
          exact ih5 (v5_3 + 1) qu5_ nsz5_ hm _ _ _ hP hD hS (lv_sub hl [1, 2, 3, 0] rfl)
        · replace hm := it_f c503 hm
          refine lv_iload_n hx hb dX3_announceEntriesWithoutKey_26 rfl (lv_at hl 2 rfl) ?_
          refine lv_aload_n hx hb dX3_announceEntriesWithoutKey_27 rfl (lv_at hl 0 rfl) ?_
          refine va_get (D := G.1) (ci := 3) (v := .ref (a 3)) (C := RX3) (T := TX3) (N := 9) hx hb hts w1_X3_announceEntriesWithoutKey hown hK.1 hP 0 rfl rfl 2 (by decide) (hts _ w0_X3_announceEntriesWithoutKey) (fun _ h9 => h9) rfl dX3_announceEntriesWithoutKey_28 ?_
          refine lv_iload_n hx hb dX3_announceEntriesWithoutKey_31 rfl (lv_at hl 3 rfl) ?_
          obtain ⟨hi504, hm⟩ := gd_s hm
          refine va_iald hx hb hK.1 hP 3 0 rfl rfl hi504 dX3_announceEntriesWithoutKey_32 ?_
          obtain ⟨q505, hc506, hm⟩ := bd_s hm
          refine k0_i (ws := (wST G.2.1 a ki fi ke va ta ro qu5_ nsz5_ fin rnd)) (rSN (As := [.int u5_2, .int (ke v5_3.toNatClampNeg)]) (rest := []) (wi := ([] : va_W)) hF hK k0_P (k0_D (A := A)) (c_X4_contains l G u5_2 (ke v5_3.toNatClampNeg) q505 hc506 H.size) ⟨va_cnB 2 hts gX3_announceEntriesWithoutKey_X4_contains_n71 rfl rfl rfl (nw_RX3_71 hK) (hts _ w2_X3_announceEntriesWithoutKey) (by decide +kernel) ⟨Nat.le_of_ble_eq_true rfl, Nat.le_of_ble_eq_true rfl⟩, hts _ w3_X3_announceEntriesWithoutKey, trivial⟩ rfl hl.1 rfl (Nat.le_of_ble_eq_true rfl) dX3_announceEntriesWithoutKey_33 ⟨Nat.le_of_ble_eq_true rfl, Nat.le_of_ble_eq_true rfl⟩) hP hS hA (fun H locs hP hS => ?_)
          refine lv_if_ne (tgt := 61) hx hb dX3_announceEntriesWithoutKey_36 (by decide) (fun c507 => ?_) (fun c507 => ?_)
          · replace hm := it_f c507 hm
            refine lv_iinc (v := (v5_3 + 1)) (lv' := [(3, .int (v5_3 + 1)), (0, .ref (a 0)), (1, .int u5_1), (2, .int u5_2)]) hx hb dX3_announceEntriesWithoutKey_61 hl (k := 3) rfl rfl (by decide) rfl (fun ls hl => ?_)
            refine lv_goto (tgt := 5) hx hb dX3_announceEntriesWithoutKey_64 (by decide) ?_
            exact ih5 (v5_3 + 1) qu5_ nsz5_ hm _ _ _ hP hD hS (lv_sub hl [1, 2, 3, 0] rfl)
          · replace hm := it_t c507 hm
            refine lv_aload_n hx hb dX3_announceEntriesWithoutKey_39 rfl (lv_at hl 0 rfl) ?_
            refine va_get (D := G.1) (ci := 3) (v := .ref (a 7)) (C := RX3) (T := TX3) (N := 9) hx hb hts w1_X3_announceEntriesWithoutKey hown hK.1 hP 0 rfl rfl 6 (by decide) (hts _ w4_X3_announceEntriesWithoutKey) (fun _ h9 => h9) rfl dX3_announceEntriesWithoutKey_40 ?_
            refine lv_sipush (v := 2000) hx hb dX3_announceEntriesWithoutKey_43 (by decide) ?_
            refine lv_bipush (v := 32) hx hb dX3_announceEntriesWithoutKey_46 (by decide) ?_
            refine lv_iload_n hx hb dX3_announceEntriesWithoutKey_48 rfl (lv_at hl 1 rfl) ?_
            refine lv_imul hx hb dX3_announceEntriesWithoutKey_49 ?_
            refine lv_iadd hx hb dX3_announceEntriesWithoutKey_50 ?_
            refine lv_aload_n hx hb dX3_announceEntriesWithoutKey_51 rfl (lv_at hl 0 rfl) ?_
            refine va_get (D := G.1) (ci := 3) (v := .ref (a 3)) (C := RX3) (T := TX3) (N := 9) hx hb hts w1_X3_announceEntriesWithoutKey hown hK.1 hP 0 rfl rfl 2 (by decide) (hts _ w0_X3_announceEntriesWithoutKey) (fun _ h9 => h9) rfl dX3_announceEntriesWithoutKey_52 ?_
            refine lv_iload_n hx hb dX3_announceEntriesWithoutKey_55 rfl (lv_at hl 3 rfl) ?_
            obtain ⟨hi508, hm⟩ := gd_s hm
            refine va_iald hx hb hK.1 hP 3 0 rfl rfl hi508 dX3_announceEntriesWithoutKey_56 ?_
            refine lv_iadd hx hb dX3_announceEntriesWithoutKey_57 ?_
            obtain ⟨q509, hc510, hm⟩ := bd_s hm
            refine kc_v (wi := (wNT G.2.1 (a 7) (a 8) qu5_ nsz5_)) (wo := (wNT G.2.1 (a 7) (a 8) q509.1 q509.2)) (wr := [((a 0), .inr (3, [.ref (a 1), .ref (a 2), .ref (a 3), .ref (a 4), .ref (a 5), .ref (a 6), .ref (a 7), .int fin, .int rnd])), ((a 1), .inl (G.2.1, 24, .inl ki)), ((a 2), .inl (G.2.1, 72, .inl fi)), ((a 3), .inl (G.2.1, 144, .inl ke)), ((a 4), .inl (G.2.1, 144, .inl va)), ((a 5), .inl (G.2.1, 24, .inl ta)), ((a 6), .inl (G.2.1, 6, .inl ro))]) (ws' := (wST G.2.1 a ki fi ke va ta ro q509.1 q509.2 fin rnd)) (rV (As := [.int ((2000 + (32 * u5_1)) + (ke v5_3.toNatClampNeg))]) (rest := []) (b := (a 7)) (wi := (wNT G.2.1 (a 7) (a 8) qu5_ nsz5_)) hF hK (hP.sub [7, 8] rfl) (hD.sub [7, 8] rfl rfl) (c_X2_issue l G (a 7) (a 8) qu5_ nsz5_ ((2000 + (32 * u5_1)) + (ke v5_3.toNatClampNeg)) q509 hc510 H.size) (cwV 1 hts gX3_announceEntriesWithoutKey_X2_issue rfl rfl rfl (by decide +kernel) ⟨Nat.le_of_ble_eq_true rfl, Nat.le_of_ble_eq_true rfl⟩) (va_recv hK.1 hP (ci := 2) (q0 := 7) rfl rfl) rfl hl.1 rfl (Nat.le_of_ble_eq_true rfl) dX3_announceEntriesWithoutKey_58 ⟨Nat.le_of_ble_eq_true rfl, Nat.le_of_ble_eq_true rfl⟩) hP hD hS hA [7, 8] [0, 1, 2, 3, 4, 5, 6] [0, 1, 2, 3, 4, 5, 6, 7, 8] rfl rfl rfl (by decide) rfl rfl (fun H locs hP hD hS => ?_)
            refine lv_iinc (v := (v5_3 + 1)) (lv' := [(3, .int (v5_3 + 1)), (0, .ref (a 0)), (1, .int u5_1), (2, .int u5_2)]) hx hb dX3_announceEntriesWithoutKey_61 hl (k := 3) rfl rfl (by decide) rfl (fun ls hl => ?_)
            refine lv_goto (tgt := 5) hx hb dX3_announceEntriesWithoutKey_64 (by decide) ?_
            exact ih5 (v5_3 + 1) q509.1 q509.2 hm _ _ _ hP hD hS (lv_sub hl [1, 2, 3, 0] rfl)
  exact L5 p1 p2 N (p1 * 6) qu nsz hm _ _ _ hP hD hS (lv_sub hl [1, 2, 3, 0] rfl)
def M_X3_removeEntriesWithoutKey_L2 (N : Nat) (u2_1 : Int32) : Nat → (Int32) → (Nat → Int32) → (Nat → Int32) → (Nat → Int32) → (Int32) → Option ((Nat → Int32) × (Nat → Int32) × (Nat → Int32) × Int32)
  | 0, _, _, _, _, _ => none
  | n2 + 1, v2_2, ke2_, va2_, qu2_, nsz2_ => if 24 ≤ v2_2 then (some (ke2_, va2_, qu2_, nsz2_)) else ((M_X4_contains u2_1 v2_2).bind fun q202 => if q202 = 0 then (M_X3_removeEntriesWithoutKey_L2 N u2_1 n2 (v2_2 + 1) ke2_ va2_ qu2_ nsz2_) else ((M_X3_announceEntriesWithoutKey N ke2_ qu2_ nsz2_ v2_2 u2_1).bind fun q205 => (M_X3_keepEntries N ke2_ va2_ v2_2 u2_1).bind fun q207 => M_X3_removeEntriesWithoutKey_L2 N u2_1 n2 (v2_2 + 1) q207.1 q207.2 q205.1 q205.2))
def M_X3_removeEntriesWithoutKey (N : Nat) (ke : Nat → Int32) (va : Nat → Int32) (qu : Nat → Int32) (nsz : Int32) (p1 : Int32) : Option ((Nat → Int32) × (Nat → Int32) × (Nat → Int32) × Int32) :=
  M_X3_removeEntriesWithoutKey_L2 N p1 N 0 ke va qu nsz
theorem w0_X3_removeEntriesWithoutKey : Cond.initialized RX4 ∈ wsX3_removeEntriesWithoutKey := by decide +kernel
theorem w1_X3_removeEntriesWithoutKey : Cond.static yX4_contains ∈ wsX3_removeEntriesWithoutKey := by decide +kernel
abbrev rm_X3_removeEntriesWithoutKey : Room := { frames := 4, cells := 0, slots := 0, locals := 83 }
set_option maxHeartbeats 4000000 in
set_option maxRecDepth 100000 in
theorem c_X3_removeEntriesWithoutKey (l : Launch) (G : GG) (N : Nat) (a : Nat → Nat) (ki : Nat → Int32) (fi : Nat → Int32) (ke : Nat → Int32) (va : Nat → Int32) (ta : Nat → Int32) (ro : Nat → Int32) (qu : Nat → Int32) (nsz : Int32) (fin : Int32) (rnd : Int32) (p1 : Int32) (q : (Nat → Int32) × (Nat → Int32) × (Nat → Int32) × Int32) (hm : M_X3_removeEntriesWithoutKey N ke va qu nsz p1 = some q) : CTv l yX3_removeEntriesWithoutKey wsX3_removeEntriesWithoutKey rm_X3_removeEntriesWithoutKey G [.ref (a 0), .int p1] (wST G.2.1 a ki fi ke va ta ro qu nsz fin rnd) (wST G.2.1 a ki fi q.1 q.2.1 ta ro q.2.2.1 q.2.2.2 fin rnd) := by
  intro sz
  refine mk_body (Qc := fun A => (QV G A (wST G.2.1 a ki fi q.1 q.2.1 ta ro q.2.2.1 q.2.2.2 fin rnd))) (cc := cX3_removeEntriesWithoutKey) (maxL := 3) (ret := none) (lv := [(0, .ref (a 0)), (1, .int p1)]) (by decide) rfl rfl (Nat.le_of_ble_eq_true rfl) ?_
  intro p e s m args below meth c A H locs ls hF hr hlocks hname hK hA hP hD hS hl
  obtain ⟨hx, hb, hml, hown, hts⟩ := id hF
  unfold M_X3_removeEntriesWithoutKey at hm
  refine lv_iconst (v := 0) hx hb dX3_removeEntriesWithoutKey_0 (by decide) ?_
  refine lv_istore_n (lv' := [(2, .int 0), (0, .ref (a 0)), (1, .int p1)]) hx hb dX3_removeEntriesWithoutKey_1 rfl hl (by decide) rfl (fun ls hl => ?_)
  have L2 : ∀ (u2_1 : Int32) (n2 : Nat) (v2_2 : Int32) (ke2_ : Nat → Int32) (va2_ : Nat → Int32) (qu2_ : Nat → Int32) (nsz2_ : Int32), M_X3_removeEntriesWithoutKey_L2 N u2_1 n2 v2_2 ke2_ va2_ qu2_ nsz2_ = some q → ∀ (H : Heap) (locs : List Loc) (ls : Array Slot), va_P G.1 vwCl (wST G.2.1 a ki fi ke2_ va2_ ta ro qu2_ nsz2_ fin rnd) H → va_D A (wST G.2.1 a ki fi ke2_ va2_ ta ro qu2_ nsz2_ fin rnd) → va_S A s.heap H locs → lv_has ls 3 [(0, .ref (a 0)), (1, .int u2_1), (2, .int v2_2)] → W p l e rm_X3_removeEntriesWithoutKey s m args below meth c H locs 0 0 (MQ below (QV G A (wST G.2.1 a ki fi q.1 q.2.1 ta ro q.2.2.1 q.2.2.2 fin rnd)) args s rm_X3_removeEntriesWithoutKey.cells rm_X3_removeEntriesWithoutKey.slots A) (F0 m 2 ls []) := by
    intro u2_1 n2
    induction n2 with
    | zero => intro v2_2 ke2_ va2_ qu2_ nsz2_ hm; cases hm
    | succ n2 ih2 =>
      intro v2_2 ke2_ va2_ qu2_ nsz2_ hm H locs ls hP hD hS hl
      rw [M_X3_removeEntriesWithoutKey_L2] at hm
      refine lv_iload_n hx hb dX3_removeEntriesWithoutKey_2 rfl (lv_at hl 2 rfl) ?_
      refine lv_bipush (v := 24) hx hb dX3_removeEntriesWithoutKey_3 (by decide) ?_
      refine lv_icmp_ge (tgt := 34) hx hb dX3_removeEntriesWithoutKey_5 (by decide) (fun c201 => ?_) (fun c201 => ?_)
      · replace hm := it_t c201 hm
        cases hm
        exact rt_v hx hb hr hlocks hP hD hS dX3_removeEntriesWithoutKey_34
      · replace hm := it_f c201 hm
        refine lv_iload_n hx hb dX3_removeEntriesWithoutKey_8 rfl (lv_at hl 1 rfl) ?_
        refine lv_iload_n hx hb dX3_removeEntriesWithoutKey_9 rfl (lv_at hl 2 rfl) ?_
        obtain ⟨q202, hc203, hm⟩ := bd_s hm
        refine k0_i (ws := (wST G.2.1 a ki fi ke2_ va2_ ta ro qu2_ nsz2_ fin rnd)) (rSN (As := [.int u2_1, .int v2_2]) (rest := []) (wi := ([] : va_W)) hF hK k0_P (k0_D (A := A)) (c_X4_contains l G u2_1 v2_2 q202 hc203 H.size) ⟨va_cnB 2 hts gX3_removeEntriesWithoutKey_X4_contains_n71 rfl rfl rfl (nw_RX3_71 hK) (hts _ w0_X3_removeEntriesWithoutKey) (by decide +kernel) ⟨Nat.le_of_ble_eq_true rfl, Nat.le_of_ble_eq_true rfl⟩, hts _ w1_X3_removeEntriesWithoutKey, trivial⟩ rfl hl.1 rfl (Nat.le_of_ble_eq_true rfl) dX3_removeEntriesWithoutKey_10 ⟨Nat.le_of_ble_eq_true rfl, Nat.le_of_ble_eq_true rfl⟩) hP hS hA (fun H locs hP hS => ?_)
        refine lv_if_eq (tgt := 28) hx hb dX3_removeEntriesWithoutKey_13 (by decide) (fun c204 => ?_) (fun c204 => ?_)
        · replace hm := it_t c204 hm
          refine lv_iinc (v := (v2_2 + 1)) (lv' := [(2, .int (v2_2 + 1)), (0, .ref (a 0)), (1, .int u2_1)]) hx hb dX3_removeEntriesWithoutKey_28 hl (k := 2) rfl rfl (by decide) rfl (fun ls hl => ?_)
          refine lv_goto (tgt := 2) hx hb dX3_removeEntriesWithoutKey_31 (by decide) ?_
          exact ih2 (v2_2 + 1) ke2_ va2_ qu2_ nsz2_ hm _ _ _ hP hD hS (lv_sub hl [1, 2, 0] rfl)
        · replace hm := it_f c204 hm
          refine lv_aload_n hx hb dX3_removeEntriesWithoutKey_16 rfl (lv_at hl 0 rfl) ?_
          refine lv_iload_n hx hb dX3_removeEntriesWithoutKey_17 rfl (lv_at hl 2 rfl) ?_
          refine lv_iload_n hx hb dX3_removeEntriesWithoutKey_18 rfl (lv_at hl 1 rfl) ?_
          obtain ⟨q205, hc206, hm⟩ := bd_s hm
          refine ks_v (wo := (wST G.2.1 a ki fi ke2_ va2_ ta ro q205.1 q205.2 fin rnd)) (rV (As := [.int v2_2, .int u2_1]) (rest := []) (b := (a 0)) (wi := (wST G.2.1 a ki fi ke2_ va2_ ta ro qu2_ nsz2_ fin rnd)) hF hK hP hD (c_X3_announceEntriesWithoutKey l G N a ki fi ke2_ va2_ ta ro qu2_ nsz2_ fin rnd v2_2 u2_1 q205 hc206 H.size) (cwV 2 hts gX3_removeEntriesWithoutKey_X3_announceEntriesWithoutKey rfl rfl rfl (by decide +kernel) ⟨Nat.le_of_ble_eq_true rfl, Nat.le_of_ble_eq_true rfl⟩) (va_recv hK.1 hP (ci := 3) (q0 := 0) rfl rfl) rfl hl.1 rfl (Nat.le_of_ble_eq_true rfl) dX3_removeEntriesWithoutKey_19 ⟨Nat.le_of_ble_eq_true rfl, Nat.le_of_ble_eq_true rfl⟩) hD hS hA (fun H locs hP hD hS => ?_)
          have hP : va_P G.1 vwCl (wST G.2.1 a ki fi ke2_ va2_ ta ro q205.1 q205.2 fin rnd) H := hP
          have hD : va_D A (wST G.2.1 a ki fi ke2_ va2_ ta ro q205.1 q205.2 fin rnd) := hD
          refine lv_aload_n hx hb dX3_removeEntriesWithoutKey_22 rfl (lv_at hl 0 rfl) ?_
          refine lv_iload_n hx hb dX3_removeEntriesWithoutKey_23 rfl (lv_at hl 2 rfl) ?_
          refine lv_iload_n hx hb dX3_removeEntriesWithoutKey_24 rfl (lv_at hl 1 rfl) ?_
          obtain ⟨q207, hc208, hm⟩ := bd_s hm
          refine ks_v (wo := (wST G.2.1 a ki fi q207.1 q207.2 ta ro q205.1 q205.2 fin rnd)) (rV (As := [.int v2_2, .int u2_1]) (rest := []) (b := (a 0)) (wi := (wST G.2.1 a ki fi ke2_ va2_ ta ro q205.1 q205.2 fin rnd)) hF hK hP hD (c_X3_keepEntries l G N a ki fi ke2_ va2_ ta ro q205.1 q205.2 fin rnd v2_2 u2_1 q207 hc208 H.size) (cwV 2 hts gX3_removeEntriesWithoutKey_X3_keepEntries rfl rfl rfl (by decide +kernel) ⟨Nat.le_of_ble_eq_true rfl, Nat.le_of_ble_eq_true rfl⟩) (va_recv hK.1 hP (ci := 3) (q0 := 0) rfl rfl) rfl hl.1 rfl (Nat.le_of_ble_eq_true rfl) dX3_removeEntriesWithoutKey_25 ⟨Nat.le_of_ble_eq_true rfl, Nat.le_of_ble_eq_true rfl⟩) hD hS hA (fun H locs hP hD hS => ?_)
          have hP : va_P G.1 vwCl (wST G.2.1 a ki fi q207.1 q207.2 ta ro q205.1 q205.2 fin rnd) H := hP
          have hD : va_D A (wST G.2.1 a ki fi q207.1 q207.2 ta ro q205.1 q205.2 fin rnd) := hD
          refine lv_iinc (v := (v2_2 + 1)) (lv' := [(2, .int (v2_2 + 1)), (0, .ref (a 0)), (1, .int u2_1)]) hx hb dX3_removeEntriesWithoutKey_28 hl (k := 2) rfl rfl (by decide) rfl (fun ls hl => ?_)
          refine lv_goto (tgt := 2) hx hb dX3_removeEntriesWithoutKey_31 (by decide) ?_
          exact ih2 (v2_2 + 1) q207.1 q207.2 q205.1 q205.2 hm _ _ _ hP hD hS (lv_sub hl [1, 2, 0] rfl)
  exact L2 p1 N 0 ke va qu nsz hm _ _ _ hP hD hS (lv_sub hl [1, 2, 0] rfl)
def M_X3_free_L2 (N : Nat) (u2_1 : Int32) (fin2u : Int32) : Nat → (Int32) → (Nat → Int32) → (Nat → Int32) → (Nat → Int32) → (Nat → Int32) → (Nat → Int32) → Option ((Nat → Int32) × (Nat → Int32) × (Nat → Int32) × (Nat → Int32) × (Nat → Int32) × Int32)
  | 0, _, _, _, _, _, _ => none
  | n2 + 1, v2_2, ki2_, fi2_, ke2_, va2_, ta2_ => if 24 ≤ v2_2 then (some (ki2_, fi2_, ke2_, va2_, ta2_, (fin2u &&& (u2_1 ^^^ (-1))))) else ((M_X4_contains u2_1 v2_2).bind fun q202 => if q202 = 0 then (M_X3_free_L2 N u2_1 fin2u n2 (v2_2 + 1) ki2_ fi2_ ke2_ va2_ ta2_) else (gd v2_2 24 (gd v2_2 24 ((M_J7_fill_fda19 N 72 fi2_ (v2_2 * 3) ((v2_2 + 1) * 3) (-9)).bind fun q207 => (M_X3_keepEntries N ke2_ va2_ v2_2 0).bind fun q209 => M_X3_free_L2 N u2_1 fin2u n2 (v2_2 + 1) (upd ki2_ v2_2.toNatClampNeg (-9)) q207 q209.1 q209.2 (upd ta2_ v2_2.toNatClampNeg (-9))))))
def M_X3_free (N : Nat) (ki : Nat → Int32) (fi : Nat → Int32) (ke : Nat → Int32) (va : Nat → Int32) (ta : Nat → Int32) (fin : Int32) (p1 : Int32) : Option ((Nat → Int32) × (Nat → Int32) × (Nat → Int32) × (Nat → Int32) × (Nat → Int32) × Int32) :=
  M_X3_free_L2 N p1 fin N 0 ki fi ke va ta
theorem w0_X3_free : Cond.fieldLink RX3 49 "WeakTableHeap$State" "finalizable" "I" ∈ wsX3_free := by decide +kernel
theorem w1_X3_free : ∀ w ∈ u_ws RX3 TX3 9, w ∈ wsX3_free := by decide +kernel
theorem w2_X3_free : Cond.initialized RX4 ∈ wsX3_free := by decide +kernel
theorem w3_X3_free : Cond.static yX4_contains ∈ wsX3_free := by decide +kernel
theorem w4_X3_free : Cond.fieldLink RX3 13 "WeakTableHeap$State" "kinds" "[I" ∈ wsX3_free := by decide +kernel
theorem w5_X3_free : Cond.fieldLink RX3 28 "WeakTableHeap$State" "targets" "[I" ∈ wsX3_free := by decide +kernel
theorem w6_X3_free : Cond.fieldLink RX3 19 "WeakTableHeap$State" "fields" "[I" ∈ wsX3_free := by decide +kernel
abbrev rm_X3_free : Room := { frames := 3, cells := 0, slots := 0, locals := 67 }
set_option maxHeartbeats 4000000 in
set_option maxRecDepth 100000 in
theorem c_X3_free (l : Launch) (G : GG) (N : Nat) (a : Nat → Nat) (ki : Nat → Int32) (fi : Nat → Int32) (ke : Nat → Int32) (va : Nat → Int32) (ta : Nat → Int32) (ro : Nat → Int32) (qu : Nat → Int32) (nsz : Int32) (fin : Int32) (rnd : Int32) (p1 : Int32) (q : (Nat → Int32) × (Nat → Int32) × (Nat → Int32) × (Nat → Int32) × (Nat → Int32) × Int32) (hm : M_X3_free N ki fi ke va ta fin p1 = some q) : CTv l yX3_free wsX3_free rm_X3_free G [.ref (a 0), .int p1] (wST G.2.1 a ki fi ke va ta ro qu nsz fin rnd) (wST G.2.1 a q.1 q.2.1 q.2.2.1 q.2.2.2.1 q.2.2.2.2.1 ro qu nsz q.2.2.2.2.2 rnd) := by
  intro sz
  refine mk_body (Qc := fun A => (QV G A (wST G.2.1 a q.1 q.2.1 q.2.2.1 q.2.2.2.1 q.2.2.2.2.1 ro qu nsz q.2.2.2.2.2 rnd))) (cc := cX3_free) (maxL := 3) (ret := none) (lv := [(0, .ref (a 0)), (1, .int p1)]) (by decide) rfl rfl (Nat.le_of_ble_eq_true rfl) ?_
  intro p e s m args below meth c A H locs ls hF hr hlocks hname hK hA hP hD hS hl
  obtain ⟨hx, hb, hml, hown, hts⟩ := id hF
  unfold M_X3_free at hm
  refine lv_iconst (v := 0) hx hb dX3_free_0 (by decide) ?_
  refine lv_istore_n (lv' := [(2, .int 0), (0, .ref (a 0)), (1, .int p1)]) hx hb dX3_free_1 rfl hl (by decide) rfl (fun ls hl => ?_)
  have L2 : ∀ (u2_1 : Int32) (fin2u : Int32) (n2 : Nat) (v2_2 : Int32) (ki2_ : Nat → Int32) (fi2_ : Nat → Int32) (ke2_ : Nat → Int32) (va2_ : Nat → Int32) (ta2_ : Nat → Int32), M_X3_free_L2 N u2_1 fin2u n2 v2_2 ki2_ fi2_ ke2_ va2_ ta2_ = some q → ∀ (H : Heap) (locs : List Loc) (ls : Array Slot), va_P G.1 vwCl (wST G.2.1 a ki2_ fi2_ ke2_ va2_ ta2_ ro qu nsz fin2u rnd) H → va_D A (wST G.2.1 a ki2_ fi2_ ke2_ va2_ ta2_ ro qu nsz fin2u rnd) → va_S A s.heap H locs → lv_has ls 3 [(0, .ref (a 0)), (1, .int u2_1), (2, .int v2_2)] → W p l e rm_X3_free s m args below meth c H locs 0 0 (MQ below (QV G A (wST G.2.1 a q.1 q.2.1 q.2.2.1 q.2.2.2.1 q.2.2.2.2.1 ro qu nsz q.2.2.2.2.2 rnd)) args s rm_X3_free.cells rm_X3_free.slots A) (F0 m 2 ls []) := by
    intro u2_1 fin2u n2
    induction n2 with
    | zero => intro v2_2 ki2_ fi2_ ke2_ va2_ ta2_ hm; cases hm
    | succ n2 ih2 =>
      intro v2_2 ki2_ fi2_ ke2_ va2_ ta2_ hm H locs ls hP hD hS hl
      rw [M_X3_free_L2] at hm
      refine lv_iload_n hx hb dX3_free_2 rfl (lv_at hl 2 rfl) ?_
      refine lv_bipush (v := 24) hx hb dX3_free_3 (by decide) ?_
      refine lv_icmp_ge (tgt := 61) hx hb dX3_free_5 (by decide) (fun c201 => ?_) (fun c201 => ?_)
      · replace hm := it_t c201 hm
        refine lv_aload_n hx hb dX3_free_61 rfl (lv_at hl 0 rfl) ?_
        refine lv_dup hx hb dX3_free_62 rfl ?_
        refine va_get (D := G.1) (ci := 3) (v := .int fin2u) (C := RX3) (T := TX3) (N := 9) hx hb hts w1_X3_free hown hK.1 hP 0 rfl rfl 7 (by decide) (hts _ w0_X3_free) (fun _ h9 => h9) rfl dX3_free_63 ?_
        refine lv_iload_n hx hb dX3_free_66 rfl (lv_at hl 1 rfl) ?_
        refine lv_iconst (v := (-1)) hx hb dX3_free_67 (by decide) ?_
        refine lv_ixor hx hb dX3_free_68 ?_
        refine lv_iand hx hb dX3_free_69 ?_
        refine va_put (D := G.1) (ci := 3) (v := .int (fin2u &&& (u2_1 ^^^ (-1)))) (ty := .int) (C := RX3) (T := TX3) (N := 9) hx hb hts w1_X3_free tyX3 tyX3_ok nmX3 hown hK.1 hP hD hS 0 rfl rfl 7 (by decide) (hts _ w0_X3_free) (fun _ h9 => h9) rfl (by decide +kernel) rfl rfl (Nat.le_of_ble_eq_true rfl) dX3_free_70 (fun H locs hP hD hS => ?_)
        have hP : va_P G.1 vwCl (wST G.2.1 a ki2_ fi2_ ke2_ va2_ ta2_ ro qu nsz (fin2u &&& (u2_1 ^^^ (-1))) rnd) H := hP
        have hD : va_D A (wST G.2.1 a ki2_ fi2_ ke2_ va2_ ta2_ ro qu nsz (fin2u &&& (u2_1 ^^^ (-1))) rnd) := hD
        cases hm
        exact rt_v hx hb hr hlocks hP hD hS dX3_free_73
      · replace hm := it_f c201 hm
        refine lv_iload_n hx hb dX3_free_8 rfl (lv_at hl 1 rfl) ?_
        refine lv_iload_n hx hb dX3_free_9 rfl (lv_at hl 2 rfl) ?_
        obtain ⟨q202, hc203, hm⟩ := bd_s hm
        refine k0_i (ws := (wST G.2.1 a ki2_ fi2_ ke2_ va2_ ta2_ ro qu nsz fin2u rnd)) (rSN (As := [.int u2_1, .int v2_2]) (rest := []) (wi := ([] : va_W)) hF hK k0_P (k0_D (A := A)) (c_X4_contains l G u2_1 v2_2 q202 hc203 H.size) ⟨va_cnB 2 hts gX3_free_X4_contains_n71 rfl rfl rfl (nw_RX3_71 hK) (hts _ w2_X3_free) (by decide +kernel) ⟨Nat.le_of_ble_eq_true rfl, Nat.le_of_ble_eq_true rfl⟩, hts _ w3_X3_free, trivial⟩ rfl hl.1 rfl (Nat.le_of_ble_eq_true rfl) dX3_free_10 ⟨Nat.le_of_ble_eq_true rfl, Nat.le_of_ble_eq_true rfl⟩) hP hS hA (fun H locs hP hS => ?_)
        refine lv_if_eq (tgt := 55) hx hb dX3_free_13 (by decide) (fun c204 => ?_) (fun c204 => ?_)
        · replace hm := it_t c204 hm
          refine lv_iinc (v := (v2_2 + 1)) (lv' := [(2, .int (v2_2 + 1)), (0, .ref (a 0)), (1, .int u2_1)]) hx hb dX3_free_55 hl (k := 2) rfl rfl (by decide) rfl (fun ls hl => ?_)
          refine lv_goto (tgt := 2) hx hb dX3_free_58 (by decide) ?_
          exact ih2 (v2_2 + 1) ki2_ fi2_ ke2_ va2_ ta2_ hm _ _ _ hP hD hS (lv_sub hl [1, 2, 0] rfl)
        · replace hm := it_f c204 hm
          refine lv_aload_n hx hb dX3_free_16 rfl (lv_at hl 0 rfl) ?_
          refine va_get (D := G.1) (ci := 3) (v := .ref (a 1)) (C := RX3) (T := TX3) (N := 9) hx hb hts w1_X3_free hown hK.1 hP 0 rfl rfl 0 (by decide) (hts _ w4_X3_free) (fun _ h9 => h9) rfl dX3_free_17 ?_
          refine lv_iload_n hx hb dX3_free_20 rfl (lv_at hl 2 rfl) ?_
          refine lv_bipush (v := (-9)) hx hb dX3_free_21 (by decide) ?_
          obtain ⟨hi205, hm⟩ := gd_s hm
          refine va_iast hx hb hK.1 hP hD hS 1 0 rfl rfl hi205 dX3_free_23 (fun H locs hP hD hS => ?_)
          have hP : va_P G.1 vwCl (wST G.2.1 a (upd ki2_ v2_2.toNatClampNeg (-9)) fi2_ ke2_ va2_ ta2_ ro qu nsz fin2u rnd) H := hP
          have hD : va_D A (wST G.2.1 a (upd ki2_ v2_2.toNatClampNeg (-9)) fi2_ ke2_ va2_ ta2_ ro qu nsz fin2u rnd) := hD
          refine lv_aload_n hx hb dX3_free_24 rfl (lv_at hl 0 rfl) ?_
          refine va_get (D := G.1) (ci := 3) (v := .ref (a 5)) (C := RX3) (T := TX3) (N := 9) hx hb hts w1_X3_free hown hK.1 hP 0 rfl rfl 4 (by decide) (hts _ w5_X3_free) (fun _ h9 => h9) rfl dX3_free_25 ?_
          refine lv_iload_n hx hb dX3_free_28 rfl (lv_at hl 2 rfl) ?_
          refine lv_bipush (v := (-9)) hx hb dX3_free_29 (by decide) ?_
          obtain ⟨hi206, hm⟩ := gd_s hm
          refine va_iast hx hb hK.1 hP hD hS 5 0 rfl rfl hi206 dX3_free_31 (fun H locs hP hD hS => ?_)
          have hP : va_P G.1 vwCl (wST G.2.1 a (upd ki2_ v2_2.toNatClampNeg (-9)) fi2_ ke2_ va2_ (upd ta2_ v2_2.toNatClampNeg (-9)) ro qu nsz fin2u rnd) H := hP
          have hD : va_D A (wST G.2.1 a (upd ki2_ v2_2.toNatClampNeg (-9)) fi2_ ke2_ va2_ (upd ta2_ v2_2.toNatClampNeg (-9)) ro qu nsz fin2u rnd) := hD
          refine lv_aload_n hx hb dX3_free_32 rfl (lv_at hl 0 rfl) ?_
          refine va_get (D := G.1) (ci := 3) (v := .ref (a 2)) (C := RX3) (T := TX3) (N := 9) hx hb hts w1_X3_free hown hK.1 hP 0 rfl rfl 1 (by decide) (hts _ w6_X3_free) (fun _ h9 => h9) rfl dX3_free_33 ?_
          refine lv_iload_n hx hb dX3_free_36 rfl (lv_at hl 2 rfl) ?_
          refine lv_iconst (v := 3) hx hb dX3_free_37 (by decide) ?_
          refine lv_imul hx hb dX3_free_38 ?_
          refine lv_iload_n hx hb dX3_free_39 rfl (lv_at hl 2 rfl) ?_
          refine lv_iconst (v := 1) hx hb dX3_free_40 (by decide) ?_
          refine lv_iadd hx hb dX3_free_41 ?_
          refine lv_iconst (v := 3) hx hb dX3_free_42 (by decide) ?_
          refine lv_imul hx hb dX3_free_43 ?_
          refine lv_bipush (v := (-9)) hx hb dX3_free_44 (by decide) ?_
          obtain ⟨q207, hc208, hm⟩ := bd_s hm
          refine kc_v (wi := [((a 2), .inl (G.2.1, 72, .inl fi2_))]) (wo := [((a 2), .inl (G.2.1, 72, .inl q207))]) (wr := [((a 0), .inr (3, [.ref (a 1), .ref (a 2), .ref (a 3), .ref (a 4), .ref (a 5), .ref (a 6), .ref (a 7), .int fin2u, .int rnd])), ((a 1), .inl (G.2.1, 24, .inl (upd ki2_ v2_2.toNatClampNeg (-9)))), ((a 3), .inl (G.2.1, 144, .inl ke2_)), ((a 4), .inl (G.2.1, 144, .inl va2_)), ((a 5), .inl (G.2.1, 24, .inl (upd ta2_ v2_2.toNatClampNeg (-9)))), ((a 6), .inl (G.2.1, 6, .inl ro)), ((a 7), .inr (2, [.ref (a 8), .int nsz])), ((a 8), .inl (G.2.1, 20, .inl qu))]) (ws' := (wST G.2.1 a (upd ki2_ v2_2.toNatClampNeg (-9)) q207 ke2_ va2_ (upd ta2_ v2_2.toNatClampNeg (-9)) ro qu nsz fin2u rnd)) (rS (As := [.ref (a 2), .int (v2_2 * 3), .int ((v2_2 + 1) * 3), .int (-9)]) (rest := []) (wi := [((a 2), .inl (G.2.1, 72, .inl fi2_))]) hF hK (hP.sub [2] rfl) (hD.sub [2] rfl rfl) (c_J7_fill_fda19 l G N (a 2) 72 fi2_ (v2_2 * 3) ((v2_2 + 1) * 3) (-9) q207 hc208 H.size) (va_cwS 4 hts gX3_free_J7_fill_fda19 rfl rfl rfl (by decide +kernel) ⟨Nat.le_of_ble_eq_true rfl, Nat.le_of_ble_eq_true rfl⟩) rfl hl.1 rfl (Nat.le_of_ble_eq_true rfl) dX3_free_46 ⟨Nat.le_of_ble_eq_true rfl, Nat.le_of_ble_eq_true rfl⟩) hP hD hS hA [2] [0, 1, 3, 4, 5, 6, 7, 8] [0, 1, 8, 2, 3, 4, 5, 6, 7] rfl rfl rfl (by decide) rfl rfl (fun H locs hP hD hS => ?_)
          refine lv_aload_n hx hb dX3_free_49 rfl (lv_at hl 0 rfl) ?_
          refine lv_iload_n hx hb dX3_free_50 rfl (lv_at hl 2 rfl) ?_
          refine lv_iconst (v := 0) hx hb dX3_free_51 (by decide) ?_
          obtain ⟨q209, hc210, hm⟩ := bd_s hm
          refine ks_v (wo := (wST G.2.1 a (upd ki2_ v2_2.toNatClampNeg (-9)) q207 q209.1 q209.2 (upd ta2_ v2_2.toNatClampNeg (-9)) ro qu nsz fin2u rnd)) (rV (As := [.int v2_2, .int 0]) (rest := []) (b := (a 0)) (wi := (wST G.2.1 a (upd ki2_ v2_2.toNatClampNeg (-9)) q207 ke2_ va2_ (upd ta2_ v2_2.toNatClampNeg (-9)) ro qu nsz fin2u rnd)) hF hK hP hD (c_X3_keepEntries l G N a (upd ki2_ v2_2.toNatClampNeg (-9)) q207 ke2_ va2_ (upd ta2_ v2_2.toNatClampNeg (-9)) ro qu nsz fin2u rnd v2_2 0 q209 hc210 H.size) (cwV 2 hts gX3_free_X3_keepEntries rfl rfl rfl (by decide +kernel) ⟨Nat.le_of_ble_eq_true rfl, Nat.le_of_ble_eq_true rfl⟩) (va_recv hK.1 hP (ci := 3) (q0 := 0) rfl rfl) rfl hl.1 rfl (Nat.le_of_ble_eq_true rfl) dX3_free_52 ⟨Nat.le_of_ble_eq_true rfl, Nat.le_of_ble_eq_true rfl⟩) hD hS hA (fun H locs hP hD hS => ?_)
          have hP : va_P G.1 vwCl (wST G.2.1 a (upd ki2_ v2_2.toNatClampNeg (-9)) q207 q209.1 q209.2 (upd ta2_ v2_2.toNatClampNeg (-9)) ro qu nsz fin2u rnd) H := hP
          have hD : va_D A (wST G.2.1 a (upd ki2_ v2_2.toNatClampNeg (-9)) q207 q209.1 q209.2 (upd ta2_ v2_2.toNatClampNeg (-9)) ro qu nsz fin2u rnd) := hD
          refine lv_iinc (v := (v2_2 + 1)) (lv' := [(2, .int (v2_2 + 1)), (0, .ref (a 0)), (1, .int u2_1)]) hx hb dX3_free_55 hl (k := 2) rfl rfl (by decide) rfl (fun ls hl => ?_)
          refine lv_goto (tgt := 2) hx hb dX3_free_58 (by decide) ?_
          exact ih2 (v2_2 + 1) (upd ki2_ v2_2.toNatClampNeg (-9)) q207 q209.1 q209.2 (upd ta2_ v2_2.toNatClampNeg (-9)) hm _ _ _ hP hD hS (lv_sub hl [1, 2, 0] rfl)
  exact L2 p1 fin N 0 ki fi ke va ta hm _ _ _ hP hD hS (lv_sub hl [1, 2, 0] rfl)
def M_X3_copyFrom (ki : Nat → Int32) (fi : Nat → Int32) (ke : Nat → Int32) (va : Nat → Int32) (ta : Nat → Int32) (ro : Nat → Int32) (qu : Nat → Int32) (oki : Nat → Int32) (ofi : Nat → Int32) (oke : Nat → Int32) (ova : Nat → Int32) (ota : Nat → Int32) (oro : Nat → Int32) (oqu : Nat → Int32) (onsz : Int32) (ofin : Int32) (ornd : Int32) : Option ((Nat → Int32) × (Nat → Int32) × (Nat → Int32) × (Nat → Int32) × (Nat → Int32) × (Nat → Int32) × (Nat → Int32) × Int32 × Int32 × Int32) :=
  (M_X4_copyRow 24 24 oki ki).bind fun q1 => (M_X4_copyRow 72 72 ofi fi).bind fun q3 => (M_X4_copyRow 144 144 oke ke).bind fun q5 => (M_X4_copyRow 144 144 ova va).bind fun q7 => (M_X4_copyRow 24 24 ota ta).bind fun q9 => (M_X4_copyRow 6 6 oro ro).bind fun q11 => (M_X2_copyFrom qu oqu onsz).bind fun q13 => some (q1, q3, q5, q7, q9, q11, q13.1, q13.2, ofin, ornd)
theorem w0_X3_copyFrom : Cond.fieldLink RX3 13 "WeakTableHeap$State" "kinds" "[I" ∈ wsX3_copyFrom := by decide +kernel
theorem w1_X3_copyFrom : ∀ w ∈ u_ws RX3 TX3 9, w ∈ wsX3_copyFrom := by decide +kernel
theorem w2_X3_copyFrom : Cond.initialized RX4 ∈ wsX3_copyFrom := by decide +kernel
theorem w3_X3_copyFrom : Cond.static yX4_copyRow ∈ wsX3_copyFrom := by decide +kernel
theorem w4_X3_copyFrom : Cond.fieldLink RX3 19 "WeakTableHeap$State" "fields" "[I" ∈ wsX3_copyFrom := by decide +kernel
theorem w5_X3_copyFrom : Cond.fieldLink RX3 22 "WeakTableHeap$State" "keys" "[I" ∈ wsX3_copyFrom := by decide +kernel
theorem w6_X3_copyFrom : Cond.fieldLink RX3 25 "WeakTableHeap$State" "values" "[I" ∈ wsX3_copyFrom := by decide +kernel
theorem w7_X3_copyFrom : Cond.fieldLink RX3 28 "WeakTableHeap$State" "targets" "[I" ∈ wsX3_copyFrom := by decide +kernel
theorem w8_X3_copyFrom : Cond.fieldLink RX3 31 "WeakTableHeap$State" "roots" "[I" ∈ wsX3_copyFrom := by decide +kernel
theorem w9_X3_copyFrom : Cond.fieldLink RX3 37 "WeakTableHeap$State" "notices" "LWeakTableHeap$Notices;" ∈ wsX3_copyFrom := by decide +kernel
theorem w10_X3_copyFrom : Cond.fieldLink RX3 49 "WeakTableHeap$State" "finalizable" "I" ∈ wsX3_copyFrom := by decide +kernel
theorem w11_X3_copyFrom : Cond.fieldLink RX3 53 "WeakTableHeap$State" "roundsOfCollection" "I" ∈ wsX3_copyFrom := by decide +kernel
abbrev rm_X3_copyFrom : Room := { frames := 3, cells := 0, slots := 0, locals := 60 }
set_option maxHeartbeats 4000000 in
set_option maxRecDepth 100000 in
theorem c_X3_copyFrom (l : Launch) (G : GG) (a : Nat → Nat) (o : Nat → Nat) (ki : Nat → Int32) (fi : Nat → Int32) (ke : Nat → Int32) (va : Nat → Int32) (ta : Nat → Int32) (ro : Nat → Int32) (qu : Nat → Int32) (nsz : Int32) (fin : Int32) (rnd : Int32) (oki : Nat → Int32) (ofi : Nat → Int32) (oke : Nat → Int32) (ova : Nat → Int32) (ota : Nat → Int32) (oro : Nat → Int32) (oqu : Nat → Int32) (onsz : Int32) (ofin : Int32) (ornd : Int32) (q : (Nat → Int32) × (Nat → Int32) × (Nat → Int32) × (Nat → Int32) × (Nat → Int32) × (Nat → Int32) × (Nat → Int32) × Int32 × Int32 × Int32) (hm : M_X3_copyFrom ki fi ke va ta ro qu oki ofi oke ova ota oro oqu onsz ofin ornd = some q) : CTv l yX3_copyFrom wsX3_copyFrom rm_X3_copyFrom G [.ref (a 0), .ref (o 0)] (wST G.2.1 a ki fi ke va ta ro qu nsz fin rnd ++ wST G.2.1 o oki ofi oke ova ota oro oqu onsz ofin ornd) (wST G.2.1 a q.1 q.2.1 q.2.2.1 q.2.2.2.1 q.2.2.2.2.1 q.2.2.2.2.2.1 q.2.2.2.2.2.2.1 q.2.2.2.2.2.2.2.1 q.2.2.2.2.2.2.2.2.1 q.2.2.2.2.2.2.2.2.2 ++ wST G.2.1 o oki ofi oke ova ota oro oqu onsz ofin ornd) := by
  intro sz
  refine mk_body (Qc := fun A => (QV G A (wST G.2.1 a q.1 q.2.1 q.2.2.1 q.2.2.2.1 q.2.2.2.2.1 q.2.2.2.2.2.1 q.2.2.2.2.2.2.1 q.2.2.2.2.2.2.2.1 q.2.2.2.2.2.2.2.2.1 q.2.2.2.2.2.2.2.2.2 ++ wST G.2.1 o oki ofi oke ova ota oro oqu onsz ofin ornd))) (cc := cX3_copyFrom) (maxL := 2) (ret := none) (lv := [(0, .ref (a 0)), (1, .ref (o 0))]) (by decide) rfl rfl (Nat.le_of_ble_eq_true rfl) ?_
  intro p e s m args below meth c A H locs ls hF hr hlocks hname hK hA hP hD hS hl
  obtain ⟨hx, hb, hml, hown, hts⟩ := id hF
  unfold M_X3_copyFrom at hm
  refine lv_aload_n hx hb dX3_copyFrom_0 rfl (lv_at hl 1 rfl) ?_
  refine va_get (D := G.1) (ci := 3) (v := .ref (o 1)) (C := RX3) (T := TX3) (N := 9) hx hb hts w1_X3_copyFrom hown hK.1 hP 9 rfl rfl 0 (by decide) (hts _ w0_X3_copyFrom) (fun _ h9 => h9) rfl dX3_copyFrom_1 ?_
  refine lv_aload_n hx hb dX3_copyFrom_4 rfl (lv_at hl 0 rfl) ?_
  refine va_get (D := G.1) (ci := 3) (v := .ref (a 1)) (C := RX3) (T := TX3) (N := 9) hx hb hts w1_X3_copyFrom hown hK.1 hP 0 rfl rfl 0 (by decide) (hts _ w0_X3_copyFrom) (fun _ h9 => h9) rfl dX3_copyFrom_5 ?_
  obtain ⟨q1, hc2, hm⟩ := bd_s hm
  refine kc_v (wi := [((o 1), .inl (G.2.1, 24, .inl oki)), ((a 1), .inl (G.2.1, 24, .inl ki))]) (wo := [((o 1), .inl (G.2.1, 24, .inl oki)), ((a 1), .inl (G.2.1, 24, .inl q1))]) (wr := [((a 0), .inr (3, [.ref (a 1), .ref (a 2), .ref (a 3), .ref (a 4), .ref (a 5), .ref (a 6), .ref (a 7), .int fin, .int rnd])), ((a 2), .inl (G.2.1, 72, .inl fi)), ((a 3), .inl (G.2.1, 144, .inl ke)), ((a 4), .inl (G.2.1, 144, .inl va)), ((a 5), .inl (G.2.1, 24, .inl ta)), ((a 6), .inl (G.2.1, 6, .inl ro)), ((a 7), .inr (2, [.ref (a 8), .int nsz])), ((a 8), .inl (G.2.1, 20, .inl qu)), ((o 0), .inr (3, [.ref (o 1), .ref (o 2), .ref (o 3), .ref (o 4), .ref (o 5), .ref (o 6), .ref (o 7), .int ofin, .int ornd])), ((o 2), .inl (G.2.1, 72, .inl ofi)), ((o 3), .inl (G.2.1, 144, .inl oke)), ((o 4), .inl (G.2.1, 144, .inl ova)), ((o 5), .inl (G.2.1, 24, .inl ota)), ((o 6), .inl (G.2.1, 6, .inl oro)), ((o 7), .inr (2, [.ref (o 8), .int onsz])), ((o 8), .inl (G.2.1, 20, .inl oqu))]) (ws' := (wST G.2.1 a q1 fi ke va ta ro qu nsz fin rnd ++ wST G.2.1 o oki ofi oke ova ota oro oqu onsz ofin ornd)) (rSN (As := [.ref (o 1), .ref (a 1)]) (rest := []) (wi := [((o 1), .inl (G.2.1, 24, .inl oki)), ((a 1), .inl (G.2.1, 24, .inl ki))]) hF hK (hP.sub [10, 1] rfl) (hD.sub [10, 1] rfl rfl) (c_X4_copyRow l G (o 1) (a 1) 24 24 oki ki q1 hc2 H.size) ⟨va_cnB 2 hts gX3_copyFrom_X4_copyRow_n41 rfl rfl rfl (nw_RX3_41 hK) (hts _ w2_X3_copyFrom) (by decide +kernel) ⟨Nat.le_of_ble_eq_true rfl, Nat.le_of_ble_eq_true rfl⟩, hts _ w3_X3_copyFrom, trivial⟩ rfl hl.1 rfl (Nat.le_of_ble_eq_true rfl) dX3_copyFrom_8 ⟨Nat.le_of_ble_eq_true rfl, Nat.le_of_ble_eq_true rfl⟩) hP hD hS hA [10, 1] [0, 2, 3, 4, 5, 6, 7, 8, 9, 11, 12, 13, 14, 15, 16, 17] [0, 17, 1, 2, 3, 4, 5, 6, 7, 8, 16, 9, 10, 11, 12, 13, 14, 15] rfl rfl rfl (by decide) rfl rfl (fun H locs hP hD hS => ?_)
  refine lv_aload_n hx hb dX3_copyFrom_11 rfl (lv_at hl 1 rfl) ?_
  refine va_get (D := G.1) (ci := 3) (v := .ref (o 2)) (C := RX3) (T := TX3) (N := 9) hx hb hts w1_X3_copyFrom hown hK.1 hP 9 rfl rfl 1 (by decide) (hts _ w4_X3_copyFrom) (fun _ h9 => h9) rfl dX3_copyFrom_12 ?_
  refine lv_aload_n hx hb dX3_copyFrom_15 rfl (lv_at hl 0 rfl) ?_
  refine va_get (D := G.1) (ci := 3) (v := .ref (a 2)) (C := RX3) (T := TX3) (N := 9) hx hb hts w1_X3_copyFrom hown hK.1 hP 0 rfl rfl 1 (by decide) (hts _ w4_X3_copyFrom) (fun _ h9 => h9) rfl dX3_copyFrom_16 ?_
  obtain ⟨q3, hc4, hm⟩ := bd_s hm
  refine kc_v (wi := [((o 2), .inl (G.2.1, 72, .inl ofi)), ((a 2), .inl (G.2.1, 72, .inl fi))]) (wo := [((o 2), .inl (G.2.1, 72, .inl ofi)), ((a 2), .inl (G.2.1, 72, .inl q3))]) (wr := [((a 0), .inr (3, [.ref (a 1), .ref (a 2), .ref (a 3), .ref (a 4), .ref (a 5), .ref (a 6), .ref (a 7), .int fin, .int rnd])), ((a 1), .inl (G.2.1, 24, .inl q1)), ((a 3), .inl (G.2.1, 144, .inl ke)), ((a 4), .inl (G.2.1, 144, .inl va)), ((a 5), .inl (G.2.1, 24, .inl ta)), ((a 6), .inl (G.2.1, 6, .inl ro)), ((a 7), .inr (2, [.ref (a 8), .int nsz])), ((a 8), .inl (G.2.1, 20, .inl qu)), ((o 0), .inr (3, [.ref (o 1), .ref (o 2), .ref (o 3), .ref (o 4), .ref (o 5), .ref (o 6), .ref (o 7), .int ofin, .int ornd])), ((o 1), .inl (G.2.1, 24, .inl oki)), ((o 3), .inl (G.2.1, 144, .inl oke)), ((o 4), .inl (G.2.1, 144, .inl ova)), ((o 5), .inl (G.2.1, 24, .inl ota)), ((o 6), .inl (G.2.1, 6, .inl oro)), ((o 7), .inr (2, [.ref (o 8), .int onsz])), ((o 8), .inl (G.2.1, 20, .inl oqu))]) (ws' := (wST G.2.1 a q1 q3 ke va ta ro qu nsz fin rnd ++ wST G.2.1 o oki ofi oke ova ota oro oqu onsz ofin ornd)) (rSN (As := [.ref (o 2), .ref (a 2)]) (rest := []) (wi := [((o 2), .inl (G.2.1, 72, .inl ofi)), ((a 2), .inl (G.2.1, 72, .inl fi))]) hF hK (hP.sub [11, 2] rfl) (hD.sub [11, 2] rfl rfl) (c_X4_copyRow l G (o 2) (a 2) 72 72 ofi fi q3 hc4 H.size) ⟨va_cnB 2 hts gX3_copyFrom_X4_copyRow_n41 rfl rfl rfl (nw_RX3_41 hK) (hts _ w2_X3_copyFrom) (by decide +kernel) ⟨Nat.le_of_ble_eq_true rfl, Nat.le_of_ble_eq_true rfl⟩, hts _ w3_X3_copyFrom, trivial⟩ rfl hl.1 rfl (Nat.le_of_ble_eq_true rfl) dX3_copyFrom_19 ⟨Nat.le_of_ble_eq_true rfl, Nat.le_of_ble_eq_true rfl⟩) hP hD hS hA [11, 2] [0, 1, 3, 4, 5, 6, 7, 8, 9, 10, 12, 13, 14, 15, 16, 17] [0, 1, 17, 2, 3, 4, 5, 6, 7, 8, 9, 16, 10, 11, 12, 13, 14, 15] rfl rfl rfl (by decide) rfl rfl (fun H locs hP hD hS => ?_)
  refine lv_aload_n hx hb dX3_copyFrom_22 rfl (lv_at hl 1 rfl) ?_
  refine va_get (D := G.1) (ci := 3) (v := .ref (o 3)) (C := RX3) (T := TX3) (N := 9) hx hb hts w1_X3_copyFrom hown hK.1 hP 9 rfl rfl 2 (by decide) (hts _ w5_X3_copyFrom) (fun _ h9 => h9) rfl dX3_copyFrom_23 ?_
  refine lv_aload_n hx hb dX3_copyFrom_26 rfl (lv_at hl 0 rfl) ?_
  refine va_get (D := G.1) (ci := 3) (v := .ref (a 3)) (C := RX3) (T := TX3) (N := 9) hx hb hts w1_X3_copyFrom hown hK.1 hP 0 rfl rfl 2 (by decide) (hts _ w5_X3_copyFrom) (fun _ h9 => h9) rfl dX3_copyFrom_27 ?_
  obtain ⟨q5, hc6, hm⟩ := bd_s hm
  refine kc_v (wi := [((o 3), .inl (G.2.1, 144, .inl oke)), ((a 3), .inl (G.2.1, 144, .inl ke))]) (wo := [((o 3), .inl (G.2.1, 144, .inl oke)), ((a 3), .inl (G.2.1, 144, .inl q5))]) (wr := [((a 0), .inr (3, [.ref (a 1), .ref (a 2), .ref (a 3), .ref (a 4), .ref (a 5), .ref (a 6), .ref (a 7), .int fin, .int rnd])), ((a 1), .inl (G.2.1, 24, .inl q1)), ((a 2), .inl (G.2.1, 72, .inl q3)), ((a 4), .inl (G.2.1, 144, .inl va)), ((a 5), .inl (G.2.1, 24, .inl ta)), ((a 6), .inl (G.2.1, 6, .inl ro)), ((a 7), .inr (2, [.ref (a 8), .int nsz])), ((a 8), .inl (G.2.1, 20, .inl qu)), ((o 0), .inr (3, [.ref (o 1), .ref (o 2), .ref (o 3), .ref (o 4), .ref (o 5), .ref (o 6), .ref (o 7), .int ofin, .int ornd])), ((o 1), .inl (G.2.1, 24, .inl oki)), ((o 2), .inl (G.2.1, 72, .inl ofi)), ((o 4), .inl (G.2.1, 144, .inl ova)), ((o 5), .inl (G.2.1, 24, .inl ota)), ((o 6), .inl (G.2.1, 6, .inl oro)), ((o 7), .inr (2, [.ref (o 8), .int onsz])), ((o 8), .inl (G.2.1, 20, .inl oqu))]) (ws' := (wST G.2.1 a q1 q3 q5 va ta ro qu nsz fin rnd ++ wST G.2.1 o oki ofi oke ova ota oro oqu onsz ofin ornd)) (rSN (As := [.ref (o 3), .ref (a 3)]) (rest := []) (wi := [((o 3), .inl (G.2.1, 144, .inl oke)), ((a 3), .inl (G.2.1, 144, .inl ke))]) hF hK (hP.sub [12, 3] rfl) (hD.sub [12, 3] rfl rfl) (c_X4_copyRow l G (o 3) (a 3) 144 144 oke ke q5 hc6 H.size) ⟨va_cnB 2 hts gX3_copyFrom_X4_copyRow_n41 rfl rfl rfl (nw_RX3_41 hK) (hts _ w2_X3_copyFrom) (by decide +kernel) ⟨Nat.le_of_ble_eq_true rfl, Nat.le_of_ble_eq_true rfl⟩, hts _ w3_X3_copyFrom, trivial⟩ rfl hl.1 rfl (Nat.le_of_ble_eq_true rfl) dX3_copyFrom_30 ⟨Nat.le_of_ble_eq_true rfl, Nat.le_of_ble_eq_true rfl⟩) hP hD hS hA [12, 3] [0, 1, 2, 4, 5, 6, 7, 8, 9, 10, 11, 13, 14, 15, 16, 17] [0, 1, 2, 17, 3, 4, 5, 6, 7, 8, 9, 10, 16, 11, 12, 13, 14, 15] rfl rfl rfl (by decide) rfl rfl (fun H locs hP hD hS => ?_)
  refine lv_aload_n hx hb dX3_copyFrom_33 rfl (lv_at hl 1 rfl) ?_
  refine va_get (D := G.1) (ci := 3) (v := .ref (o 4)) (C := RX3) (T := TX3) (N := 9) hx hb hts w1_X3_copyFrom hown hK.1 hP 9 rfl rfl 3 (by decide) (hts _ w6_X3_copyFrom) (fun _ h9 => h9) rfl dX3_copyFrom_34 ?_
  refine lv_aload_n hx hb dX3_copyFrom_37 rfl (lv_at hl 0 rfl) ?_
  refine va_get (D := G.1) (ci := 3) (v := .ref (a 4)) (C := RX3) (T := TX3) (N := 9) hx hb hts w1_X3_copyFrom hown hK.1 hP 0 rfl rfl 3 (by decide) (hts _ w6_X3_copyFrom) (fun _ h9 => h9) rfl dX3_copyFrom_38 ?_
  obtain ⟨q7, hc8, hm⟩ := bd_s hm
  refine kc_v (wi := [((o 4), .inl (G.2.1, 144, .inl ova)), ((a 4), .inl (G.2.1, 144, .inl va))]) (wo := [((o 4), .inl (G.2.1, 144, .inl ova)), ((a 4), .inl (G.2.1, 144, .inl q7))]) (wr := [((a 0), .inr (3, [.ref (a 1), .ref (a 2), .ref (a 3), .ref (a 4), .ref (a 5), .ref (a 6), .ref (a 7), .int fin, .int rnd])), ((a 1), .inl (G.2.1, 24, .inl q1)), ((a 2), .inl (G.2.1, 72, .inl q3)), ((a 3), .inl (G.2.1, 144, .inl q5)), ((a 5), .inl (G.2.1, 24, .inl ta)), ((a 6), .inl (G.2.1, 6, .inl ro)), ((a 7), .inr (2, [.ref (a 8), .int nsz])), ((a 8), .inl (G.2.1, 20, .inl qu)), ((o 0), .inr (3, [.ref (o 1), .ref (o 2), .ref (o 3), .ref (o 4), .ref (o 5), .ref (o 6), .ref (o 7), .int ofin, .int ornd])), ((o 1), .inl (G.2.1, 24, .inl oki)), ((o 2), .inl (G.2.1, 72, .inl ofi)), ((o 3), .inl (G.2.1, 144, .inl oke)), ((o 5), .inl (G.2.1, 24, .inl ota)), ((o 6), .inl (G.2.1, 6, .inl oro)), ((o 7), .inr (2, [.ref (o 8), .int onsz])), ((o 8), .inl (G.2.1, 20, .inl oqu))]) (ws' := (wST G.2.1 a q1 q3 q5 q7 ta ro qu nsz fin rnd ++ wST G.2.1 o oki ofi oke ova ota oro oqu onsz ofin ornd)) (rSN (As := [.ref (o 4), .ref (a 4)]) (rest := []) (wi := [((o 4), .inl (G.2.1, 144, .inl ova)), ((a 4), .inl (G.2.1, 144, .inl va))]) hF hK (hP.sub [13, 4] rfl) (hD.sub [13, 4] rfl rfl) (c_X4_copyRow l G (o 4) (a 4) 144 144 ova va q7 hc8 H.size) ⟨va_cnB 2 hts gX3_copyFrom_X4_copyRow_n41 rfl rfl rfl (nw_RX3_41 hK) (hts _ w2_X3_copyFrom) (by decide +kernel) ⟨Nat.le_of_ble_eq_true rfl, Nat.le_of_ble_eq_true rfl⟩, hts _ w3_X3_copyFrom, trivial⟩ rfl hl.1 rfl (Nat.le_of_ble_eq_true rfl) dX3_copyFrom_41 ⟨Nat.le_of_ble_eq_true rfl, Nat.le_of_ble_eq_true rfl⟩) hP hD hS hA [13, 4] [0, 1, 2, 3, 5, 6, 7, 8, 9, 10, 11, 12, 14, 15, 16, 17] [0, 1, 2, 3, 17, 4, 5, 6, 7, 8, 9, 10, 11, 16, 12, 13, 14, 15] rfl rfl rfl (by decide) rfl rfl (fun H locs hP hD hS => ?_)
  refine lv_aload_n hx hb dX3_copyFrom_44 rfl (lv_at hl 1 rfl) ?_
  refine va_get (D := G.1) (ci := 3) (v := .ref (o 5)) (C := RX3) (T := TX3) (N := 9) hx hb hts w1_X3_copyFrom hown hK.1 hP 9 rfl rfl 4 (by decide) (hts _ w7_X3_copyFrom) (fun _ h9 => h9) rfl dX3_copyFrom_45 ?_
  refine lv_aload_n hx hb dX3_copyFrom_48 rfl (lv_at hl 0 rfl) ?_
  refine va_get (D := G.1) (ci := 3) (v := .ref (a 5)) (C := RX3) (T := TX3) (N := 9) hx hb hts w1_X3_copyFrom hown hK.1 hP 0 rfl rfl 4 (by decide) (hts _ w7_X3_copyFrom) (fun _ h9 => h9) rfl dX3_copyFrom_49 ?_
  obtain ⟨q9, hc10, hm⟩ := bd_s hm
  refine kc_v (wi := [((o 5), .inl (G.2.1, 24, .inl ota)), ((a 5), .inl (G.2.1, 24, .inl ta))]) (wo := [((o 5), .inl (G.2.1, 24, .inl ota)), ((a 5), .inl (G.2.1, 24, .inl q9))]) (wr := [((a 0), .inr (3, [.ref (a 1), .ref (a 2), .ref (a 3), .ref (a 4), .ref (a 5), .ref (a 6), .ref (a 7), .int fin, .int rnd])), ((a 1), .inl (G.2.1, 24, .inl q1)), ((a 2), .inl (G.2.1, 72, .inl q3)), ((a 3), .inl (G.2.1, 144, .inl q5)), ((a 4), .inl (G.2.1, 144, .inl q7)), ((a 6), .inl (G.2.1, 6, .inl ro)), ((a 7), .inr (2, [.ref (a 8), .int nsz])), ((a 8), .inl (G.2.1, 20, .inl qu)), ((o 0), .inr (3, [.ref (o 1), .ref (o 2), .ref (o 3), .ref (o 4), .ref (o 5), .ref (o 6), .ref (o 7), .int ofin, .int ornd])), ((o 1), .inl (G.2.1, 24, .inl oki)), ((o 2), .inl (G.2.1, 72, .inl ofi)), ((o 3), .inl (G.2.1, 144, .inl oke)), ((o 4), .inl (G.2.1, 144, .inl ova)), ((o 6), .inl (G.2.1, 6, .inl oro)), ((o 7), .inr (2, [.ref (o 8), .int onsz])), ((o 8), .inl (G.2.1, 20, .inl oqu))]) (ws' := (wST G.2.1 a q1 q3 q5 q7 q9 ro qu nsz fin rnd ++ wST G.2.1 o oki ofi oke ova ota oro oqu onsz ofin ornd)) (rSN (As := [.ref (o 5), .ref (a 5)]) (rest := []) (wi := [((o 5), .inl (G.2.1, 24, .inl ota)), ((a 5), .inl (G.2.1, 24, .inl ta))]) hF hK (hP.sub [14, 5] rfl) (hD.sub [14, 5] rfl rfl) (c_X4_copyRow l G (o 5) (a 5) 24 24 ota ta q9 hc10 H.size) ⟨va_cnB 2 hts gX3_copyFrom_X4_copyRow_n41 rfl rfl rfl (nw_RX3_41 hK) (hts _ w2_X3_copyFrom) (by decide +kernel) ⟨Nat.le_of_ble_eq_true rfl, Nat.le_of_ble_eq_true rfl⟩, hts _ w3_X3_copyFrom, trivial⟩ rfl hl.1 rfl (Nat.le_of_ble_eq_true rfl) dX3_copyFrom_52 ⟨Nat.le_of_ble_eq_true rfl, Nat.le_of_ble_eq_true rfl⟩) hP hD hS hA [14, 5] [0, 1, 2, 3, 4, 6, 7, 8, 9, 10, 11, 12, 13, 15, 16, 17] [0, 1, 2, 3, 4, 17, 5, 6, 7, 8, 9, 10, 11, 12, 16, 13, 14, 15] rfl rfl rfl (by decide) rfl rfl (fun H locs hP hD hS => ?_)
  refine lv_aload_n hx hb dX3_copyFrom_55 rfl (lv_at hl 1 rfl) ?_
  refine va_get (D := G.1) (ci := 3) (v := .ref (o 6)) (C := RX3) (T := TX3) (N := 9) hx hb hts w1_X3_copyFrom hown hK.1 hP 9 rfl rfl 5 (by decide) (hts _ w8_X3_copyFrom) (fun _ h9 => h9) rfl dX3_copyFrom_56 ?_
  refine lv_aload_n hx hb dX3_copyFrom_59 rfl (lv_at hl 0 rfl) ?_
  refine va_get (D := G.1) (ci := 3) (v := .ref (a 6)) (C := RX3) (T := TX3) (N := 9) hx hb hts w1_X3_copyFrom hown hK.1 hP 0 rfl rfl 5 (by decide) (hts _ w8_X3_copyFrom) (fun _ h9 => h9) rfl dX3_copyFrom_60 ?_
  obtain ⟨q11, hc12, hm⟩ := bd_s hm
  refine kc_v (wi := [((o 6), .inl (G.2.1, 6, .inl oro)), ((a 6), .inl (G.2.1, 6, .inl ro))]) (wo := [((o 6), .inl (G.2.1, 6, .inl oro)), ((a 6), .inl (G.2.1, 6, .inl q11))]) (wr := [((a 0), .inr (3, [.ref (a 1), .ref (a 2), .ref (a 3), .ref (a 4), .ref (a 5), .ref (a 6), .ref (a 7), .int fin, .int rnd])), ((a 1), .inl (G.2.1, 24, .inl q1)), ((a 2), .inl (G.2.1, 72, .inl q3)), ((a 3), .inl (G.2.1, 144, .inl q5)), ((a 4), .inl (G.2.1, 144, .inl q7)), ((a 5), .inl (G.2.1, 24, .inl q9)), ((a 7), .inr (2, [.ref (a 8), .int nsz])), ((a 8), .inl (G.2.1, 20, .inl qu)), ((o 0), .inr (3, [.ref (o 1), .ref (o 2), .ref (o 3), .ref (o 4), .ref (o 5), .ref (o 6), .ref (o 7), .int ofin, .int ornd])), ((o 1), .inl (G.2.1, 24, .inl oki)), ((o 2), .inl (G.2.1, 72, .inl ofi)), ((o 3), .inl (G.2.1, 144, .inl oke)), ((o 4), .inl (G.2.1, 144, .inl ova)), ((o 5), .inl (G.2.1, 24, .inl ota)), ((o 7), .inr (2, [.ref (o 8), .int onsz])), ((o 8), .inl (G.2.1, 20, .inl oqu))]) (ws' := (wST G.2.1 a q1 q3 q5 q7 q9 q11 qu nsz fin rnd ++ wST G.2.1 o oki ofi oke ova ota oro oqu onsz ofin ornd)) (rSN (As := [.ref (o 6), .ref (a 6)]) (rest := []) (wi := [((o 6), .inl (G.2.1, 6, .inl oro)), ((a 6), .inl (G.2.1, 6, .inl ro))]) hF hK (hP.sub [15, 6] rfl) (hD.sub [15, 6] rfl rfl) (c_X4_copyRow l G (o 6) (a 6) 6 6 oro ro q11 hc12 H.size) ⟨va_cnB 2 hts gX3_copyFrom_X4_copyRow_n41 rfl rfl rfl (nw_RX3_41 hK) (hts _ w2_X3_copyFrom) (by decide +kernel) ⟨Nat.le_of_ble_eq_true rfl, Nat.le_of_ble_eq_true rfl⟩, hts _ w3_X3_copyFrom, trivial⟩ rfl hl.1 rfl (Nat.le_of_ble_eq_true rfl) dX3_copyFrom_63 ⟨Nat.le_of_ble_eq_true rfl, Nat.le_of_ble_eq_true rfl⟩) hP hD hS hA [15, 6] [0, 1, 2, 3, 4, 5, 7, 8, 9, 10, 11, 12, 13, 14, 16, 17] [0, 1, 2, 3, 4, 5, 17, 6, 7, 8, 9, 10, 11, 12, 13, 16, 14, 15] rfl rfl rfl (by decide) rfl rfl (fun H locs hP hD hS => ?_)
  refine lv_aload_n hx hb dX3_copyFrom_66 rfl (lv_at hl 0 rfl) ?_
  refine va_get (D := G.1) (ci := 3) (v := .ref (a 7)) (C := RX3) (T := TX3) (N := 9) hx hb hts w1_X3_copyFrom hown hK.1 hP 0 rfl rfl 6 (by decide) (hts _ w9_X3_copyFrom) (fun _ h9 => h9) rfl dX3_copyFrom_67 ?_
  refine lv_aload_n hx hb dX3_copyFrom_70 rfl (lv_at hl 1 rfl) ?_
  refine va_get (D := G.1) (ci := 3) (v := .ref (o 7)) (C := RX3) (T := TX3) (N := 9) hx hb hts w1_X3_copyFrom hown hK.1 hP 9 rfl rfl 6 (by decide) (hts _ w9_X3_copyFrom) (fun _ h9 => h9) rfl dX3_copyFrom_71 ?_
  obtain ⟨q13, hc14, hm⟩ := bd_s hm
  refine kc_v (wi := (wNT G.2.1 (a 7) (a 8) qu nsz ++ wNT G.2.1 (o 7) (o 8) oqu onsz)) (wo := (wNT G.2.1 (a 7) (a 8) q13.1 q13.2 ++ wNT G.2.1 (o 7) (o 8) oqu onsz)) (wr := [((a 0), .inr (3, [.ref (a 1), .ref (a 2), .ref (a 3), .ref (a 4), .ref (a 5), .ref (a 6), .ref (a 7), .int fin, .int rnd])), ((a 1), .inl (G.2.1, 24, .inl q1)), ((a 2), .inl (G.2.1, 72, .inl q3)), ((a 3), .inl (G.2.1, 144, .inl q5)), ((a 4), .inl (G.2.1, 144, .inl q7)), ((a 5), .inl (G.2.1, 24, .inl q9)), ((a 6), .inl (G.2.1, 6, .inl q11)), ((o 0), .inr (3, [.ref (o 1), .ref (o 2), .ref (o 3), .ref (o 4), .ref (o 5), .ref (o 6), .ref (o 7), .int ofin, .int ornd])), ((o 1), .inl (G.2.1, 24, .inl oki)), ((o 2), .inl (G.2.1, 72, .inl ofi)), ((o 3), .inl (G.2.1, 144, .inl oke)), ((o 4), .inl (G.2.1, 144, .inl ova)), ((o 5), .inl (G.2.1, 24, .inl ota)), ((o 6), .inl (G.2.1, 6, .inl oro))]) (ws' := (wST G.2.1 a q1 q3 q5 q7 q9 q11 q13.1 q13.2 fin rnd ++ wST G.2.1 o oki ofi oke ova ota oro oqu onsz ofin ornd)) (rV (As := [.ref (o 7)]) (rest := []) (b := (a 7)) (wi := (wNT G.2.1 (a 7) (a 8) qu nsz ++ wNT G.2.1 (o 7) (o 8) oqu onsz)) hF hK (hP.sub [7, 8, 16, 17] rfl) (hD.sub [7, 8, 16, 17] rfl rfl) (c_X2_copyFrom l G (a 7) (a 8) (o 7) (o 8) qu nsz oqu onsz q13 hc14 H.size) (cwV 1 hts gX3_copyFrom_X2_copyFrom rfl rfl rfl (by decide +kernel) ⟨Nat.le_of_ble_eq_true rfl, Nat.le_of_ble_eq_true rfl⟩) (va_recv hK.1 hP (ci := 2) (q0 := 7) rfl rfl) rfl hl.1 rfl (Nat.le_of_ble_eq_true rfl) dX3_copyFrom_74 ⟨Nat.le_of_ble_eq_true rfl, Nat.le_of_ble_eq_true rfl⟩) hP hD hS hA [7, 8, 16, 17] [0, 1, 2, 3, 4, 5, 6, 9, 10, 11, 12, 13, 14, 15] [0, 1, 2, 3, 4, 5, 6, 14, 15, 7, 8, 9, 10, 11, 12, 13, 16, 17] rfl rfl rfl (by decide) rfl rfl (fun H locs hP hD hS => ?_)
  refine lv_aload_n hx hb dX3_copyFrom_77 rfl (lv_at hl 0 rfl) ?_
  refine lv_aload_n hx hb dX3_copyFrom_78 rfl (lv_at hl 1 rfl) ?_
  refine va_get (D := G.1) (ci := 3) (v := .int ofin) (C := RX3) (T := TX3) (N := 9) hx hb hts w1_X3_copyFrom hown hK.1 hP 9 rfl rfl 7 (by decide) (hts _ w10_X3_copyFrom) (fun _ h9 => h9) rfl dX3_copyFrom_79 ?_
  refine va_put (D := G.1) (ci := 3) (v := .int ofin) (ty := .int) (C := RX3) (T := TX3) (N := 9) hx hb hts w1_X3_copyFrom tyX3 tyX3_ok nmX3 hown hK.1 hP hD hS 0 rfl rfl 7 (by decide) (hts _ w10_X3_copyFrom) (fun _ h9 => h9) rfl (by decide +kernel) rfl rfl (Nat.le_of_ble_eq_true rfl) dX3_copyFrom_82 (fun H locs hP hD hS => ?_)
  have hP : va_P G.1 vwCl (wST G.2.1 a q1 q3 q5 q7 q9 q11 q13.1 q13.2 ofin rnd ++ wST G.2.1 o oki ofi oke ova ota oro oqu onsz ofin ornd) H := hP
  have hD : va_D A (wST G.2.1 a q1 q3 q5 q7 q9 q11 q13.1 q13.2 ofin rnd ++ wST G.2.1 o oki ofi oke ova ota oro oqu onsz ofin ornd) := hD
  refine lv_aload_n hx hb dX3_copyFrom_85 rfl (lv_at hl 0 rfl) ?_
  refine lv_aload_n hx hb dX3_copyFrom_86 rfl (lv_at hl 1 rfl) ?_
  refine va_get (D := G.1) (ci := 3) (v := .int ornd) (C := RX3) (T := TX3) (N := 9) hx hb hts w1_X3_copyFrom hown hK.1 hP 9 rfl rfl 8 (by decide) (hts _ w11_X3_copyFrom) (fun _ h9 => h9) rfl dX3_copyFrom_87 ?_
  refine va_put (D := G.1) (ci := 3) (v := .int ornd) (ty := .int) (C := RX3) (T := TX3) (N := 9) hx hb hts w1_X3_copyFrom tyX3 tyX3_ok nmX3 hown hK.1 hP hD hS 0 rfl rfl 8 (by decide) (hts _ w11_X3_copyFrom) (fun _ h9 => h9) rfl (by decide +kernel) rfl rfl (Nat.le_of_ble_eq_true rfl) dX3_copyFrom_90 (fun H locs hP hD hS => ?_)
  have hP : va_P G.1 vwCl (wST G.2.1 a q1 q3 q5 q7 q9 q11 q13.1 q13.2 ofin ornd ++ wST G.2.1 o oki ofi oke ova ota oro oqu onsz ofin ornd) H := hP
  have hD : va_D A (wST G.2.1 a q1 q3 q5 q7 q9 q11 q13.1 q13.2 ofin ornd ++ wST G.2.1 o oki ofi oke ova ota oro oqu onsz ofin ornd) := hD
  cases hm
  exact rt_v hx hb hr hlocks hP hD hS dX3_copyFrom_93
