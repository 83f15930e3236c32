theorem rt_jz {p : Program} {l : Launch} {e : Env} {Rm : Room} {s : State} {m : MethodId} {args : Array Value} {below : List Frame} {meth : Method} {c : Code} {H : Heap} {locs : List Loc} {cells slots : Nat} {cc : ByteArray} {pc : Nat} {ls : Array Slot} {G : GG} {A : Nat → Prop} {S : Type} {r : Int32} {ok : S → Prop} {wo : S → va_W} (u : S) (hok : ok u) (hx : p.tables.exec = Jvm.exec) (hb : c.code = cc) (hr : meth.sig.returnType = some .boolean) (hlocks : meth.locks = false) (hn : narrow .boolean (.int r) = .int r) (hP : va_P G.1 vwCl (wo u) H) (hD : va_D A (wo u)) (hS : va_S A s.heap H locs) (hdg : decode cc pc = .ok (.ireturn, 1)) :
    W p l e Rm s m args below meth c H locs cells slots (MQ below (QJ G A r ok wo) args s cells slots A) (F0 m pc ls [.int r]) :=
  W.zret (v := r) hx hb hr hn (fun t ht hW => ⟨⟨r, u, rfl, ⟨rfl, hok⟩, by rw [ht]; exact hP, hD⟩, hS.F ht⟩) hS.2.2 hdg
theorem wring_X0_popInto : Cond.fieldLink RX0 11 "WeakTableHeap$History" "ring" "[LWeakTableHeap$State;" ∈ wsX0_popInto := by decide +kernel
theorem wnext_X0_popInto : Cond.fieldLink RX0 17 "WeakTableHeap$History" "next" "I" ∈ wsX0_popInto := by decide +kernel
theorem wdep_X0_popInto : Cond.fieldLink RX0 26 "WeakTableHeap$History" "depth" "I" ∈ wsX0_popInto := by decide +kernel
theorem win0_X0_popInto : ∀ w ∈ u_ws RX0 TX0 3, w ∈ wsX0_popInto := by decide +kernel
theorem win3_X0_popInto : ∀ w ∈ u_ws RX3 TX3 9, w ∈ wsX0_popInto := by decide +kernel
abbrev rm_X0_popInto : Room := { frames := 4, cells := 0, slots := 0, locals := 81 }
set_option maxHeartbeats 4000000 in
set_option maxRecDepth 100000 in
theorem c_X0_popInto (l : Launch) (G : GG) (hh ra sl : Nat) (a : Nat → Nat) (R : SP) (ki : Nat → Int32) (fi : Nat → Int32) (ke : Nat → Int32) (va : Nat → Int32) (ta : Nat → Int32) (ro : Nat → Int32) (qu : Nat → Int32) (nsz : Int32) (fin : Int32) (rnd : Int32) (nx dp : Int32) (q : Int32 × SV × Int32 × Int32) (hm : M_X0_popInto (vals R) nx dp (pkS ki fi ke va ta ro qu nsz fin rnd) = some q) : CTj l yX0_popInto wsX0_popInto rm_X0_popInto G [.ref hh, .ref (a 0)] ((wST G.2.1 a ki fi ke va ta ro qu nsz fin rnd ++ wHX G hh ra sl R nx dp) ++ fl G.2.1 R 8) q.1 (fun _ : Unit => True) (fun _ : Unit => (wSV G.2.1 a q.2.1 ++ wHX G hh ra sl R q.2.2.1 q.2.2.2) ++ fl G.2.1 R 8) := by
  intro sz
  refine mk_body (Qc := fun A => QJ G A q.1 (fun _ : Unit => True) (fun _ : Unit => (wSV G.2.1 a q.2.1 ++ wHX G hh ra sl R q.2.2.1 q.2.2.2) ++ fl G.2.1 R 8)) (cc := cX0_popInto) (maxL := 3) (ret := (some .boolean)) (lv := [(0, .ref hh), (1, .ref (a 0))]) (by decide) rfl rfl (Nat.le_of_ble_eq_true rfl) ?_
  intro p e s m args below meth c A H locs ls hF hr hlocks hname hK hA hP hD hS hl
  obtain ⟨hx, hb, hml, hown, hts⟩ := id hF
  unfold M_X0_popInto at hm
  refine lv_aload_n hx hb dX0_popInto_0 rfl (lv_at hl 0 rfl) ?_
  refine va_get (D := G.1) (ci := 0) (v := .int nx) (C := RX0) (T := TX0) (N := 3) hx hb hts win0_X0_popInto hown hK.1 hP 9 rfl rfl 1 (by decide) (hts _ wnext_X0_popInto) (fun _ h9 => h9) rfl dX0_popInto_1 ?_
  refine lv_bipush (v := 6) hx hb dX0_popInto_4 (by decide) ?_
  refine lv_iadd hx hb dX0_popInto_6 ?_
  refine lv_iconst (v := 1) hx hb dX0_popInto_7 (by decide) ?_
  refine lv_isub hx hb dX0_popInto_8 ?_
  refine lv_bipush (v := 6) hx hb dX0_popInto_9 (by decide) ?_
  refine lv_irem hx hb dX0_popInto_11 (by decide) ?_
  refine lv_istore_n (lv' := [(2, .int (((nx + 6) - 1) - ((nx + 6) - 1) / 6 * 6)), (0, .ref hh), (1, .ref (a 0))]) hx hb dX0_popInto_12 rfl hl (by decide) rfl (fun ls hl => ?_)
  refine lv_aload_n hx hb dX0_popInto_13 rfl (lv_at hl 1 rfl) ?_
  refine va_get (D := G.1) (ci := 0) (v := .int dp) (C := RX0) (T := TX0) (N := 3) hx hb hts win0_X0_popInto hown hK.1 hP 9 rfl rfl 2 (by decide) (hts _ wdep_X0_popInto) (fun _ h9 => h9) rfl dX0_popInto_14 ?_
  refine lv_if_eq (tgt := 29) hx hb dX0_popInto_17 (by decide) (fun c1 => ?_) (fun c1 => ?_)
  · replace hm := it_t c1 hm
    cases hm
    refine lv_iconst (v := 0) hx hb dX0_popInto_29 (by decide) ?_
    exact rt_jz (r := 0) () trivial hx hb hr hlocks rfl hP hD hS dX0_popInto_30
  · replace hm := it_f c1 hm
    obtain ⟨hi, hm⟩ := gd_s hm
    have hj : (((nx + 6) - 1) - ((nx + 6) - 1) / 6 * 6).toNatClampNeg < 6 := by
      by_cases h9 : (((nx + 6) - 1) - ((nx + 6) - 1) / 6 * 6).toNatClampNeg < 6
      · exact h9
      · exact absurd (Or.inr (by omega)) hi
    refine lv_aload_n hx hb dX0_popInto_20 rfl (lv_at hl 1 rfl) ?_
    refine va_get (D := G.1) (ci := 0) (v := .ref ra) (C := RX0) (T := TX0) (N := 3) hx hb hts win0_X0_popInto hown hK.1 hP 9 rfl rfl 0 (by decide) (hts _ wring_X0_popInto) (fun _ h9 => h9) rfl dX0_popInto_21 ?_
    refine lv_iload_n hx hb dX0_popInto_24 rfl (lv_at hl 0 rfl) ?_
    refine va_aldq hx hb hK.1 hP 10 2 rfl rfl hi dX0_popInto_25 ?_
    cases hRj : R (((nx + 6) - 1) - ((nx + 6) - 1) / 6 * 6).toNatClampNeg with
    | none =>
      rw [show vals R (((nx + 6) - 1) - ((nx + 6) - 1) / 6 * 6).toNatClampNeg = none from by simp [vals, hRj]] at hm
      cases hm
      rw [show va_rf (rg R (((nx + 6) - 1) - ((nx + 6) - 1) / 6 * 6).toNatClampNeg) = .null from by simp [rg, hRj, va_rf]]
      refine lv_ifnonnullN hx hb dX0_popInto_26 ?_
      refine lv_iconst (v := 0) hx hb dX0_popInto_29 (by decide) ?_
      exact rt_jz (r := 0) () trivial hx hb hr hlocks rfl hP hD hS dX0_popInto_30
    | some z =>
      obtain ⟨u, v⟩ := z
      rw [show vals R (((nx + 6) - 1) - ((nx + 6) - 1) / 6 * 6).toNatClampNeg = some v from by simp [vals, hRj]] at hm
      obtain ⟨t, ht, hm⟩ := bd_s hm
      cases hm
      rw [show va_rf (rg R (((nx + 6) - 1) - ((nx + 6) - 1) / 6 * 6).toNatClampNeg) = .ref (u 0) from by simp [rg, hRj, va_rf]]
      refine lv_ifnonnull (tgt := 31) hx hb dX0_popInto_26 (by decide) ?_
      refine lv_aload_n hx hb dX0_popInto_31 rfl (lv_at hl 2 rfl) ?_
      refine lv_aload_n hx hb dX0_popInto_32 rfl (lv_at hl 1 rfl) ?_
      refine va_get (D := G.1) (ci := 0) (v := .ref ra) (C := RX0) (T := TX0) (N := 3) hx hb hts win0_X0_popInto hown hK.1 hP 9 rfl rfl 0 (by decide) (hts _ wring_X0_popInto) (fun _ h9 => h9) rfl dX0_popInto_33 ?_
      refine lv_iload_n hx hb dX0_popInto_36 rfl (lv_at hl 0 rfl) ?_
      refine va_aldq hx hb hK.1 hP 10 2 rfl rfl hi dX0_popInto_37 ?_
      rw [show va_rf (rg R (((nx + 6) - 1) - ((nx + 6) - 1) / 6 * 6).toNatClampNeg) = .ref (u 0) from by simp [rg, hRj, va_rf]]
      have hP := vP_perm (pl_out (wST G.2.1 a ki fi ke va ta ro qu nsz fin rnd ++ wHX G hh ra sl R nx dp) (by omega) hRj) hP
      have hD := vD_perm (pl_out (wST G.2.1 a ki fi ke va ta ro qu nsz fin rnd ++ wHX G hh ra sl R nx dp) (by omega) hRj) hD
      have hP : va_P G.1 vwCl (((wSV G.2.1 u v ++ wST G.2.1 a ki fi ke va ta ro qu nsz fin rnd) ++ wHX G hh ra sl R nx dp) ++ fl G.2.1 (va_up R (((nx + 6) - 1) - ((nx + 6) - 1) / 6 * 6).toNatClampNeg none) 8) H := hP
      have hD : va_D A (((wSV G.2.1 u v ++ wST G.2.1 a ki fi ke va ta ro qu nsz fin rnd) ++ wHX G hh ra sl R nx dp) ++ fl G.2.1 (va_up R (((nx + 6) - 1) - ((nx + 6) - 1) / 6 * 6).toNatClampNeg none) 8) := hD
      refine kq_v (X := ((wSV G.2.1 u v ++ wST G.2.1 a ki fi ke va ta ro qu nsz fin rnd) ++ wHX G hh ra sl R nx dp)) (pl := fl G.2.1 (va_up R (((nx + 6) - 1) - ((nx + 6) - 1) / 6 * 6).toNatClampNeg none) 8) (cx := (wST G.2.1 a ki fi ke va ta ro qu nsz fin rnd ++ wSV G.2.1 u v)) (wo := (wSV G.2.1 a (pk t) ++ wSV G.2.1 u v)) (wr := wHX G hh ra sl R nx dp) (X' := ((wSV G.2.1 u v ++ wSV G.2.1 a (pk t)) ++ wHX G hh ra sl R nx dp)) (rV (As := [.ref (u 0)]) (rest := []) (b := a 0) (wi := (wST G.2.1 a ki fi ke va ta ro qu nsz fin rnd ++ wSV G.2.1 u v)) hF hK (hP.sub [9, 10, 11, 12, 13, 14, 15, 16, 17, 0, 1, 2, 3, 4, 5, 6, 7, 8] rfl) (hD.sub [9, 10, 11, 12, 13, 14, 15, 16, 17, 0, 1, 2, 3, 4, 5, 6, 7, 8] rfl rfl) (c_X3_copyFrom l G a u ki fi ke va ta ro qu nsz fin rnd (v.1 0) (v.1 1) (v.1 2) (v.1 3) (v.1 4) (v.1 5) (v.1 6) (v.2 0) (v.2 1) (v.2 2) t ht H.size) (cwV 1 hts gX0_popInto_X3_copyFrom rfl rfl rfl (by decide +kernel) ⟨Nat.le_of_ble_eq_true rfl, Nat.le_of_ble_eq_true rfl⟩) (va_recv hK.1 hP (ci := 3) (q0 := 9) rfl rfl) rfl hl.1 rfl (Nat.le_of_ble_eq_true rfl) dX0_popInto_38 ⟨Nat.le_of_ble_eq_true rfl, Nat.le_of_ble_eq_true rfl⟩) hP hD hS hA [9, 10, 11, 12, 13, 14, 15, 16, 17, 0, 1, 2, 3, 4, 5, 6, 7, 8] [18, 19, 20] [12, 13, 14, 15, 16, 17, 18, 19, 20, 3, 4, 5, 6, 7, 8, 9, 10, 11, 0, 1, 2] rfl rfl rfl (by decide) rfl rfl (fun H locs hP hD hS => ?_)
      refine lv_aload_n hx hb dX0_popInto_41 rfl (lv_at hl 1 rfl) ?_
      refine lv_iload_n hx hb dX0_popInto_42 rfl (lv_at hl 0 rfl) ?_
      refine va_put (D := G.1) (ci := 0) (v := .int (((nx + 6) - 1) - ((nx + 6) - 1) / 6 * 6)) (ty := .int) (C := RX0) (T := TX0) (N := 3) hx hb hts win0_X0_popInto tyX0 tyX0_ok nmX0 hown hK.1 hP hD hS 18 rfl rfl 1 (by decide) (hts _ wnext_X0_popInto) (fun _ h9 => h9) rfl (by decide +kernel) rfl rfl (Nat.le_of_ble_eq_true rfl) dX0_popInto_43 (fun H locs hP hD hS => ?_)
      have hP : va_P G.1 vwCl (((wSV G.2.1 u v ++ wSV G.2.1 a (pk t)) ++ wHX G hh ra sl R (((nx + 6) - 1) - ((nx + 6) - 1) / 6 * 6) dp) ++ fl G.2.1 (va_up R (((nx + 6) - 1) - ((nx + 6) - 1) / 6 * 6).toNatClampNeg none) 8) H := hP
      have hD : va_D A (((wSV G.2.1 u v ++ wSV G.2.1 a (pk t)) ++ wHX G hh ra sl R (((nx + 6) - 1) - ((nx + 6) - 1) / 6 * 6) dp) ++ fl G.2.1 (va_up R (((nx + 6) - 1) - ((nx + 6) - 1) / 6 * 6).toNatClampNeg none) 8) := hD
      refine lv_aload_n hx hb dX0_popInto_46 rfl (lv_at hl 1 rfl) ?_
      refine lv_dup hx hb dX0_popInto_47 rfl ?_
      refine va_get (D := G.1) (ci := 0) (v := .int dp) (C := RX0) (T := TX0) (N := 3) hx hb hts win0_X0_popInto hown hK.1 hP 18 rfl rfl 2 (by decide) (hts _ wdep_X0_popInto) (fun _ h9 => h9) rfl dX0_popInto_48 ?_
      refine lv_iconst (v := 1) hx hb dX0_popInto_51 (by decide) ?_
      refine lv_isub hx hb dX0_popInto_52 ?_
      refine va_put (D := G.1) (ci := 0) (v := .int (dp - 1)) (ty := .int) (C := RX0) (T := TX0) (N := 3) hx hb hts win0_X0_popInto tyX0 tyX0_ok nmX0 hown hK.1 hP hD hS 18 rfl rfl 2 (by decide) (hts _ wdep_X0_popInto) (fun _ h9 => h9) rfl (by decide +kernel) rfl rfl (Nat.le_of_ble_eq_true rfl) dX0_popInto_53 (fun H locs hP hD hS => ?_)
      have hP : va_P G.1 vwCl ((wSV G.2.1 u v ++ (wSV G.2.1 a (pk t) ++ wHX G hh ra sl R (((nx + 6) - 1) - ((nx + 6) - 1) / 6 * 6) (dp - 1))) ++ fl G.2.1 (va_up R (((nx + 6) - 1) - ((nx + 6) - 1) / 6 * 6).toNatClampNeg none) 8) H := hP
      have hD : va_D A ((wSV G.2.1 u v ++ (wSV G.2.1 a (pk t) ++ wHX G hh ra sl R (((nx + 6) - 1) - ((nx + 6) - 1) / 6 * 6) (dp - 1))) ++ fl G.2.1 (va_up R (((nx + 6) - 1) - ((nx + 6) - 1) / 6 * 6).toNatClampNeg none) 8) := hD
      have hP := vP_perm (pl_out (wSV G.2.1 a (pk t) ++ wHX G hh ra sl R (((nx + 6) - 1) - ((nx + 6) - 1) / 6 * 6) (dp - 1)) (by omega) hRj).symm hP
      have hD := vD_perm (pl_out (wSV G.2.1 a (pk t) ++ wHX G hh ra sl R (((nx + 6) - 1) - ((nx + 6) - 1) / 6 * 6) (dp - 1)) (by omega) hRj).symm hD
      refine lv_iconst (v := 1) hx hb dX0_popInto_56 (by decide) ?_
      exact rt_jz (r := 1) () trivial hx hb hr hlocks rfl hP hD hS dX0_popInto_57
def M_X0_forget : Option (Int32) :=
  some 0
theorem w0_X0_forget : Cond.fieldLink RX0 26 "WeakTableHeap$History" "depth" "I" ∈ wsX0_forget := by decide +kernel
theorem w1_X0_forget : ∀ w ∈ u_ws RX0 TX0 3, w ∈ wsX0_forget := by decide +kernel
abbrev rm_X0_forget : Room := { frames := 0, cells := 0, slots := 0, locals := 0 }
set_option maxHeartbeats 4000000 in
set_option maxRecDepth 100000 in
theorem c_X0_forget (l : Launch) (G : GG) (hh : Nat) (ra : Nat) (nx : Int32) (dp : Int32) (q : Int32) (hm : M_X0_forget = some q) : CTv l yX0_forget wsX0_forget rm_X0_forget G [.ref hh] [(hh, .inr (0, [.ref ra, .int nx, .int dp]))] [(hh, .inr (0, [.ref ra, .int nx, .int q]))] := by
  intro sz
  refine mk_body (Qc := fun A => (QV G A [(hh, .inr (0, [.ref ra, .int nx, .int q]))])) (cc := cX0_forget) (maxL := 1) (ret := none) (lv := [(0, .ref hh)]) (by decide) rfl rfl (Nat.le_of_ble_eq_true rfl) ?_
  intro p e s m args below meth c A H locs ls hF hr hlocks hname hK hA hP hD hS hl
  obtain ⟨hx, hb, hml, hown, hts⟩ := id hF
  unfold M_X0_forget at hm
  refine lv_aload_n hx hb dX0_forget_0 rfl (lv_at hl 0 rfl) ?_
  refine lv_iconst (v := 0) hx hb dX0_forget_1 (by decide) ?_
  refine va_put (D := G.1) (ci := 0) (v := .int 0) (ty := .int) (C := RX0) (T := TX0) (N := 3) hx hb hts w1_X0_forget tyX0 tyX0_ok nmX0 hown hK.1 hP hD hS 0 rfl rfl 2 (by decide) (hts _ w0_X0_forget) (fun _ h9 => h9) rfl (by decide +kernel) rfl rfl (Nat.le_of_ble_eq_true rfl) dX0_forget_2 (fun H locs hP hD hS => ?_)
  have hP : va_P G.1 vwCl [(hh, .inr (0, [.ref ra, .int nx, .int 0]))] H := hP
  have hD : va_D A [(hh, .inr (0, [.ref ra, .int nx, .int 0]))] := hD
  cases hm
  exact rt_v hx hb hr hlocks hP hD hS dX0_forget_5
def M_X4_occupyNext (N : Nat) (ki : Nat → Int32) (fi : Nat → Int32) (ke : Nat → Int32) (va : Nat → Int32) (ta : Nat → Int32) (ro : Nat → Int32) (qu : Nat → Int32) (nsz : Int32) (fin : Int32) (rnd : Int32) (nx : Int32) (dp : Int32) (rv : Nat → Option SV) (p1 : Int32) (p2 : Int32) : Option (Int32 × (Nat → Int32) × (Nat → Int32) × Int32 × Int32 × (Nat → Option SV)) :=
  (M_X3_smallestFree N ki).bind fun q1 => if q1 = (-9) then (some ((-3), ki, ta, nx, dp, rv)) else ((M_X0_push rv nx dp (pkS ki fi ke va ta ro qu nsz fin rnd)).bind fun q4 => (M_X3_occupy ki ta q1 p1 p2).bind fun q8 => some (q1, q8.1, q8.2, q4.2.1, q4.2.2, q4.1))
theorem w0_X4_occupyNext : Cond.fieldLink RX4 10 "WeakTableHeap" "state" "LWeakTableHeap$State;" ∈ wsX4_occupyNext := by decide +kernel
theorem w1_X4_occupyNext : ∀ w ∈ u_ws RX4 TX4 4, w ∈ wsX4_occupyNext := by decide +kernel
theorem w2_X4_occupyNext : Cond.fieldLink RX4 19 "WeakTableHeap" "history" "LWeakTableHeap$History;" ∈ wsX4_occupyNext := by decide +kernel
abbrev rm_X4_occupyNext : Room := { frames := 5, cells := 9, slots := 445, locals := 102 }
set_option maxHeartbeats 4000000 in
set_option maxRecDepth 100000 in
theorem c_X4_occupyNext (l : Launch) (G : GG) (N : Nat) (x : Nat) (hh : Nat) (ra : Nat) (sl : Nat) (a : Nat → Nat) (k : Nat → Nat) (R : SP) (ki : Nat → Int32) (fi : Nat → Int32) (ke : Nat → Int32) (va : Nat → Int32) (ta : Nat → Int32) (ro : Nat → Int32) (qu : Nat → Int32) (nsz : Int32) (fin : Int32) (rnd : Int32) (rd : Nat → Int32) (mkd : Int32) (lr : Int32) (un : Int32) (nx : Int32) (dp : Int32) (p1 : Int32) (p2 : Int32) (q : Int32 × (Nat → Int32) × (Nat → Int32) × Int32 × Int32 × (Nat → Option SV)) (hm : M_X4_occupyNext N ki fi ke va ta ro qu nsz fin rnd nx dp (vals R) p1 p2 = some q) : CTj l yX4_occupyNext wsX4_occupyNext rm_X4_occupyNext G [.ref x, .int p1, .int p2] (wXP G x hh ra sl a k R ki fi ke va ta ro qu nsz fin rnd rd mkd lr un nx dp) q.1 (fun R9 : SP => vals R9 = q.2.2.2.2.2) (fun R9 : SP => (wXP G x hh ra sl a k R9 q.2.1 fi ke va q.2.2.1 ro qu nsz fin rnd rd mkd lr un q.2.2.2.1 q.2.2.2.2.1)) := by
  intro sz
  refine mk_body (Qc := fun A => (QJ G A q.1 (fun R9 : SP => vals R9 = q.2.2.2.2.2) (fun R9 : SP => (wXP G x hh ra sl a k R9 q.2.1 fi ke va q.2.2.1 ro qu nsz fin rnd rd mkd lr un q.2.2.2.1 q.2.2.2.2.1)))) (cc := cX4_occupyNext) (maxL := 4) (ret := (some .int)) (lv := [(0, .ref x), (1, .int p1), (2, .int p2)]) (by decide) rfl rfl (Nat.le_of_ble_eq_true rfl) ?_
  intro p e s m args below meth c A H locs ls hF hr hlocks hname hK hA hP hD hS hl
  obtain ⟨hx, hb, hml, hown, hts⟩ := id hF
  unfold M_X4_occupyNext at hm
  refine lv_aload_n hx hb dX4_occupyNext_0 rfl (lv_at hl 0 rfl) ?_
  refine va_get (D := G.1) (ci := 4) (v := .ref (a 0)) (C := RX4) (T := TX4) (N := 4) hx hb hts w1_X4_occupyNext hown hK.1 hP 0 rfl rfl 0 (by decide) (hts _ w0_X4_occupyNext) (fun _ h9 => h9) rfl dX4_occupyNext_1 ?_
  obtain ⟨q1, hc2, hm⟩ := bd_s hm
  refine kq_i (X := (wXQ G x hh ra sl a k R ki fi ke va ta ro qu nsz fin rnd rd mkd lr un nx dp)) (pl := fl G.2.1 R 8) (cx := (wST G.2.1 a ki fi ke va ta ro qu nsz fin rnd)) (wo := (wST G.2.1 a ki fi ke va ta ro qu nsz fin rnd)) (wr := [(x, .inr (4, [.ref (a 0), .ref hh, .ref sl, .ref (k 0)])), ((k 0), .inr (1, [.ref (k 1), .int mkd, .int lr, .int un])), ((k 1), .inl (G.2.1, 24, .inl rd)), (hh, .inr (0, [.ref ra, .int nx, .int dp])), (ra, .inl (G.2.2.2, 6, .inr (.inr (.inr (.inr (rg R)))))), (sl, .inl (G.2.2.2, 2, .inr (.inr (.inr (.inr (sg R))))))]) (X' := (wXQ G x hh ra sl a k R ki fi ke va ta ro qu nsz fin rnd rd mkd lr un nx dp)) (rV (As := []) (rest := []) (b := (a 0)) (wi := (wST G.2.1 a ki fi ke va ta ro qu nsz fin rnd)) hF hK (hP.sub [1, 2, 3, 4, 5, 6, 7, 8, 9] rfl) (hD.sub [1, 2, 3, 4, 5, 6, 7, 8, 9] rfl rfl) (c_X3_smallestFree l G N a ki fi ke va ta ro qu nsz fin rnd q1 hc2 H.size) (cwV 0 hts gX4_occupyNext_X3_smallestFree rfl rfl rfl (by decide +kernel) ⟨Nat.le_of_ble_eq_true rfl, Nat.le_of_ble_eq_true rfl⟩) (va_recv hK.1 hP (ci := 3) (q0 := 1) rfl rfl) rfl hl.1 rfl (Nat.le_of_ble_eq_true rfl) dX4_occupyNext_4 ⟨Nat.le_of_ble_eq_true rfl, Nat.le_of_ble_eq_true rfl⟩) hP hD hS hA [1, 2, 3, 4, 5, 6, 7, 8, 9] [0, 10, 11, 12, 13, 14] [0, 6, 7, 8, 9, 10, 11, 12, 13, 14, 1, 2, 3, 4, 5] rfl rfl rfl (by decide) rfl rfl (fun H locs hP hD hS => ?_)
  have hP : va_P G.1 vwCl (wXP G x hh ra sl a k R ki fi ke va ta ro qu nsz fin rnd rd mkd lr un nx dp) H := hP
  have hD : va_D A (wXP G x hh ra sl a k R ki fi ke va ta ro qu nsz fin rnd rd mkd lr un nx dp) := hD
  refine lv_istore_n (lv' := [(3, .int q1), (0, .ref x), (1, .int p1), (2, .int p2)]) hx hb dX4_occupyNext_7 rfl hl (by decide) rfl (fun ls hl => ?_)
  refine lv_iload_n hx hb dX4_occupyNext_8 rfl (lv_at hl 0 rfl) ?_
  refine lv_bipush (v := (-9)) hx hb dX4_occupyNext_9 (by decide) ?_
  refine lv_icmp_ne (tgt := 17) hx hb dX4_occupyNext_11 (by decide) (fun c3 => ?_) (fun c3 => ?_)
  · replace hm := it_f c3 hm
    refine lv_aload_n hx hb dX4_occupyNext_17 rfl (lv_at hl 1 rfl) ?_
    refine va_get (D := G.1) (ci := 4) (v := .ref hh) (C := RX4) (T := TX4) (N := 4) hx hb hts w1_X4_occupyNext hown hK.1 hP 0 rfl rfl 1 (by decide) (hts _ w2_X4_occupyNext) (fun _ h9 => h9) rfl dX4_occupyNext_18 ?_
    refine lv_aload_n hx hb dX4_occupyNext_21 rfl (lv_at hl 1 rfl) ?_
    refine va_get (D := G.1) (ci := 4) (v := .ref (a 0)) (C := RX4) (T := TX4) (N := 4) hx hb hts w1_X4_occupyNext hown hK.1 hP 0 rfl rfl 0 (by decide) (hts _ w0_X4_occupyNext) (fun _ h9 => h9) rfl dX4_occupyNext_22 ?_
    obtain ⟨q4, hc5, hm⟩ := bd_s hm
    refine kp_n (S := SP) (ok := fun R9 : SP => vals R9 = q4.1) (X := (wXQ G x hh ra sl a k R ki fi ke va ta ro qu nsz fin rnd rd mkd lr un nx dp)) (pl := fl G.2.1 R 8) (cx := (wST G.2.1 a ki fi ke va ta ro qu nsz fin rnd ++ wHX G hh ra sl R nx dp)) (rx := (fun R9 : SP => wST G.2.1 a ki fi ke va ta ro qu nsz fin rnd ++ wHX G hh ra sl R9 q4.2.1 q4.2.2)) (pl1 := fun R9 : SP => fl G.2.1 R9 8) (wr := [(x, .inr (4, [.ref (a 0), .ref hh, .ref sl, .ref (k 0)])), ((k 0), .inr (1, [.ref (k 1), .int mkd, .int lr, .int un])), ((k 1), .inl (G.2.1, 24, .inl rd))]) (X' := fun R9 : SP => (wXQ G x hh ra sl a k R9 ki fi ke va ta ro qu nsz fin rnd rd mkd lr un q4.2.1 q4.2.2)) (rV (As := [.ref (a 0)]) (rest := []) (b := hh) (wi := ((wST G.2.1 a ki fi ke va ta ro qu nsz fin rnd ++ wHX G hh ra sl R nx dp) ++ fl G.2.1 R 8)) hF hK (hP.part [1, 2, 3, 4, 5, 6, 7, 8, 9, 12, 13, 14] rfl) (hD.part [1, 2, 3, 4, 5, 6, 7, 8, 9, 12, 13, 14] rfl rfl) (c_X0_push l G hh ra sl a R ki fi ke va ta ro qu nsz fin rnd nx dp q4 hc5 H.size) (cwV 1 hts gX4_occupyNext_X0_push rfl rfl rfl (by decide +kernel) ⟨Nat.le_of_ble_eq_true rfl, Nat.le_of_ble_eq_true rfl⟩) (va_recv hK.1 hP (ci := 0) (q0 := 12) rfl rfl) rfl hl.1 rfl (Nat.le_of_ble_eq_true rfl) dX4_occupyNext_25 ⟨Nat.le_of_ble_eq_true rfl, Nat.le_of_ble_eq_true rfl⟩) hP hD hS hA [1, 2, 3, 4, 5, 6, 7, 8, 9, 12, 13, 14] [0, 10, 11] [0, 3, 4, 5, 6, 7, 8, 9, 10, 11, 1, 2, 12, 13, 14] rfl rfl rfl (by decide) (fun _ => rfl) rfl (fun R6 H locs hR7 hP hD hS => ?_)
    have hP : va_P G.1 vwCl (wXP G x hh ra sl a k R6 ki fi ke va ta ro qu nsz fin rnd rd mkd lr un q4.2.1 q4.2.2) H := hP
    have hD : va_D A (wXP G x hh ra sl a k R6 ki fi ke va ta ro qu nsz fin rnd rd mkd lr un q4.2.1 q4.2.2) := hD
    refine lv_aload_n hx hb dX4_occupyNext_28 rfl (lv_at hl 1 rfl) ?_
    refine va_get (D := G.1) (ci := 4) (v := .ref (a 0)) (C := RX4) (T := TX4) (N := 4) hx hb hts w1_X4_occupyNext hown hK.1 hP 0 rfl rfl 0 (by decide) (hts _ w0_X4_occupyNext) (fun _ h9 => h9) rfl dX4_occupyNext_29 ?_
    refine lv_iload_n hx hb dX4_occupyNext_32 rfl (lv_at hl 0 rfl) ?_
    refine lv_iload_n hx hb dX4_occupyNext_33 rfl (lv_at hl 2 rfl) ?_
    refine lv_iload_n hx hb dX4_occupyNext_34 rfl (lv_at hl 3 rfl) ?_
    obtain ⟨q8, hc9, hm⟩ := bd_s hm
    refine kq_v (X := (wXQ G x hh ra sl a k R6 ki fi ke va ta ro qu nsz fin rnd rd mkd lr un q4.2.1 q4.2.2)) (pl := fl G.2.1 R6 8) (cx := (wST G.2.1 a ki fi ke va ta ro qu nsz fin rnd)) (wo := (wST G.2.1 a q8.1 fi ke va q8.2 ro qu nsz fin rnd)) (wr := [(x, .inr (4, [.ref (a 0), .ref hh, .ref sl, .ref (k 0)])), ((k 0), .inr (1, [.ref (k 1), .int mkd, .int lr, .int un])), ((k 1), .inl (G.2.1, 24, .inl rd)), (hh, .inr (0, [.ref ra, .int q4.2.1, .int q4.2.2])), (ra, .inl (G.2.2.2, 6, .inr (.inr (.inr (.inr (rg R6)))))), (sl, .inl (G.2.2.2, 2, .inr (.inr (.inr (.inr (sg R6))))))]) (X' := (wXQ G x hh ra sl a k R6 q8.1 fi ke va q8.2 ro qu nsz fin rnd rd mkd lr un q4.2.1 q4.2.2)) (rV (As := [.int q1, .int p1, .int p2]) (rest := []) (b := (a 0)) (wi := (wST G.2.1 a ki fi ke va ta ro qu nsz fin rnd)) hF hK (hP.sub [1, 2, 3, 4, 5, 6, 7, 8, 9] rfl) (hD.sub [1, 2, 3, 4, 5, 6, 7, 8, 9] rfl rfl) (c_X3_occupy l G a ki fi ke va ta ro qu nsz fin rnd q1 p1 p2 q8 hc9 H.size) (cwV 3 hts gX4_occupyNext_X3_occupy rfl rfl rfl (by decide +kernel) ⟨Nat.le_of_ble_eq_true rfl, Nat.le_of_ble_eq_true rfl⟩) (va_recv hK.1 hP (ci := 3) (q0 := 1) rfl rfl) rfl hl.1 rfl (Nat.le_of_ble_eq_true rfl) dX4_occupyNext_35 ⟨Nat.le_of_ble_eq_true rfl, Nat.le_of_ble_eq_true rfl⟩) hP hD hS hA [1, 2, 3, 4, 5, 6, 7, 8, 9] [0, 10, 11, 12, 13, 14] [0, 6, 7, 8, 9, 10, 11, 12, 13, 14, 1, 2, 3, 4, 5] rfl rfl rfl (by decide) rfl rfl (fun H locs hP hD hS => ?_)
    have hP : va_P G.1 vwCl (wXP G x hh ra sl a k R6 q8.1 fi ke va q8.2 ro qu nsz fin rnd rd mkd lr un q4.2.1 q4.2.2) H := hP
    have hD : va_D A (wXP G x hh ra sl a k R6 q8.1 fi ke va q8.2 ro qu nsz fin rnd rd mkd lr un q4.2.1 q4.2.2) := hD
    refine lv_iload_n hx hb dX4_occupyNext_38 rfl (lv_at hl 0 rfl) ?_
    cases hm
    refine W.widen (k := 9) (n := 445) (Nat.le_of_ble_eq_true rfl) (Nat.le_of_ble_eq_true rfl) ?_
    exact rt_j R6 hR7 hx hb hr hlocks hP hD hS dX4_occupyNext_39
  · replace hm := it_t c3 hm
    refine lv_bipush (v := (-3)) hx hb dX4_occupyNext_14 (by decide) ?_
    cases hm
    refine W.widen (k := 9) (n := 445) (Nat.le_of_ble_eq_true rfl) (Nat.le_of_ble_eq_true rfl) ?_
    exact rt_j R rfl hx hb hr hlocks hP hD hS dX4_occupyNext_16
def M_X4_allocate (N : Nat) (ki : Nat → Int32) (fi : Nat → Int32) (ke : Nat → Int32) (va : Nat → Int32) (ta : Nat → Int32) (ro : Nat → Int32) (qu : Nat → Int32) (nsz : Int32) (fin : Int32) (rnd : Int32) (nx : Int32) (dp : Int32) (rv : Nat → Option SV) : Option (Int32 × (Nat → Int32) × (Nat → Int32) × Int32 × Int32 × (Nat → Option SV)) :=
  (M_X4_occupyNext N ki fi ke va ta ro qu nsz fin rnd nx dp rv 0 (-9)).bind fun q1 => some (q1.1, q1.2.1, q1.2.2.1, q1.2.2.2.1, q1.2.2.2.2.1, q1.2.2.2.2.2)
abbrev rm_X4_allocate : Room := { frames := 6, cells := 9, slots := 445, locals := 125 }
set_option maxHeartbeats 4000000 in
set_option maxRecDepth 100000 in
theorem c_X4_allocate (l : Launch) (G : GG) (N : Nat) (x : Nat) (hh : Nat) (ra : Nat) (sl : Nat) (a : Nat → Nat) (k : Nat → Nat) (R : SP) (ki : Nat → Int32) (fi : Nat → Int32) (ke : Nat → Int32) (va : Nat → Int32) (ta : Nat → Int32) (ro : Nat → Int32) (qu : Nat → Int32) (nsz : Int32) (fin : Int32) (rnd : Int32) (rd : Nat → Int32) (mkd : Int32) (lr : Int32) (un : Int32) (nx : Int32) (dp : Int32) (q : Int32 × (Nat → Int32) × (Nat → Int32) × Int32 × Int32 × (Nat → Option SV)) (hm : M_X4_allocate N ki fi ke va ta ro qu nsz fin rnd nx dp (vals R) = some q) : CTj l yX4_allocate wsX4_allocate rm_X4_allocate G [.ref x] (wXP G x hh ra sl a k R ki fi ke va ta ro qu nsz fin rnd rd mkd lr un nx dp) q.1 (fun R9 : SP => vals R9 = q.2.2.2.2.2) (fun R9 : SP => (wXP G x hh ra sl a k R9 q.2.1 fi ke va q.2.2.1 ro qu nsz fin rnd rd mkd lr un q.2.2.2.1 q.2.2.2.2.1)) := by
  intro sz
  refine mk_body (Qc := fun A => (QJ G A q.1 (fun R9 : SP => vals R9 = q.2.2.2.2.2) (fun R9 : SP => (wXP G x hh ra sl a k R9 q.2.1 fi ke va q.2.2.1 ro qu nsz fin rnd rd mkd lr un q.2.2.2.1 q.2.2.2.2.1)))) (cc := cX4_allocate) (maxL := 1) (ret := (some .int)) (lv := [(0, .ref x)]) (by decide) rfl rfl (Nat.le_of_ble_eq_true rfl) ?_
  intro p e s m args below meth c A H locs ls hF hr hlocks hname hK hA hP hD hS hl
  obtain ⟨hx, hb, hml, hown, hts⟩ := id hF
  unfold M_X4_allocate at hm
  refine lv_aload_n hx hb dX4_allocate_0 rfl (lv_at hl 0 rfl) ?_
  refine lv_iconst (v := 0) hx hb dX4_allocate_1 (by decide) ?_
  refine lv_bipush (v := (-9)) hx hb dX4_allocate_2 (by decide) ?_
  obtain ⟨q1, hc2, hm⟩ := bd_s hm
  refine ks_j (S := SP) (r := q1.1) (ok := fun R9 : SP => vals R9 = q1.2.2.2.2.2) (wo := fun R9 : SP => (wXP G x hh ra sl a k R9 q1.2.1 fi ke va q1.2.2.1 ro qu nsz fin rnd rd mkd lr un q1.2.2.2.1 q1.2.2.2.2.1)) (rV (As := [.int 0, .int (-9)]) (rest := []) (b := x) (wi := (wXP G x hh ra sl a k R ki fi ke va ta ro qu nsz fin rnd rd mkd lr un nx dp)) hF hK hP hD (c_X4_occupyNext l G N x hh ra sl a k R ki fi ke va ta ro qu nsz fin rnd rd mkd lr un nx dp 0 (-9) q1 hc2 H.size) (cwV 2 hts gX4_allocate_X4_occupyNext rfl rfl rfl (by decide +kernel) ⟨Nat.le_of_ble_eq_true rfl, Nat.le_of_ble_eq_true rfl⟩) (va_recv hK.1 hP (ci := 4) (q0 := 0) rfl rfl) rfl hl.1 rfl (Nat.le_of_ble_eq_true rfl) dX4_allocate_4 ⟨Nat.le_of_ble_eq_true rfl, Nat.le_of_ble_eq_true rfl⟩) hD hS hA (fun R3 H locs hR4 hP hD hS => ?_)
  have hP : va_P G.1 vwCl (wXP G x hh ra sl a k R3 q1.2.1 fi ke va q1.2.2.1 ro qu nsz fin rnd rd mkd lr un q1.2.2.2.1 q1.2.2.2.2.1) H := hP
  have hD : va_D A (wXP G x hh ra sl a k R3 q1.2.1 fi ke va q1.2.2.1 ro qu nsz fin rnd rd mkd lr un q1.2.2.2.1 q1.2.2.2.2.1) := hD
  cases hm
  refine W.widen (k := 9) (n := 445) (Nat.le_of_ble_eq_true rfl) (Nat.le_of_ble_eq_true rfl) ?_
  exact rt_j R3 hR4 hx hb hr hlocks hP hD hS dX4_allocate_7
def M_X4_allocateTable (N : Nat) (ki : Nat → Int32) (fi : Nat → Int32) (ke : Nat → Int32) (va : Nat → Int32) (ta : Nat → Int32) (ro : Nat → Int32) (qu : Nat → Int32) (nsz : Int32) (fin : Int32) (rnd : Int32) (nx : Int32) (dp : Int32) (rv : Nat → Option SV) : Option (Int32 × (Nat → Int32) × (Nat → Int32) × Int32 × Int32 × (Nat → Option SV)) :=
  (M_X4_occupyNext N ki fi ke va ta ro qu nsz fin rnd nx dp rv 1 (-9)).bind fun q1 => some (q1.1, q1.2.1, q1.2.2.1, q1.2.2.2.1, q1.2.2.2.2.1, q1.2.2.2.2.2)
abbrev rm_X4_allocateTable : Room := { frames := 6, cells := 9, slots := 445, locals := 125 }
set_option maxHeartbeats 4000000 in
set_option maxRecDepth 100000 in
theorem c_X4_allocateTable (l : Launch) (G : GG) (N : Nat) (x : Nat) (hh : Nat) (ra : Nat) (sl : Nat) (a : Nat → Nat) (k : Nat → Nat) (R : SP) (ki : Nat → Int32) (fi : Nat → Int32) (ke : Nat → Int32) (va : Nat → Int32) (ta : Nat → Int32) (ro : Nat → Int32) (qu : Nat → Int32) (nsz : Int32) (fin : Int32) (rnd : Int32) (rd : Nat → Int32) (mkd : Int32) (lr : Int32) (un : Int32) (nx : Int32) (dp : Int32) (q : Int32 × (Nat → Int32) × (Nat → Int32) × Int32 × Int32 × (Nat → Option SV)) (hm : M_X4_allocateTable N ki fi ke va ta ro qu nsz fin rnd nx dp (vals R) = some q) : CTj l yX4_allocateTable wsX4_allocateTable rm_X4_allocateTable G [.ref x] (wXP G x hh ra sl a k R ki fi ke va ta ro qu nsz fin rnd rd mkd lr un nx dp) q.1 (fun R9 : SP => vals R9 = q.2.2.2.2.2) (fun R9 : SP => (wXP G x hh ra sl a k R9 q.2.1 fi ke va q.2.2.1 ro qu nsz fin rnd rd mkd lr un q.2.2.2.1 q.2.2.2.2.1)) := by
  intro sz
  refine mk_body (Qc := fun A => (QJ G A q.1 (fun R9 : SP => vals R9 = q.2.2.2.2.2) (fun R9 : SP => (wXP G x hh ra sl a k R9 q.2.1 fi ke va q.2.2.1 ro qu nsz fin rnd rd mkd lr un q.2.2.2.1 q.2.2.2.2.1)))) (cc := cX4_allocateTable) (maxL := 1) (ret := (some .int)) (lv := [(0, .ref x)]) (by decide) rfl rfl (Nat.le_of_ble_eq_true rfl) ?_
  intro p e s m args below meth c A H locs ls hF hr hlocks hname hK hA hP hD hS hl
  obtain ⟨hx, hb, hml, hown, hts⟩ := id hF
  unfold M_X4_allocateTable at hm
  refine lv_aload_n hx hb dX4_allocateTable_0 rfl (lv_at hl 0 rfl) ?_
  refine lv_iconst (v := 1) hx hb dX4_allocateTable_1 (by decide) ?_
  refine lv_bipush (v := (-9)) hx hb dX4_allocateTable_2 (by decide) ?_
  obtain ⟨q1, hc2, hm⟩ := bd_s hm
  refine ks_j (S := SP) (r := q1.1) (ok := fun R9 : SP => vals R9 = q1.2.2.2.2.2) (wo := fun R9 : SP => (wXP G x hh ra sl a k R9 q1.2.1 fi ke va q1.2.2.1 ro qu nsz fin rnd rd mkd lr un q1.2.2.2.1 q1.2.2.2.2.1)) (rV (As := [.int 1, .int (-9)]) (rest := []) (b := x) (wi := (wXP G x hh ra sl a k R ki fi ke va ta ro qu nsz fin rnd rd mkd lr un nx dp)) hF hK hP hD (c_X4_occupyNext l G N x hh ra sl a k R ki fi ke va ta ro qu nsz fin rnd rd mkd lr un nx dp 1 (-9) q1 hc2 H.size) (cwV 2 hts gX4_allocateTable_X4_occupyNext rfl rfl rfl (by decide +kernel) ⟨Nat.le_of_ble_eq_true rfl, Nat.le_of_ble_eq_true rfl⟩) (va_recv hK.1 hP (ci := 4) (q0 := 0) rfl rfl) rfl hl.1 rfl (Nat.le_of_ble_eq_true rfl) dX4_allocateTable_4 ⟨Nat.le_of_ble_eq_true rfl, Nat.le_of_ble_eq_true rfl⟩) hD hS hA (fun R3 H locs hR4 hP hD hS => ?_)
  have hP : va_P G.1 vwCl (wXP G x hh ra sl a k R3 q1.2.1 fi ke va q1.2.2.1 ro qu nsz fin rnd rd mkd lr un q1.2.2.2.1 q1.2.2.2.2.1) H := hP
  have hD : va_D A (wXP G x hh ra sl a k R3 q1.2.1 fi ke va q1.2.2.1 ro qu nsz fin rnd rd mkd lr un q1.2.2.2.1 q1.2.2.2.2.1) := hD
  cases hm
  refine W.widen (k := 9) (n := 445) (Nat.le_of_ble_eq_true rfl) (Nat.le_of_ble_eq_true rfl) ?_
  exact rt_j R3 hR4 hx hb hr hlocks hP hD hS dX4_allocateTable_7
def M_X4_allocateWeak (N : Nat) (ki : Nat → Int32) (fi : Nat → Int32) (ke : Nat → Int32) (va : Nat → Int32) (ta : Nat → Int32) (ro : Nat → Int32) (qu : Nat → Int32) (nsz : Int32) (fin : Int32) (rnd : Int32) (nx : Int32) (dp : Int32) (rv : Nat → Option SV) (p1 : Int32) : Option (Int32 × (Nat → Int32) × (Nat → Int32) × Int32 × Int32 × (Nat → Option SV)) :=
  (M_X3_isAllocated ki p1).bind fun q1 => if q1 = 0 then (some ((-1), ki, ta, nx, dp, rv)) else ((M_X4_occupyNext N ki fi ke va ta ro qu nsz fin rnd nx dp rv 2 p1).bind fun q4 => some (q4.1, q4.2.1, q4.2.2.1, q4.2.2.2.1, q4.2.2.2.2.1, q4.2.2.2.2.2))
theorem w0_X4_allocateWeak : Cond.fieldLink RX4 10 "WeakTableHeap" "state" "LWeakTableHeap$State;" ∈ wsX4_allocateWeak := by decide +kernel
theorem w1_X4_allocateWeak : ∀ w ∈ u_ws RX4 TX4 4, w ∈ wsX4_allocateWeak := by decide +kernel
abbrev rm_X4_allocateWeak : Room := { frames := 6, cells := 9, slots := 445, locals := 125 }
set_option maxHeartbeats 4000000 in
set_option maxRecDepth 100000 in
theorem c_X4_allocateWeak (l : Launch) (G : GG) (N : Nat) (x : Nat) (hh : Nat) (ra : Nat) (sl : Nat) (a : Nat → Nat) (k : Nat → Nat) (R : SP) (ki : Nat → Int32) (fi : Nat → Int32) (ke : Nat → Int32) (va : Nat → Int32) (ta : Nat → Int32) (ro : Nat → Int32) (qu : Nat → Int32) (nsz : Int32) (fin : Int32) (rnd : Int32) (rd : Nat → Int32) (mkd : Int32) (lr : Int32) (un : Int32) (nx : Int32) (dp : Int32) (p1 : Int32) (q : Int32 × (Nat → Int32) × (Nat → Int32) × Int32 × Int32 × (Nat → Option SV)) (hm : M_X4_allocateWeak N ki fi ke va ta ro qu nsz fin rnd nx dp (vals R) p1 = some q) : CTj l yX4_allocateWeak wsX4_allocateWeak rm_X4_allocateWeak G [.ref x, .int p1] (wXP G x hh ra sl a k R ki fi ke va ta ro qu nsz fin rnd rd mkd lr un nx dp) q.1 (fun R9 : SP => vals R9 = q.2.2.2.2.2) (fun R9 : SP => (wXP G x hh ra sl a k R9 q.2.1 fi ke va q.2.2.1 ro qu nsz fin rnd rd mkd lr un q.2.2.2.1 q.2.2.2.2.1)) := by
  intro sz
  refine mk_body (Qc := fun A => (QJ G A q.1 (fun R9 : SP => vals R9 = q.2.2.2.2.2) (fun R9 : SP => (wXP G x hh ra sl a k R9 q.2.1 fi ke va q.2.2.1 ro qu nsz fin rnd rd mkd lr un q.2.2.2.1 q.2.2.2.2.1)))) (cc := cX4_allocateWeak) (maxL := 2) (ret := (some .int)) (lv := [(0, .ref x), (1, .int p1)]) (by decide) rfl rfl (Nat.le_of_ble_eq_true rfl) ?_
  intro p e s m args below meth c A H locs ls hF hr hlocks hname hK hA hP hD hS hl
  obtain ⟨hx, hb, hml, hown, hts⟩ := id hF
  unfold M_X4_allocateWeak at hm
  refine lv_aload_n hx hb dX4_allocateWeak_0 rfl (lv_at hl 0 rfl) ?_
  refine va_get (D := G.1) (ci := 4) (v := .ref (a 0)) (C := RX4) (T := TX4) (N := 4) hx hb hts w1_X4_allocateWeak hown hK.1 hP 0 rfl rfl 0 (by decide) (hts _ w0_X4_allocateWeak) (fun _ h9 => h9) rfl dX4_allocateWeak_1 ?_
  refine lv_iload_n hx hb dX4_allocateWeak_4 rfl (lv_at hl 1 rfl) ?_
  obtain ⟨q1, hc2, hm⟩ := bd_s hm
  refine kq_i (X := (wXQ G x hh ra sl a k R ki fi ke va ta ro qu nsz fin rnd rd mkd lr un nx dp)) (pl := fl G.2.1 R 8) (cx := (wST G.2.1 a ki fi ke va ta ro qu nsz fin rnd)) (wo := (wST G.2.1 a ki fi ke va ta ro qu nsz fin rnd)) (wr := [(x, .inr (4, [.ref (a 0), .ref hh, .ref sl, .ref (k 0)])), ((k 0), .inr (1, [.ref (k 1), .int mkd, .int lr, .int un])), ((k 1), .inl (G.2.1, 24, .inl rd)), (hh, .inr (0, [.ref ra, .int nx, .int dp])), (ra, .inl (G.2.2.2, 6, .inr (.inr (.inr (.inr (rg R)))))), (sl, .inl (G.2.2.2, 2, .inr (.inr (.inr (.inr (sg R))))))]) (X' := (wXQ G x hh ra sl a k R ki fi ke va ta ro qu nsz fin rnd rd mkd lr un nx dp)) (rV (As := [.int p1]) (rest := []) (b := (a 0)) (wi := (wST G.2.1 a ki fi ke va ta ro qu nsz fin rnd)) hF hK (hP.sub [1, 2, 3, 4, 5, 6, 7, 8, 9] rfl) (hD.sub [1, 2, 3, 4, 5, 6, 7, 8, 9] rfl rfl) (c_X3_isAllocated l G a ki fi ke va ta ro qu nsz fin rnd p1 q1 hc2 H.size) (cwV 1 hts gX4_allocateWeak_X3_isAllocated rfl rfl rfl (by decide +kernel) ⟨Nat.le_of_ble_eq_true rfl, Nat.le_of_ble_eq_true rfl⟩) (va_recv hK.1 hP (ci := 3) (q0 := 1) rfl rfl) rfl hl.1 rfl (Nat.le_of_ble_eq_true rfl) dX4_allocateWeak_5 ⟨Nat.le_of_ble_eq_true rfl, Nat.le_of_ble_eq_true rfl⟩) hP hD hS hA [1, 2, 3, 4, 5, 6, 7, 8, 9] [0, 10, 11, 12, 13, 14] [0, 6, 7, 8, 9, 10, 11, 12, 13, 14, 1, 2, 3, 4, 5] rfl rfl rfl (by decide) rfl rfl (fun H locs hP hD hS => ?_)
  have hP : va_P G.1 vwCl (wXP G x hh ra sl a k R ki fi ke va ta ro qu nsz fin rnd rd mkd lr un nx dp) H := hP
  have hD : va_D A (wXP G x hh ra sl a k R ki fi ke va ta ro qu nsz fin rnd rd mkd lr un nx dp) := hD
  refine lv_if_ne (tgt := 13) hx hb dX4_allocateWeak_8 (by decide) (fun c3 => ?_) (fun c3 => ?_)
  · replace hm := it_f c3 hm
    refine lv_aload_n hx hb dX4_allocateWeak_13 rfl (lv_at hl 0 rfl) ?_
    refine lv_iconst (v := 2) hx hb dX4_allocateWeak_14 (by decide) ?_
    refine lv_iload_n hx hb dX4_allocateWeak_15 rfl (lv_at hl 1 rfl) ?_
    obtain ⟨q4, hc5, hm⟩ := bd_s hm
    refine ks_j (S := SP) (r := q4.1) (ok := fun R9 : SP => vals R9 = q4.2.2.2.2.2) (wo := fun R9 : SP => (wXP G x hh ra sl a k R9 q4.2.1 fi ke va q4.2.2.1 ro qu nsz fin rnd rd mkd lr un q4.2.2.2.1 q4.2.2.2.2.1)) (rV (As := [.int 2, .int p1]) (rest := []) (b := x) (wi := (wXP G x hh ra sl a k R ki fi ke va ta ro qu nsz fin rnd rd mkd lr un nx dp)) hF hK hP hD (c_X4_occupyNext l G N x hh ra sl a k R ki fi ke va ta ro qu nsz fin rnd rd mkd lr un nx dp 2 p1 q4 hc5 H.size) (cwV 2 hts gX4_allocateWeak_X4_occupyNext rfl rfl rfl (by decide +kernel) ⟨Nat.le_of_ble_eq_true rfl, Nat.le_of_ble_eq_true rfl⟩) (va_recv hK.1 hP (ci := 4) (q0 := 0) rfl rfl) rfl hl.1 rfl (Nat.le_of_ble_eq_true rfl) dX4_allocateWeak_16 ⟨Nat.le_of_ble_eq_true rfl, Nat.le_of_ble_eq_true rfl⟩) hD hS hA (fun R6 H locs hR7 hP hD hS => ?_)
    have hP : va_P G.1 vwCl (wXP G x hh ra sl a k R6 q4.2.1 fi ke va q4.2.2.1 ro qu nsz fin rnd rd mkd lr un q4.2.2.2.1 q4.2.2.2.2.1) H := hP
    have hD : va_D A (wXP G x hh ra sl a k R6 q4.2.1 fi ke va q4.2.2.1 ro qu nsz fin rnd rd mkd lr un q4.2.2.2.1 q4.2.2.2.2.1) := hD
    cases hm
    refine W.widen (k := 9) (n := 445) (Nat.le_of_ble_eq_true rfl) (Nat.le_of_ble_eq_true rfl) ?_
    exact rt_j R6 hR7 hx hb hr hlocks hP hD hS dX4_allocateWeak_19
  · replace hm := it_t c3 hm
    refine lv_iconst (v := (-1)) hx hb dX4_allocateWeak_11 (by decide) ?_
    cases hm
    refine W.widen (k := 9) (n := 445) (Nat.le_of_ble_eq_true rfl) (Nat.le_of_ble_eq_true rfl) ?_
    exact rt_j R rfl hx hb hr hlocks hP hD hS dX4_allocateWeak_12
def M_X4_setField (ki : Nat → Int32) (fi : Nat → Int32) (ke : Nat → Int32) (va : Nat → Int32) (ta : Nat → Int32) (ro : Nat → Int32) (qu : Nat → Int32) (nsz : Int32) (fin : Int32) (rnd : Int32) (nx : Int32) (dp : Int32) (rv : Nat → Option SV) (p1 : Int32) (p2 : Int32) (p3 : Int32) : Option (Int32 × (Nat → Int32) × Int32 × Int32 × (Nat → Option SV)) :=
  (M_X3_hasKind ki p1 0).bind fun q1 => if q1 = 0 then (some ((-1), fi, nx, dp, rv)) else ((M_X4_within p2 3).bind fun q4 => if q4 = 0 then (some ((-1), fi, nx, dp, rv)) else ((M_X3_isContent ki p3).bind fun q7 => if q7 = 0 then (some ((-1), fi, nx, dp, rv)) else (gd ((p1 * 3) + p2) 72 (if (fi ((p1 * 3) + p2).toNatClampNeg) = p3 then (some ((-2), fi, nx, dp, rv)) else ((M_X0_push rv nx dp (pkS ki fi ke va ta ro qu nsz fin rnd)).bind fun q12 => gd ((p1 * 3) + p2) 72 (some ((fi ((p1 * 3) + p2).toNatClampNeg), (upd fi ((p1 * 3) + p2).toNatClampNeg p3), q12.2.1, q12.2.2, q12.1)))))))
theorem w0_X4_setField : Cond.fieldLink RX4 10 "WeakTableHeap" "state" "LWeakTableHeap$State;" ∈ wsX4_setField := by decide +kernel
theorem w1_X4_setField : ∀ w ∈ u_ws RX4 TX4 4, w ∈ wsX4_setField := by decide +kernel
theorem w2_X4_setField : Cond.fieldLink RX4 68 "WeakTableHeap$State" "fields" "[I" ∈ wsX4_setField := by decide +kernel
theorem w3_X4_setField : ∀ w ∈ u_ws RX3 TX3 9, w ∈ wsX4_setField := by decide +kernel
theorem w4_X4_setField : Cond.fieldLink RX4 19 "WeakTableHeap" "history" "LWeakTableHeap$History;" ∈ wsX4_setField := by decide +kernel
abbrev rm_X4_setField : Room := { frames := 5, cells := 9, slots := 445, locals := 102 }
set_option maxHeartbeats 4000000 in
set_option maxRecDepth 100000 in
theorem c_X4_setField (l : Launch) (G : GG) (x : Nat) (hh : Nat) (ra : Nat) (sl : Nat) (a : Nat → Nat) (k : Nat → Nat) (R : SP) (ki : Nat → Int32) (fi : Nat → Int32) (ke : Nat → Int32) (va : Nat → Int32) (ta : Nat → Int32) (ro : Nat → Int32) (qu : Nat → Int32) (nsz : Int32) (fin : Int32) (rnd : Int32) (rd : Nat → Int32) (mkd : Int32) (lr : Int32) (un : Int32) (nx : Int32) (dp : Int32) (p1 : Int32) (p2 : Int32) (p3 : Int32) (q : Int32 × (Nat → Int32) × Int32 × Int32 × (Nat → Option SV)) (hm : M_X4_setField ki fi ke va ta ro qu nsz fin rnd nx dp (vals R) p1 p2 p3 = some q) : CTj l yX4_setField wsX4_setField rm_X4_setField G [.ref x, .int p1, .int p2, .int p3] (wXP G x hh ra sl a k R ki fi ke va ta ro qu nsz fin rnd rd mkd lr un nx dp) q.1 (fun R9 : SP => vals R9 = q.2.2.2.2) (fun R9 : SP => (wXP G x hh ra sl a k R9 ki q.2.1 ke va ta ro qu nsz fin rnd rd mkd lr un q.2.2.1 q.2.2.2.1)) := by
  intro sz
  refine mk_body (Qc := fun A => (QJ G A q.1 (fun R9 : SP => vals R9 = q.2.2.2.2) (fun R9 : SP => (wXP G x hh ra sl a k R9 ki q.2.1 ke va ta ro qu nsz fin rnd rd mkd lr un q.2.2.1 q.2.2.2.1)))) (cc := cX4_setField) (maxL := 6) (ret := (some .int)) (lv := [(0, .ref x), (1, .int p1), (2, .int p2), (3, .int p3)]) (by decide) rfl rfl (Nat.le_of_ble_eq_true rfl) ?_
  intro p e s m args below meth c A H locs ls hF hr hlocks hname hK hA hP hD hS hl
  obtain ⟨hx, hb, hml, hown, hts⟩ := id hF
  unfold M_X4_setField at hm
  refine lv_aload_n hx hb dX4_setField_0 rfl (lv_at hl 0 rfl) ?_
  refine va_get (D := G.1) (ci := 4) (v := .ref (a 0)) (C := RX4) (T := TX4) (N := 4) hx hb hts w1_X4_setField hown hK.1 hP 0 rfl rfl 0 (by decide) (hts _ w0_X4_setField) (fun _ h9 => h9) rfl dX4_setField_1 ?_
  refine lv_iload_n hx hb dX4_setField_4 rfl (lv_at hl 1 rfl) ?_
  refine lv_iconst (v := 0) hx hb dX4_setField_5 (by decide) ?_
  obtain ⟨q1, hc2, hm⟩ := bd_s hm
  refine kq_i (X := (wXQ G x hh ra sl a k R ki fi ke va ta ro qu nsz fin rnd rd mkd lr un nx dp)) (pl := fl G.2.1 R 8) (cx := (wST G.2.1 a ki fi ke va ta ro qu nsz fin rnd)) (wo := (wST G.2.1 a ki fi ke va ta ro qu nsz fin rnd)) (wr := [(x, .inr (4, [.ref (a 0), .ref hh, .ref sl, .ref (k 0)])), ((k 0), .inr (1, [.ref (k 1), .int mkd, .int lr, .int un])), ((k 1), .inl (G.2.1, 24, .inl rd)), (hh, .inr (0, [.ref ra, .int nx, .int dp])), (ra, .inl (G.2.2.2, 6, .inr (.inr (.inr (.inr (rg R)))))), (sl, .inl (G.2.2.2, 2, .inr (.inr (.inr (.inr (sg R))))))]) (X' := (wXQ G x hh ra sl a k R ki fi ke va ta ro qu nsz fin rnd rd mkd lr un nx dp)) (rV (As := [.int p1, .int 0]) (rest := []) (b := (a 0)) (wi := (wST G.2.1 a ki fi ke va ta ro qu nsz fin rnd)) hF hK (hP.sub [1, 2, 3, 4, 5, 6, 7, 8, 9] rfl) (hD.sub [1, 2, 3, 4, 5, 6, 7, 8, 9] rfl rfl) (c_X3_hasKind l G a ki fi ke va ta ro qu nsz fin rnd p1 0 q1 hc2 H.size) (cwV 2 hts gX4_setField_X3_hasKind rfl rfl rfl (by decide +kernel) ⟨Nat.le_of_ble_eq_true rfl, Nat.le_of_ble_eq_true rfl⟩) (va_recv hK.1 hP (ci := 3) (q0 := 1) rfl rfl) rfl hl.1 rfl (Nat.le_of_ble_eq_true rfl) dX4_setField_6 ⟨Nat.le_of_ble_eq_true rfl, Nat.le_of_ble_eq_true rfl⟩) hP hD hS hA [1, 2, 3, 4, 5, 6, 7, 8, 9] [0, 10, 11, 12, 13, 14] [0, 6, 7, 8, 9, 10, 11, 12, 13, 14, 1, 2, 3, 4, 5] rfl rfl rfl (by decide) rfl rfl (fun H locs hP hD hS => ?_)
  have hP : va_P G.1 vwCl (wXP G x hh ra sl a k R ki fi ke va ta ro qu nsz fin rnd rd mkd lr un nx dp) H := hP
  have hD : va_D A (wXP G x hh ra sl a k R ki fi ke va ta ro qu nsz fin rnd rd mkd lr un nx dp) := hD
  refine lv_if_eq (tgt := 31) hx hb dX4_setField_9 (by decide) (fun c3 => ?_) (fun c3 => ?_)
  · replace hm := it_t c3 hm
    refine lv_iconst (v := (-1)) hx hb dX4_setField_31 (by decide) ?_
    cases hm
    refine W.widen (k := 9) (n := 445) (Nat.le_of_ble_eq_true rfl) (Nat.le_of_ble_eq_true rfl) ?_
    exact rt_j R rfl hx hb hr hlocks hP hD hS dX4_setField_32
  · replace hm := it_f c3 hm
    refine lv_iload_n hx hb dX4_setField_12 rfl (lv_at hl 2 rfl) ?_
    refine lv_iconst (v := 3) hx hb dX4_setField_13 (by decide) ?_
    obtain ⟨q4, hc5, hm⟩ := bd_s hm
    refine k0_i (ws := (wXP G x hh ra sl a k R ki fi ke va ta ro qu nsz fin rnd rd mkd lr un nx dp)) (rS (As := [.int p2, .int 3]) (rest := []) (wi := ([] : va_W)) hF hK k0_P (k0_D (A := A)) (c_X4_within l G p2 3 q4 hc5 H.size) (va_cwS 2 hts gX4_setField_X4_within rfl rfl rfl (by decide +kernel) ⟨Nat.le_of_ble_eq_true rfl, Nat.le_of_ble_eq_true rfl⟩) rfl hl.1 rfl (Nat.le_of_ble_eq_true rfl) dX4_setField_14 ⟨Nat.le_of_ble_eq_true rfl, Nat.le_of_ble_eq_true rfl⟩) hP hS hA (fun H locs hP hS => ?_)
    refine lv_if_eq (tgt := 31) hx hb dX4_setField_17 (by decide) (fun c6 => ?_) (fun c6 => ?_)
    · replace hm := it_t c6 hm
      refine lv_iconst (v := (-1)) hx hb dX4_setField_31 (by decide) ?_
      cases hm
      refine W.widen (k := 9) (n := 445) (Nat.le_of_ble_eq_true rfl) (Nat.le_of_ble_eq_true rfl) ?_
      exact rt_j R rfl hx hb hr hlocks hP hD hS dX4_setField_32
    · replace hm := it_f c6 hm
      refine lv_aload_n hx hb dX4_setField_20 rfl (lv_at hl 0 rfl) ?_
      refine va_get (D := G.1) (ci := 4) (v := .ref (a 0)) (C := RX4) (T := TX4) (N := 4) hx hb hts w1_X4_setField hown hK.1 hP 0 rfl rfl 0 (by decide) (hts _ w0_X4_setField) (fun _ h9 => h9) rfl dX4_setField_21 ?_
      refine lv_iload_n hx hb dX4_setField_24 rfl (lv_at hl 3 rfl) ?_
      obtain ⟨q7, hc8, hm⟩ := bd_s hm
      refine kq_i (X := (wXQ G x hh ra sl a k R ki fi ke va ta ro qu nsz fin rnd rd mkd lr un nx dp)) (pl := fl G.2.1 R 8) (cx := (wST G.2.1 a ki fi ke va ta ro qu nsz fin rnd)) (wo := (wST G.2.1 a ki fi ke va ta ro qu nsz fin rnd)) (wr := [(x, .inr (4, [.ref (a 0), .ref hh, .ref sl, .ref (k 0)])), ((k 0), .inr (1, [.ref (k 1), .int mkd, .int lr, .int un])), ((k 1), .inl (G.2.1, 24, .inl rd)), (hh, .inr (0, [.ref ra, .int nx, .int dp])), (ra, .inl (G.2.2.2, 6, .inr (.inr (.inr (.inr (rg R)))))), (sl, .inl (G.2.2.2, 2, .inr (.inr (.inr (.inr (sg R))))))]) (X' := (wXQ G x hh ra sl a k R ki fi ke va ta ro qu nsz fin rnd rd mkd lr un nx dp)) (rV (As := [.int p3]) (rest := []) (b := (a 0)) (wi := (wST G.2.1 a ki fi ke va ta ro qu nsz fin rnd)) hF hK (hP.sub [1, 2, 3, 4, 5, 6, 7, 8, 9] rfl) (hD.sub [1, 2, 3, 4, 5, 6, 7, 8, 9] rfl rfl) (c_X3_isContent l G a ki fi ke va ta ro qu nsz fin rnd p3 q7 hc8 H.size) (cwV 1 hts gX4_setField_X3_isContent rfl rfl rfl (by decide +kernel) ⟨Nat.le_of_ble_eq_true rfl, Nat.le_of_ble_eq_true rfl⟩) (va_recv hK.1 hP (ci := 3) (q0 := 1) rfl rfl) rfl hl.1 rfl (Nat.le_of_ble_eq_true rfl) dX4_setField_25 ⟨Nat.le_of_ble_eq_true rfl, Nat.le_of_ble_eq_true rfl⟩) hP hD hS hA [1, 2, 3, 4, 5, 6, 7, 8, 9] [0, 10, 11, 12, 13, 14] [0, 6, 7, 8, 9, 10, 11, 12, 13, 14, 1, 2, 3, 4, 5] rfl rfl rfl (by decide) rfl rfl (fun H locs hP hD hS => ?_)
      have hP : va_P G.1 vwCl (wXP G x hh ra sl a k R ki fi ke va ta ro qu nsz fin rnd rd mkd lr un nx dp) H := hP
      have hD : va_D A (wXP G x hh ra sl a k R ki fi ke va ta ro qu nsz fin rnd rd mkd lr un nx dp) := hD
      refine lv_if_ne (tgt := 33) hx hb dX4_setField_28 (by decide) (fun c9 => ?_) (fun c9 => ?_)
      · replace hm := it_f c9 hm
        refine lv_iload_n hx hb dX4_setField_33 rfl (lv_at hl 1 rfl) ?_
        refine lv_iconst (v := 3) hx hb dX4_setField_34 (by decide) ?_
        refine lv_imul hx hb dX4_setField_35 ?_
        refine lv_iload_n hx hb dX4_setField_36 rfl (lv_at hl 2 rfl) ?_
        refine lv_iadd hx hb dX4_setField_37 ?_
        refine lv_istore (lv' := [(4, .int ((p1 * 3) + p2)), (0, .ref x), (1, .int p1), (2, .int p2), (3, .int p3)]) hx hb dX4_setField_38 hl (by decide) rfl (fun ls hl => ?_)
        refine lv_aload_n hx hb dX4_setField_40 rfl (lv_at hl 1 rfl) ?_
        refine va_get (D := G.1) (ci := 4) (v := .ref (a 0)) (C := RX4) (T := TX4) (N := 4) hx hb hts w1_X4_setField hown hK.1 hP 0 rfl rfl 0 (by decide) (hts _ w0_X4_setField) (fun _ h9 => h9) rfl dX4_setField_41 ?_
        refine va_get (D := G.1) (ci := 3) (v := .ref (a 2)) (C := RX3) (T := TX3) (N := 9) hx hb hts w3_X4_setField hown hK.1 hP 1 rfl rfl 1 (by decide) (hts _ w2_X4_setField) (fun _ h9 => h9) rfl dX4_setField_44 ?_
        refine lv_iload hx hb dX4_setField_47 (lv_at hl 0 rfl) ?_
        obtain ⟨hi10, hm⟩ := gd_s hm
        refine va_iald hx hb hK.1 hP 3 0 rfl rfl hi10 dX4_setField_49 ?_
        refine lv_istore (lv' := [(5, .int (fi ((p1 * 3) + p2).toNatClampNeg)), (4, .int ((p1 * 3) + p2)), (0, .ref x), (1, .int p1), (2, .int p2), (3, .int p3)]) hx hb dX4_setField_50 hl (by decide) rfl (fun ls hl => ?_)
        refine lv_iload hx hb dX4_setField_52 (lv_at hl 0 rfl) ?_
        refine lv_iload_n hx hb dX4_setField_54 rfl (lv_at hl 5 rfl) ?_
        refine lv_icmp_ne (tgt := 61) hx hb dX4_setField_55 (by decide) (fun c11 => ?_) (fun c11 => ?_)
        · replace hm := it_f c11 hm
          refine lv_aload_n hx hb dX4_setField_61 rfl (lv_at hl 2 rfl) ?_
          refine va_get (D := G.1) (ci := 4) (v := .ref hh) (C := RX4) (T := TX4) (N := 4) hx hb hts w1_X4_setField hown hK.1 hP 0 rfl rfl 1 (by decide) (hts _ w4_X4_setField) (fun _ h9 => h9) rfl dX4_setField_62 ?_
          refine lv_aload_n hx hb dX4_setField_65 rfl (lv_at hl 2 rfl) ?_
          refine va_get (D := G.1) (ci := 4) (v := .ref (a 0)) (C := RX4) (T := TX4) (N := 4) hx hb hts w1_X4_setField hown hK.1 hP 0 rfl rfl 0 (by decide) (hts _ w0_X4_setField) (fun _ h9 => h9) rfl dX4_setField_66 ?_
          obtain ⟨q12, hc13, hm⟩ := bd_s hm
          refine kp_n (S := SP) (ok := fun R9 : SP => vals R9 = q12.1) (X := (wXQ G x hh ra sl a k R ki fi ke va ta ro qu nsz fin rnd rd mkd lr un nx dp)) (pl := fl G.2.1 R 8) (cx := (wST G.2.1 a ki fi ke va ta ro qu nsz fin rnd ++ wHX G hh ra sl R nx dp)) (rx := (fun R9 : SP => wST G.2.1 a ki fi ke va ta ro qu nsz fin rnd ++ wHX G hh ra sl R9 q12.2.1 q12.2.2)) (pl1 := fun R9 : SP => fl G.2.1 R9 8) (wr := [(x, .inr (4, [.ref (a 0), .ref hh, .ref sl, .ref (k 0)])), ((k 0), .inr (1, [.ref (k 1), .int mkd, .int lr, .int un])), ((k 1), .inl (G.2.1, 24, .inl rd))]) (X' := fun R9 : SP => (wXQ G x hh ra sl a k R9 ki fi ke va ta ro qu nsz fin rnd rd mkd lr un q12.2.1 q12.2.2)) (rV (As := [.ref (a 0)]) (rest := []) (b := hh) (wi := ((wST G.2.1 a ki fi ke va ta ro qu nsz fin rnd ++ wHX G hh ra sl R nx dp) ++ fl G.2.1 R 8)) hF hK (hP.part [1, 2, 3, 4, 5, 6, 7, 8, 9, 12, 13, 14] rfl) (hD.part [1, 2, 3, 4, 5, 6, 7, 8, 9, 12, 13, 14] rfl rfl) (c_X0_push l G hh ra sl a R ki fi ke va ta ro qu nsz fin rnd nx dp q12 hc13 H.size) (cwV 1 hts gX4_setField_X0_push rfl rfl rfl (by decide +kernel) ⟨Nat.le_of_ble_eq_true rfl, Nat.le_of_ble_eq_true rfl⟩) (va_recv hK.1 hP (ci := 0) (q0 := 12) rfl rfl) rfl hl.1 rfl (Nat.le_of_ble_eq_true rfl) dX4_setField_69 ⟨Nat.le_of_ble_eq_true rfl, Nat.le_of_ble_eq_true rfl⟩) hP hD hS hA [1, 2, 3, 4, 5, 6, 7, 8, 9, 12, 13, 14] [0, 10, 11] [0, 3, 4, 5, 6, 7, 8, 9, 10, 11, 1, 2, 12, 13, 14] rfl rfl rfl (by decide) (fun _ => rfl) rfl (fun R14 H locs hR15 hP hD hS => ?_)
          have hP : va_P G.1 vwCl (wXP G x hh ra sl a k R14 ki fi ke va ta ro qu nsz fin rnd rd mkd lr un q12.2.1 q12.2.2) H := hP
          have hD : va_D A (wXP G x hh ra sl a k R14 ki fi ke va ta ro qu nsz fin rnd rd mkd lr un q12.2.1 q12.2.2) := hD
          refine lv_aload_n hx hb dX4_setField_72 rfl (lv_at hl 2 rfl) ?_
          refine va_get (D := G.1) (ci := 4) (v := .ref (a 0)) (C := RX4) (T := TX4) (N := 4) hx hb hts w1_X4_setField hown hK.1 hP 0 rfl rfl 0 (by decide) (hts _ w0_X4_setField) (fun _ h9 => h9) rfl dX4_setField_73 ?_
          refine va_get (D := G.1) (ci := 3) (v := .ref (a 2)) (C := RX3) (T := TX3) (N := 9) hx hb hts w3_X4_setField hown hK.1 hP 1 rfl rfl 1 (by decide) (hts _ w2_X4_setField) (fun _ h9 => h9) rfl dX4_setField_76 ?_
          refine lv_iload hx hb dX4_setField_79 (lv_at hl 1 rfl) ?_
          refine lv_iload_n hx hb dX4_setField_81 rfl (lv_at hl 5 rfl) ?_
          obtain ⟨hi16, hm⟩ := gd_s hm
          refine va_iast hx hb hK.1 hP hD hS 3 0 rfl rfl hi16 dX4_setField_82 (fun H locs hP hD hS => ?_)
          have hP : va_P G.1 vwCl (wXP G x hh ra sl a k R14 ki (upd fi ((p1 * 3) + p2).toNatClampNeg p3) ke va ta ro qu nsz fin rnd rd mkd lr un q12.2.1 q12.2.2) H := hP
          have hD : va_D A (wXP G x hh ra sl a k R14 ki (upd fi ((p1 * 3) + p2).toNatClampNeg p3) ke va ta ro qu nsz fin rnd rd mkd lr un q12.2.1 q12.2.2) := hD
          refine lv_iload hx hb dX4_setField_83 (lv_at hl 0 rfl) ?_
          cases hm
          refine W.widen (k := 9) (n := 445) (Nat.le_of_ble_eq_true rfl) (Nat.le_of_ble_eq_true rfl) ?_
          exact rt_j R14 hR15 hx hb hr hlocks hP hD hS dX4_setField_85
        · replace hm := it_t c11 hm
          refine lv_bipush (v := (-2)) hx hb dX4_setField_58 (by decide) ?_
          cases hm
          refine W.widen (k := 9) (n := 445) (Nat.le_of_ble_eq_true rfl) (Nat.le_of_ble_eq_true rfl) ?_
          exact rt_j R rfl hx hb hr hlocks hP hD hS dX4_setField_60
      · replace hm := it_t c9 hm
        refine lv_iconst (v := (-1)) hx hb dX4_setField_31 (by decide) ?_
        cases hm
        refine W.widen (k := 9) (n := 445) (Nat.le_of_ble_eq_true rfl) (Nat.le_of_ble_eq_true rfl) ?_
        exact rt_j R rfl hx hb hr hlocks hP hD hS dX4_setField_32
def M_X4_setRoot (ki : Nat → Int32) (fi : Nat → Int32) (ke : Nat → Int32) (va : Nat → Int32) (ta : Nat → Int32) (ro : Nat → Int32) (qu : Nat → Int32) (nsz : Int32) (fin : Int32) (rnd : Int32) (nx : Int32) (dp : Int32) (rv : Nat → Option SV) (p1 : Int32) (p2 : Int32) : Option (Int32 × (Nat → Int32) × Int32 × Int32 × (Nat → Option SV)) :=
  (M_X4_within p1 6).bind fun q1 => if q1 = 0 then (some ((-1), ro, nx, dp, rv)) else ((M_X3_isContent ki p2).bind fun q4 => if q4 = 0 then (some ((-1), ro, nx, dp, rv)) else (gd p1 6 (if (ro p1.toNatClampNeg) = p2 then (some ((-2), ro, nx, dp, rv)) else ((M_X0_push rv nx dp (pkS ki fi ke va ta ro qu nsz fin rnd)).bind fun q9 => gd p1 6 (some ((ro p1.toNatClampNeg), (upd ro p1.toNatClampNeg p2), q9.2.1, q9.2.2, q9.1))))))
theorem w0_X4_setRoot : Cond.fieldLink RX4 10 "WeakTableHeap" "state" "LWeakTableHeap$State;" ∈ wsX4_setRoot := by decide +kernel
theorem w1_X4_setRoot : ∀ w ∈ u_ws RX4 TX4 4, w ∈ wsX4_setRoot := by decide +kernel
theorem w2_X4_setRoot : Cond.fieldLink RX4 71 "WeakTableHeap$State" "roots" "[I" ∈ wsX4_setRoot := by decide +kernel
theorem w3_X4_setRoot : ∀ w ∈ u_ws RX3 TX3 9, w ∈ wsX4_setRoot := by decide +kernel
theorem w4_X4_setRoot : Cond.fieldLink RX4 19 "WeakTableHeap" "history" "LWeakTableHeap$History;" ∈ wsX4_setRoot := by decide +kernel
abbrev rm_X4_setRoot : Room := { frames := 5, cells := 9, slots := 445, locals := 102 }
set_option maxHeartbeats 4000000 in
set_option maxRecDepth 100000 in
theorem c_X4_setRoot (l : Launch) (G : GG) (x : Nat) (hh : Nat) (ra : Nat) (sl : Nat) (a : Nat → Nat) (k : Nat → Nat) (R : SP) (ki : Nat → Int32) (fi : Nat → Int32) (ke : Nat → Int32) (va : Nat → Int32) (ta : Nat → Int32) (ro : Nat → Int32) (qu : Nat → Int32) (nsz : Int32) (fin : Int32) (rnd : Int32) (rd : Nat → Int32) (mkd : Int32) (lr : Int32) (un : Int32) (nx : Int32) (dp : Int32) (p1 : Int32) (p2 : Int32) (q : Int32 × (Nat → Int32) × Int32 × Int32 × (Nat → Option SV)) (hm : M_X4_setRoot ki fi ke va ta ro qu nsz fin rnd nx dp (vals R) p1 p2 = some q) : CTj l yX4_setRoot wsX4_setRoot rm_X4_setRoot G [.ref x, .int p1, .int p2] (wXP G x hh ra sl a k R ki fi ke va ta ro qu nsz fin rnd rd mkd lr un nx dp) q.1 (fun R9 : SP => vals R9 = q.2.2.2.2) (fun R9 : SP => (wXP G x hh ra sl a k R9 ki fi ke va ta q.2.1 qu nsz fin rnd rd mkd lr un q.2.2.1 q.2.2.2.1)) := by
  intro sz
  refine mk_body (Qc := fun A => (QJ G A q.1 (fun R9 : SP => vals R9 = q.2.2.2.2) (fun R9 : SP => (wXP G x hh ra sl a k R9 ki fi ke va ta q.2.1 qu nsz fin rnd rd mkd lr un q.2.2.1 q.2.2.2.1)))) (cc := cX4_setRoot) (maxL := 4) (ret := (some .int)) (lv := [(0, .ref x), (1, .int p1), (2, .int p2)]) (by decide) rfl rfl (Nat.le_of_ble_eq_true rfl) ?_
  intro p e s m args below meth c A H locs ls hF hr hlocks hname hK hA hP hD hS hl
  obtain ⟨hx, hb, hml, hown, hts⟩ := id hF
  unfold M_X4_setRoot at hm
  refine lv_iload_n hx hb dX4_setRoot_0 rfl (lv_at hl 1 rfl) ?_
  refine lv_bipush (v := 6) hx hb dX4_setRoot_1 (by decide) ?_
  obtain ⟨q1, hc2, hm⟩ := bd_s hm
  refine k0_i (ws := (wXP G x hh ra sl a k R ki fi ke va ta ro qu nsz fin rnd rd mkd lr un nx dp)) (rS (As := [.int p1, .int 6]) (rest := []) (wi := ([] : va_W)) hF hK k0_P (k0_D (A := A)) (c_X4_within l G p1 6 q1 hc2 H.size) (va_cwS 2 hts gX4_setRoot_X4_within rfl rfl rfl (by decide +kernel) ⟨Nat.le_of_ble_eq_true rfl, Nat.le_of_ble_eq_true rfl⟩) rfl hl.1 rfl (Nat.le_of_ble_eq_true rfl) dX4_setRoot_3 ⟨Nat.le_of_ble_eq_true rfl, Nat.le_of_ble_eq_true rfl⟩) hP hS hA (fun H locs hP hS => ?_)
  refine lv_if_eq (tgt := 20) hx hb dX4_setRoot_6 (by decide) (fun c3 => ?_) (fun c3 => ?_)
  · replace hm := it_t c3 hm
    refine lv_iconst (v := (-1)) hx hb dX4_setRoot_20 (by decide) ?_
    cases hm
    refine W.widen (k := 9) (n := 445) (Nat.le_of_ble_eq_true rfl) (Nat.le_of_ble_eq_true rfl) ?_
    exact rt_j R rfl hx hb hr hlocks hP hD hS dX4_setRoot_21
  · replace hm := it_f c3 hm
    refine lv_aload_n hx hb dX4_setRoot_9 rfl (lv_at hl 0 rfl) ?_
    refine va_get (D := G.1) (ci := 4) (v := .ref (a 0)) (C := RX4) (T := TX4) (N := 4) hx hb hts w1_X4_setRoot hown hK.1 hP 0 rfl rfl 0 (by decide) (hts _ w0_X4_setRoot) (fun _ h9 => h9) rfl dX4_setRoot_10 ?_
    refine lv_iload_n hx hb dX4_setRoot_13 rfl (lv_at hl 2 rfl) ?_
    obtain ⟨q4, hc5, hm⟩ := bd_s hm
    refine kq_i (X := (wXQ G x hh ra sl a k R ki fi ke va ta ro qu nsz fin rnd rd mkd lr un nx dp)) (pl := fl G.2.1 R 8) (cx := (wST G.2.1 a ki fi ke va ta ro qu nsz fin rnd)) (wo := (wST G.2.1 a ki fi ke va ta ro qu nsz fin rnd)) (wr := [(x, .inr (4, [.ref (a 0), .ref hh, .ref sl, .ref (k 0)])), ((k 0), .inr (1, [.ref (k 1), .int mkd, .int lr, .int un])), ((k 1), .inl (G.2.1, 24, .inl rd)), (hh, .inr (0, [.ref ra, .int nx, .int dp])), (ra, .inl (G.2.2.2, 6, .inr (.inr (.inr (.inr (rg R)))))), (sl, .inl (G.2.2.2, 2, .inr (.inr (.inr (.inr (sg R))))))]) (X' := (wXQ G x hh ra sl a k R ki fi ke va ta ro qu nsz fin rnd rd mkd lr un nx dp)) (rV (As := [.int p2]) (rest := []) (b := (a 0)) (wi := (wST G.2.1 a ki fi ke va ta ro qu nsz fin rnd)) hF hK (hP.sub [1, 2, 3, 4, 5, 6, 7, 8, 9] rfl) (hD.sub [1, 2, 3, 4, 5, 6, 7, 8, 9] rfl rfl) (c_X3_isContent l G a ki fi ke va ta ro qu nsz fin rnd p2 q4 hc5 H.size) (cwV 1 hts gX4_setRoot_X3_isContent rfl rfl rfl (by decide +kernel) ⟨Nat.le_of_ble_eq_true rfl, Nat.le_of_ble_eq_true rfl⟩) (va_recv hK.1 hP (ci := 3) (q0 := 1) rfl rfl) rfl hl.1 rfl (Nat.le_of_ble_eq_true rfl) dX4_setRoot_14 ⟨Nat.le_of_ble_eq_true rfl, Nat.le_of_ble_eq_true rfl⟩) hP hD hS hA [1, 2, 3, 4, 5, 6, 7, 8, 9] [0, 10, 11, 12, 13, 14] [0, 6, 7, 8, 9, 10, 11, 12, 13, 14, 1, 2, 3, 4, 5] rfl rfl rfl (by decide) rfl rfl (fun H locs hP hD hS => ?_)
    have hP : va_P G.1 vwCl (wXP G x hh ra sl a k R ki fi ke va ta ro qu nsz fin rnd rd mkd lr un nx dp) H := hP
    have hD : va_D A (wXP G x hh ra sl a k R ki fi ke va ta ro qu nsz fin rnd rd mkd lr un nx dp) := hD
    refine lv_if_ne (tgt := 22) hx hb dX4_setRoot_17 (by decide) (fun c6 => ?_) (fun c6 => ?_)
    · replace hm := it_f c6 hm
      refine lv_aload_n hx hb dX4_setRoot_22 rfl (lv_at hl 0 rfl) ?_
      refine va_get (D := G.1) (ci := 4) (v := .ref (a 0)) (C := RX4) (T := TX4) (N := 4) hx hb hts w1_X4_setRoot hown hK.1 hP 0 rfl rfl 0 (by decide) (hts _ w0_X4_setRoot) (fun _ h9 => h9) rfl dX4_setRoot_23 ?_
      refine va_get (D := G.1) (ci := 3) (v := .ref (a 6)) (C := RX3) (T := TX3) (N := 9) hx hb hts w3_X4_setRoot hown hK.1 hP 1 rfl rfl 5 (by decide) (hts _ w2_X4_setRoot) (fun _ h9 => h9) rfl dX4_setRoot_26 ?_
      refine lv_iload_n hx hb dX4_setRoot_29 rfl (lv_at hl 1 rfl) ?_
      obtain ⟨hi7, hm⟩ := gd_s hm
      refine va_iald hx hb hK.1 hP 7 0 rfl rfl hi7 dX4_setRoot_30 ?_
      refine lv_istore_n (lv' := [(3, .int (ro p1.toNatClampNeg)), (0, .ref x), (1, .int p1), (2, .int p2)]) hx hb dX4_setRoot_31 rfl hl (by decide) rfl (fun ls hl => ?_)
      refine lv_iload_n hx hb dX4_setRoot_32 rfl (lv_at hl 0 rfl) ?_
      refine lv_iload_n hx hb dX4_setRoot_33 rfl (lv_at hl 3 rfl) ?_
      refine lv_icmp_ne (tgt := 40) hx hb dX4_setRoot_34 (by decide) (fun c8 => ?_) (fun c8 => ?_)
      · replace hm := it_f c8 hm
        refine lv_aload_n hx hb dX4_setRoot_40 rfl (lv_at hl 1 rfl) ?_
        refine va_get (D := G.1) (ci := 4) (v := .ref hh) (C := RX4) (T := TX4) (N := 4) hx hb hts w1_X4_setRoot hown hK.1 hP 0 rfl rfl 1 (by decide) (hts _ w4_X4_setRoot) (fun _ h9 => h9) rfl dX4_setRoot_41 ?_
        refine lv_aload_n hx hb dX4_setRoot_44 rfl (lv_at hl 1 rfl) ?_
        refine va_get (D := G.1) (ci := 4) (v := .ref (a 0)) (C := RX4) (T := TX4) (N := 4) hx hb hts w1_X4_setRoot hown hK.1 hP 0 rfl rfl 0 (by decide) (hts _ w0_X4_setRoot) (fun _ h9 => h9) rfl dX4_setRoot_45 ?_
        obtain ⟨q9, hc10, hm⟩ := bd_s hm
        refine kp_n (S := SP) (ok := fun R9 : SP => vals R9 = q9.1) (X := (wXQ G x hh ra sl a k R ki fi ke va ta ro qu nsz fin rnd rd mkd lr un nx dp)) (pl := fl G.2.1 R 8) (cx := (wST G.2.1 a ki fi ke va ta ro qu nsz fin rnd ++ wHX G hh ra sl R nx dp)) (rx := (fun R9 : SP => wST G.2.1 a ki fi ke va ta ro qu nsz fin rnd ++ wHX G hh ra sl R9 q9.2.1 q9.2.2)) (pl1 := fun R9 : SP => fl G.2.1 R9 8) (wr := [(x, .inr (4, [.ref (a 0), .ref hh, .ref sl, .ref (k 0)])), ((k 0), .inr (1, [.ref (k 1), .int mkd, .int lr, .int un])), ((k 1), .inl (G.2.1, 24, .inl rd))]) (X' := fun R9 : SP => (wXQ G x hh ra sl a k R9 ki fi ke va ta ro qu nsz fin rnd rd mkd lr un q9.2.1 q9.2.2)) (rV (As := [.ref (a 0)]) (rest := []) (b := hh) (wi := ((wST G.2.1 a ki fi ke va ta ro qu nsz fin rnd ++ wHX G hh ra sl R nx dp) ++ fl G.2.1 R 8)) hF hK (hP.part [1, 2, 3, 4, 5, 6, 7, 8, 9, 12, 13, 14] rfl) (hD.part [1, 2, 3, 4, 5, 6, 7, 8, 9, 12, 13, 14] rfl rfl) (c_X0_push l G hh ra sl a R ki fi ke va ta ro qu nsz fin rnd nx dp q9 hc10 H.size) (cwV 1 hts gX4_setRoot_X0_push rfl rfl rfl (by decide +kernel) ⟨Nat.le_of_ble_eq_true rfl, Nat.le_of_ble_eq_true rfl⟩) (va_recv hK.1 hP (ci := 0) (q0 := 12) rfl rfl) rfl hl.1 rfl (Nat.le_of_ble_eq_true rfl) dX4_setRoot_48 ⟨Nat.le_of_ble_eq_true rfl, Nat.le_of_ble_eq_true rfl⟩) hP hD hS hA [1, 2, 3, 4, 5, 6, 7, 8, 9, 12, 13, 14] [0, 10, 11] [0, 3, 4, 5, 6, 7, 8, 9, 10, 11, 1, 2, 12, 13, 14] rfl rfl rfl (by decide) (fun _ => rfl) rfl (fun R11 H locs hR12 hP hD hS => ?_)
        have hP : va_P G.1 vwCl (wXP G x hh ra sl a k R11 ki fi ke va ta ro qu nsz fin rnd rd mkd lr un q9.2.1 q9.2.2) H := hP
        have hD : va_D A (wXP G x hh ra sl a k R11 ki fi ke va ta ro qu nsz fin rnd rd mkd lr un q9.2.1 q9.2.2) := hD
        refine lv_aload_n hx hb dX4_setRoot_51 rfl (lv_at hl 1 rfl) ?_
        refine va_get (D := G.1) (ci := 4) (v := .ref (a 0)) (C := RX4) (T := TX4) (N := 4) hx hb hts w1_X4_setRoot hown hK.1 hP 0 rfl rfl 0 (by decide) (hts _ w0_X4_setRoot) (fun _ h9 => h9) rfl dX4_setRoot_52 ?_
        refine va_get (D := G.1) (ci := 3) (v := .ref (a 6)) (C := RX3) (T := TX3) (N := 9) hx hb hts w3_X4_setRoot hown hK.1 hP 1 rfl rfl 5 (by decide) (hts _ w2_X4_setRoot) (fun _ h9 => h9) rfl dX4_setRoot_55 ?_
        refine lv_iload_n hx hb dX4_setRoot_58 rfl (lv_at hl 2 rfl) ?_
        refine lv_iload_n hx hb dX4_setRoot_59 rfl (lv_at hl 3 rfl) ?_
        obtain ⟨hi13, hm⟩ := gd_s hm
        refine va_iast hx hb hK.1 hP hD hS 7 0 rfl rfl hi13 dX4_setRoot_60 (fun H locs hP hD hS => ?_)
        have hP : va_P G.1 vwCl (wXP G x hh ra sl a k R11 ki fi ke va ta (upd ro p1.toNatClampNeg p2) qu nsz fin rnd rd mkd lr un q9.2.1 q9.2.2) H := hP
        have hD : va_D A (wXP G x hh ra sl a k R11 ki fi ke va ta (upd ro p1.toNatClampNeg p2) qu nsz fin rnd rd mkd lr un q9.2.1 q9.2.2) := hD
        refine lv_iload_n hx hb dX4_setRoot_61 rfl (lv_at hl 0 rfl) ?_
        cases hm
        refine W.widen (k := 9) (n := 445) (Nat.le_of_ble_eq_true rfl) (Nat.le_of_ble_eq_true rfl) ?_
        exact rt_j R11 hR12 hx hb hr hlocks hP hD hS dX4_setRoot_62
      · replace hm := it_t c8 hm
        refine lv_bipush (v := (-2)) hx hb dX4_setRoot_37 (by decide) ?_
        cases hm
        refine W.widen (k := 9) (n := 445) (Nat.le_of_ble_eq_true rfl) (Nat.le_of_ble_eq_true rfl) ?_
        exact rt_j R rfl hx hb hr hlocks hP hD hS dX4_setRoot_39
    · replace hm := it_t c6 hm
      refine lv_iconst (v := (-1)) hx hb dX4_setRoot_20 (by decide) ?_
      cases hm
      refine W.widen (k := 9) (n := 445) (Nat.le_of_ble_eq_true rfl) (Nat.le_of_ble_eq_true rfl) ?_
      exact rt_j R rfl hx hb hr hlocks hP hD hS dX4_setRoot_21
def M_X4_setFinalizable (ki : Nat → Int32) (fi : Nat → Int32) (ke : Nat → Int32) (va : Nat → Int32) (ta : Nat → Int32) (ro : Nat → Int32) (qu : Nat → Int32) (nsz : Int32) (fin : Int32) (rnd : Int32) (nx : Int32) (dp : Int32) (rv : Nat → Option SV) (p1 : Int32) (p2 : Int32) : Option (Int32 × Int32 × Int32 × Int32 × (Nat → Option SV)) :=
  (M_X3_isAllocated ki p1).bind fun q1 => if q1 = 0 then (some ((-1), fin, nx, dp, rv)) else (if p2 = 0 then ((M_X4_contains fin p1).bind fun q5 => if p2 = 1 then (if q5 = 1 then (some ((-2), fin, nx, dp, rv)) else ((M_X0_push rv nx dp (pkS ki fi ke va ta ro qu nsz fin rnd)).bind fun q18 => (M_X4_setOf p1).bind fun q22 => (M_J6_bitCount_0f7a4 (fin ^^^ q22)).bind fun q24 => some (q24, (fin ^^^ q22), q18.2.1, q18.2.2, q18.1))) else (if q5 = 0 then (some ((-2), fin, nx, dp, rv)) else ((M_X0_push rv nx dp (pkS ki fi ke va ta ro qu nsz fin rnd)).bind fun q9 => (M_X4_setOf p1).bind fun q13 => (M_J6_bitCount_0f7a4 (fin ^^^ q13)).bind fun q15 => some (q15, (fin ^^^ q13), q9.2.1, q9.2.2, q9.1)))) else (if p2 = 1 then ((M_X4_contains fin p1).bind fun q27 => if p2 = 1 then (if q27 = 1 then (some ((-2), fin, nx, dp, rv)) else ((M_X0_push rv nx dp (pkS ki fi ke va ta ro qu nsz fin rnd)).bind fun q40 => (M_X4_setOf p1).bind fun q44 => (M_J6_bitCount_0f7a4 (fin ^^^ q44)).bind fun q46 => some (q46, (fin ^^^ q44), q40.2.1, q40.2.2, q40.1))) else (if q27 = 0 then (some ((-2), fin, nx, dp, rv)) else ((M_X0_push rv nx dp (pkS ki fi ke va ta ro qu nsz fin rnd)).bind fun q31 => (M_X4_setOf p1).bind fun q35 => (M_J6_bitCount_0f7a4 (fin ^^^ q35)).bind fun q37 => some (q37, (fin ^^^ q35), q31.2.1, q31.2.2, q31.1)))) else (some ((-1), fin, nx, dp, rv))))
theorem w0_X4_setFinalizable : Cond.fieldLink RX4 10 "WeakTableHeap" "state" "LWeakTableHeap$State;" ∈ wsX4_setFinalizable := by decide +kernel
theorem w1_X4_setFinalizable : ∀ w ∈ u_ws RX4 TX4 4, w ∈ wsX4_setFinalizable := by decide +kernel
theorem w2_X4_setFinalizable : Cond.fieldLink RX4 77 "WeakTableHeap$State" "finalizable" "I" ∈ wsX4_setFinalizable := by decide +kernel
theorem w3_X4_setFinalizable : ∀ w ∈ u_ws RX3 TX3 9, w ∈ wsX4_setFinalizable := by decide +kernel
theorem w4_X4_setFinalizable : Cond.fieldLink RX4 19 "WeakTableHeap" "history" "LWeakTableHeap$History;" ∈ wsX4_setFinalizable := by decide +kernel
abbrev rm_X4_setFinalizable : Room := { frames := 5, cells := 9, slots := 445, locals := 102 }
set_option maxHeartbeats 4000000 in
set_option maxRecDepth 100000 in
theorem c_X4_setFinalizable (l : Launch) (G : GG) (x : Nat) (hh : Nat) (ra : Nat) (sl : Nat) (a : Nat → Nat) (k : Nat → Nat) (R : SP) (ki : Nat → Int32) (fi : Nat → Int32) (ke : Nat → Int32) (va : Nat → Int32) (ta : Nat → Int32) (ro : Nat → Int32) (qu : Nat → Int32) (nsz : Int32) (fin : Int32) (rnd : Int32) (rd : Nat → Int32) (mkd : Int32) (lr : Int32) (un : Int32) (nx : Int32) (dp : Int32) (p1 : Int32) (p2 : Int32) (q : Int32 × Int32 × Int32 × Int32 × (Nat → Option SV)) (hm : M_X4_setFinalizable ki fi ke va ta ro qu nsz fin rnd nx dp (vals R) p1 p2 = some q) : CTj l yX4_setFinalizable wsX4_setFinalizable rm_X4_setFinalizable G [.ref x, .int p1, .int p2] (wXP G x hh ra sl a k R ki fi ke va ta ro qu nsz fin rnd rd mkd lr un nx dp) q.1 (fun R9 : SP => vals R9 = q.2.2.2.2) (fun R9 : SP => (wXP G x hh ra sl a k R9 ki fi ke va ta ro qu nsz q.2.1 rnd rd mkd lr un q.2.2.1 q.2.2.2.1)) := by
  intro sz
  refine mk_body (Qc := fun A => (QJ G A q.1 (fun R9 : SP => vals R9 = q.2.2.2.2) (fun R9 : SP => (wXP G x hh ra sl a k R9 ki fi ke va ta ro qu nsz q.2.1 rnd rd mkd lr un q.2.2.1 q.2.2.2.1)))) (cc := cX4_setFinalizable) (maxL := 3) (ret := (some .int)) (lv := [(0, .ref x), (1, .int p1), (2, .int p2)]) (by decide) rfl rfl (Nat.le_of_ble_eq_true rfl) ?_
  intro p e s m args below meth c A H locs ls hF hr hlocks hname hK hA hP hD hS hl
  obtain ⟨hx, hb, hml, hown, hts⟩ := id hF
  unfold M_X4_setFinalizable at hm
  refine lv_aload_n hx hb dX4_setFinalizable_0 rfl (lv_at hl 0 rfl) ?_
  refine va_get (D := G.1) (ci := 4) (v := .ref (a 0)) (C := RX4) (T := TX4) (N := 4) hx hb hts w1_X4_setFinalizable hown hK.1 hP 0 rfl rfl 0 (by decide) (hts _ w0_X4_setFinalizable) (fun _ h9 => h9) rfl dX4_setFinalizable_1 ?_
  refine lv_iload_n hx hb dX4_setFinalizable_4 rfl (lv_at hl 1 rfl) ?_
  obtain ⟨q1, hc2, hm⟩ := bd_s hm
  refine kq_i (X := (wXQ G x hh ra sl a k R ki fi ke va ta ro qu nsz fin rnd rd mkd lr un nx dp)) (pl := fl G.2.1 R 8) (cx := (wST G.2.1 a ki fi ke va ta ro qu nsz fin rnd)) (wo := (wST G.2.1 a ki fi ke va ta ro qu nsz fin rnd)) (wr := [(x, .inr (4, [.ref (a 0), .ref hh, .ref sl, .ref (k 0)])), ((k 0), .inr (1, [.ref (k 1), .int mkd, .int lr, .int un])), ((k 1), .inl (G.2.1, 24, .inl rd)), (hh, .inr (0, [.ref ra, .int nx, .int dp])), (ra, .inl (G.2.2.2, 6, .inr (.inr (.inr (.inr (rg R)))))), (sl, .inl (G.2.2.2, 2, .inr (.inr (.inr (.inr (sg R))))))]) (X' := (wXQ G x hh ra sl a k R ki fi ke va ta ro qu nsz fin rnd rd mkd lr un nx dp)) (rV (As := [.int p1]) (rest := []) (b := (a 0)) (wi := (wST G.2.1 a ki fi ke va ta ro qu nsz fin rnd)) hF hK (hP.sub [1, 2, 3, 4, 5, 6, 7, 8, 9] rfl) (hD.sub [1, 2, 3, 4, 5, 6, 7, 8, 9] rfl rfl) (c_X3_isAllocated l G a ki fi ke va ta ro qu nsz fin rnd p1 q1 hc2 H.size) (cwV 1 hts gX4_setFinalizable_X3_isAllocated rfl rfl rfl (by decide +kernel) ⟨Nat.le_of_ble_eq_true rfl, Nat.le_of_ble_eq_true rfl⟩) (va_recv hK.1 hP (ci := 3) (q0 := 1) rfl rfl) rfl hl.1 rfl (Nat.le_of_ble_eq_true rfl) dX4_setFinalizable_5 ⟨Nat.le_of_ble_eq_true rfl, Nat.le_of_ble_eq_true rfl⟩) hP hD hS hA [1, 2, 3, 4, 5, 6, 7, 8, 9] [0, 10, 11, 12, 13, 14] [0, 6, 7, 8, 9, 10, 11, 12, 13, 14, 1, 2, 3, 4, 5] rfl rfl rfl (by decide) rfl rfl (fun H locs hP hD hS => ?_)
  have hP : va_P G.1 vwCl (wXP G x hh ra sl a k R ki fi ke va ta ro qu nsz fin rnd rd mkd lr un nx dp) H := hP
  have hD : va_D A (wXP G x hh ra sl a k R ki fi ke va ta ro qu nsz fin rnd rd mkd lr un nx dp) := hD
  refine lv_if_eq (tgt := 20) hx hb dX4_setFinalizable_8 (by decide) (fun c3 => ?_) (fun c3 => ?_)
  · replace hm := it_t c3 hm
    refine lv_iconst (v := (-1)) hx hb dX4_setFinalizable_20 (by decide) ?_
    cases hm
    refine W.widen (k := 9) (n := 445) (Nat.le_of_ble_eq_true rfl) (Nat.le_of_ble_eq_true rfl) ?_
    exact rt_j R rfl hx hb hr hlocks hP hD hS dX4_setFinalizable_21
  · replace hm := it_f c3 hm
    refine lv_iload_n hx hb dX4_setFinalizable_11 rfl (lv_at hl 2 rfl) ?_
    refine lv_if_eq (tgt := 22) hx hb dX4_setFinalizable_12 (by decide) (fun c4 => ?_) (fun c4 => ?_)
    · replace hm := it_t c4 hm
      refine lv_aload_n hx hb dX4_setFinalizable_22 rfl (lv_at hl 0 rfl) ?_
      refine va_get (D := G.1) (ci := 4) (v := .ref (a 0)) (C := RX4) (T := TX4) (N := 4) hx hb hts w1_X4_setFinalizable hown hK.1 hP 0 rfl rfl 0 (by decide) (hts _ w0_X4_setFinalizable) (fun _ h9 => h9) rfl dX4_setFinalizable_23 ?_
      refine va_get (D := G.1) (ci := 3) (v := .int fin) (C := RX3) (T := TX3) (N := 9) hx hb hts w3_X4_setFinalizable hown hK.1 hP 1 rfl rfl 7 (by decide) (hts _ w2_X4_setFinalizable) (fun _ h9 => h9) rfl dX4_setFinalizable_26 ?_
      refine lv_iload_n hx hb dX4_setFinalizable_29 rfl (lv_at hl 1 rfl) ?_
      obtain ⟨q5, hc6, hm⟩ := bd_s hm
      refine k0_i (ws := (wXP G x hh ra sl a k R ki fi ke va ta ro qu nsz fin rnd rd mkd lr un nx dp)) (rS (As := [.int fin, .int p1]) (rest := []) (wi := ([] : va_W)) hF hK k0_P (k0_D (A := A)) (c_X4_contains l G fin p1 q5 hc6 H.size) (va_cwS 2 hts gX4_setFinalizable_X4_contains rfl rfl rfl (by decide +kernel) ⟨Nat.le_of_ble_eq_true rfl, Nat.le_of_ble_eq_true rfl⟩) rfl hl.1 rfl (Nat.le_of_ble_eq_true rfl) dX4_setFinalizable_30 ⟨Nat.le_of_ble_eq_true rfl, Nat.le_of_ble_eq_true rfl⟩) hP hS hA (fun H locs hP hS => ?_)
      refine lv_iload_n hx hb dX4_setFinalizable_33 rfl (lv_at hl 2 rfl) ?_
      refine lv_iconst (v := 1) hx hb dX4_setFinalizable_34 (by decide) ?_
      refine lv_icmp_ne (tgt := 42) hx hb dX4_setFinalizable_35 (by decide) (fun c7 => ?_) (fun c7 => ?_)
      · replace hm := it_f c7 hm
        refine lv_iconst (v := 0) hx hb dX4_setFinalizable_42 (by decide) ?_
        refine lv_icmp_ne (tgt := 49) hx hb dX4_setFinalizable_43 (by decide) (fun c8 => ?_) (fun c8 => ?_)
        · replace hm := it_f c8 hm
          refine lv_aload_n hx hb dX4_setFinalizable_49 rfl (lv_at hl 0 rfl) ?_
          refine va_get (D := G.1) (ci := 4) (v := .ref hh) (C := RX4) (T := TX4) (N := 4) hx hb hts w1_X4_setFinalizable hown hK.1 hP 0 rfl rfl 1 (by decide) (hts _ w4_X4_setFinalizable) (fun _ h9 => h9) rfl dX4_setFinalizable_50 ?_
          refine lv_aload_n hx hb dX4_setFinalizable_53 rfl (lv_at hl 0 rfl) ?_
          refine va_get (D := G.1) (ci := 4) (v := .ref (a 0)) (C := RX4) (T := TX4) (N := 4) hx hb hts w1_X4_setFinalizable hown hK.1 hP 0 rfl rfl 0 (by decide) (hts _ w0_X4_setFinalizable) (fun _ h9 => h9) rfl dX4_setFinalizable_54 ?_
          obtain ⟨q9, hc10, hm⟩ := bd_s hm
          refine kp_n (S := SP) (ok := fun R9 : SP => vals R9 = q9.1) (X := (wXQ G x hh ra sl a k R ki fi ke va ta ro qu nsz fin rnd rd mkd lr un nx dp)) (pl := fl G.2.1 R 8) (cx := (wST G.2.1 a ki fi ke va ta ro qu nsz fin rnd ++ wHX G hh ra sl R nx dp)) (rx := (fun R9 : SP => wST G.2.1 a ki fi ke va ta ro qu nsz fin rnd ++ wHX G hh ra sl R9 q9.2.1 q9.2.2)) (pl1 := fun R9 : SP => fl G.2.1 R9 8) (wr := [(x, .inr (4, [.ref (a 0), .ref hh, .ref sl, .ref (k 0)])), ((k 0), .inr (1, [.ref (k 1), .int mkd, .int lr, .int un])), ((k 1), .inl (G.2.1, 24, .inl rd))]) (X' := fun R9 : SP => (wXQ G x hh ra sl a k R9 ki fi ke va ta ro qu nsz fin rnd rd mkd lr un q9.2.1 q9.2.2)) (rV (As := [.ref (a 0)]) (rest := []) (b := hh) (wi := ((wST G.2.1 a ki fi ke va ta ro qu nsz fin rnd ++ wHX G hh ra sl R nx dp) ++ fl G.2.1 R 8)) hF hK (hP.part [1, 2, 3, 4, 5, 6, 7, 8, 9, 12, 13, 14] rfl) (hD.part [1, 2, 3, 4, 5, 6, 7, 8, 9, 12, 13, 14] rfl rfl) (c_X0_push l G hh ra sl a R ki fi ke va ta ro qu nsz fin rnd nx dp q9 hc10 H.size) (cwV 1 hts gX4_setFinalizable_X0_push rfl rfl rfl (by decide +kernel) ⟨Nat.le_of_ble_eq_true rfl, Nat.le_of_ble_eq_true rfl⟩) (va_recv hK.1 hP (ci := 0) (q0 := 12) rfl rfl) rfl hl.1 rfl (Nat.le_of_ble_eq_true rfl) dX4_setFinalizable_57 ⟨Nat.le_of_ble_eq_true rfl, Nat.le_of_ble_eq_true rfl⟩) hP hD hS hA [1, 2, 3, 4, 5, 6, 7, 8, 9, 12, 13, 14] [0, 10, 11] [0, 3, 4, 5, 6, 7, 8, 9, 10, 11, 1, 2, 12, 13, 14] rfl rfl rfl (by decide) (fun _ => rfl) rfl (fun R11 H locs hR12 hP hD hS => ?_)
          have hP : va_P G.1 vwCl (wXP G x hh ra sl a k R11 ki fi ke va ta ro qu nsz fin rnd rd mkd lr un q9.2.1 q9.2.2) H := hP
          have hD : va_D A (wXP G x hh ra sl a k R11 ki fi ke va ta ro qu nsz fin rnd rd mkd lr un q9.2.1 q9.2.2) := hD
          refine lv_aload_n hx hb dX4_setFinalizable_60 rfl (lv_at hl 0 rfl) ?_
          refine va_get (D := G.1) (ci := 4) (v := .ref (a 0)) (C := RX4) (T := TX4) (N := 4) hx hb hts w1_X4_setFinalizable hown hK.1 hP 0 rfl rfl 0 (by decide) (hts _ w0_X4_setFinalizable) (fun _ h9 => h9) rfl dX4_setFinalizable_61 ?_
          refine lv_dup hx hb dX4_setFinalizable_64 rfl ?_
          refine va_get (D := G.1) (ci := 3) (v := .int fin) (C := RX3) (T := TX3) (N := 9) hx hb hts w3_X4_setFinalizable hown hK.1 hP 1 rfl rfl 7 (by decide) (hts _ w2_X4_setFinalizable) (fun _ h9 => h9) rfl dX4_setFinalizable_65 ?_
          refine lv_iload_n hx hb dX4_setFinalizable_68 rfl (lv_at hl 1 rfl) ?_
          obtain ⟨q13, hc14, hm⟩ := bd_s hm
          refine k0_i (ws := (wXP G x hh ra sl a k R11 ki fi ke va ta ro qu nsz fin rnd rd mkd lr un q9.2.1 q9.2.2)) (rS (As := [.int p1]) (rest := [.int fin, .ref (a 0)]) (wi := ([] : va_W)) hF hK k0_P (k0_D (A := A)) (c_X4_setOf l G p1 q13 hc14 H.size) (va_cwS 1 hts gX4_setFinalizable_X4_setOf rfl rfl rfl (by decide +kernel) ⟨Nat.le_of_ble_eq_true rfl, Nat.le_of_ble_eq_true rfl⟩) rfl hl.1 rfl (Nat.le_of_ble_eq_true rfl) dX4_setFinalizable_69 ⟨Nat.le_of_ble_eq_true rfl, Nat.le_of_ble_eq_true rfl⟩) hP hS hA (fun H locs hP hS => ?_)
          refine lv_ixor hx hb dX4_setFinalizable_72 ?_
          refine va_put (D := G.1) (ci := 3) (v := .int (fin ^^^ q13)) (ty := .int) (C := RX3) (T := TX3) (N := 9) hx hb hts w3_X4_setFinalizable tyX3 tyX3_ok nmX3 hown hK.1 hP hD hS 1 rfl rfl 7 (by decide) (hts _ w2_X4_setFinalizable) (fun _ h9 => h9) rfl (by decide +kernel) rfl rfl (Nat.le_of_ble_eq_true rfl) dX4_setFinalizable_73 (fun H locs hP hD hS => ?_)
          have hP : va_P G.1 vwCl (wXP G x hh ra sl a k R11 ki fi ke va ta ro qu nsz (fin ^^^ q13) rnd rd mkd lr un q9.2.1 q9.2.2) H := hP
          have hD : va_D A (wXP G x hh ra sl a k R11 ki fi ke va ta ro qu nsz (fin ^^^ q13) rnd rd mkd lr un q9.2.1 q9.2.2) := hD
          refine lv_aload_n hx hb dX4_setFinalizable_76 rfl (lv_at hl 0 rfl) ?_
          refine va_get (D := G.1) (ci := 4) (v := .ref (a 0)) (C := RX4) (T := TX4) (N := 4) hx hb hts w1_X4_setFinalizable hown hK.1 hP 0 rfl rfl 0 (by decide) (hts _ w0_X4_setFinalizable) (fun _ h9 => h9) rfl dX4_setFinalizable_77 ?_
          refine va_get (D := G.1) (ci := 3) (v := .int (fin ^^^ q13)) (C := RX3) (T := TX3) (N := 9) hx hb hts w3_X4_setFinalizable hown hK.1 hP 1 rfl rfl 7 (by decide) (hts _ w2_X4_setFinalizable) (fun _ h9 => h9) rfl dX4_setFinalizable_80 ?_
          obtain ⟨q15, hc16, hm⟩ := bd_s hm
          refine k0_i (ws := (wXP G x hh ra sl a k R11 ki fi ke va ta ro qu nsz (fin ^^^ q13) rnd rd mkd lr un q9.2.1 q9.2.2)) (rS (As := [.int (fin ^^^ q13)]) (rest := []) (wi := ([] : va_W)) hF hK k0_P (k0_D (A := A)) (c_J6_bitCount_0f7a4 l G (fin ^^^ q13) q15 hc16 H.size) (va_cwS 1 hts gX4_setFinalizable_J6_bitCount_0f7a4 rfl rfl rfl (by decide +kernel) ⟨Nat.le_of_ble_eq_true rfl, Nat.le_of_ble_eq_true rfl⟩) rfl hl.1 rfl (Nat.le_of_ble_eq_true rfl) dX4_setFinalizable_83 ⟨Nat.le_of_ble_eq_true rfl, Nat.le_of_ble_eq_true rfl⟩) hP hS hA (fun H locs hP hS => ?_)
          cases hm
          refine W.widen (k := 9) (n := 445) (Nat.le_of_ble_eq_true rfl) (Nat.le_of_ble_eq_true rfl) ?_
          exact rt_j R11 hR12 hx hb hr hlocks hP hD hS dX4_setFinalizable_86
        · replace hm := it_t c8 hm
          refine lv_bipush (v := (-2)) hx hb dX4_setFinalizable_46 (by decide) ?_
          cases hm
          refine W.widen (k := 9) (n := 445) (Nat.le_of_ble_eq_true rfl) (Nat.le_of_ble_eq_true rfl) ?_
          exact rt_j R rfl hx hb hr hlocks hP hD hS dX4_setFinalizable_48
      · replace hm := it_t c7 hm
        refine lv_iconst (v := 1) hx hb dX4_setFinalizable_38 (by decide) ?_
        refine lv_goto (tgt := 43) hx hb dX4_setFinalizable_39 (by decide) ?_
        refine lv_icmp_ne (tgt := 49) hx hb dX4_setFinalizable_43 (by decide) (fun c17 => ?_) (fun c17 => ?_)
        · replace hm := it_f c17 hm
          refine lv_aload_n hx hb dX4_setFinalizable_49 rfl (lv_at hl 0 rfl) ?_
          refine va_get (D := G.1) (ci := 4) (v := .ref hh) (C := RX4) (T := TX4) (N := 4) hx hb hts w1_X4_setFinalizable hown hK.1 hP 0 rfl rfl 1 (by decide) (hts _ w4_X4_setFinalizable) (fun _ h9 => h9) rfl dX4_setFinalizable_50 ?_
          refine lv_aload_n hx hb dX4_setFinalizable_53 rfl (lv_at hl 0 rfl) ?_
          refine va_get (D := G.1) (ci := 4) (v := .ref (a 0)) (C := RX4) (T := TX4) (N := 4) hx hb hts w1_X4_setFinalizable hown hK.1 hP 0 rfl rfl 0 (by decide) (hts _ w0_X4_setFinalizable) (fun _ h9 => h9) rfl dX4_setFinalizable_54 ?_
          obtain ⟨q18, hc19, hm⟩ := bd_s hm
          refine kp_n (S := SP) (ok := fun R9 : SP => vals R9 = q18.1) (X := (wXQ G x hh ra sl a k R ki fi ke va ta ro qu nsz fin rnd rd mkd lr un nx dp)) (pl := fl G.2.1 R 8) (cx := (wST G.2.1 a ki fi ke va ta ro qu nsz fin rnd ++ wHX G hh ra sl R nx dp)) (rx := (fun R9 : SP => wST G.2.1 a ki fi ke va ta ro qu nsz fin rnd ++ wHX G hh ra sl R9 q18.2.1 q18.2.2)) (pl1 := fun R9 : SP => fl G.2.1 R9 8) (wr := [(x, .inr (4, [.ref (a 0), .ref hh, .ref sl, .ref (k 0)])), ((k 0), .inr (1, [.ref (k 1), .int mkd, .int lr, .int un])), ((k 1), .inl (G.2.1, 24, .inl rd))]) (X' := fun R9 : SP => (wXQ G x hh ra sl a k R9 ki fi ke va ta ro qu nsz fin rnd rd mkd lr un q18.2.1 q18.2.2)) (rV (As := [.ref (a 0)]) (rest := []) (b := hh) (wi := ((wST G.2.1 a ki fi ke va ta ro qu nsz fin rnd ++ wHX G hh ra sl R nx dp) ++ fl G.2.1 R 8)) hF hK (hP.part [1, 2, 3, 4, 5, 6, 7, 8, 9, 12, 13, 14] rfl) (hD.part [1, 2, 3, 4, 5, 6, 7, 8, 9, 12, 13, 14] rfl rfl) (c_X0_push l G hh ra sl a R ki fi ke va ta ro qu nsz fin rnd nx dp q18 hc19 H.size) (cwV 1 hts gX4_setFinalizable_X0_push rfl rfl rfl (by decide +kernel) ⟨Nat.le_of_ble_eq_true rfl, Nat.le_of_ble_eq_true rfl⟩) (va_recv hK.1 hP (ci := 0) (q0 := 12) rfl rfl) rfl hl.1 rfl (Nat.le_of_ble_eq_true rfl) dX4_setFinalizable_57 ⟨Nat.le_of_ble_eq_true rfl, Nat.le_of_ble_eq_true rfl⟩) hP hD hS hA [1, 2, 3, 4, 5, 6, 7, 8, 9, 12, 13, 14] [0, 10, 11] [0, 3, 4, 5, 6, 7, 8, 9, 10, 11, 1, 2, 12, 13, 14] rfl rfl rfl (by decide) (fun _ => rfl) rfl (fun R20 H locs hR21 hP hD hS => ?_)
          have hP : va_P G.1 vwCl (wXP G x hh ra sl a k R20 ki fi ke va ta ro qu nsz fin rnd rd mkd lr un q18.2.1 q18.2.2) H := hP
          have hD : va_D A (wXP G x hh ra sl a k R20 ki fi ke va ta ro qu nsz fin rnd rd mkd lr un q18.2.1 q18.2.2) := hD
          refine lv_aload_n hx hb dX4_setFinalizable_60 rfl (lv_at hl 0 rfl) ?_
          refine va_get (D := G.1) (ci := 4) (v := .ref (a 0)) (C := RX4) (T := TX4) (N := 4) hx hb hts w1_X4_setFinalizable hown hK.1 hP 0 rfl rfl 0 (by decide) (hts _ w0_X4_setFinalizable) (fun _ h9 => h9) rfl dX4_setFinalizable_61 ?_
          refine lv_dup hx hb dX4_setFinalizable_64 rfl ?_
          refine va_get (D := G.1) (ci := 3) (v := .int fin) (C := RX3) (T := TX3) (N := 9) hx hb hts w3_X4_setFinalizable hown hK.1 hP 1 rfl rfl 7 (by decide) (hts _ w2_X4_setFinalizable) (fun _ h9 => h9) rfl dX4_setFinalizable_65 ?_
          refine lv_iload_n hx hb dX4_setFinalizable_68 rfl (lv_at hl 1 rfl) ?_
          obtain ⟨q22, hc23, hm⟩ := bd_s hm
          refine k0_i (ws := (wXP G x hh ra sl a k R20 ki fi ke va ta ro qu nsz fin rnd rd mkd lr un q18.2.1 q18.2.2)) (rS (As := [.int p1]) (rest := [.int fin, .ref (a 0)]) (wi := ([] : va_W)) hF hK k0_P (k0_D (A := A)) (c_X4_setOf l G p1 q22 hc23 H.size) (va_cwS 1 hts gX4_setFinalizable_X4_setOf rfl rfl rfl (by decide +kernel) ⟨Nat.le_of_ble_eq_true rfl, Nat.le_of_ble_eq_true rfl⟩) rfl hl.1 rfl (Nat.le_of_ble_eq_true rfl) dX4_setFinalizable_69 ⟨Nat.le_of_ble_eq_true rfl, Nat.le_of_ble_eq_true rfl⟩) hP hS hA (fun H locs hP hS => ?_)
          refine lv_ixor hx hb dX4_setFinalizable_72 ?_
          refine va_put (D := G.1) (ci := 3) (v := .int (fin ^^^ q22)) (ty := .int) (C := RX3) (T := TX3) (N := 9) hx hb hts w3_X4_setFinalizable tyX3 tyX3_ok nmX3 hown hK.1 hP hD hS 1 rfl rfl 7 (by decide) (hts _ w2_X4_setFinalizable) (fun _ h9 => h9) rfl (by decide +kernel) rfl rfl (Nat.le_of_ble_eq_true rfl) dX4_setFinalizable_73 (fun H locs hP hD hS => ?_)
          have hP : va_P G.1 vwCl (wXP G x hh ra sl a k R20 ki fi ke va ta ro qu nsz (fin ^^^ q22) rnd rd mkd lr un q18.2.1 q18.2.2) H := hP
          have hD : va_D A (wXP G x hh ra sl a k R20 ki fi ke va ta ro qu nsz (fin ^^^ q22) rnd rd mkd lr un q18.2.1 q18.2.2) := hD
          refine lv_aload_n hx hb dX4_setFinalizable_76 rfl (lv_at hl 0 rfl) ?_
          refine va_get (D := G.1) (ci := 4) (v := .ref (a 0)) (C := RX4) (T := TX4) (N := 4) hx hb hts w1_X4_setFinalizable hown hK.1 hP 0 rfl rfl 0 (by decide) (hts _ w0_X4_setFinalizable) (fun _ h9 => h9) rfl dX4_setFinalizable_77 ?_
          refine va_get (D := G.1) (ci := 3) (v := .int (fin ^^^ q22)) (C := RX3) (T := TX3) (N := 9) hx hb hts w3_X4_setFinalizable hown hK.1 hP 1 rfl rfl 7 (by decide) (hts _ w2_X4_setFinalizable) (fun _ h9 => h9) rfl dX4_setFinalizable_80 ?_
          obtain ⟨q24, hc25, hm⟩ := bd_s hm
          refine k0_i (ws := (wXP G x hh ra sl a k R20 ki fi ke va ta ro qu nsz (fin ^^^ q22) rnd rd mkd lr un q18.2.1 q18.2.2)) (rS (As := [.int (fin ^^^ q22)]) (rest := []) (wi := ([] : va_W)) hF hK k0_P (k0_D (A := A)) (c_J6_bitCount_0f7a4 l G (fin ^^^ q22) q24 hc25 H.size) (va_cwS 1 hts gX4_setFinalizable_J6_bitCount_0f7a4 rfl rfl rfl (by decide +kernel) ⟨Nat.le_of_ble_eq_true rfl, Nat.le_of_ble_eq_true rfl⟩) rfl hl.1 rfl (Nat.le_of_ble_eq_true rfl) dX4_setFinalizable_83 ⟨Nat.le_of_ble_eq_true rfl, Nat.le_of_ble_eq_true rfl⟩) hP hS hA (fun H locs hP hS => ?_)
          cases hm
          refine W.widen (k := 9) (n := 445) (Nat.le_of_ble_eq_true rfl) (Nat.le_of_ble_eq_true rfl) ?_
          exact rt_j R20 hR21 hx hb hr hlocks hP hD hS dX4_setFinalizable_86
        · replace hm := it_t c17 hm
          refine lv_bipush (v := (-2)) hx hb dX4_setFinalizable_46 (by decide) ?_
          cases hm
          refine W.widen (k := 9) (n := 445) (Nat.le_of_ble_eq_true rfl) (Nat.le_of_ble_eq_true rfl) ?_
          exact rt_j R rfl hx hb hr hlocks hP hD hS dX4_setFinalizable_48
    · replace hm := it_f c4 hm
      refine lv_iload_n hx hb dX4_setFinalizable_15 rfl (lv_at hl 2 rfl) ?_
      refine lv_iconst (v := 1) hx hb dX4_setFinalizable_16 (by decide) ?_
      refine lv_icmp_eq (tgt := 22) hx hb dX4_setFinalizable_17 (by decide) (fun c26 => ?_) (fun c26 => ?_)
      · replace hm := it_t c26 hm
        refine lv_aload_n hx hb dX4_setFinalizable_22 rfl (lv_at hl 0 rfl) ?_
        refine va_get (D := G.1) (ci := 4) (v := .ref (a 0)) (C := RX4) (T := TX4) (N := 4) hx hb hts w1_X4_setFinalizable hown hK.1 hP 0 rfl rfl 0 (by decide) (hts _ w0_X4_setFinalizable) (fun _ h9 => h9) rfl dX4_setFinalizable_23 ?_
        refine va_get (D := G.1) (ci := 3) (v := .int fin) (C := RX3) (T := TX3) (N := 9) hx hb hts w3_X4_setFinalizable hown hK.1 hP 1 rfl rfl 7 (by decide) (hts _ w2_X4_setFinalizable) (fun _ h9 => h9) rfl dX4_setFinalizable_26 ?_
        refine lv_iload_n hx hb dX4_setFinalizable_29 rfl (lv_at hl 1 rfl) ?_
        obtain ⟨q27, hc28, hm⟩ := bd_s hm
        refine k0_i (ws := (wXP G x hh ra sl a k R ki fi ke va ta ro qu nsz fin rnd rd mkd lr un nx dp)) (rS (As := [.int fin, .int p1]) (rest := []) (wi := ([] : va_W)) hF hK k0_P (k0_D (A := A)) (c_X4_contains l G fin p1 q27 hc28 H.size) (va_cwS 2 hts gX4_setFinalizable_X4_contains rfl rfl rfl (by decide +kernel) ⟨Nat.le_of_ble_eq_true rfl, Nat.le_of_ble_eq_true rfl⟩) rfl hl.1 rfl (Nat.le_of_ble_eq_true rfl) dX4_setFinalizable_30 ⟨Nat.le_of_ble_eq_true rfl, Nat.le_of_ble_eq_true rfl⟩) hP hS hA (fun H locs hP hS => ?_)
        refine lv_iload_n hx hb dX4_setFinalizable_33 rfl (lv_at hl 2 rfl) ?_
        refine lv_iconst (v := 1) hx hb dX4_setFinalizable_34 (by decide) ?_
        refine lv_icmp_ne (tgt := 42) hx hb dX4_setFinalizable_35 (by decide) (fun c29 => ?_) (fun c29 => ?_)
        · replace hm := it_f c29 hm
          refine lv_iconst (v := 0) hx hb dX4_setFinalizable_42 (by decide) ?_
          refine lv_icmp_ne (tgt := 49) hx hb dX4_setFinalizable_43 (by decide) (fun c30 => ?_) (fun c30 => ?_)
          · replace hm := it_f c30 hm
            refine lv_aload_n hx hb dX4_setFinalizable_49 rfl (lv_at hl 0 rfl) ?_
            refine va_get (D := G.1) (ci := 4) (v := .ref hh) (C := RX4) (T := TX4) (N := 4) hx hb hts w1_X4_setFinalizable hown hK.1 hP 0 rfl rfl 1 (by decide) (hts _ w4_X4_setFinalizable) (fun _ h9 => h9) rfl dX4_setFinalizable_50 ?_
            refine lv_aload_n hx hb dX4_setFinalizable_53 rfl (lv_at hl 0 rfl) ?_
            refine va_get (D := G.1) (ci := 4) (v := .ref (a 0)) (C := RX4) (T := TX4) (N := 4) hx hb hts w1_X4_setFinalizable hown hK.1 hP 0 rfl rfl 0 (by decide) (hts _ w0_X4_setFinalizable) (fun _ h9 => h9) rfl dX4_setFinalizable_54 ?_
            obtain ⟨q31, hc32, hm⟩ := bd_s hm
            refine kp_n (S := SP) (ok := fun R9 : SP => vals R9 = q31.1) (X := (wXQ G x hh ra sl a k R ki fi ke va ta ro qu nsz fin rnd rd mkd lr un nx dp)) (pl := fl G.2.1 R 8) (cx := (wST G.2.1 a ki fi ke va ta ro qu nsz fin rnd ++ wHX G hh ra sl R nx dp)) (rx := (fun R9 : SP => wST G.2.1 a ki fi ke va ta ro qu nsz fin rnd ++ wHX G hh ra sl R9 q31.2.1 q31.2.2)) (pl1 := fun R9 : SP => fl G.2.1 R9 8) (wr := [(x, .inr (4, [.ref (a 0), .ref hh, .ref sl, .ref (k 0)])), ((k 0), .inr (1, [.ref (k 1), .int mkd, .int lr, .int un])), ((k 1), .inl (G.2.1, 24, .inl rd))]) (X' := fun R9 : SP => (wXQ G x hh ra sl a k R9 ki fi ke va ta ro qu nsz fin rnd rd mkd lr un q31.2.1 q31.2.2)) (rV (As := [.ref (a 0)]) (rest := []) (b := hh) (wi := ((wST G.2.1 a ki fi ke va ta ro qu nsz fin rnd ++ wHX G hh ra sl R nx dp) ++ fl G.2.1 R 8)) hF hK (hP.part [1, 2, 3, 4, 5, 6, 7, 8, 9, 12, 13, 14] rfl) (hD.part [1, 2, 3, 4, 5, 6, 7, 8, 9, 12, 13, 14] rfl rfl) (c_X0_push l G hh ra sl a R ki fi ke va ta ro qu nsz fin rnd nx dp q31 hc32 H.size) (cwV 1 hts gX4_setFinalizable_X0_push rfl rfl rfl (by decide +kernel) ⟨Nat.le_of_ble_eq_true rfl, Nat.le_of_ble_eq_true rfl⟩) (va_recv hK.1 hP (ci := 0) (q0 := 12) rfl rfl) rfl hl.1 rfl (Nat.le_of_ble_eq_true rfl) dX4_setFinalizable_57 ⟨Nat.le_of_ble_eq_true rfl, Nat.le_of_ble_eq_true rfl⟩) hP hD hS hA [1, 2, 3, 4, 5, 6, 7, 8, 9, 12, 13, 14] [0, 10, 11] [0, 3, 4, 5, 6, 7, 8, 9, 10, 11, 1, 2, 12, 13, 14] rfl rfl rfl (by decide) (fun _ => rfl) rfl (fun R33 H locs hR34 hP hD hS => ?_)
            have hP : va_P G.1 vwCl (wXP G x hh ra sl a k R33 ki fi ke va ta ro qu nsz fin rnd rd mkd lr un q31.2.1 q31.2.2) H := hP
            have hD : va_D A (wXP G x hh ra sl a k R33 ki fi ke va ta ro qu nsz fin rnd rd mkd lr un q31.2.1 q31.2.2) := hD
            refine lv_aload_n hx hb dX4_setFinalizable_60 rfl (lv_at hl 0 rfl) ?_
            refine va_get (D := G.1) (ci := 4) (v := .ref (a 0)) (C := RX4) (T := TX4) (N := 4) hx hb hts w1_X4_setFinalizable hown hK.1 hP 0 rfl rfl 0 (by decide) (hts _ w0_X4_setFinalizable) (fun _ h9 => h9) rfl dX4_setFinalizable_61 ?_
            refine lv_dup hx hb dX4_setFinalizable_64 rfl ?_
            refine va_get (D := G.1) (ci := 3) (v := .int fin) (C := RX3) (T := TX3) (N := 9) hx hb hts w3_X4_setFinalizable hown hK.1 hP 1 rfl rfl 7 (by decide) (hts _ w2_X4_setFinalizable) (fun _ h9 => h9) rfl dX4_setFinalizable_65 ?_
            refine lv_iload_n hx hb dX4_setFinalizable_68 rfl (lv_at hl 1 rfl) ?_
            obtain ⟨q35, hc36, hm⟩ := bd_s hm
            refine k0_i (ws := (wXP G x hh ra sl a k R33 ki fi ke va ta ro qu nsz fin rnd rd mkd lr un q31.2.1 q31.2.2)) (rS (As := [.int p1]) (rest := [.int fin, .ref (a 0)]) (wi := ([] : va_W)) hF hK k0_P (k0_D (A := A)) (c_X4_setOf l G p1 q35 hc36 H.size) (va_cwS 1 hts gX4_setFinalizable_X4_setOf rfl rfl rfl (by decide +kernel) ⟨Nat.le_of_ble_eq_true rfl, Nat.le_of_ble_eq_true rfl⟩) rfl hl.1 rfl (Nat.le_of_ble_eq_true rfl) dX4_setFinalizable_69 ⟨Nat.le_of_ble_eq_true rfl, Nat.le_of_ble_eq_true rfl⟩) hP hS hA (fun H locs hP hS => ?_)
            refine lv_ixor hx hb dX4_setFinalizable_72 ?_
            refine va_put (D := G.1) (ci := 3) (v := .int (fin ^^^ q35)) (ty := .int) (C := RX3) (T := TX3) (N := 9) hx hb hts w3_X4_setFinalizable tyX3 tyX3_ok nmX3 hown hK.1 hP hD hS 1 rfl rfl 7 (by decide) (hts _ w2_X4_setFinalizable) (fun _ h9 => h9) rfl (by decide +kernel) rfl rfl (Nat.le_of_ble_eq_true rfl) dX4_setFinalizable_73 (fun H locs hP hD hS => ?_)
            have hP : va_P G.1 vwCl (wXP G x hh ra sl a k R33 ki fi ke va ta ro qu nsz (fin ^^^ q35) rnd rd mkd lr un q31.2.1 q31.2.2) H := hP
            have hD : va_D A (wXP G x hh ra sl a k R33 ki fi ke va ta ro qu nsz (fin ^^^ q35) rnd rd mkd lr un q31.2.1 q31.2.2) := hD
            refine lv_aload_n hx hb dX4_setFinalizable_76 rfl (lv_at hl 0 rfl) ?_
            refine va_get (D := G.1) (ci := 4) (v := .ref (a 0)) (C := RX4) (T := TX4) (N := 4) hx hb hts w1_X4_setFinalizable hown hK.1 hP 0 rfl rfl 0 (by decide) (hts _ w0_X4_setFinalizable) (fun _ h9 => h9) rfl dX4_setFinalizable_77 ?_
            refine va_get (D := G.1) (ci := 3) (v := .int (fin ^^^ q35)) (C := RX3) (T := TX3) (N := 9) hx hb hts w3_X4_setFinalizable hown hK.1 hP 1 rfl rfl 7 (by decide) (hts _ w2_X4_setFinalizable) (fun _ h9 => h9) rfl dX4_setFinalizable_80 ?_
            obtain ⟨q37, hc38, hm⟩ := bd_s hm
            refine k0_i (ws := (wXP G x hh ra sl a k R33 ki fi ke va ta ro qu nsz (fin ^^^ q35) rnd rd mkd lr un q31.2.1 q31.2.2)) (rS (As := [.int (fin ^^^ q35)]) (rest := []) (wi := ([] : va_W)) hF hK k0_P (k0_D (A := A)) (c_J6_bitCount_0f7a4 l G (fin ^^^ q35) q37 hc38 H.size) (va_cwS 1 hts gX4_setFinalizable_J6_bitCount_0f7a4 rfl rfl rfl (by decide +kernel) ⟨Nat.le_of_ble_eq_true rfl, Nat.le_of_ble_eq_true rfl⟩) rfl hl.1 rfl (Nat.le_of_ble_eq_true rfl) dX4_setFinalizable_83 ⟨Nat.le_of_ble_eq_true rfl, Nat.le_of_ble_eq_true rfl⟩) hP hS hA (fun H locs hP hS => ?_)
            cases hm
            refine W.widen (k := 9) (n := 445) (Nat.le_of_ble_eq_true rfl) (Nat.le_of_ble_eq_true rfl) ?_
            exact rt_j R33 hR34 hx hb hr hlocks hP hD hS dX4_setFinalizable_86
          · replace hm := it_t c30 hm
            refine lv_bipush (v := (-2)) hx hb dX4_setFinalizable_46 (by decide) ?_
            cases hm
            refine W.widen (k := 9) (n := 445) (Nat.le_of_ble_eq_true rfl) (Nat.le_of_ble_eq_true rfl) ?_
            exact rt_j R rfl hx hb hr hlocks hP hD hS dX4_setFinalizable_48
        · replace hm := it_t c29 hm
          refine lv_iconst (v := 1) hx hb dX4_setFinalizable_38 (by decide) ?_
          refine lv_goto (tgt := 43) hx hb dX4_setFinalizable_39 (by decide) ?_
          refine lv_icmp_ne (tgt := 49) hx hb dX4_setFinalizable_43 (by decide) (fun c39 => ?_) (fun c39 => ?_)
          · replace hm := it_f c39 hm
            refine lv_aload_n hx hb dX4_setFinalizable_49 rfl (lv_at hl 0 rfl) ?_
            refine va_get (D := G.1) (ci := 4) (v := .ref hh) (C := RX4) (T := TX4) (N := 4) hx hb hts w1_X4_setFinalizable hown hK.1 hP 0 rfl rfl 1 (by decide) (hts _ w4_X4_setFinalizable) (fun _ h9 => h9) rfl dX4_setFinalizable_50 ?_
            refine lv_aload_n hx hb dX4_setFinalizable_53 rfl (lv_at hl 0 rfl) ?_
            refine va_get (D := G.1) (ci := 4) (v := .ref (a 0)) (C := RX4) (T := TX4) (N := 4) hx hb hts w1_X4_setFinalizable hown hK.1 hP 0 rfl rfl 0 (by decide) (hts _ w0_X4_setFinalizable) (fun _ h9 => h9) rfl dX4_setFinalizable_54 ?_
            obtain ⟨q40, hc41, hm⟩ := bd_s hm
            refine kp_n (S := SP) (ok := fun R9 : SP => vals R9 = q40.1) (X := (wXQ G x hh ra sl a k R ki fi ke va ta ro qu nsz fin rnd rd mkd lr un nx dp)) (pl := fl G.2.1 R 8) (cx := (wST G.2.1 a ki fi ke va ta ro qu nsz fin rnd ++ wHX G hh ra sl R nx dp)) (rx := (fun R9 : SP => wST G.2.1 a ki fi ke va ta ro qu nsz fin rnd ++ wHX G hh ra sl R9 q40.2.1 q40.2.2)) (pl1 := fun R9 : SP => fl G.2.1 R9 8) (wr := [(x, .inr (4, [.ref (a 0), .ref hh, .ref sl, .ref (k 0)])), ((k 0), .inr (1, [.ref (k 1), .int mkd, .int lr, .int un])), ((k 1), .inl (G.2.1, 24, .inl rd))]) (X' := fun R9 : SP => (wXQ G x hh ra sl a k R9 ki fi ke va ta ro qu nsz fin rnd rd mkd lr un q40.2.1 q40.2.2)) (rV (As := [.ref (a 0)]) (rest := []) (b := hh) (wi := ((wST G.2.1 a ki fi ke va ta ro qu nsz fin rnd ++ wHX G hh ra sl R nx dp) ++ fl G.2.1 R 8)) hF hK (hP.part [1, 2, 3, 4, 5, 6, 7, 8, 9, 12, 13, 14] rfl) (hD.part [1, 2, 3, 4, 5, 6, 7, 8, 9, 12, 13, 14] rfl rfl) (c_X0_push l G hh ra sl a R ki fi ke va ta ro qu nsz fin rnd nx dp q40 hc41 H.size) (cwV 1 hts gX4_setFinalizable_X0_push rfl rfl rfl (by decide +kernel) ⟨Nat.le_of_ble_eq_true rfl, Nat.le_of_ble_eq_true rfl⟩) (va_recv hK.1 hP (ci := 0) (q0 := 12) rfl rfl) rfl hl.1 rfl (Nat.le_of_ble_eq_true rfl) dX4_setFinalizable_57 ⟨Nat.le_of_ble_eq_true rfl, Nat.le_of_ble_eq_true rfl⟩) hP hD hS hA [1, 2, 3, 4, 5, 6, 7, 8, 9, 12, 13, 14] [0, 10, 11] [0, 3, 4, 5, 6, 7, 8, 9, 10, 11, 1, 2, 12, 13, 14] rfl rfl rfl (by decide) (fun _ => rfl) rfl (fun R42 H locs hR43 hP hD hS => ?_)
            have hP : va_P G.1 vwCl (wXP G x hh ra sl a k R42 ki fi ke va ta ro qu nsz fin rnd rd mkd lr un q40.2.1 q40.2.2) H := hP
            have hD : va_D A (wXP G x hh ra sl a k R42 ki fi ke va ta ro qu nsz fin rnd rd mkd lr un q40.2.1 q40.2.2) := hD
            refine lv_aload_n hx hb dX4_setFinalizable_60 rfl (lv_at hl 0 rfl) ?_
            refine va_get (D := G.1) (ci := 4) (v := .ref (a 0)) (C := RX4) (T := TX4) (N := 4) hx hb hts w1_X4_setFinalizable hown hK.1 hP 0 rfl rfl 0 (by decide) (hts _ w0_X4_setFinalizable) (fun _ h9 => h9) rfl dX4_setFinalizable_61 ?_
            refine lv_dup hx hb dX4_setFinalizable_64 rfl ?_
            refine va_get (D := G.1) (ci := 3) (v := .int fin) (C := RX3) (T := TX3) (N := 9) hx hb hts w3_X4_setFinalizable hown hK.1 hP 1 rfl rfl 7 (by decide) (hts _ w2_X4_setFinalizable) (fun _ h9 => h9) rfl dX4_setFinalizable_65 ?_
            refine lv_iload_n hx hb dX4_setFinalizable_68 rfl (lv_at hl 1 rfl) ?_
            obtain ⟨q44, hc45, hm⟩ := bd_s hm
            refine k0_i (ws := (wXP G x hh ra sl a k R42 ki fi ke va ta ro qu nsz fin rnd rd mkd lr un q40.2.1 q40.2.2)) (rS (As := [.int p1]) (rest := [.int fin, .ref (a 0)]) (wi := ([] : va_W)) hF hK k0_P (k0_D (A := A)) (c_X4_setOf l G p1 q44 hc45 H.size) (va_cwS 1 hts gX4_setFinalizable_X4_setOf rfl rfl rfl (by decide +kernel) ⟨Nat.le_of_ble_eq_true rfl, Nat.le_of_ble_eq_true rfl⟩) rfl hl.1 rfl (Nat.le_of_ble_eq_true rfl) dX4_setFinalizable_69 ⟨Nat.le_of_ble_eq_true rfl, Nat.le_of_ble_eq_true rfl⟩) hP hS hA (fun H locs hP hS => ?_)
            refine lv_ixor hx hb dX4_setFinalizable_72 ?_
            refine va_put (D := G.1) (ci := 3) (v := .int (fin ^^^ q44)) (ty := .int) (C := RX3) (T := TX3) (N := 9) hx hb hts w3_X4_setFinalizable tyX3 tyX3_ok nmX3 hown hK.1 hP hD hS 1 rfl rfl 7 (by decide) (hts _ w2_X4_setFinalizable) (fun _ h9 => h9) rfl (by decide +kernel) rfl rfl (Nat.le_of_ble_eq_true rfl) dX4_setFinalizable_73 (fun H locs hP hD hS => ?_)
            have hP : va_P G.1 vwCl (wXP G x hh ra sl a k R42 ki fi ke va ta ro qu nsz (fin ^^^ q44) rnd rd mkd lr un q40.2.1 q40.2.2) H := hP
            have hD : va_D A (wXP G x hh ra sl a k R42 ki fi ke va ta ro qu nsz (fin ^^^ q44) rnd rd mkd lr un q40.2.1 q40.2.2) := hD
            refine lv_aload_n hx hb dX4_setFinalizable_76 rfl (lv_at hl 0 rfl) ?_
            refine va_get (D := G.1) (ci := 4) (v := .ref (a 0)) (C := RX4) (T := TX4) (N := 4) hx hb hts w1_X4_setFinalizable hown hK.1 hP 0 rfl rfl 0 (by decide) (hts _ w0_X4_setFinalizable) (fun _ h9 => h9) rfl dX4_setFinalizable_77 ?_
            refine va_get (D := G.1) (ci := 3) (v := .int (fin ^^^ q44)) (C := RX3) (T := TX3) (N := 9) hx hb hts w3_X4_setFinalizable hown hK.1 hP 1 rfl rfl 7 (by decide) (hts _ w2_X4_setFinalizable) (fun _ h9 => h9) rfl dX4_setFinalizable_80 ?_
            obtain ⟨q46, hc47, hm⟩ := bd_s hm
            refine k0_i (ws := (wXP G x hh ra sl a k R42 ki fi ke va ta ro qu nsz (fin ^^^ q44) rnd rd mkd lr un q40.2.1 q40.2.2)) (rS (As := [.int (fin ^^^ q44)]) (rest := []) (wi := ([] : va_W)) hF hK k0_P (k0_D (A := A)) (c_J6_bitCount_0f7a4 l G (fin ^^^ q44) q46 hc47 H.size) (va_cwS 1 hts gX4_setFinalizable_J6_bitCount_0f7a4 rfl rfl rfl (by decide +kernel) ⟨Nat.le_of_ble_eq_true rfl, Nat.le_of_ble_eq_true rfl⟩) rfl hl.1 rfl (Nat.le_of_ble_eq_true rfl) dX4_setFinalizable_83 ⟨Nat.le_of_ble_eq_true rfl, Nat.le_of_ble_eq_true rfl⟩) hP hS hA (fun H locs hP hS => ?_)
            cases hm
            refine W.widen (k := 9) (n := 445) (Nat.le_of_ble_eq_true rfl) (Nat.le_of_ble_eq_true rfl) ?_
            exact rt_j R42 hR43 hx hb hr hlocks hP hD hS dX4_setFinalizable_86
          · replace hm := it_t c39 hm
            refine lv_bipush (v := (-2)) hx hb dX4_setFinalizable_46 (by decide) ?_
            cases hm
            refine W.widen (k := 9) (n := 445) (Nat.le_of_ble_eq_true rfl) (Nat.le_of_ble_eq_true rfl) ?_
            exact rt_j R rfl hx hb hr hlocks hP hD hS dX4_setFinalizable_48
      · replace hm := it_f c26 hm
        refine lv_iconst (v := (-1)) hx hb dX4_setFinalizable_20 (by decide) ?_
        cases hm
        refine W.widen (k := 9) (n := 445) (Nat.le_of_ble_eq_true rfl) (Nat.le_of_ble_eq_true rfl) ?_
        exact rt_j R rfl hx hb hr hlocks hP hD hS dX4_setFinalizable_21
def M_X4_put (N : Nat) (ki : Nat → Int32) (fi : Nat → Int32) (ke : Nat → Int32) (va : Nat → Int32) (ta : Nat → Int32) (ro : Nat → Int32) (qu : Nat → Int32) (nsz : Int32) (fin : Int32) (rnd : Int32) (nx : Int32) (dp : Int32) (rv : Nat → Option SV) (p1 : Int32) (p2 : Int32) (p3 : Int32) : Option (Int32 × (Nat → Int32) × (Nat → Int32) × Int32 × Int32 × (Nat → Option SV)) :=
  (M_X3_isTableAndKey ki p1 p2).bind fun q1 => if q1 = 0 then (some ((-1), ke, va, nx, dp, rv)) else ((M_X3_isAllocated ki p3).bind fun q4 => if q4 = 0 then (some ((-1), ke, va, nx, dp, rv)) else ((M_X3_placeOfKey N ke p1 p2).bind fun q7 => if q7 = (-9) then ((M_X3_placeOfKey N ke p1 (-9)).bind fun q18 => if q18 = (-9) then (some ((-3), ke, va, nx, dp, rv)) else ((M_X0_push rv nx dp (pkS ki fi ke va ta ro qu nsz fin rnd)).bind fun q21 => gd q18 144 (gd q18 144 (gd q18 144 (some ((va q18.toNatClampNeg), (upd ke q18.toNatClampNeg p2), (upd va q18.toNatClampNeg p3), q21.2.1, q21.2.2, q21.1)))))) else (if q7 = (-9) then (some ((-3), ke, va, nx, dp, rv)) else ((M_X0_push rv nx dp (pkS ki fi ke va ta ro qu nsz fin rnd)).bind fun q11 => gd q7 144 (gd q7 144 (gd q7 144 (some ((va q7.toNatClampNeg), (upd ke q7.toNatClampNeg p2), (upd va q7.toNatClampNeg p3), q11.2.1, q11.2.2, q11.1))))))))
theorem w0_X4_put : Cond.fieldLink RX4 10 "WeakTableHeap" "state" "LWeakTableHeap$State;" ∈ wsX4_put := by decide +kernel
theorem w1_X4_put : ∀ w ∈ u_ws RX4 TX4 4, w ∈ wsX4_put := by decide +kernel
theorem w2_X4_put : Cond.fieldLink RX4 19 "WeakTableHeap" "history" "LWeakTableHeap$History;" ∈ wsX4_put := by decide +kernel
theorem w3_X4_put : Cond.fieldLink RX4 99 "WeakTableHeap$State" "values" "[I" ∈ wsX4_put := by decide +kernel
theorem w4_X4_put : ∀ w ∈ u_ws RX3 TX3 9, w ∈ wsX4_put := by decide +kernel
theorem w5_X4_put : Cond.fieldLink RX4 102 "WeakTableHeap$State" "keys" "[I" ∈ wsX4_put := by decide +kernel
abbrev rm_X4_put : Room := { frames := 5, cells := 9, slots := 445, locals := 102 }
set_option maxHeartbeats 4000000 in
set_option maxRecDepth 100000 in
theorem c_X4_put (l : Launch) (G : GG) (N : Nat) (x : Nat) (hh : Nat) (ra : Nat) (sl : Nat) (a : Nat → Nat) (k : Nat → Nat) (R : SP) (ki : Nat → Int32) (fi : Nat → Int32) (ke : Nat → Int32) (va : Nat → Int32) (ta : Nat → Int32) (ro : Nat → Int32) (qu : Nat → Int32) (nsz : Int32) (fin : Int32) (rnd : Int32) (rd : Nat → Int32) (mkd : Int32) (lr : Int32) (un : Int32) (nx : Int32) (dp : Int32) (p1 : Int32) (p2 : Int32) (p3 : Int32) (q : Int32 × (Nat → Int32) × (Nat → Int32) × Int32 × Int32 × (Nat → Option SV)) (hm : M_X4_put N ki fi ke va ta ro qu nsz fin rnd nx dp (vals R) p1 p2 p3 = some q) : CTj l yX4_put wsX4_put rm_X4_put G [.ref x, .int p1, .int p2, .int p3] (wXP G x hh ra sl a k R ki fi ke va ta ro qu nsz fin rnd rd mkd lr un nx dp) q.1 (fun R9 : SP => vals R9 = q.2.2.2.2.2) (fun R9 : SP => (wXP G x hh ra sl a k R9 ki fi q.2.1 q.2.2.1 ta ro qu nsz fin rnd rd mkd lr un q.2.2.2.1 q.2.2.2.2.1)) := by
  intro sz
  refine mk_body (Qc := fun A => (QJ G A q.1 (fun R9 : SP => vals R9 = q.2.2.2.2.2) (fun R9 : SP => (wXP G x hh ra sl a k R9 ki fi q.2.1 q.2.2.1 ta ro qu nsz fin rnd rd mkd lr un q.2.2.2.1 q.2.2.2.2.1)))) (cc := cX4_put) (maxL := 6) (ret := (some .int)) (lv := [(0, .ref x), (1, .int p1), (2, .int p2), (3, .int p3)]) (by decide) rfl rfl (Nat.le_of_ble_eq_true rfl) ?_
  intro p e s m args below meth c A H locs ls hF hr hlocks hname hK hA hP hD hS hl
  obtain ⟨hx, hb, hml, hown, hts⟩ := id hF
  unfold M_X4_put at hm
  refine lv_aload_n hx hb dX4_put_0 rfl (lv_at hl 0 rfl) ?_
  refine va_get (D := G.1) (ci := 4) (v := .ref (a 0)) (C := RX4) (T := TX4) (N := 4) hx hb hts w1_X4_put hown hK.1 hP 0 rfl rfl 0 (by decide) (hts _ w0_X4_put) (fun _ h9 => h9) rfl dX4_put_1 ?_
  refine lv_iload_n hx hb dX4_put_4 rfl (lv_at hl 1 rfl) ?_
  refine lv_iload_n hx hb dX4_put_5 rfl (lv_at hl 2 rfl) ?_
  obtain ⟨q1, hc2, hm⟩ := bd_s hm
  refine kq_i (X := (wXQ G x hh ra sl a k R ki fi ke va ta ro qu nsz fin rnd rd mkd lr un nx dp)) (pl := fl G.2.1 R 8) (cx := (wST G.2.1 a ki fi ke va ta ro qu nsz fin rnd)) (wo := (wST G.2.1 a ki fi ke va ta ro qu nsz fin rnd)) (wr := [(x, .inr (4, [.ref (a 0), .ref hh, .ref sl, .ref (k 0)])), ((k 0), .inr (1, [.ref (k 1), .int mkd, .int lr, .int un])), ((k 1), .inl (G.2.1, 24, .inl rd)), (hh, .inr (0, [.ref ra, .int nx, .int dp])), (ra, .inl (G.2.2.2, 6, .inr (.inr (.inr (.inr (rg R)))))), (sl, .inl (G.2.2.2, 2, .inr (.inr (.inr (.inr (sg R))))))]) (X' := (wXQ G x hh ra sl a k R ki fi ke va ta ro qu nsz fin rnd rd mkd lr un nx dp)) (rV (As := [.int p1, .int p2]) (rest := []) (b := (a 0)) (wi := (wST G.2.1 a ki fi ke va ta ro qu nsz fin rnd)) hF hK (hP.sub [1, 2, 3, 4, 5, 6, 7, 8, 9] rfl) (hD.sub [1, 2, 3, 4, 5, 6, 7, 8, 9] rfl rfl) (c_X3_isTableAndKey l G a ki fi ke va ta ro qu nsz fin rnd p1 p2 q1 hc2 H.size) (cwV 2 hts gX4_put_X3_isTableAndKey rfl rfl rfl (by decide +kernel) ⟨Nat.le_of_ble_eq_true rfl, Nat.le_of_ble_eq_true rfl⟩) (va_recv hK.1 hP (ci := 3) (q0 := 1) rfl rfl) rfl hl.1 rfl (Nat.le_of_ble_eq_true rfl) dX4_put_6 ⟨Nat.le_of_ble_eq_true rfl, Nat.le_of_ble_eq_true rfl⟩) hP hD hS hA [1, 2, 3, 4, 5, 6, 7, 8, 9] [0, 10, 11, 12, 13, 14] [0, 6, 7, 8, 9, 10, 11, 12, 13, 14, 1, 2, 3, 4, 5] rfl rfl rfl (by decide) rfl rfl (fun H locs hP hD hS => ?_)
  have hP : va_P G.1 vwCl (wXP G x hh ra sl a k R ki fi ke va ta ro qu nsz fin rnd rd mkd lr un nx dp) H := hP
  have hD : va_D A (wXP G x hh ra sl a k R ki fi ke va ta ro qu nsz fin rnd rd mkd lr un nx dp) := hD
  refine lv_if_eq (tgt := 23) hx hb dX4_put_9 (by decide) (fun c3 => ?_) (fun c3 => ?_)
  · replace hm := it_t c3 hm
    refine lv_iconst (v := (-1)) hx hb dX4_put_23 (by decide) ?_
    cases hm
    refine W.widen (k := 9) (n := 445) (Nat.le_of_ble_eq_true rfl) (Nat.le_of_ble_eq_true rfl) ?_
    exact rt_j R rfl hx hb hr hlocks hP hD hS dX4_put_24
  · replace hm := it_f c3 hm
    refine lv_aload_n hx hb dX4_put_12 rfl (lv_at hl 0 rfl) ?_
    refine va_get (D := G.1) (ci := 4) (v := .ref (a 0)) (C := RX4) (T := TX4) (N := 4) hx hb hts w1_X4_put hown hK.1 hP 0 rfl rfl 0 (by decide) (hts _ w0_X4_put) (fun _ h9 => h9) rfl dX4_put_13 ?_
    refine lv_iload_n hx hb dX4_put_16 rfl (lv_at hl 3 rfl) ?_
    obtain ⟨q4, hc5, hm⟩ := bd_s hm
    refine kq_i (X := (wXQ G x hh ra sl a k R ki fi ke va ta ro qu nsz fin rnd rd mkd lr un nx dp)) (pl := fl G.2.1 R 8) (cx := (wST G.2.1 a ki fi ke va ta ro qu nsz fin rnd)) (wo := (wST G.2.1 a ki fi ke va ta ro qu nsz fin rnd)) (wr := [(x, .inr (4, [.ref (a 0), .ref hh, .ref sl, .ref (k 0)])), ((k 0), .inr (1, [.ref (k 1), .int mkd, .int lr, .int un])), ((k 1), .inl (G.2.1, 24, .inl rd)), (hh, .inr (0, [.ref ra, .int nx, .int dp])), (ra, .inl (G.2.2.2, 6, .inr (.inr (.inr (.inr (rg R)))))), (sl, .inl (G.2.2.2, 2, .inr (.inr (.inr (.inr (sg R))))))]) (X' := (wXQ G x hh ra sl a k R ki fi ke va ta ro qu nsz fin rnd rd mkd lr un nx dp)) (rV (As := [.int p3]) (rest := []) (b := (a 0)) (wi := (wST G.2.1 a ki fi ke va ta ro qu nsz fin rnd)) hF hK (hP.sub [1, 2, 3, 4, 5, 6, 7, 8, 9] rfl) (hD.sub [1, 2, 3, 4, 5, 6, 7, 8, 9] rfl rfl) (c_X3_isAllocated l G a ki fi ke va ta ro qu nsz fin rnd p3 q4 hc5 H.size) (cwV 1 hts gX4_put_X3_isAllocated rfl rfl rfl (by decide +kernel) ⟨Nat.le_of_ble_eq_true rfl, Nat.le_of_ble_eq_true rfl⟩) (va_recv hK.1 hP (ci := 3) (q0 := 1) rfl rfl) rfl hl.1 rfl (Nat.le_of_ble_eq_true rfl) dX4_put_17 ⟨Nat.le_of_ble_eq_true rfl, Nat.le_of_ble_eq_true rfl⟩) hP hD hS hA [1, 2, 3, 4, 5, 6, 7, 8, 9] [0, 10, 11, 12, 13, 14] [0, 6, 7, 8, 9, 10, 11, 12, 13, 14, 1, 2, 3, 4, 5] rfl rfl rfl (by decide) rfl rfl (fun H locs hP hD hS => ?_)
    have hP : va_P G.1 vwCl (wXP G x hh ra sl a k R ki fi ke va ta ro qu nsz fin rnd rd mkd lr un nx dp) H := hP
    have hD : va_D A (wXP G x hh ra sl a k R ki fi ke va ta ro qu nsz fin rnd rd mkd lr un nx dp) := hD
    refine lv_if_ne (tgt := 25) hx hb dX4_put_20 (by decide) (fun c6 => ?_) (fun c6 => ?_)
    · replace hm := it_f c6 hm
      refine lv_aload_n hx hb dX4_put_25 rfl (lv_at hl 0 rfl) ?_
      refine va_get (D := G.1) (ci := 4) (v := .ref (a 0)) (C := RX4) (T := TX4) (N := 4) hx hb hts w1_X4_put hown hK.1 hP 0 rfl rfl 0 (by decide) (hts _ w0_X4_put) (fun _ h9 => h9) rfl dX4_put_26 ?_
      refine lv_iload_n hx hb dX4_put_29 rfl (lv_at hl 1 rfl) ?_
      refine lv_iload_n hx hb dX4_put_30 rfl (lv_at hl 2 rfl) ?_
      obtain ⟨q7, hc8, hm⟩ := bd_s hm
      refine kq_i (X := (wXQ G x hh ra sl a k R ki fi ke va ta ro qu nsz fin rnd rd mkd lr un nx dp)) (pl := fl G.2.1 R 8) (cx := (wST G.2.1 a ki fi ke va ta ro qu nsz fin rnd)) (wo := (wST G.2.1 a ki fi ke va ta ro qu nsz fin rnd)) (wr := [(x, .inr (4, [.ref (a 0), .ref hh, .ref sl, .ref (k 0)])), ((k 0), .inr (1, [.ref (k 1), .int mkd, .int lr, .int un])), ((k 1), .inl (G.2.1, 24, .inl rd)), (hh, .inr (0, [.ref ra, .int nx, .int dp])), (ra, .inl (G.2.2.2, 6, .inr (.inr (.inr (.inr (rg R)))))), (sl, .inl (G.2.2.2, 2, .inr (.inr (.inr (.inr (sg R))))))]) (X' := (wXQ G x hh ra sl a k R ki fi ke va ta ro qu nsz fin rnd rd mkd lr un nx dp)) (rV (As := [.int p1, .int p2]) (rest := []) (b := (a 0)) (wi := (wST G.2.1 a ki fi ke va ta ro qu nsz fin rnd)) hF hK (hP.sub [1, 2, 3, 4, 5, 6, 7, 8, 9] rfl) (hD.sub [1, 2, 3, 4, 5, 6, 7, 8, 9] rfl rfl) (c_X3_placeOfKey l G N a ki fi ke va ta ro qu nsz fin rnd p1 p2 q7 hc8 H.size) (cwV 2 hts gX4_put_X3_placeOfKey rfl rfl rfl (by decide +kernel) ⟨Nat.le_of_ble_eq_true rfl, Nat.le_of_ble_eq_true rfl⟩) (va_recv hK.1 hP (ci := 3) (q0 := 1) rfl rfl) rfl hl.1 rfl (Nat.le_of_ble_eq_true rfl) dX4_put_31 ⟨Nat.le_of_ble_eq_true rfl, Nat.le_of_ble_eq_true rfl⟩) hP hD hS hA [1, 2, 3, 4, 5, 6, 7, 8, 9] [0, 10, 11, 12, 13, 14] [0, 6, 7, 8, 9, 10, 11, 12, 13, 14, 1, 2, 3, 4, 5] rfl rfl rfl (by decide) rfl rfl (fun H locs hP hD hS => ?_)
      have hP : va_P G.1 vwCl (wXP G x hh ra sl a k R ki fi ke va ta ro qu nsz fin rnd rd mkd lr un nx dp) H := hP
      have hD : va_D A (wXP G x hh ra sl a k R ki fi ke va ta ro qu nsz fin rnd rd mkd lr un nx dp) := hD
      refine lv_istore (lv' := [(4, .int q7), (0, .ref x), (1, .int p1), (2, .int p2), (3, .int p3)]) hx hb dX4_put_34 hl (by decide) rfl (fun ls hl => ?_)
      refine lv_iload hx hb dX4_put_36 (lv_at hl 0 rfl) ?_
      refine lv_bipush (v := (-9)) hx hb dX4_put_38 (by decide) ?_
      refine lv_icmp_ne (tgt := 55) hx hb dX4_put_40 (by decide) (fun c9 => ?_) (fun c9 => ?_)
      · replace hm := it_f c9 hm
        refine lv_iload hx hb dX4_put_55 (lv_at hl 0 rfl) ?_
        refine lv_bipush (v := (-9)) hx hb dX4_put_57 (by decide) ?_
        refine lv_icmp_ne (tgt := 65) hx hb dX4_put_59 (by decide) (fun c10 => ?_) (fun c10 => ?_)
        · replace hm := it_f c10 hm
          refine lv_aload_n hx hb dX4_put_65 rfl (lv_at hl 1 rfl) ?_
          refine va_get (D := G.1) (ci := 4) (v := .ref hh) (C := RX4) (T := TX4) (N := 4) hx hb hts w1_X4_put hown hK.1 hP 0 rfl rfl 1 (by decide) (hts _ w2_X4_put) (fun _ h9 => h9) rfl dX4_put_66 ?_
          refine lv_aload_n hx hb dX4_put_69 rfl (lv_at hl 1 rfl) ?_
          refine va_get (D := G.1) (ci := 4) (v := .ref (a 0)) (C := RX4) (T := TX4) (N := 4) hx hb hts w1_X4_put hown hK.1 hP 0 rfl rfl 0 (by decide) (hts _ w0_X4_put) (fun _ h9 => h9) rfl dX4_put_70 ?_
          obtain ⟨q11, hc12, hm⟩ := bd_s hm
          refine kp_n (S := SP) (ok := fun R9 : SP => vals R9 = q11.1) (X := (wXQ G x hh ra sl a k R ki fi ke va ta ro qu nsz fin rnd rd mkd lr un nx dp)) (pl := fl G.2.1 R 8) (cx := (wST G.2.1 a ki fi ke va ta ro qu nsz fin rnd ++ wHX G hh ra sl R nx dp)) (rx := (fun R9 : SP => wST G.2.1 a ki fi ke va ta ro qu nsz fin rnd ++ wHX G hh ra sl R9 q11.2.1 q11.2.2)) (pl1 := fun R9 : SP => fl G.2.1 R9 8) (wr := [(x, .inr (4, [.ref (a 0), .ref hh, .ref sl, .ref (k 0)])), ((k 0), .inr (1, [.ref (k 1), .int mkd, .int lr, .int un])), ((k 1), .inl (G.2.1, 24, .inl rd))]) (X' := fun R9 : SP => (wXQ G x hh ra sl a k R9 ki fi ke va ta ro qu nsz fin rnd rd mkd lr un q11.2.1 q11.2.2)) (rV (As := [.ref (a 0)]) (rest := []) (b := hh) (wi := ((wST G.2.1 a ki fi ke va ta ro qu nsz fin rnd ++ wHX G hh ra sl R nx dp) ++ fl G.2.1 R 8)) hF hK (hP.part [1, 2, 3, 4, 5, 6, 7, 8, 9, 12, 13, 14] rfl) (hD.part [1, 2, 3, 4, 5, 6, 7, 8, 9, 12, 13, 14] rfl rfl) (c_X0_push l G hh ra sl a R ki fi ke va ta ro qu nsz fin rnd nx dp q11 hc12 H.size) (cwV 1 hts gX4_put_X0_push rfl rfl rfl (by decide +kernel) ⟨Nat.le_of_ble_eq_true rfl, Nat.le_of_ble_eq_true rfl⟩) (va_recv hK.1 hP (ci := 0) (q0 := 12) rfl rfl) rfl hl.1 rfl (Nat.le_of_ble_eq_true rfl) dX4_put_73 ⟨Nat.le_of_ble_eq_true rfl, Nat.le_of_ble_eq_true rfl⟩) hP hD hS hA [1, 2, 3, 4, 5, 6, 7, 8, 9, 12, 13, 14] [0, 10, 11] [0, 3, 4, 5, 6, 7, 8, 9, 10, 11, 1, 2, 12, 13, 14] rfl rfl rfl (by decide) (fun _ => rfl) rfl (fun R13 H locs hR14 hP hD hS => ?_)
          have hP : va_P G.1 vwCl (wXP G x hh ra sl a k R13 ki fi ke va ta ro qu nsz fin rnd rd mkd lr un q11.2.1 q11.2.2) H := hP
          have hD : va_D A (wXP G x hh ra sl a k R13 ki fi ke va ta ro qu nsz fin rnd rd mkd lr un q11.2.1 q11.2.2) := hD
          refine lv_aload_n hx hb dX4_put_76 rfl (lv_at hl 1 rfl) ?_
          refine va_get (D := G.1) (ci := 4) (v := .ref (a 0)) (C := RX4) (T := TX4) (N := 4) hx hb hts w1_X4_put hown hK.1 hP 0 rfl rfl 0 (by decide) (hts _ w0_X4_put) (fun _ h9 => h9) rfl dX4_put_77 ?_
          refine va_get (D := G.1) (ci := 3) (v := .ref (a 4)) (C := RX3) (T := TX3) (N := 9) hx hb hts w4_X4_put hown hK.1 hP 1 rfl rfl 3 (by decide) (hts _ w3_X4_put) (fun _ h9 => h9) rfl dX4_put_80 ?_
          refine lv_iload hx hb dX4_put_83 (lv_at hl 0 rfl) ?_
          obtain ⟨hi15, hm⟩ := gd_s hm
          refine va_iald hx hb hK.1 hP 5 0 rfl rfl hi15 dX4_put_85 ?_
          refine lv_istore (lv' := [(5, .int (va q7.toNatClampNeg)), (4, .int q7), (0, .ref x), (1, .int p1), (2, .int p2), (3, .int p3)]) hx hb dX4_put_86 hl (by decide) rfl (fun ls hl => ?_)
          refine lv_aload_n hx hb dX4_put_88 rfl (lv_at hl 2 rfl) ?_
          refine va_get (D := G.1) (ci := 4) (v := .ref (a 0)) (C := RX4) (T := TX4) (N := 4) hx hb hts w1_X4_put hown hK.1 hP 0 rfl rfl 0 (by decide) (hts _ w0_X4_put) (fun _ h9 => h9) rfl dX4_put_89 ?_
          refine va_get (D := G.1) (ci := 3) (v := .ref (a 3)) (C := RX3) (T := TX3) (N := 9) hx hb hts w4_X4_put hown hK.1 hP 1 rfl rfl 2 (by decide) (hts _ w5_X4_put) (fun _ h9 => h9) rfl dX4_put_92 ?_
          refine lv_iload hx hb dX4_put_95 (lv_at hl 1 rfl) ?_
          refine lv_iload_n hx hb dX4_put_97 rfl (lv_at hl 4 rfl) ?_
          obtain ⟨hi16, hm⟩ := gd_s hm
          refine va_iast hx hb hK.1 hP hD hS 4 0 rfl rfl hi16 dX4_put_98 (fun H locs hP hD hS => ?_)
          have hP : va_P G.1 vwCl (wXP G x hh ra sl a k R13 ki fi (upd ke q7.toNatClampNeg p2) va ta ro qu nsz fin rnd rd mkd lr un q11.2.1 q11.2.2) H := hP
          have hD : va_D A (wXP G x hh ra sl a k R13 ki fi (upd ke q7.toNatClampNeg p2) va ta ro qu nsz fin rnd rd mkd lr un q11.2.1 q11.2.2) := hD
          refine lv_aload_n hx hb dX4_put_99 rfl (lv_at hl 2 rfl) ?_
          refine va_get (D := G.1) (ci := 4) (v := .ref (a 0)) (C := RX4) (T := TX4) (N := 4) hx hb hts w1_X4_put hown hK.1 hP 0 rfl rfl 0 (by decide) (hts _ w0_X4_put) (fun _ h9 => h9) rfl dX4_put_100 ?_
          refine va_get (D := G.1) (ci := 3) (v := .ref (a 4)) (C := RX3) (T := TX3) (N := 9) hx hb hts w4_X4_put hown hK.1 hP 1 rfl rfl 3 (by decide) (hts _ w3_X4_put) (fun _ h9 => h9) rfl dX4_put_103 ?_
          refine lv_iload hx hb dX4_put_106 (lv_at hl 1 rfl) ?_
          refine lv_iload_n hx hb dX4_put_108 rfl (lv_at hl 5 rfl) ?_
          obtain ⟨hi17, hm⟩ := gd_s hm
          refine va_iast hx hb hK.1 hP hD hS 5 0 rfl rfl hi17 dX4_put_109 (fun H locs hP hD hS => ?_)
          have hP : va_P G.1 vwCl (wXP G x hh ra sl a k R13 ki fi (upd ke q7.toNatClampNeg p2) (upd va q7.toNatClampNeg p3) ta ro qu nsz fin rnd rd mkd lr un q11.2.1 q11.2.2) H := hP
          have hD : va_D A (wXP G x hh ra sl a k R13 ki fi (upd ke q7.toNatClampNeg p2) (upd va q7.toNatClampNeg p3) ta ro qu nsz fin rnd rd mkd lr un q11.2.1 q11.2.2) := hD
          refine lv_iload hx hb dX4_put_110 (lv_at hl 0 rfl) ?_
          cases hm
          refine W.widen (k := 9) (n := 445) (Nat.le_of_ble_eq_true rfl) (Nat.le_of_ble_eq_true rfl) ?_
          exact rt_j R13 hR14 hx hb hr hlocks hP hD hS dX4_put_112
        · replace hm := it_t c10 hm
          refine lv_bipush (v := (-3)) hx hb dX4_put_62 (by decide) ?_
          cases hm
          refine W.widen (k := 9) (n := 445) (Nat.le_of_ble_eq_true rfl) (Nat.le_of_ble_eq_true rfl) ?_
          exact rt_j R rfl hx hb hr hlocks hP hD hS dX4_put_64
      · replace hm := it_t c9 hm
        refine lv_aload_n hx hb dX4_put_43 rfl (lv_at hl 1 rfl) ?_
        refine va_get (D := G.1) (ci := 4) (v := .ref (a 0)) (C := RX4) (T := TX4) (N := 4) hx hb hts w1_X4_put hown hK.1 hP 0 rfl rfl 0 (by decide) (hts _ w0_X4_put) (fun _ h9 => h9) rfl dX4_put_44 ?_
        refine lv_iload_n hx hb dX4_put_47 rfl (lv_at hl 2 rfl) ?_
        refine lv_bipush (v := (-9)) hx hb dX4_put_48 (by decide) ?_
        obtain ⟨q18, hc19, hm⟩ := bd_s hm
        refine kq_i (X := (wXQ G x hh ra sl a k R ki fi ke va ta ro qu nsz fin rnd rd mkd lr un nx dp)) (pl := fl G.2.1 R 8) (cx := (wST G.2.1 a ki fi ke va ta ro qu nsz fin rnd)) (wo := (wST G.2.1 a ki fi ke va ta ro qu nsz fin rnd)) (wr := [(x, .inr (4, [.ref (a 0), .ref hh, .ref sl, .ref (k 0)])), ((k 0), .inr (1, [.ref (k 1), .int mkd, .int lr, .int un])), ((k 1), .inl (G.2.1, 24, .inl rd)), (hh, .inr (0, [.ref ra, .int nx, .int dp])), (ra, .inl (G.2.2.2, 6, .inr (.inr (.inr (.inr (rg R)))))), (sl, .inl (G.2.2.2, 2, .inr (.inr (.inr (.inr (sg R))))))]) (X' := (wXQ G x hh ra sl a k R ki fi ke va ta ro qu nsz fin rnd rd mkd lr un nx dp)) (rV (As := [.int p1, .int (-9)]) (rest := []) (b := (a 0)) (wi := (wST G.2.1 a ki fi ke va ta ro qu nsz fin rnd)) hF hK (hP.sub [1, 2, 3, 4, 5, 6, 7, 8, 9] rfl) (hD.sub [1, 2, 3, 4, 5, 6, 7, 8, 9] rfl rfl) (c_X3_placeOfKey l G N a ki fi ke va ta ro qu nsz fin rnd p1 (-9) q18 hc19 H.size) (cwV 2 hts gX4_put_X3_placeOfKey rfl rfl rfl (by decide +kernel) ⟨Nat.le_of_ble_eq_true rfl, Nat.le_of_ble_eq_true rfl⟩) (va_recv hK.1 hP (ci := 3) (q0 := 1) rfl rfl) rfl hl.1 rfl (Nat.le_of_ble_eq_true rfl) dX4_put_50 ⟨Nat.le_of_ble_eq_true rfl, Nat.le_of_ble_eq_true rfl⟩) hP hD hS hA [1, 2, 3, 4, 5, 6, 7, 8, 9] [0, 10, 11, 12, 13, 14] [0, 6, 7, 8, 9, 10, 11, 12, 13, 14, 1, 2, 3, 4, 5] rfl rfl rfl (by decide) rfl rfl (fun H locs hP hD hS => ?_)
        have hP : va_P G.1 vwCl (wXP G x hh ra sl a k R ki fi ke va ta ro qu nsz fin rnd rd mkd lr un nx dp) H := hP
        have hD : va_D A (wXP G x hh ra sl a k R ki fi ke va ta ro qu nsz fin rnd rd mkd lr un nx dp) := hD
        refine lv_istore (lv' := [(4, .int q18), (0, .ref x), (1, .int p1), (2, .int p2), (3, .int p3)]) hx hb dX4_put_53 hl (by decide) rfl (fun ls hl => ?_)
        refine lv_iload hx hb dX4_put_55 (lv_at hl 0 rfl) ?_
        refine lv_bipush (v := (-9)) hx hb dX4_put_57 (by decide) ?_
        refine lv_icmp_ne (tgt := 65) hx hb dX4_put_59 (by decide) (fun c20 => ?_) (fun c20 => ?_)
        · replace hm := it_f c20 hm
          refine lv_aload_n hx hb dX4_put_65 rfl (lv_at hl 1 rfl) ?_
          refine va_get (D := G.1) (ci := 4) (v := .ref hh) (C := RX4) (T := TX4) (N := 4) hx hb hts w1_X4_put hown hK.1 hP 0 rfl rfl 1 (by decide) (hts _ w2_X4_put) (fun _ h9 => h9) rfl dX4_put_66 ?_
          refine lv_aload_n hx hb dX4_put_69 rfl (lv_at hl 1 rfl) ?_
          refine va_get (D := G.1) (ci := 4) (v := .ref (a 0)) (C := RX4) (T := TX4) (N := 4) hx hb hts w1_X4_put hown hK.1 hP 0 rfl rfl 0 (by decide) (hts _ w0_X4_put) (fun _ h9 => h9) rfl dX4_put_70 ?_
          obtain ⟨q21, hc22, hm⟩ := bd_s hm
          refine kp_n (S := SP) (ok := fun R9 : SP => vals R9 = q21.1) (X := (wXQ G x hh ra sl a k R ki fi ke va ta ro qu nsz fin rnd rd mkd lr un nx dp)) (pl := fl G.2.1 R 8) (cx := (wST G.2.1 a ki fi ke va ta ro qu nsz fin rnd ++ wHX G hh ra sl R nx dp)) (rx := (fun R9 : SP => wST G.2.1 a ki fi ke va ta ro qu nsz fin rnd ++ wHX G hh ra sl R9 q21.2.1 q21.2.2)) (pl1 := fun R9 : SP => fl G.2.1 R9 8) (wr := [(x, .inr (4, [.ref (a 0), .ref hh, .ref sl, .ref (k 0)])), ((k 0), .inr (1, [.ref (k 1), .int mkd, .int lr, .int un])), ((k 1), .inl (G.2.1, 24, .inl rd))]) (X' := fun R9 : SP => (wXQ G x hh ra sl a k R9 ki fi ke va ta ro qu nsz fin rnd rd mkd lr un q21.2.1 q21.2.2)) (rV (As := [.ref (a 0)]) (rest := []) (b := hh) (wi := ((wST G.2.1 a ki fi ke va ta ro qu nsz fin rnd ++ wHX G hh ra sl R nx dp) ++ fl G.2.1 R 8)) hF hK (hP.part [1, 2, 3, 4, 5, 6, 7, 8, 9, 12, 13, 14] rfl) (hD.part [1, 2, 3, 4, 5, 6, 7, 8, 9, 12, 13, 14] rfl rfl) (c_X0_push l G hh ra sl a R ki fi ke va ta ro qu nsz fin rnd nx dp q21 hc22 H.size) (cwV 1 hts gX4_put_X0_push rfl rfl rfl (by decide +kernel) ⟨Nat.le_of_ble_eq_true rfl, Nat.le_of_ble_eq_true rfl⟩) (va_recv hK.1 hP (ci := 0) (q0 := 12) rfl rfl) rfl hl.1 rfl (Nat.le_of_ble_eq_true rfl) dX4_put_73 ⟨Nat.le_of_ble_eq_true rfl, Nat.le_of_ble_eq_true rfl⟩) hP hD hS hA [1, 2, 3, 4, 5, 6, 7, 8, 9, 12, 13, 14] [0, 10, 11] [0, 3, 4, 5, 6, 7, 8, 9, 10, 11, 1, 2, 12, 13, 14] rfl rfl rfl (by decide) (fun _ => rfl) rfl (fun R23 H locs hR24 hP hD hS => ?_)
          have hP : va_P G.1 vwCl (wXP G x hh ra sl a k R23 ki fi ke va ta ro qu nsz fin rnd rd mkd lr un q21.2.1 q21.2.2) H := hP
          have hD : va_D A (wXP G x hh ra sl a k R23 ki fi ke va ta ro qu nsz fin rnd rd mkd lr un q21.2.1 q21.2.2) := hD
          refine lv_aload_n hx hb dX4_put_76 rfl (lv_at hl 1 rfl) ?_
          refine va_get (D := G.1) (ci := 4) (v := .ref (a 0)) (C := RX4) (T := TX4) (N := 4) hx hb hts w1_X4_put hown hK.1 hP 0 rfl rfl 0 (by decide) (hts _ w0_X4_put) (fun _ h9 => h9) rfl dX4_put_77 ?_
          refine va_get (D := G.1) (ci := 3) (v := .ref (a 4)) (C := RX3) (T := TX3) (N := 9) hx hb hts w4_X4_put hown hK.1 hP 1 rfl rfl 3 (by decide) (hts _ w3_X4_put) (fun _ h9 => h9) rfl dX4_put_80 ?_
          refine lv_iload hx hb dX4_put_83 (lv_at hl 0 rfl) ?_
          obtain ⟨hi25, hm⟩ := gd_s hm
          refine va_iald hx hb hK.1 hP 5 0 rfl rfl hi25 dX4_put_85 ?_
          refine lv_istore (lv' := [(5, .int (va q18.toNatClampNeg)), (4, .int q18), (0, .ref x), (1, .int p1), (2, .int p2), (3, .int p3)]) hx hb dX4_put_86 hl (by decide) rfl (fun ls hl => ?_)
          refine lv_aload_n hx hb dX4_put_88 rfl (lv_at hl 2 rfl) ?_
          refine va_get (D := G.1) (ci := 4) (v := .ref (a 0)) (C := RX4) (T := TX4) (N := 4) hx hb hts w1_X4_put hown hK.1 hP 0 rfl rfl 0 (by decide) (hts _ w0_X4_put) (fun _ h9 => h9) rfl dX4_put_89 ?_
          refine va_get (D := G.1) (ci := 3) (v := .ref (a 3)) (C := RX3) (T := TX3) (N := 9) hx hb hts w4_X4_put hown hK.1 hP 1 rfl rfl 2 (by decide) (hts _ w5_X4_put) (fun _ h9 => h9) rfl dX4_put_92 ?_
          refine lv_iload hx hb dX4_put_95 (lv_at hl 1 rfl) ?_
          refine lv_iload_n hx hb dX4_put_97 rfl (lv_at hl 4 rfl) ?_
          obtain ⟨hi26, hm⟩ := gd_s hm
          refine va_iast hx hb hK.1 hP hD hS 4 0 rfl rfl hi26 dX4_put_98 (fun H locs hP hD hS => ?_)
          have hP : va_P G.1 vwCl (wXP G x hh ra sl a k R23 ki fi (upd ke q18.toNatClampNeg p2) va ta ro qu nsz fin rnd rd mkd lr un q21.2.1 q21.2.2) H := hP
          have hD : va_D A (wXP G x hh ra sl a k R23 ki fi (upd ke q18.toNatClampNeg p2) va ta ro qu nsz fin rnd rd mkd lr un q21.2.1 q21.2.2) := hD
          refine lv_aload_n hx hb dX4_put_99 rfl (lv_at hl 2 rfl) ?_
          refine va_get (D := G.1) (ci := 4) (v := .ref (a 0)) (C := RX4) (T := TX4) (N := 4) hx hb hts w1_X4_put hown hK.1 hP 0 rfl rfl 0 (by decide) (hts _ w0_X4_put) (fun _ h9 => h9) rfl dX4_put_100 ?_
          refine va_get (D := G.1) (ci := 3) (v := .ref (a 4)) (C := RX3) (T := TX3) (N := 9) hx hb hts w4_X4_put hown hK.1 hP 1 rfl rfl 3 (by decide) (hts _ w3_X4_put) (fun _ h9 => h9) rfl dX4_put_103 ?_
          refine lv_iload hx hb dX4_put_106 (lv_at hl 1 rfl) ?_
          refine lv_iload_n hx hb dX4_put_108 rfl (lv_at hl 5 rfl) ?_
          obtain ⟨hi27, hm⟩ := gd_s hm
          refine va_iast hx hb hK.1 hP hD hS 5 0 rfl rfl hi27 dX4_put_109 (fun H locs hP hD hS => ?_)
          have hP : va_P G.1 vwCl (wXP G x hh ra sl a k R23 ki fi (upd ke q18.toNatClampNeg p2) (upd va q18.toNatClampNeg p3) ta ro qu nsz fin rnd rd mkd lr un q21.2.1 q21.2.2) H := hP
          have hD : va_D A (wXP G x hh ra sl a k R23 ki fi (upd ke q18.toNatClampNeg p2) (upd va q18.toNatClampNeg p3) ta ro qu nsz fin rnd rd mkd lr un q21.2.1 q21.2.2) := hD
          refine lv_iload hx hb dX4_put_110 (lv_at hl 0 rfl) ?_
          cases hm
          refine W.widen (k := 9) (n := 445) (Nat.le_of_ble_eq_true rfl) (Nat.le_of_ble_eq_true rfl) ?_
          exact rt_j R23 hR24 hx hb hr hlocks hP hD hS dX4_put_112
        · replace hm := it_t c20 hm
          refine lv_bipush (v := (-3)) hx hb dX4_put_62 (by decide) ?_
          cases hm
          refine W.widen (k := 9) (n := 445) (Nat.le_of_ble_eq_true rfl) (Nat.le_of_ble_eq_true rfl) ?_
          exact rt_j R rfl hx hb hr hlocks hP hD hS dX4_put_64
    · replace hm := it_t c6 hm
      refine lv_iconst (v := (-1)) hx hb dX4_put_23 (by decide) ?_
      cases hm
      refine W.widen (k := 9) (n := 445) (Nat.le_of_ble_eq_true rfl) (Nat.le_of_ble_eq_true rfl) ?_
      exact rt_j R rfl hx hb hr hlocks hP hD hS dX4_put_24
def M_X4_removeEntry (N : Nat) (ki : Nat → Int32) (fi : Nat → Int32) (ke : Nat → Int32) (va : Nat → Int32) (ta : Nat → Int32) (ro : Nat → Int32) (qu : Nat → Int32) (nsz : Int32) (fin : Int32) (rnd : Int32) (nx : Int32) (dp : Int32) (rv : Nat → Option SV) (p1 : Int32) (p2 : Int32) : Option (Int32 × (Nat → Int32) × (Nat → Int32) × Int32 × Int32 × (Nat → Option SV)) :=
  (M_X3_isTableAndKey ki p1 p2).bind fun q1 => if q1 = 0 then (some ((-1), ke, va, nx, dp, rv)) else ((M_X3_placeOfKey N ke p1 p2).bind fun q4 => if q4 = (-9) then (some ((-2), ke, va, nx, dp, rv)) else ((M_X0_push rv nx dp (pkS ki fi ke va ta ro qu nsz fin rnd)).bind fun q7 => gd q4 144 ((M_X4_setOf p2).bind fun q12 => (M_X3_keepEntries N ke va p1 (q12 ^^^ (-1))).bind fun q14 => some ((va q4.toNatClampNeg), q14.1, q14.2, q7.2.1, q7.2.2, q7.1))))
theorem w0_X4_removeEntry : Cond.fieldLink RX4 10 "WeakTableHeap" "state" "LWeakTableHeap$State;" ∈ wsX4_removeEntry := by decide +kernel
theorem w1_X4_removeEntry : ∀ w ∈ u_ws RX4 TX4 4, w ∈ wsX4_removeEntry := by decide +kernel
theorem w2_X4_removeEntry : Cond.fieldLink RX4 19 "WeakTableHeap" "history" "LWeakTableHeap$History;" ∈ wsX4_removeEntry := by decide +kernel
theorem w3_X4_removeEntry : Cond.fieldLink RX4 99 "WeakTableHeap$State" "values" "[I" ∈ wsX4_removeEntry := by decide +kernel
theorem w4_X4_removeEntry : ∀ w ∈ u_ws RX3 TX3 9, w ∈ wsX4_removeEntry := by decide +kernel
abbrev rm_X4_removeEntry : Room := { frames := 5, cells := 9, slots := 445, locals := 102 }
set_option maxHeartbeats 4000000 in
set_option maxRecDepth 100000 in
theorem c_X4_removeEntry (l : Launch) (G : GG) (N : Nat) (x : Nat) (hh : Nat) (ra : Nat) (sl : Nat) (a : Nat → Nat) (k : Nat → Nat) (R : SP) (ki : Nat → Int32) (fi : Nat → Int32) (ke : Nat → Int32) (va : Nat → Int32) (ta : Nat → Int32) (ro : Nat → Int32) (qu : Nat → Int32) (nsz : Int32) (fin : Int32) (rnd : Int32) (rd : Nat → Int32) (mkd : Int32) (lr : Int32) (un : Int32) (nx : Int32) (dp : Int32) (p1 : Int32) (p2 : Int32) (q : Int32 × (Nat → Int32) × (Nat → Int32) × Int32 × Int32 × (Nat → Option SV)) (hm : M_X4_removeEntry N ki fi ke va ta ro qu nsz fin rnd nx dp (vals R) p1 p2 = some q) : CTj l yX4_removeEntry wsX4_removeEntry rm_X4_removeEntry G [.ref x, .int p1, .int p2] (wXP G x hh ra sl a k R ki fi ke va ta ro qu nsz fin rnd rd mkd lr un nx dp) q.1 (fun R9 : SP => vals R9 = q.2.2.2.2.2) (fun R9 : SP => (wXP G x hh ra sl a k R9 ki fi q.2.1 q.2.2.1 ta ro qu nsz fin rnd rd mkd lr un q.2.2.2.1 q.2.2.2.2.1)) := by
  intro sz
  refine mk_body (Qc := fun A => (QJ G A q.1 (fun R9 : SP => vals R9 = q.2.2.2.2.2) (fun R9 : SP => (wXP G x hh ra sl a k R9 ki fi q.2.1 q.2.2.1 ta ro qu nsz fin rnd rd mkd lr un q.2.2.2.1 q.2.2.2.2.1)))) (cc := cX4_removeEntry) (maxL := 5) (ret := (some .int)) (lv := [(0, .ref x), (1, .int p1), (2, .int p2)]) (by decide) rfl rfl (Nat.le_of_ble_eq_true rfl) ?_
  intro p e s m args below meth c A H locs ls hF hr hlocks hname hK hA hP hD hS hl
  obtain ⟨hx, hb, hml, hown, hts⟩ := id hF
  unfold M_X4_removeEntry at hm
  refine lv_aload_n hx hb dX4_removeEntry_0 rfl (lv_at hl 0 rfl) ?_
  refine va_get (D := G.1) (ci := 4) (v := .ref (a 0)) (C := RX4) (T := TX4) (N := 4) hx hb hts w1_X4_removeEntry hown hK.1 hP 0 rfl rfl 0 (by decide) (hts _ w0_X4_removeEntry) (fun _ h9 => h9) rfl dX4_removeEntry_1 ?_
  refine lv_iload_n hx hb dX4_removeEntry_4 rfl (lv_at hl 1 rfl) ?_
  refine lv_iload_n hx hb dX4_removeEntry_5 rfl (lv_at hl 2 rfl) ?_
  obtain ⟨q1, hc2, hm⟩ := bd_s hm
  refine kq_i (X := (wXQ G x hh ra sl a k R ki fi ke va ta ro qu nsz fin rnd rd mkd lr un nx dp)) (pl := fl G.2.1 R 8) (cx := (wST G.2.1 a ki fi ke va ta ro qu nsz fin rnd)) (wo := (wST G.2.1 a ki fi ke va ta ro qu nsz fin rnd)) (wr := [(x, .inr (4, [.ref (a 0), .ref hh, .ref sl, .ref (k 0)])), ((k 0), .inr (1, [.ref (k 1), .int mkd, .int lr, .int un])), ((k 1), .inl (G.2.1, 24, .inl rd)), (hh, .inr (0, [.ref ra, .int nx, .int dp])), (ra, .inl (G.2.2.2, 6, .inr (.inr (.inr (.inr (rg R)))))), (sl, .inl (G.2.2.2, 2, .inr (.inr (.inr (.inr (sg R))))))]) (X' := (wXQ G x hh ra sl a k R ki fi ke va ta ro qu nsz fin rnd rd mkd lr un nx dp)) (rV (As := [.int p1, .int p2]) (rest := []) (b := (a 0)) (wi := (wST G.2.1 a ki fi ke va ta ro qu nsz fin rnd)) hF hK (hP.sub [1, 2, 3, 4, 5, 6, 7, 8, 9] rfl) (hD.sub [1, 2, 3, 4, 5, 6, 7, 8, 9] rfl rfl) (c_X3_isTableAndKey l G a ki fi ke va ta ro qu nsz fin rnd p1 p2 q1 hc2 H.size) (cwV 2 hts gX4_removeEntry_X3_isTableAndKey rfl rfl rfl (by decide +kernel) ⟨Nat.le_of_ble_eq_true rfl, Nat.le_of_ble_eq_true rfl⟩) (va_recv hK.1 hP (ci := 3) (q0 := 1) rfl rfl) rfl hl.1 rfl (Nat.le_of_ble_eq_true rfl) dX4_removeEntry_6 ⟨Nat.le_of_ble_eq_true rfl, Nat.le_of_ble_eq_true rfl⟩) hP hD hS hA [1, 2, 3, 4, 5, 6, 7, 8, 9] [0, 10, 11, 12, 13, 14] [0, 6, 7, 8, 9, 10, 11, 12, 13, 14, 1, 2, 3, 4, 5] rfl rfl rfl (by decide) rfl rfl (fun H locs hP hD hS => ?_)
  have hP : va_P G.1 vwCl (wXP G x hh ra sl a k R ki fi ke va ta ro qu nsz fin rnd rd mkd lr un nx dp) H := hP
  have hD : va_D A (wXP G x hh ra sl a k R ki fi ke va ta ro qu nsz fin rnd rd mkd lr un nx dp) := hD
  refine lv_if_ne (tgt := 14) hx hb dX4_removeEntry_9 (by decide) (fun c3 => ?_) (fun c3 => ?_)
  · replace hm := it_f c3 hm
    refine lv_aload_n hx hb dX4_removeEntry_14 rfl (lv_at hl 0 rfl) ?_
    refine va_get (D := G.1) (ci := 4) (v := .ref (a 0)) (C := RX4) (T := TX4) (N := 4) hx hb hts w1_X4_removeEntry hown hK.1 hP 0 rfl rfl 0 (by decide) (hts _ w0_X4_removeEntry) (fun _ h9 => h9) rfl dX4_removeEntry_15 ?_
    refine lv_iload_n hx hb dX4_removeEntry_18 rfl (lv_at hl 1 rfl) ?_
    refine lv_iload_n hx hb dX4_removeEntry_19 rfl (lv_at hl 2 rfl) ?_
    obtain ⟨q4, hc5, hm⟩ := bd_s hm
    refine kq_i (X := (wXQ G x hh ra sl a k R ki fi ke va ta ro qu nsz fin rnd rd mkd lr un nx dp)) (pl := fl G.2.1 R 8) (cx := (wST G.2.1 a ki fi ke va ta ro qu nsz fin rnd)) (wo := (wST G.2.1 a ki fi ke va ta ro qu nsz fin rnd)) (wr := [(x, .inr (4, [.ref (a 0), .ref hh, .ref sl, .ref (k 0)])), ((k 0), .inr (1, [.ref (k 1), .int mkd, .int lr, .int un])), ((k 1), .inl (G.2.1, 24, .inl rd)), (hh, .inr (0, [.ref ra, .int nx, .int dp])), (ra, .inl (G.2.2.2, 6, .inr (.inr (.inr (.inr (rg R)))))), (sl, .inl (G.2.2.2, 2, .inr (.inr (.inr (.inr (sg R))))))]) (X' := (wXQ G x hh ra sl a k R ki fi ke va ta ro qu nsz fin rnd rd mkd lr un nx dp)) (rV (As := [.int p1, .int p2]) (rest := []) (b := (a 0)) (wi := (wST G.2.1 a ki fi ke va ta ro qu nsz fin rnd)) hF hK (hP.sub [1, 2, 3, 4, 5, 6, 7, 8, 9] rfl) (hD.sub [1, 2, 3, 4, 5, 6, 7, 8, 9] rfl rfl) (c_X3_placeOfKey l G N a ki fi ke va ta ro qu nsz fin rnd p1 p2 q4 hc5 H.size) (cwV 2 hts gX4_removeEntry_X3_placeOfKey rfl rfl rfl (by decide +kernel) ⟨Nat.le_of_ble_eq_true rfl, Nat.le_of_ble_eq_true rfl⟩) (va_recv hK.1 hP (ci := 3) (q0 := 1) rfl rfl) rfl hl.1 rfl (Nat.le_of_ble_eq_true rfl) dX4_removeEntry_20 ⟨Nat.le_of_ble_eq_true rfl, Nat.le_of_ble_eq_true rfl⟩) hP hD hS hA [1, 2, 3, 4, 5, 6, 7, 8, 9] [0, 10, 11, 12, 13, 14] [0, 6, 7, 8, 9, 10, 11, 12, 13, 14, 1, 2, 3, 4, 5] rfl rfl rfl (by decide) rfl rfl (fun H locs hP hD hS => ?_)
    have hP : va_P G.1 vwCl (wXP G x hh ra sl a k R ki fi ke va ta ro qu nsz fin rnd rd mkd lr un nx dp) H := hP
    have hD : va_D A (wXP G x hh ra sl a k R ki fi ke va ta ro qu nsz fin rnd rd mkd lr un nx dp) := hD
    refine lv_istore_n (lv' := [(3, .int q4), (0, .ref x), (1, .int p1), (2, .int p2)]) hx hb dX4_removeEntry_23 rfl hl (by decide) rfl (fun ls hl => ?_)
    refine lv_iload_n hx hb dX4_removeEntry_24 rfl (lv_at hl 0 rfl) ?_
    refine lv_bipush (v := (-9)) hx hb dX4_removeEntry_25 (by decide) ?_
    refine lv_icmp_ne (tgt := 33) hx hb dX4_removeEntry_27 (by decide) (fun c6 => ?_) (fun c6 => ?_)
    · replace hm := it_f c6 hm
      refine lv_aload_n hx hb dX4_removeEntry_33 rfl (lv_at hl 1 rfl) ?_
      refine va_get (D := G.1) (ci := 4) (v := .ref hh) (C := RX4) (T := TX4) (N := 4) hx hb hts w1_X4_removeEntry hown hK.1 hP 0 rfl rfl 1 (by decide) (hts _ w2_X4_removeEntry) (fun _ h9 => h9) rfl dX4_removeEntry_34 ?_
      refine lv_aload_n hx hb dX4_removeEntry_37 rfl (lv_at hl 1 rfl) ?_
      refine va_get (D := G.1) (ci := 4) (v := .ref (a 0)) (C := RX4) (T := TX4) (N := 4) hx hb hts w1_X4_removeEntry hown hK.1 hP 0 rfl rfl 0 (by decide) (hts _ w0_X4_removeEntry) (fun _ h9 => h9) rfl dX4_removeEntry_38 ?_
      obtain ⟨q7, hc8, hm⟩ := bd_s hm
      refine kp_n (S := SP) (ok := fun R9 : SP => vals R9 = q7.1) (X := (wXQ G x hh ra sl a k R ki fi ke va ta ro qu nsz fin rnd rd mkd lr un nx dp)) (pl := fl G.2.1 R 8) (cx := (wST G.2.1 a ki fi ke va ta ro qu nsz fin rnd ++ wHX G hh ra sl R nx dp)) (rx := (fun R9 : SP => wST G.2.1 a ki fi ke va ta ro qu nsz fin rnd ++ wHX G hh ra sl R9 q7.2.1 q7.2.2)) (pl1 := fun R9 : SP => fl G.2.1 R9 8) (wr := [(x, .inr (4, [.ref (a 0), .ref hh, .ref sl, .ref (k 0)])), ((k 0), .inr (1, [.ref (k 1), .int mkd, .int lr, .int un])), ((k 1), .inl (G.2.1, 24, .inl rd))]) (X' := fun R9 : SP => (wXQ G x hh ra sl a k R9 ki fi ke va ta ro qu nsz fin rnd rd mkd lr un q7.2.1 q7.2.2)) (rV (As := [.ref (a 0)]) (rest := []) (b := hh) (wi := ((wST G.2.1 a ki fi ke va ta ro qu nsz fin rnd ++ wHX G hh ra sl R nx dp) ++ fl G.2.1 R 8)) hF hK (hP.part [1, 2, 3, 4, 5, 6, 7, 8, 9, 12, 13, 14] rfl) (hD.part [1, 2, 3, 4, 5, 6, 7, 8, 9, 12, 13, 14] rfl rfl) (c_X0_push l G hh ra sl a R ki fi ke va ta ro qu nsz fin rnd nx dp q7 hc8 H.size) (cwV 1 hts gX4_removeEntry_X0_push rfl rfl rfl (by decide +kernel) ⟨Nat.le_of_ble_eq_true rfl, Nat.le_of_ble_eq_true rfl⟩) (va_recv hK.1 hP (ci := 0) (q0 := 12) rfl rfl) rfl hl.1 rfl (Nat.le_of_ble_eq_true rfl) dX4_removeEntry_41 ⟨Nat.le_of_ble_eq_true rfl, Nat.le_of_ble_eq_true rfl⟩) hP hD hS hA [1, 2, 3, 4, 5, 6, 7, 8, 9, 12, 13, 14] [0, 10, 11] [0, 3, 4, 5, 6, 7, 8, 9, 10, 11, 1, 2, 12, 13, 14] rfl rfl rfl (by decide) (fun _ => rfl) rfl (fun R9 H locs hR10 hP hD hS => ?_)
      have hP : va_P G.1 vwCl (wXP G x hh ra sl a k R9 ki fi ke va ta ro qu nsz fin rnd rd mkd lr un q7.2.1 q7.2.2) H := hP
      have hD : va_D A (wXP G x hh ra sl a k R9 ki fi ke va ta ro qu nsz fin rnd rd mkd lr un q7.2.1 q7.2.2) := hD
      refine lv_aload_n hx hb dX4_removeEntry_44 rfl (lv_at hl 1 rfl) ?_
      refine va_get (D := G.1) (ci := 4) (v := .ref (a 0)) (C := RX4) (T := TX4) (N := 4) hx hb hts w1_X4_removeEntry hown hK.1 hP 0 rfl rfl 0 (by decide) (hts _ w0_X4_removeEntry) (fun _ h9 => h9) rfl dX4_removeEntry_45 ?_
      refine va_get (D := G.1) (ci := 3) (v := .ref (a 4)) (C := RX3) (T := TX3) (N := 9) hx hb hts w4_X4_removeEntry hown hK.1 hP 1 rfl rfl 3 (by decide) (hts _ w3_X4_removeEntry) (fun _ h9 => h9) rfl dX4_removeEntry_48 ?_
      refine lv_iload_n hx hb dX4_removeEntry_51 rfl (lv_at hl 0 rfl) ?_
      obtain ⟨hi11, hm⟩ := gd_s hm
      refine va_iald hx hb hK.1 hP 5 0 rfl rfl hi11 dX4_removeEntry_52 ?_
      refine lv_istore (lv' := [(4, .int (va q4.toNatClampNeg)), (3, .int q4), (0, .ref x), (1, .int p1), (2, .int p2)]) hx hb dX4_removeEntry_53 hl (by decide) rfl (fun ls hl => ?_)
      refine lv_aload_n hx hb dX4_removeEntry_55 rfl (lv_at hl 2 rfl) ?_
      refine va_get (D := G.1) (ci := 4) (v := .ref (a 0)) (C := RX4) (T := TX4) (N := 4) hx hb hts w1_X4_removeEntry hown hK.1 hP 0 rfl rfl 0 (by decide) (hts _ w0_X4_removeEntry) (fun _ h9 => h9) rfl dX4_removeEntry_56 ?_
      refine lv_iload_n hx hb dX4_removeEntry_59 rfl (lv_at hl 3 rfl) ?_
      refine lv_iload_n hx hb dX4_removeEntry_60 rfl (lv_at hl 4 rfl) ?_
      obtain ⟨q12, hc13, hm⟩ := bd_s hm
      refine k0_i (ws := (wXP G x hh ra sl a k R9 ki fi ke va ta ro qu nsz fin rnd rd mkd lr un q7.2.1 q7.2.2)) (rS (As := [.int p2]) (rest := [.int p1, .ref (a 0)]) (wi := ([] : va_W)) hF hK k0_P (k0_D (A := A)) (c_X4_setOf l G p2 q12 hc13 H.size) (va_cwS 1 hts gX4_removeEntry_X4_setOf rfl rfl rfl (by decide +kernel) ⟨Nat.le_of_ble_eq_true rfl, Nat.le_of_ble_eq_true rfl⟩) rfl hl.1 rfl (Nat.le_of_ble_eq_true rfl) dX4_removeEntry_61 ⟨Nat.le_of_ble_eq_true rfl, Nat.le_of_ble_eq_true rfl⟩) hP hS hA (fun H locs hP hS => ?_)
      refine lv_iconst (v := (-1)) hx hb dX4_removeEntry_64 (by decide) ?_
      refine lv_ixor hx hb dX4_removeEntry_65 ?_
      obtain ⟨q14, hc15, hm⟩ := bd_s hm
      refine kq_v (X := (wXQ G x hh ra sl a k R9 ki fi ke va ta ro qu nsz fin rnd rd mkd lr un q7.2.1 q7.2.2)) (pl := fl G.2.1 R9 8) (cx := (wST G.2.1 a ki fi ke va ta ro qu nsz fin rnd)) (wo := (wST G.2.1 a ki fi q14.1 q14.2 ta ro qu nsz fin rnd)) (wr := [(x, .inr (4, [.ref (a 0), .ref hh, .ref sl, .ref (k 0)])), ((k 0), .inr (1, [.ref (k 1), .int mkd, .int lr, .int un])), ((k 1), .inl (G.2.1, 24, .inl rd)), (hh, .inr (0, [.ref ra, .int q7.2.1, .int q7.2.2])), (ra, .inl (G.2.2.2, 6, .inr (.inr (.inr (.inr (rg R9)))))), (sl, .inl (G.2.2.2, 2, .inr (.inr (.inr (.inr (sg R9))))))]) (X' := (wXQ G x hh ra sl a k R9 ki fi q14.1 q14.2 ta ro qu nsz fin rnd rd mkd lr un q7.2.1 q7.2.2)) (rV (As := [.int p1, .int (q12 ^^^ (-1))]) (rest := []) (b := (a 0)) (wi := (wST G.2.1 a ki fi ke va ta ro qu nsz fin rnd)) hF hK (hP.sub [1, 2, 3, 4, 5, 6, 7, 8, 9] rfl) (hD.sub [1, 2, 3, 4, 5, 6, 7, 8, 9] rfl rfl) (c_X3_keepEntries l G N a ki fi ke va ta ro qu nsz fin rnd p1 (q12 ^^^ (-1)) q14 hc15 H.size) (cwV 2 hts gX4_removeEntry_X3_keepEntries rfl rfl rfl (by decide +kernel) ⟨Nat.le_of_ble_eq_true rfl, Nat.le_of_ble_eq_true rfl⟩) (va_recv hK.1 hP (ci := 3) (q0 := 1) rfl rfl) rfl hl.1 rfl (Nat.le_of_ble_eq_true rfl) dX4_removeEntry_66 ⟨Nat.le_of_ble_eq_true rfl, Nat.le_of_ble_eq_true rfl⟩) hP hD hS hA [1, 2, 3, 4, 5, 6, 7, 8, 9] [0, 10, 11, 12, 13, 14] [0, 6, 7, 8, 9, 10, 11, 12, 13, 14, 1, 2, 3, 4, 5] rfl rfl rfl (by decide) rfl rfl (fun H locs hP hD hS => ?_)
      have hP : va_P G.1 vwCl (wXP G x hh ra sl a k R9 ki fi q14.1 q14.2 ta ro qu nsz fin rnd rd mkd lr un q7.2.1 q7.2.2) H := hP
      have hD : va_D A (wXP G x hh ra sl a k R9 ki fi q14.1 q14.2 ta ro qu nsz fin rnd rd mkd lr un q7.2.1 q7.2.2) := hD
      refine lv_iload hx hb dX4_removeEntry_69 (lv_at hl 0 rfl) ?_
      cases hm
      refine W.widen (k := 9) (n := 445) (Nat.le_of_ble_eq_true rfl) (Nat.le_of_ble_eq_true rfl) ?_
      exact rt_j R9 hR10 hx hb hr hlocks hP hD hS dX4_removeEntry_71
    · replace hm := it_t c6 hm
      refine lv_bipush (v := (-2)) hx hb dX4_removeEntry_30 (by decide) ?_
      cases hm
      refine W.widen (k := 9) (n := 445) (Nat.le_of_ble_eq_true rfl) (Nat.le_of_ble_eq_true rfl) ?_
      exact rt_j R rfl hx hb hr hlocks hP hD hS dX4_removeEntry_32
  · replace hm := it_t c3 hm
    refine lv_iconst (v := (-1)) hx hb dX4_removeEntry_12 (by decide) ?_
    cases hm
    refine W.widen (k := 9) (n := 445) (Nat.le_of_ble_eq_true rfl) (Nat.le_of_ble_eq_true rfl) ?_
    exact rt_j R rfl hx hb hr hlocks hP hD hS dX4_removeEntry_13
def M_X4_collect (N : Nat) (ki : Nat → Int32) (fi : Nat → Int32) (ke : Nat → Int32) (va : Nat → Int32) (ta : Nat → Int32) (ro : Nat → Int32) (qu : Nat → Int32) (nsz : Int32) (fin : Int32) (rnd : Int32) (rd : Nat → Int32) (nx : Int32) (dp : Int32) (rv : Nat → Option SV) : Option (Int32 × (Nat → Int32) × (Nat → Int32) × (Nat → Int32) × (Nat → Int32) × (Nat → Int32) × (Nat → Int32) × Int32 × Int32 × Int32 × (Nat → Int32) × Int32 × Int32 × Int32 × Int32 × Int32 × (Nat → Option SV)) :=
  (M_X0_push rv nx dp (pkS ki fi ke va ta ro qu nsz fin rnd)).bind fun q1 => (M_X4_markFromRoots N fi ke va ro rd).bind fun q5 => (M_X3_emptyWeakReferences N ta qu nsz q5.2.1 1).bind fun q7 => (M_X3_finalizeObjects N q7.2.1 q7.2.2 fin (fin &&& (q5.2.1 ^^^ (-1)))).bind fun q9 => (M_X4_markFromRootsAnd N fi ke va ro q5.1 (fin &&& (q5.2.1 ^^^ (-1)))).bind fun q11 => (M_X3_removeEntriesWithoutKey N ke va q9.1 q9.2.1 q11.2.1).bind fun q13 => (M_X3_emptyWeakReferences N q7.1 q13.2.2.1 q13.2.2.2 q11.2.1 0).bind fun q15 => (M_X3_allocated N ki).bind fun q17 => (M_X3_free N ki fi q13.1 q13.2.1 q15.1 q9.2.2 (q17 &&& (q11.2.1 ^^^ (-1)))).bind fun q19 => (M_J6_bitCount_0f7a4 (q17 &&& (q11.2.1 ^^^ (-1)))).bind fun q21 => some (q21, q19.1, q19.2.1, q19.2.2.1, q19.2.2.2.1, q19.2.2.2.2.1, q15.2.1, q15.2.2, q19.2.2.2.2.2, q5.2.2.1, q11.1, q11.2.1, q11.2.2.1, q11.2.2.2, q1.2.1, q1.2.2, q1.1)
theorem w0_X4_collect : Cond.fieldLink RX4 19 "WeakTableHeap" "history" "LWeakTableHeap$History;" ∈ wsX4_collect := by decide +kernel
theorem w1_X4_collect : ∀ w ∈ u_ws RX4 TX4 4, w ∈ wsX4_collect := by decide +kernel
theorem w2_X4_collect : Cond.fieldLink RX4 10 "WeakTableHeap" "state" "LWeakTableHeap$State;" ∈ wsX4_collect := by decide +kernel
theorem w3_X4_collect : Cond.fieldLink RX4 30 "WeakTableHeap" "marking" "LWeakTableHeap$Marking;" ∈ wsX4_collect := by decide +kernel
theorem w4_X4_collect : Cond.fieldLink RX4 112 "WeakTableHeap$Marking" "lastRound" "I" ∈ wsX4_collect := by decide +kernel
theorem w5_X4_collect : ∀ w ∈ u_ws RX1 TX1 4, w ∈ wsX4_collect := by decide +kernel
theorem w6_X4_collect : Cond.fieldLink RX4 115 "WeakTableHeap$State" "roundsOfCollection" "I" ∈ wsX4_collect := by decide +kernel
theorem w7_X4_collect : ∀ w ∈ u_ws RX3 TX3 9, w ∈ wsX4_collect := by decide +kernel
theorem w8_X4_collect : Cond.fieldLink RX4 118 "WeakTableHeap$Marking" "marked" "I" ∈ wsX4_collect := by decide +kernel
theorem w9_X4_collect : Cond.fieldLink RX4 77 "WeakTableHeap$State" "finalizable" "I" ∈ wsX4_collect := by decide +kernel
abbrev rm_X4_collect : Room := { frames := 6, cells := 9, slots := 445, locals := 136 }
set_option maxHeartbeats 4000000 in
set_option maxRecDepth 100000 in
theorem c_X4_collect (l : Launch) (G : GG) (N : Nat) (x : Nat) (hh : Nat) (ra : Nat) (sl : Nat) (a : Nat → Nat) (k : Nat → Nat) (R : SP) (ki : Nat → Int32) (fi : Nat → Int32) (ke : Nat → Int32) (va : Nat → Int32) (ta : Nat → Int32) (ro : Nat → Int32) (qu : Nat → Int32) (nsz : Int32) (fin : Int32) (rnd : Int32) (rd : Nat → Int32) (mkd : Int32) (lr : Int32) (un : Int32) (nx : Int32) (dp : Int32) (q : Int32 × (Nat → Int32) × (Nat → Int32) × (Nat → Int32) × (Nat → Int32) × (Nat → Int32) × (Nat → Int32) × Int32 × Int32 × Int32 × (Nat → Int32) × Int32 × Int32 × Int32 × Int32 × Int32 × (Nat → Option SV)) (hm : M_X4_collect N ki fi ke va ta ro qu nsz fin rnd rd nx dp (vals R) = some q) : CTj l yX4_collect wsX4_collect rm_X4_collect G [.ref x] (wXP G x hh ra sl a k R ki fi ke va ta ro qu nsz fin rnd rd mkd lr un nx dp) q.1 (fun R9 : SP => vals R9 = q.2.2.2.2.2.2.2.2.2.2.2.2.2.2.2.2) (fun R9 : SP => (wXP G x hh ra sl a k R9 q.2.1 q.2.2.1 q.2.2.2.1 q.2.2.2.2.1 q.2.2.2.2.2.1 ro q.2.2.2.2.2.2.1 q.2.2.2.2.2.2.2.1 q.2.2.2.2.2.2.2.2.1 q.2.2.2.2.2.2.2.2.2.1 q.2.2.2.2.2.2.2.2.2.2.1 q.2.2.2.2.2.2.2.2.2.2.2.1 q.2.2.2.2.2.2.2.2.2.2.2.2.1 q.2.2.2.2.2.2.2.2.2.2.2.2.2.1 q.2.2.2.2.2.2.2.2.2.2.2.2.2.2.1 q.2.2.2.2.2.2.2.2.2.2.2.2.2.2.2.1)) := by
  intro sz
  refine mk_body (Qc := fun A => (QJ G A q.1 (fun R9 : SP => vals R9 = q.2.2.2.2.2.2.2.2.2.2.2.2.2.2.2.2) (fun R9 : SP => (wXP G x hh ra sl a k R9 q.2.1 q.2.2.1 q.2.2.2.1 q.2.2.2.2.1 q.2.2.2.2.2.1 ro q.2.2.2.2.2.2.1 q.2.2.2.2.2.2.2.1 q.2.2.2.2.2.2.2.2.1 q.2.2.2.2.2.2.2.2.2.1 q.2.2.2.2.2.2.2.2.2.2.1 q.2.2.2.2.2.2.2.2.2.2.2.1 q.2.2.2.2.2.2.2.2.2.2.2.2.1 q.2.2.2.2.2.2.2.2.2.2.2.2.2.1 q.2.2.2.2.2.2.2.2.2.2.2.2.2.2.1 q.2.2.2.2.2.2.2.2.2.2.2.2.2.2.2.1)))) (cc := cX4_collect) (maxL := 3) (ret := (some .int)) (lv := [(0, .ref x)]) (by decide) rfl rfl (Nat.le_of_ble_eq_true rfl) ?_
  intro p e s m args below meth c A H locs ls hF hr hlocks hname hK hA hP hD hS hl
  obtain ⟨hx, hb, hml, hown, hts⟩ := id hF
  unfold M_X4_collect at hm
  refine lv_aload_n hx hb dX4_collect_0 rfl (lv_at hl 0 rfl) ?_
  refine va_get (D := G.1) (ci := 4) (v := .ref hh) (C := RX4) (T := TX4) (N := 4) hx hb hts w1_X4_collect hown hK.1 hP 0 rfl rfl 1 (by decide) (hts _ w0_X4_collect) (fun _ h9 => h9) rfl dX4_collect_1 ?_
  refine lv_aload_n hx hb dX4_collect_4 rfl (lv_at hl 0 rfl) ?_
  refine va_get (D := G.1) (ci := 4) (v := .ref (a 0)) (C := RX4) (T := TX4) (N := 4) hx hb hts w1_X4_collect hown hK.1 hP 0 rfl rfl 0 (by decide) (hts _ w2_X4_collect) (fun _ h9 => h9) rfl dX4_collect_5 ?_
  obtain ⟨q1, hc2, hm⟩ := bd_s hm
  refine kp_n (S := SP) (ok := fun R9 : SP => vals R9 = q1.1) (X := (wXQ G x hh ra sl a k R ki fi ke va ta ro qu nsz fin rnd rd mkd lr un nx dp)) (pl := fl G.2.1 R 8) (cx := (wST G.2.1 a ki fi ke va ta ro qu nsz fin rnd ++ wHX G hh ra sl R nx dp)) (rx := (fun R9 : SP => wST G.2.1 a ki fi ke va ta ro qu nsz fin rnd ++ wHX G hh ra sl R9 q1.2.1 q1.2.2)) (pl1 := fun R9 : SP => fl G.2.1 R9 8) (wr := [(x, .inr (4, [.ref (a 0), .ref hh, .ref sl, .ref (k 0)])), ((k 0), .inr (1, [.ref (k 1), .int mkd, .int lr, .int un])), ((k 1), .inl (G.2.1, 24, .inl rd))]) (X' := fun R9 : SP => (wXQ G x hh ra sl a k R9 ki fi ke va ta ro qu nsz fin rnd rd mkd lr un q1.2.1 q1.2.2)) (rV (As := [.ref (a 0)]) (rest := []) (b := hh) (wi := ((wST G.2.1 a ki fi ke va ta ro qu nsz fin rnd ++ wHX G hh ra sl R nx dp) ++ fl G.2.1 R 8)) hF hK (hP.part [1, 2, 3, 4, 5, 6, 7, 8, 9, 12, 13, 14] rfl) (hD.part [1, 2, 3, 4, 5, 6, 7, 8, 9, 12, 13, 14] rfl rfl) (c_X0_push l G hh ra sl a R ki fi ke va ta ro qu nsz fin rnd nx dp q1 hc2 H.size) (cwV 1 hts gX4_collect_X0_push rfl rfl rfl (by decide +kernel) ⟨Nat.le_of_ble_eq_true rfl, Nat.le_of_ble_eq_true rfl⟩) (va_recv hK.1 hP (ci := 0) (q0 := 12) rfl rfl) rfl hl.1 rfl (Nat.le_of_ble_eq_true rfl) dX4_collect_8 ⟨Nat.le_of_ble_eq_true rfl, Nat.le_of_ble_eq_true rfl⟩) hP hD hS hA [1, 2, 3, 4, 5, 6, 7, 8, 9, 12, 13, 14] [0, 10, 11] [0, 3, 4, 5, 6, 7, 8, 9, 10, 11, 1, 2, 12, 13, 14] rfl rfl rfl (by decide) (fun _ => rfl) rfl (fun R3 H locs hR4 hP hD hS => ?_)
  have hP : va_P G.1 vwCl (wXP G x hh ra sl a k R3 ki fi ke va ta ro qu nsz fin rnd rd mkd lr un q1.2.1 q1.2.2) H := hP
  have hD : va_D A (wXP G x hh ra sl a k R3 ki fi ke va ta ro qu nsz fin rnd rd mkd lr un q1.2.1 q1.2.2) := hD
  refine lv_aload_n hx hb dX4_collect_11 rfl (lv_at hl 0 rfl) ?_
  obtain ⟨q5, hc6, hm⟩ := bd_s hm
  refine kq_v (X := (wXQ G x hh ra sl a k R3 ki fi ke va ta ro qu nsz fin rnd rd mkd lr un q1.2.1 q1.2.2)) (pl := fl G.2.1 R3 8) (cx := (wX4 G.2.1 x hh sl a k ki fi ke va ta ro qu nsz fin rnd rd mkd lr un)) (wo := (wX4 G.2.1 x hh sl a k ki fi ke va ta ro qu nsz fin rnd q5.1 q5.2.1 q5.2.2.1 q5.2.2.2)) (wr := [(hh, .inr (0, [.ref ra, .int q1.2.1, .int q1.2.2])), (ra, .inl (G.2.2.2, 6, .inr (.inr (.inr (.inr (rg R3)))))), (sl, .inl (G.2.2.2, 2, .inr (.inr (.inr (.inr (sg R3))))))]) (X' := (wXQ G x hh ra sl a k R3 ki fi ke va ta ro qu nsz fin rnd q5.1 q5.2.1 q5.2.2.1 q5.2.2.2 q1.2.1 q1.2.2)) (rV (As := []) (rest := []) (b := x) (wi := (wX4 G.2.1 x hh sl a k ki fi ke va ta ro qu nsz fin rnd rd mkd lr un)) hF hK (hP.sub [0, 1, 2, 3, 4, 5, 6, 7, 8, 9, 10, 11] rfl) (hD.sub [0, 1, 2, 3, 4, 5, 6, 7, 8, 9, 10, 11] rfl rfl) (c_X4_markFromRoots l G N x hh sl a k ki fi ke va ta ro qu nsz fin rnd rd mkd lr un q5 hc6 H.size) (cwV 0 hts gX4_collect_X4_markFromRoots rfl rfl rfl (by decide +kernel) ⟨Nat.le_of_ble_eq_true rfl, Nat.le_of_ble_eq_true rfl⟩) (va_recv hK.1 hP (ci := 4) (q0 := 0) rfl rfl) rfl hl.1 rfl (Nat.le_of_ble_eq_true rfl) dX4_collect_12 ⟨Nat.le_of_ble_eq_true rfl, Nat.le_of_ble_eq_true rfl⟩) hP hD hS hA [0, 1, 2, 3, 4, 5, 6, 7, 8, 9, 10, 11] [12, 13, 14] [3, 4, 5, 6, 7, 8, 9, 10, 11, 12, 13, 14, 0, 1, 2] rfl rfl rfl (by decide) rfl rfl (fun H locs hP hD hS => ?_)
  have hP : va_P G.1 vwCl (wXP G x hh ra sl a k R3 ki fi ke va ta ro qu nsz fin rnd q5.1 q5.2.1 q5.2.2.1 q5.2.2.2 q1.2.1 q1.2.2) H := hP
  have hD : va_D A (wXP G x hh ra sl a k R3 ki fi ke va ta ro qu nsz fin rnd q5.1 q5.2.1 q5.2.2.1 q5.2.2.2 q1.2.1 q1.2.2) := hD
  refine lv_aload_n hx hb dX4_collect_15 rfl (lv_at hl 0 rfl) ?_
  refine va_get (D := G.1) (ci := 4) (v := .ref (a 0)) (C := RX4) (T := TX4) (N := 4) hx hb hts w1_X4_collect hown hK.1 hP 0 rfl rfl 0 (by decide) (hts _ w2_X4_collect) (fun _ h9 => h9) rfl dX4_collect_16 ?_
  refine lv_aload_n hx hb dX4_collect_19 rfl (lv_at hl 0 rfl) ?_
  refine va_get (D := G.1) (ci := 4) (v := .ref (k 0)) (C := RX4) (T := TX4) (N := 4) hx hb hts w1_X4_collect hown hK.1 hP 0 rfl rfl 3 (by decide) (hts _ w3_X4_collect) (fun _ h9 => h9) rfl dX4_collect_20 ?_
  refine va_get (D := G.1) (ci := 1) (v := .int q5.2.2.1) (C := RX1) (T := TX1) (N := 4) hx hb hts w5_X4_collect hown hK.1 hP 10 rfl rfl 2 (by decide) (hts _ w4_X4_collect) (fun _ h9 => h9) rfl dX4_collect_23 ?_
  refine va_put (D := G.1) (ci := 3) (v := .int q5.2.2.1) (ty := .int) (C := RX3) (T := TX3) (N := 9) hx hb hts w7_X4_collect tyX3 tyX3_ok nmX3 hown hK.1 hP hD hS 1 rfl rfl 8 (by decide) (hts _ w6_X4_collect) (fun _ h9 => h9) rfl (by decide +kernel) rfl rfl (Nat.le_of_ble_eq_true rfl) dX4_collect_26 (fun H locs hP hD hS => ?_)
  have hP : va_P G.1 vwCl (wXP G x hh ra sl a k R3 ki fi ke va ta ro qu nsz fin q5.2.2.1 q5.1 q5.2.1 q5.2.2.1 q5.2.2.2 q1.2.1 q1.2.2) H := hP
  have hD : va_D A (wXP G x hh ra sl a k R3 ki fi ke va ta ro qu nsz fin q5.2.2.1 q5.1 q5.2.1 q5.2.2.1 q5.2.2.2 q1.2.1 q1.2.2) := hD
  refine lv_aload_n hx hb dX4_collect_29 rfl (lv_at hl 0 rfl) ?_
  refine va_get (D := G.1) (ci := 4) (v := .ref (a 0)) (C := RX4) (T := TX4) (N := 4) hx hb hts w1_X4_collect hown hK.1 hP 0 rfl rfl 0 (by decide) (hts _ w2_X4_collect) (fun _ h9 => h9) rfl dX4_collect_30 ?_
  refine lv_aload_n hx hb dX4_collect_33 rfl (lv_at hl 0 rfl) ?_
  refine va_get (D := G.1) (ci := 4) (v := .ref (k 0)) (C := RX4) (T := TX4) (N := 4) hx hb hts w1_X4_collect hown hK.1 hP 0 rfl rfl 3 (by decide) (hts _ w3_X4_collect) (fun _ h9 => h9) rfl dX4_collect_34 ?_
  refine va_get (D := G.1) (ci := 1) (v := .int q5.2.1) (C := RX1) (T := TX1) (N := 4) hx hb hts w5_X4_collect hown hK.1 hP 10 rfl rfl 1 (by decide) (hts _ w8_X4_collect) (fun _ h9 => h9) rfl dX4_collect_37 ?_
  refine lv_iconst (v := 1) hx hb dX4_collect_40 (by decide) ?_
  obtain ⟨q7, hc8, hm⟩ := bd_s hm
  refine kq_v (X := (wXQ G x hh ra sl a k R3 ki fi ke va ta ro qu nsz fin q5.2.2.1 q5.1 q5.2.1 q5.2.2.1 q5.2.2.2 q1.2.1 q1.2.2)) (pl := fl G.2.1 R3 8) (cx := (wST G.2.1 a ki fi ke va ta ro qu nsz fin q5.2.2.1)) (wo := (wST G.2.1 a ki fi ke va q7.1 ro q7.2.1 q7.2.2 fin q5.2.2.1)) (wr := [(x, .inr (4, [.ref (a 0), .ref hh, .ref sl, .ref (k 0)])), ((k 0), .inr (1, [.ref (k 1), .int q5.2.1, .int q5.2.2.1, .int q5.2.2.2])), ((k 1), .inl (G.2.1, 24, .inl q5.1)), (hh, .inr (0, [.ref ra, .int q1.2.1, .int q1.2.2])), (ra, .inl (G.2.2.2, 6, .inr (.inr (.inr (.inr (rg R3)))))), (sl, .inl (G.2.2.2, 2, .inr (.inr (.inr (.inr (sg R3))))))]) (X' := (wXQ G x hh ra sl a k R3 ki fi ke va q7.1 ro q7.2.1 q7.2.2 fin q5.2.2.1 q5.1 q5.2.1 q5.2.2.1 q5.2.2.2 q1.2.1 q1.2.2)) (rV (As := [.int q5.2.1, .int 1]) (rest := []) (b := (a 0)) (wi := (wST G.2.1 a ki fi ke va ta ro qu nsz fin q5.2.2.1)) hF hK (hP.sub [1, 2, 3, 4, 5, 6, 7, 8, 9] rfl) (hD.sub [1, 2, 3, 4, 5, 6, 7, 8, 9] rfl rfl) (c_X3_emptyWeakReferences l G N a ki fi ke va ta ro qu nsz fin q5.2.2.1 q5.2.1 1 q7 hc8 H.size) (cwV 2 hts gX4_collect_X3_emptyWeakReferences rfl rfl rfl (by decide +kernel) ⟨Nat.le_of_ble_eq_true rfl, Nat.le_of_ble_eq_true rfl⟩) (va_recv hK.1 hP (ci := 3) (q0 := 1) rfl rfl) rfl hl.1 rfl (Nat.le_of_ble_eq_true rfl) dX4_collect_41 ⟨Nat.le_of_ble_eq_true rfl, Nat.le_of_ble_eq_true rfl⟩) hP hD hS hA [1, 2, 3, 4, 5, 6, 7, 8, 9] [0, 10, 11, 12, 13, 14] [0, 6, 7, 8, 9, 10, 11, 12, 13, 14, 1, 2, 3, 4, 5] rfl rfl rfl (by decide) rfl rfl (fun H locs hP hD hS => ?_)
  have hP : va_P G.1 vwCl (wXP G x hh ra sl a k R3 ki fi ke va q7.1 ro q7.2.1 q7.2.2 fin q5.2.2.1 q5.1 q5.2.1 q5.2.2.1 q5.2.2.2 q1.2.1 q1.2.2) H := hP
  have hD : va_D A (wXP G x hh ra sl a k R3 ki fi ke va q7.1 ro q7.2.1 q7.2.2 fin q5.2.2.1 q5.1 q5.2.1 q5.2.2.1 q5.2.2.2 q1.2.1 q1.2.2) := hD
  refine lv_aload_n hx hb dX4_collect_44 rfl (lv_at hl 0 rfl) ?_
  refine va_get (D := G.1) (ci := 4) (v := .ref (a 0)) (C := RX4) (T := TX4) (N := 4) hx hb hts w1_X4_collect hown hK.1 hP 0 rfl rfl 0 (by decide) (hts _ w2_X4_collect) (fun _ h9 => h9) rfl dX4_collect_45 ?_
  refine va_get (D := G.1) (ci := 3) (v := .int fin) (C := RX3) (T := TX3) (N := 9) hx hb hts w7_X4_collect hown hK.1 hP 1 rfl rfl 7 (by decide) (hts _ w9_X4_collect) (fun _ h9 => h9) rfl dX4_collect_48 ?_
  refine lv_aload_n hx hb dX4_collect_51 rfl (lv_at hl 0 rfl) ?_
  refine va_get (D := G.1) (ci := 4) (v := .ref (k 0)) (C := RX4) (T := TX4) (N := 4) hx hb hts w1_X4_collect hown hK.1 hP 0 rfl rfl 3 (by decide) (hts _ w3_X4_collect) (fun _ h9 => h9) rfl dX4_collect_52 ?_
  refine va_get (D := G.1) (ci := 1) (v := .int q5.2.1) (C := RX1) (T := TX1) (N := 4) hx hb hts w5_X4_collect hown hK.1 hP 10 rfl rfl 1 (by decide) (hts _ w8_X4_collect) (fun _ h9 => h9) rfl dX4_collect_55 ?_
  refine lv_iconst (v := (-1)) hx hb dX4_collect_58 (by decide) ?_
  refine lv_ixor hx hb dX4_collect_59 ?_
  refine lv_iand hx hb dX4_collect_60 ?_
  refine lv_istore_n (lv' := [(1, .int (fin &&& (q5.2.1 ^^^ (-1)))), (0, .ref x)]) hx hb dX4_collect_61 rfl hl (by decide) rfl (fun ls hl => ?_)
  refine lv_aload_n hx hb dX4_collect_62 rfl (lv_at hl 1 rfl) ?_
  refine va_get (D := G.1) (ci := 4) (v := .ref (a 0)) (C := RX4) (T := TX4) (N := 4) hx hb hts w1_X4_collect hown hK.1 hP 0 rfl rfl 0 (by decide) (hts _ w2_X4_collect) (fun _ h9 => h9) rfl dX4_collect_63 ?_
  refine lv_iload_n hx hb dX4_collect_66 rfl (lv_at hl 0 rfl) ?_
  obtain ⟨q9, hc10, hm⟩ := bd_s hm
  refine kq_v (X := (wXQ G x hh ra sl a k R3 ki fi ke va q7.1 ro q7.2.1 q7.2.2 fin q5.2.2.1 q5.1 q5.2.1 q5.2.2.1 q5.2.2.2 q1.2.1 q1.2.2)) (pl := fl G.2.1 R3 8) (cx := (wST G.2.1 a ki fi ke va q7.1 ro q7.2.1 q7.2.2 fin q5.2.2.1)) (wo := (wST G.2.1 a ki fi ke va q7.1 ro q9.1 q9.2.1 q9.2.2 q5.2.2.1)) (wr := [(x, .inr (4, [.ref (a 0), .ref hh, .ref sl, .ref (k 0)])), ((k 0), .inr (1, [.ref (k 1), .int q5.2.1, .int q5.2.2.1, .int q5.2.2.2])), ((k 1), .inl (G.2.1, 24, .inl q5.1)), (hh, .inr (0, [.ref ra, .int q1.2.1, .int q1.2.2])), (ra, .inl (G.2.2.2, 6, .inr (.inr (.inr (.inr (rg R3)))))), (sl, .inl (G.2.2.2, 2, .inr (.inr (.inr (.inr (sg R3))))))]) (X' := (wXQ G x hh ra sl a k R3 ki fi ke va q7.1 ro q9.1 q9.2.1 q9.2.2 q5.2.2.1 q5.1 q5.2.1 q5.2.2.1 q5.2.2.2 q1.2.1 q1.2.2)) (rV (As := [.int (fin &&& (q5.2.1 ^^^ (-1)))]) (rest := []) (b := (a 0)) (wi := (wST G.2.1 a ki fi ke va q7.1 ro q7.2.1 q7.2.2 fin q5.2.2.1)) hF hK (hP.sub [1, 2, 3, 4, 5, 6, 7, 8, 9] rfl) (hD.sub [1, 2, 3, 4, 5, 6, 7, 8, 9] rfl rfl) (c_X3_finalizeObjects l G N a ki fi ke va q7.1 ro q7.2.1 q7.2.2 fin q5.2.2.1 (fin &&& (q5.2.1 ^^^ (-1))) q9 hc10 H.size) (cwV 1 hts gX4_collect_X3_finalizeObjects rfl rfl rfl (by decide +kernel) ⟨Nat.le_of_ble_eq_true rfl, Nat.le_of_ble_eq_true rfl⟩) (va_recv hK.1 hP (ci := 3) (q0 := 1) rfl rfl) rfl hl.1 rfl (Nat.le_of_ble_eq_true rfl) dX4_collect_67 ⟨Nat.le_of_ble_eq_true rfl, Nat.le_of_ble_eq_true rfl⟩) hP hD hS hA [1, 2, 3, 4, 5, 6, 7, 8, 9] [0, 10, 11, 12, 13, 14] [0, 6, 7, 8, 9, 10, 11, 12, 13, 14, 1, 2, 3, 4, 5] rfl rfl rfl (by decide) rfl rfl (fun H locs hP hD hS => ?_)
  have hP : va_P G.1 vwCl (wXP G x hh ra sl a k R3 ki fi ke va q7.1 ro q9.1 q9.2.1 q9.2.2 q5.2.2.1 q5.1 q5.2.1 q5.2.2.1 q5.2.2.2 q1.2.1 q1.2.2) H := hP
  have hD : va_D A (wXP G x hh ra sl a k R3 ki fi ke va q7.1 ro q9.1 q9.2.1 q9.2.2 q5.2.2.1 q5.1 q5.2.1 q5.2.2.1 q5.2.2.2 q1.2.1 q1.2.2) := hD
  refine lv_aload_n hx hb dX4_collect_70 rfl (lv_at hl 1 rfl) ?_
  refine lv_iload_n hx hb dX4_collect_71 rfl (lv_at hl 0 rfl) ?_
  obtain ⟨q11, hc12, hm⟩ := bd_s hm
  refine kq_v (X := (wXQ G x hh ra sl a k R3 ki fi ke va q7.1 ro q9.1 q9.2.1 q9.2.2 q5.2.2.1 q5.1 q5.2.1 q5.2.2.1 q5.2.2.2 q1.2.1 q1.2.2)) (pl := fl G.2.1 R3 8) (cx := (wX4 G.2.1 x hh sl a k ki fi ke va q7.1 ro q9.1 q9.2.1 q9.2.2 q5.2.2.1 q5.1 q5.2.1 q5.2.2.1 q5.2.2.2)) (wo := (wX4 G.2.1 x hh sl a k ki fi ke va q7.1 ro q9.1 q9.2.1 q9.2.2 q5.2.2.1 q11.1 q11.2.1 q11.2.2.1 q11.2.2.2)) (wr := [(hh, .inr (0, [.ref ra, .int q1.2.1, .int q1.2.2])), (ra, .inl (G.2.2.2, 6, .inr (.inr (.inr (.inr (rg R3)))))), (sl, .inl (G.2.2.2, 2, .inr (.inr (.inr (.inr (sg R3))))))]) (X' := (wXQ G x hh ra sl a k R3 ki fi ke va q7.1 ro q9.1 q9.2.1 q9.2.2 q5.2.2.1 q11.1 q11.2.1 q11.2.2.1 q11.2.2.2 q1.2.1 q1.2.2)) (rV (As := [.int (fin &&& (q5.2.1 ^^^ (-1)))]) (rest := []) (b := x) (wi := (wX4 G.2.1 x hh sl a k ki fi ke va q7.1 ro q9.1 q9.2.1 q9.2.2 q5.2.2.1 q5.1 q5.2.1 q5.2.2.1 q5.2.2.2)) hF hK (hP.sub [0, 1, 2, 3, 4, 5, 6, 7, 8, 9, 10, 11] rfl) (hD.sub [0, 1, 2, 3, 4, 5, 6, 7, 8, 9, 10, 11] rfl rfl) (c_X4_markFromRootsAnd l G N x hh sl a k ki fi ke va q7.1 ro q9.1 q9.2.1 q9.2.2 q5.2.2.1 q5.1 q5.2.1 q5.2.2.1 q5.2.2.2 (fin &&& (q5.2.1 ^^^ (-1))) q11 hc12 H.size) (cwV 1 hts gX4_collect_X4_markFromRootsAnd rfl rfl rfl (by decide +kernel) ⟨Nat.le_of_ble_eq_true rfl, Nat.le_of_ble_eq_true rfl⟩) (va_recv hK.1 hP (ci := 4) (q0 := 0) rfl rfl) rfl hl.1 rfl (Nat.le_of_ble_eq_true rfl) dX4_collect_72 ⟨Nat.le_of_ble_eq_true rfl, Nat.le_of_ble_eq_true rfl⟩) hP hD hS hA [0, 1, 2, 3, 4, 5, 6, 7, 8, 9, 10, 11] [12, 13, 14] [3, 4, 5, 6, 7, 8, 9, 10, 11, 12, 13, 14, 0, 1, 2] rfl rfl rfl (by decide) rfl rfl (fun H locs hP hD hS => ?_)
  have hP : va_P G.1 vwCl (wXP G x hh ra sl a k R3 ki fi ke va q7.1 ro q9.1 q9.2.1 q9.2.2 q5.2.2.1 q11.1 q11.2.1 q11.2.2.1 q11.2.2.2 q1.2.1 q1.2.2) H := hP
  have hD : va_D A (wXP G x hh ra sl a k R3 ki fi ke va q7.1 ro q9.1 q9.2.1 q9.2.2 q5.2.2.1 q11.1 q11.2.1 q11.2.2.1 q11.2.2.2 q1.2.1 q1.2.2) := hD
  refine lv_aload_n hx hb dX4_collect_75 rfl (lv_at hl 1 rfl) ?_
  refine va_get (D := G.1) (ci := 4) (v := .ref (a 0)) (C := RX4) (T := TX4) (N := 4) hx hb hts w1_X4_collect hown hK.1 hP 0 rfl rfl 0 (by decide) (hts _ w2_X4_collect) (fun _ h9 => h9) rfl dX4_collect_76 ?_
  refine lv_aload_n hx hb dX4_collect_79 rfl (lv_at hl 1 rfl) ?_
  refine va_get (D := G.1) (ci := 4) (v := .ref (k 0)) (C := RX4) (T := TX4) (N := 4) hx hb hts w1_X4_collect hown hK.1 hP 0 rfl rfl 3 (by decide) (hts _ w3_X4_collect) (fun _ h9 => h9) rfl dX4_collect_80 ?_
  refine va_get (D := G.1) (ci := 1) (v := .int q11.2.1) (C := RX1) (T := TX1) (N := 4) hx hb hts w5_X4_collect hown hK.1 hP 10 rfl rfl 1 (by decide) (hts _ w8_X4_collect) (fun _ h9 => h9) rfl dX4_collect_83 ?_
  obtain ⟨q13, hc14, hm⟩ := bd_s hm
  refine kq_v (X := (wXQ G x hh ra sl a k R3 ki fi ke va q7.1 ro q9.1 q9.2.1 q9.2.2 q5.2.2.1 q11.1 q11.2.1 q11.2.2.1 q11.2.2.2 q1.2.1 q1.2.2)) (pl := fl G.2.1 R3 8) (cx := (wST G.2.1 a ki fi ke va q7.1 ro q9.1 q9.2.1 q9.2.2 q5.2.2.1)) (wo := (wST G.2.1 a ki fi q13.1 q13.2.1 q7.1 ro q13.2.2.1 q13.2.2.2 q9.2.2 q5.2.2.1)) (wr := [(x, .inr (4, [.ref (a 0), .ref hh, .ref sl, .ref (k 0)])), ((k 0), .inr (1, [.ref (k 1), .int q11.2.1, .int q11.2.2.1, .int q11.2.2.2])), ((k 1), .inl (G.2.1, 24, .inl q11.1)), (hh, .inr (0, [.ref ra, .int q1.2.1, .int q1.2.2])), (ra, .inl (G.2.2.2, 6, .inr (.inr (.inr (.inr (rg R3)))))), (sl, .inl (G.2.2.2, 2, .inr (.inr (.inr (.inr (sg R3))))))]) (X' := (wXQ G x hh ra sl a k R3 ki fi q13.1 q13.2.1 q7.1 ro q13.2.2.1 q13.2.2.2 q9.2.2 q5.2.2.1 q11.1 q11.2.1 q11.2.2.1 q11.2.2.2 q1.2.1 q1.2.2)) (rV (As := [.int q11.2.1]) (rest := []) (b := (a 0)) (wi := (wST G.2.1 a ki fi ke va q7.1 ro q9.1 q9.2.1 q9.2.2 q5.2.2.1)) hF hK (hP.sub [1, 2, 3, 4, 5, 6, 7, 8, 9] rfl) (hD.sub [1, 2, 3, 4, 5, 6, 7, 8, 9] rfl rfl) (c_X3_removeEntriesWithoutKey l G N a ki fi ke va q7.1 ro q9.1 q9.2.1 q9.2.2 q5.2.2.1 q11.2.1 q13 hc14 H.size) (cwV 1 hts gX4_collect_X3_removeEntriesWithoutKey rfl rfl rfl (by decide +kernel) ⟨Nat.le_of_ble_eq_true rfl, Nat.le_of_ble_eq_true rfl⟩) (va_recv hK.1 hP (ci := 3) (q0 := 1) rfl rfl) rfl hl.1 rfl (Nat.le_of_ble_eq_true rfl) dX4_collect_86 ⟨Nat.le_of_ble_eq_true rfl, Nat.le_of_ble_eq_true rfl⟩) hP hD hS hA [1, 2, 3, 4, 5, 6, 7, 8, 9] [0, 10, 11, 12, 13, 14] [0, 6, 7, 8, 9, 10, 11, 12, 13, 14, 1, 2, 3, 4, 5] rfl rfl rfl (by decide) rfl rfl (fun H locs hP hD hS => ?_)
  have hP : va_P G.1 vwCl (wXP G x hh ra sl a k R3 ki fi q13.1 q13.2.1 q7.1 ro q13.2.2.1 q13.2.2.2 q9.2.2 q5.2.2.1 q11.1 q11.2.1 q11.2.2.1 q11.2.2.2 q1.2.1 q1.2.2) H := hP
  have hD : va_D A (wXP G x hh ra sl a k R3 ki fi q13.1 q13.2.1 q7.1 ro q13.2.2.1 q13.2.2.2 q9.2.2 q5.2.2.1 q11.1 q11.2.1 q11.2.2.1 q11.2.2.2 q1.2.1 q1.2.2) := hD
  refine lv_aload_n hx hb dX4_collect_89 rfl (lv_at hl 1 rfl) ?_
  refine va_get (D := G.1) (ci := 4) (v := .ref (a 0)) (C := RX4) (T := TX4) (N := 4) hx hb hts w1_X4_collect hown hK.1 hP 0 rfl rfl 0 (by decide) (hts _ w2_X4_collect) (fun _ h9 => h9) rfl dX4_collect_90 ?_
  refine lv_aload_n hx hb dX4_collect_93 rfl (lv_at hl 1 rfl) ?_
  refine va_get (D := G.1) (ci := 4) (v := .ref (k 0)) (C := RX4) (T := TX4) (N := 4) hx hb hts w1_X4_collect hown hK.1 hP 0 rfl rfl 3 (by decide) (hts _ w3_X4_collect) (fun _ h9 => h9) rfl dX4_collect_94 ?_
  refine va_get (D := G.1) (ci := 1) (v := .int q11.2.1) (C := RX1) (T := TX1) (N := 4) hx hb hts w5_X4_collect hown hK.1 hP 10 rfl rfl 1 (by decide) (hts _ w8_X4_collect) (fun _ h9 => h9) rfl dX4_collect_97 ?_
  refine lv_iconst (v := 0) hx hb dX4_collect_100 (by decide) ?_
  obtain ⟨q15, hc16, hm⟩ := bd_s hm
  refine kq_v (X := (wXQ G x hh ra sl a k R3 ki fi q13.1 q13.2.1 q7.1 ro q13.2.2.1 q13.2.2.2 q9.2.2 q5.2.2.1 q11.1 q11.2.1 q11.2.2.1 q11.2.2.2 q1.2.1 q1.2.2)) (pl := fl G.2.1 R3 8) (cx := (wST G.2.1 a ki fi q13.1 q13.2.1 q7.1 ro q13.2.2.1 q13.2.2.2 q9.2.2 q5.2.2.1)) (wo := (wST G.2.1 a ki fi q13.1 q13.2.1 q15.1 ro q15.2.1 q15.2.2 q9.2.2 q5.2.2.1)) (wr := [(x, .inr (4, [.ref (a 0), .ref hh, .ref sl, .ref (k 0)])), ((k 0), .inr (1, [.ref (k 1), .int q11.2.1, .int q11.2.2.1, .int q11.2.2.2])), ((k 1), .inl (G.2.1, 24, .inl q11.1)), (hh, .inr (0, [.ref ra, .int q1.2.1, .int q1.2.2])), (ra, .inl (G.2.2.2, 6, .inr (.inr (.inr (.inr (rg R3)))))), (sl, .inl (G.2.2.2, 2, .inr (.inr (.inr (.inr (sg R3))))))]) (X' := (wXQ G x hh ra sl a k R3 ki fi q13.1 q13.2.1 q15.1 ro q15.2.1 q15.2.2 q9.2.2 q5.2.2.1 q11.1 q11.2.1 q11.2.2.1 q11.2.2.2 q1.2.1 q1.2.2)) (rV (As := [.int q11.2.1, .int 0]) (rest := []) (b := (a 0)) (wi := (wST G.2.1 a ki fi q13.1 q13.2.1 q7.1 ro q13.2.2.1 q13.2.2.2 q9.2.2 q5.2.2.1)) hF hK (hP.sub [1, 2, 3, 4, 5, 6, 7, 8, 9] rfl) (hD.sub [1, 2, 3, 4, 5, 6, 7, 8, 9] rfl rfl) (c_X3_emptyWeakReferences l G N a ki fi q13.1 q13.2.1 q7.1 ro q13.2.2.1 q13.2.2.2 q9.2.2 q5.2.2.1 q11.2.1 0 q15 hc16 H.size) (cwV 2 hts gX4_collect_X3_emptyWeakReferences rfl rfl rfl (by decide +kernel) ⟨Nat.le_of_ble_eq_true rfl, Nat.le_of_ble_eq_true rfl⟩) (va_recv hK.1 hP (ci := 3) (q0 := 1) rfl rfl) rfl hl.1 rfl (Nat.le_of_ble_eq_true rfl) dX4_collect_101 ⟨Nat.le_of_ble_eq_true rfl, Nat.le_of_ble_eq_true rfl⟩) hP hD hS hA [1, 2, 3, 4, 5, 6, 7, 8, 9] [0, 10, 11, 12, 13, 14] [0, 6, 7, 8, 9, 10, 11, 12, 13, 14, 1, 2, 3, 4, 5] rfl rfl rfl (by decide) rfl rfl (fun H locs hP hD hS => ?_)
  have hP : va_P G.1 vwCl (wXP G x hh ra sl a k R3 ki fi q13.1 q13.2.1 q15.1 ro q15.2.1 q15.2.2 q9.2.2 q5.2.2.1 q11.1 q11.2.1 q11.2.2.1 q11.2.2.2 q1.2.1 q1.2.2) H := hP
  have hD : va_D A (wXP G x hh ra sl a k R3 ki fi q13.1 q13.2.1 q15.1 ro q15.2.1 q15.2.2 q9.2.2 q5.2.2.1 q11.1 q11.2.1 q11.2.2.1 q11.2.2.2 q1.2.1 q1.2.2) := hD
  refine lv_aload_n hx hb dX4_collect_104 rfl (lv_at hl 1 rfl) ?_
  refine va_get (D := G.1) (ci := 4) (v := .ref (a 0)) (C := RX4) (T := TX4) (N := 4) hx hb hts w1_X4_collect hown hK.1 hP 0 rfl rfl 0 (by decide) (hts _ w2_X4_collect) (fun _ h9 => h9) rfl dX4_collect_105 ?_
  obtain ⟨q17, hc18, hm⟩ := bd_s hm
  refine kq_i (X := (wXQ G x hh ra sl a k R3 ki fi q13.1 q13.2.1 q15.1 ro q15.2.1 q15.2.2 q9.2.2 q5.2.2.1 q11.1 q11.2.1 q11.2.2.1 q11.2.2.2 q1.2.1 q1.2.2)) (pl := fl G.2.1 R3 8) (cx := (wST G.2.1 a ki fi q13.1 q13.2.1 q15.1 ro q15.2.1 q15.2.2 q9.2.2 q5.2.2.1)) (wo := (wST G.2.1 a ki fi q13.1 q13.2.1 q15.1 ro q15.2.1 q15.2.2 q9.2.2 q5.2.2.1)) (wr := [(x, .inr (4, [.ref (a 0), .ref hh, .ref sl, .ref (k 0)])), ((k 0), .inr (1, [.ref (k 1), .int q11.2.1, .int q11.2.2.1, .int q11.2.2.2])), ((k 1), .inl (G.2.1, 24, .inl q11.1)), (hh, .inr (0, [.ref ra, .int q1.2.1, .int q1.2.2])), (ra, .inl (G.2.2.2, 6, .inr (.inr (.inr (.inr (rg R3)))))), (sl, .inl (G.2.2.2, 2, .inr (.inr (.inr (.inr (sg R3))))))]) (X' := (wXQ G x hh ra sl a k R3 ki fi q13.1 q13.2.1 q15.1 ro q15.2.1 q15.2.2 q9.2.2 q5.2.2.1 q11.1 q11.2.1 q11.2.2.1 q11.2.2.2 q1.2.1 q1.2.2)) (rV (As := []) (rest := []) (b := (a 0)) (wi := (wST G.2.1 a ki fi q13.1 q13.2.1 q15.1 ro q15.2.1 q15.2.2 q9.2.2 q5.2.2.1)) hF hK (hP.sub [1, 2, 3, 4, 5, 6, 7, 8, 9] rfl) (hD.sub [1, 2, 3, 4, 5, 6, 7, 8, 9] rfl rfl) (c_X3_allocated l G N a ki fi q13.1 q13.2.1 q15.1 ro q15.2.1 q15.2.2 q9.2.2 q5.2.2.1 q17 hc18 H.size) (cwV 0 hts gX4_collect_X3_allocated rfl rfl rfl (by decide +kernel) ⟨Nat.le_of_ble_eq_true rfl, Nat.le_of_ble_eq_true rfl⟩) (va_recv hK.1 hP (ci := 3) (q0 := 1) rfl rfl) rfl hl.1 rfl (Nat.le_of_ble_eq_true rfl) dX4_collect_108 ⟨Nat.le_of_ble_eq_true rfl, Nat.le_of_ble_eq_true rfl⟩) hP hD hS hA [1, 2, 3, 4, 5, 6, 7, 8, 9] [0, 10, 11, 12, 13, 14] [0, 6, 7, 8, 9, 10, 11, 12, 13, 14, 1, 2, 3, 4, 5] rfl rfl rfl (by decide) rfl rfl (fun H locs hP hD hS => ?_)
  have hP : va_P G.1 vwCl (wXP G x hh ra sl a k R3 ki fi q13.1 q13.2.1 q15.1 ro q15.2.1 q15.2.2 q9.2.2 q5.2.2.1 q11.1 q11.2.1 q11.2.2.1 q11.2.2.2 q1.2.1 q1.2.2) H := hP
  have hD : va_D A (wXP G x hh ra sl a k R3 ki fi q13.1 q13.2.1 q15.1 ro q15.2.1 q15.2.2 q9.2.2 q5.2.2.1 q11.1 q11.2.1 q11.2.2.1 q11.2.2.2 q1.2.1 q1.2.2) := hD
  refine lv_aload_n hx hb dX4_collect_111 rfl (lv_at hl 1 rfl) ?_
  refine va_get (D := G.1) (ci := 4) (v := .ref (k 0)) (C := RX4) (T := TX4) (N := 4) hx hb hts w1_X4_collect hown hK.1 hP 0 rfl rfl 3 (by decide) (hts _ w3_X4_collect) (fun _ h9 => h9) rfl dX4_collect_112 ?_
  refine va_get (D := G.1) (ci := 1) (v := .int q11.2.1) (C := RX1) (T := TX1) (N := 4) hx hb hts w5_X4_collect hown hK.1 hP 10 rfl rfl 1 (by decide) (hts _ w8_X4_collect) (fun _ h9 => h9) rfl dX4_collect_115 ?_
  refine lv_iconst (v := (-1)) hx hb dX4_collect_118 (by decide) ?_
  refine lv_ixor hx hb dX4_collect_119 ?_
  refine lv_iand hx hb dX4_collect_120 ?_
  refine lv_istore_n (lv' := [(2, .int (q17 &&& (q11.2.1 ^^^ (-1)))), (1, .int (fin &&& (q5.2.1 ^^^ (-1)))), (0, .ref x)]) hx hb dX4_collect_121 rfl hl (by decide) rfl (fun ls hl => ?_)
  refine lv_aload_n hx hb dX4_collect_122 rfl (lv_at hl 2 rfl) ?_
  refine va_get (D := G.1) (ci := 4) (v := .ref (a 0)) (C := RX4) (T := TX4) (N := 4) hx hb hts w1_X4_collect hown hK.1 hP 0 rfl rfl 0 (by decide) (hts _ w2_X4_collect) (fun _ h9 => h9) rfl dX4_collect_123 ?_
  refine lv_iload_n hx hb dX4_collect_126 rfl (lv_at hl 0 rfl) ?_
  obtain ⟨q19, hc20, hm⟩ := bd_s hm
  refine kq_v (X := (wXQ G x hh ra sl a k R3 ki fi q13.1 q13.2.1 q15.1 ro q15.2.1 q15.2.2 q9.2.2 q5.2.2.1 q11.1 q11.2.1 q11.2.2.1 q11.2.2.2 q1.2.1 q1.2.2)) (pl := fl G.2.1 R3 8) (cx := (wST G.2.1 a ki fi q13.1 q13.2.1 q15.1 ro q15.2.1 q15.2.2 q9.2.2 q5.2.2.1)) (wo := (wST G.2.1 a q19.1 q19.2.1 q19.2.2.1 q19.2.2.2.1 q19.2.2.2.2.1 ro q15.2.1 q15.2.2 q19.2.2.2.2.2 q5.2.2.1)) (wr := [(x, .inr (4, [.ref (a 0), .ref hh, .ref sl, .ref (k 0)])), ((k 0), .inr (1, [.ref (k 1), .int q11.2.1, .int q11.2.2.1, .int q11.2.2.2])), ((k 1), .inl (G.2.1, 24, .inl q11.1)), (hh, .inr (0, [.ref ra, .int q1.2.1, .int q1.2.2])), (ra, .inl (G.2.2.2, 6, .inr (.inr (.inr (.inr (rg R3)))))), (sl, .inl (G.2.2.2, 2, .inr (.inr (.inr (.inr (sg R3))))))]) (X' := (wXQ G x hh ra sl a k R3 q19.1 q19.2.1 q19.2.2.1 q19.2.2.2.1 q19.2.2.2.2.1 ro q15.2.1 q15.2.2 q19.2.2.2.2.2 q5.2.2.1 q11.1 q11.2.1 q11.2.2.1 q11.2.2.2 q1.2.1 q1.2.2)) (rV (As := [.int (q17 &&& (q11.2.1 ^^^ (-1)))]) (rest := []) (b := (a 0)) (wi := (wST G.2.1 a ki fi q13.1 q13.2.1 q15.1 ro q15.2.1 q15.2.2 q9.2.2 q5.2.2.1)) hF hK (hP.sub [1, 2, 3, 4, 5, 6, 7, 8, 9] rfl) (hD.sub [1, 2, 3, 4, 5, 6, 7, 8, 9] rfl rfl) (c_X3_free l G N a ki fi q13.1 q13.2.1 q15.1 ro q15.2.1 q15.2.2 q9.2.2 q5.2.2.1 (q17 &&& (q11.2.1 ^^^ (-1))) q19 hc20 H.size) (cwV 1 hts gX4_collect_X3_free rfl rfl rfl (by decide +kernel) ⟨Nat.le_of_ble_eq_true rfl, Nat.le_of_ble_eq_true rfl⟩) (va_recv hK.1 hP (ci := 3) (q0 := 1) rfl rfl) rfl hl.1 rfl (Nat.le_of_ble_eq_true rfl) dX4_collect_127 ⟨Nat.le_of_ble_eq_true rfl, Nat.le_of_ble_eq_true rfl⟩) hP hD hS hA [1, 2, 3, 4, 5, 6, 7, 8, 9] [0, 10, 11, 12, 13, 14] [0, 6, 7, 8, 9, 10, 11, 12, 13, 14, 1, 2, 3, 4, 5] rfl rfl rfl (by decide) rfl rfl (fun H locs hP hD hS => ?_)
  have hP : va_P G.1 vwCl (wXP G x hh ra sl a k R3 q19.1 q19.2.1 q19.2.2.1 q19.2.2.2.1 q19.2.2.2.2.1 ro q15.2.1 q15.2.2 q19.2.2.2.2.2 q5.2.2.1 q11.1 q11.2.1 q11.2.2.1 q11.2.2.2 q1.2.1 q1.2.2) H := hP
  have hD : va_D A (wXP G x hh ra sl a k R3 q19.1 q19.2.1 q19.2.2.1 q19.2.2.2.1 q19.2.2.2.2.1 ro q15.2.1 q15.2.2 q19.2.2.2.2.2 q5.2.2.1 q11.1 q11.2.1 q11.2.2.1 q11.2.2.2 q1.2.1 q1.2.2) := hD
  refine lv_iload_n hx hb dX4_collect_130 rfl (lv_at hl 0 rfl) ?_
  obtain ⟨q21, hc22, hm⟩ := bd_s hm
  refine k0_i (ws := (wXP G x hh ra sl a k R3 q19.1 q19.2.1 q19.2.2.1 q19.2.2.2.1 q19.2.2.2.2.1 ro q15.2.1 q15.2.2 q19.2.2.2.2.2 q5.2.2.1 q11.1 q11.2.1 q11.2.2.1 q11.2.2.2 q1.2.1 q1.2.2)) (rS (As := [.int (q17 &&& (q11.2.1 ^^^ (-1)))]) (rest := []) (wi := ([] : va_W)) hF hK k0_P (k0_D (A := A)) (c_J6_bitCount_0f7a4 l G (q17 &&& (q11.2.1 ^^^ (-1))) q21 hc22 H.size) (va_cwS 1 hts gX4_collect_J6_bitCount_0f7a4 rfl rfl rfl (by decide +kernel) ⟨Nat.le_of_ble_eq_true rfl, Nat.le_of_ble_eq_true rfl⟩) rfl hl.1 rfl (Nat.le_of_ble_eq_true rfl) dX4_collect_131 ⟨Nat.le_of_ble_eq_true rfl, Nat.le_of_ble_eq_true rfl⟩) hP hS hA (fun H locs hP hS => ?_)
  cases hm
  refine W.widen (k := 9) (n := 445) (Nat.le_of_ble_eq_true rfl) (Nat.le_of_ble_eq_true rfl) ?_
  exact rt_j R3 hR4 hx hb hr hlocks hP hD hS dX4_collect_134
def M_X4_pollNotice (ki : Nat → Int32) (fi : Nat → Int32) (ke : Nat → Int32) (va : Nat → Int32) (ta : Nat → Int32) (ro : Nat → Int32) (qu : Nat → Int32) (nsz : Int32) (fin : Int32) (rnd : Int32) (nx : Int32) (dp : Int32) (rv : Nat → Option SV) : Option (Int32 × (Nat → Int32) × Int32 × Int32 × Int32 × (Nat → Option SV)) :=
  if nsz = 0 then (some ((-2), qu, nsz, nx, dp, rv)) else ((M_X0_push rv nx dp (pkS ki fi ke va ta ro qu nsz fin rnd)).bind fun q2 => (M_X2_removeOldest qu nsz).bind fun q6 => some (q6.1, q6.2.1, q6.2.2, q2.2.1, q2.2.2, q2.1))
theorem w0_X4_pollNotice : Cond.fieldLink RX4 10 "WeakTableHeap" "state" "LWeakTableHeap$State;" ∈ wsX4_pollNotice := by decide +kernel
theorem w1_X4_pollNotice : ∀ w ∈ u_ws RX4 TX4 4, w ∈ wsX4_pollNotice := by decide +kernel
theorem w2_X4_pollNotice : Cond.fieldLink RX4 141 "WeakTableHeap$State" "notices" "LWeakTableHeap$Notices;" ∈ wsX4_pollNotice := by decide +kernel
theorem w3_X4_pollNotice : ∀ w ∈ u_ws RX3 TX3 9, w ∈ wsX4_pollNotice := by decide +kernel
theorem w4_X4_pollNotice : Cond.fieldLink RX4 145 "WeakTableHeap$Notices" "size" "I" ∈ wsX4_pollNotice := by decide +kernel
theorem w5_X4_pollNotice : ∀ w ∈ u_ws RX2 TX2 2, w ∈ wsX4_pollNotice := by decide +kernel
theorem w6_X4_pollNotice : Cond.fieldLink RX4 19 "WeakTableHeap" "history" "LWeakTableHeap$History;" ∈ wsX4_pollNotice := by decide +kernel
abbrev rm_X4_pollNotice : Room := { frames := 5, cells := 9, slots := 445, locals := 102 }
set_option maxHeartbeats 4000000 in
set_option maxRecDepth 100000 in
theorem c_X4_pollNotice (l : Launch) (G : GG) (x : Nat) (hh : Nat) (ra : Nat) (sl : Nat) (a : Nat → Nat) (k : Nat → Nat) (R : SP) (ki : Nat → Int32) (fi : Nat → Int32) (ke : Nat → Int32) (va : Nat → Int32) (ta : Nat → Int32) (ro : Nat → Int32) (qu : Nat → Int32) (nsz : Int32) (fin : Int32) (rnd : Int32) (rd : Nat → Int32) (mkd : Int32) (lr : Int32) (un : Int32) (nx : Int32) (dp : Int32) (q : Int32 × (Nat → Int32) × Int32 × Int32 × Int32 × (Nat → Option SV)) (hm : M_X4_pollNotice ki fi ke va ta ro qu nsz fin rnd nx dp (vals R) = some q) : CTj l yX4_pollNotice wsX4_pollNotice rm_X4_pollNotice G [.ref x] (wXP G x hh ra sl a k R ki fi ke va ta ro qu nsz fin rnd rd mkd lr un nx dp) q.1 (fun R9 : SP => vals R9 = q.2.2.2.2.2) (fun R9 : SP => (wXP G x hh ra sl a k R9 ki fi ke va ta ro q.2.1 q.2.2.1 fin rnd rd mkd lr un q.2.2.2.1 q.2.2.2.2.1)) := by
  intro sz
  refine mk_body (Qc := fun A => (QJ G A q.1 (fun R9 : SP => vals R9 = q.2.2.2.2.2) (fun R9 : SP => (wXP G x hh ra sl a k R9 ki fi ke va ta ro q.2.1 q.2.2.1 fin rnd rd mkd lr un q.2.2.2.1 q.2.2.2.2.1)))) (cc := cX4_pollNotice) (maxL := 1) (ret := (some .int)) (lv := [(0, .ref x)]) (by decide) rfl rfl (Nat.le_of_ble_eq_true rfl) ?_
  intro p e s m args below meth c A H locs ls hF hr hlocks hname hK hA hP hD hS hl
  obtain ⟨hx, hb, hml, hown, hts⟩ := id hF
  unfold M_X4_pollNotice at hm
  refine lv_aload_n hx hb dX4_pollNotice_0 rfl (lv_at hl 0 rfl) ?_
  refine va_get (D := G.1) (ci := 4) (v := .ref (a 0)) (C := RX4) (T := TX4) (N := 4) hx hb hts w1_X4_pollNotice hown hK.1 hP 0 rfl rfl 0 (by decide) (hts _ w0_X4_pollNotice) (fun _ h9 => h9) rfl dX4_pollNotice_1 ?_
  refine va_get (D := G.1) (ci := 3) (v := .ref (a 7)) (C := RX3) (T := TX3) (N := 9) hx hb hts w3_X4_pollNotice hown hK.1 hP 1 rfl rfl 6 (by decide) (hts _ w2_X4_pollNotice) (fun _ h9 => h9) rfl dX4_pollNotice_4 ?_
  refine va_get (D := G.1) (ci := 2) (v := .int nsz) (C := RX2) (T := TX2) (N := 2) hx hb hts w5_X4_pollNotice hown hK.1 hP 8 rfl rfl 1 (by decide) (hts _ w4_X4_pollNotice) (fun _ h9 => h9) rfl dX4_pollNotice_7 ?_
  refine lv_if_ne (tgt := 16) hx hb dX4_pollNotice_10 (by decide) (fun c1 => ?_) (fun c1 => ?_)
  · replace hm := it_f c1 hm
    refine lv_aload_n hx hb dX4_pollNotice_16 rfl (lv_at hl 0 rfl) ?_
    refine va_get (D := G.1) (ci := 4) (v := .ref hh) (C := RX4) (T := TX4) (N := 4) hx hb hts w1_X4_pollNotice hown hK.1 hP 0 rfl rfl 1 (by decide) (hts _ w6_X4_pollNotice) (fun _ h9 => h9) rfl dX4_pollNotice_17 ?_
    refine lv_aload_n hx hb dX4_pollNotice_20 rfl (lv_at hl 0 rfl) ?_
    refine va_get (D := G.1) (ci := 4) (v := .ref (a 0)) (C := RX4) (T := TX4) (N := 4) hx hb hts w1_X4_pollNotice hown hK.1 hP 0 rfl rfl 0 (by decide) (hts _ w0_X4_pollNotice) (fun _ h9 => h9) rfl dX4_pollNotice_21 ?_
    obtain ⟨q2, hc3, hm⟩ := bd_s hm
    refine kp_n (S := SP) (ok := fun R9 : SP => vals R9 = q2.1) (X := (wXQ G x hh ra sl a k R ki fi ke va ta ro qu nsz fin rnd rd mkd lr un nx dp)) (pl := fl G.2.1 R 8) (cx := (wST G.2.1 a ki fi ke va ta ro qu nsz fin rnd ++ wHX G hh ra sl R nx dp)) (rx := (fun R9 : SP => wST G.2.1 a ki fi ke va ta ro qu nsz fin rnd ++ wHX G hh ra sl R9 q2.2.1 q2.2.2)) (pl1 := fun R9 : SP => fl G.2.1 R9 8) (wr := [(x, .inr (4, [.ref (a 0), .ref hh, .ref sl, .ref (k 0)])), ((k 0), .inr (1, [.ref (k 1), .int mkd, .int lr, .int un])), ((k 1), .inl (G.2.1, 24, .inl rd))]) (X' := fun R9 : SP => (wXQ G x hh ra sl a k R9 ki fi ke va ta ro qu nsz fin rnd rd mkd lr un q2.2.1 q2.2.2)) (rV (As := [.ref (a 0)]) (rest := []) (b := hh) (wi := ((wST G.2.1 a ki fi ke va ta ro qu nsz fin rnd ++ wHX G hh ra sl R nx dp) ++ fl G.2.1 R 8)) hF hK (hP.part [1, 2, 3, 4, 5, 6, 7, 8, 9, 12, 13, 14] rfl) (hD.part [1, 2, 3, 4, 5, 6, 7, 8, 9, 12, 13, 14] rfl rfl) (c_X0_push l G hh ra sl a R ki fi ke va ta ro qu nsz fin rnd nx dp q2 hc3 H.size) (cwV 1 hts gX4_pollNotice_X0_push rfl rfl rfl (by decide +kernel) ⟨Nat.le_of_ble_eq_true rfl, Nat.le_of_ble_eq_true rfl⟩) (va_recv hK.1 hP (ci := 0) (q0 := 12) rfl rfl) rfl hl.1 rfl (Nat.le_of_ble_eq_true rfl) dX4_pollNotice_24 ⟨Nat.le_of_ble_eq_true rfl, Nat.le_of_ble_eq_true rfl⟩) hP hD hS hA [1, 2, 3, 4, 5, 6, 7, 8, 9, 12, 13, 14] [0, 10, 11] [0, 3, 4, 5, 6, 7, 8, 9, 10, 11, 1, 2, 12, 13, 14] rfl rfl rfl (by decide) (fun _ => rfl) rfl (fun R4 H locs hR5 hP hD hS => ?_)
    have hP : va_P G.1 vwCl (wXP G x hh ra sl a k R4 ki fi ke va ta ro qu nsz fin rnd rd mkd lr un q2.2.1 q2.2.2) H := hP
    have hD : va_D A (wXP G x hh ra sl a k R4 ki fi ke va ta ro qu nsz fin rnd rd mkd lr un q2.2.1 q2.2.2) := hD
    refine lv_aload_n hx hb dX4_pollNotice_27 rfl (lv_at hl 0 rfl) ?_
    refine va_get (D := G.1) (ci := 4) (v := .ref (a 0)) (C := RX4) (T := TX4) (N := 4) hx hb hts w1_X4_pollNotice hown hK.1 hP 0 rfl rfl 0 (by decide) (hts _ w0_X4_pollNotice) (fun _ h9 => h9) rfl dX4_pollNotice_28 ?_
    refine va_get (D := G.1) (ci := 3) (v := .ref (a 7)) (C := RX3) (T := TX3) (N := 9) hx hb hts w3_X4_pollNotice hown hK.1 hP 1 rfl rfl 6 (by decide) (hts _ w2_X4_pollNotice) (fun _ h9 => h9) rfl dX4_pollNotice_31 ?_
    obtain ⟨q6, hc7, hm⟩ := bd_s hm
    refine kq_i (X := (wXQ G x hh ra sl a k R4 ki fi ke va ta ro qu nsz fin rnd rd mkd lr un q2.2.1 q2.2.2)) (pl := fl G.2.1 R4 8) (cx := (wNT G.2.1 (a 7) (a 8) qu nsz)) (wo := (wNT G.2.1 (a 7) (a 8) q6.2.1 q6.2.2)) (wr := [(x, .inr (4, [.ref (a 0), .ref hh, .ref sl, .ref (k 0)])), ((a 0), .inr (3, [.ref (a 1), .ref (a 2), .ref (a 3), .ref (a 4), .ref (a 5), .ref (a 6), .ref (a 7), .int fin, .int rnd])), ((a 1), .inl (G.2.1, 24, .inl ki)), ((a 2), .inl (G.2.1, 72, .inl fi)), ((a 3), .inl (G.2.1, 144, .inl ke)), ((a 4), .inl (G.2.1, 144, .inl va)), ((a 5), .inl (G.2.1, 24, .inl ta)), ((a 6), .inl (G.2.1, 6, .inl ro)), ((k 0), .inr (1, [.ref (k 1), .int mkd, .int lr, .int un])), ((k 1), .inl (G.2.1, 24, .inl rd)), (hh, .inr (0, [.ref ra, .int q2.2.1, .int q2.2.2])), (ra, .inl (G.2.2.2, 6, .inr (.inr (.inr (.inr (rg R4)))))), (sl, .inl (G.2.2.2, 2, .inr (.inr (.inr (.inr (sg R4))))))]) (X' := (wXQ G x hh ra sl a k R4 ki fi ke va ta ro q6.2.1 q6.2.2 fin rnd rd mkd lr un q2.2.1 q2.2.2)) (rV (As := []) (rest := []) (b := (a 7)) (wi := (wNT G.2.1 (a 7) (a 8) qu nsz)) hF hK (hP.sub [8, 9] rfl) (hD.sub [8, 9] rfl rfl) (c_X2_removeOldest l G (a 7) (a 8) qu nsz q6 hc7 H.size) (cwV 0 hts gX4_pollNotice_X2_removeOldest rfl rfl rfl (by decide +kernel) ⟨Nat.le_of_ble_eq_true rfl, Nat.le_of_ble_eq_true rfl⟩) (va_recv hK.1 hP (ci := 2) (q0 := 8) rfl rfl) rfl hl.1 rfl (Nat.le_of_ble_eq_true rfl) dX4_pollNotice_34 ⟨Nat.le_of_ble_eq_true rfl, Nat.le_of_ble_eq_true rfl⟩) hP hD hS hA [8, 9] [0, 1, 2, 3, 4, 5, 6, 7, 10, 11, 12, 13, 14] [0, 1, 2, 3, 4, 5, 6, 7, 13, 14, 8, 9, 10, 11, 12] rfl rfl rfl (by decide) rfl rfl (fun H locs hP hD hS => ?_)
    have hP : va_P G.1 vwCl (wXP G x hh ra sl a k R4 ki fi ke va ta ro q6.2.1 q6.2.2 fin rnd rd mkd lr un q2.2.1 q2.2.2) H := hP
    have hD : va_D A (wXP G x hh ra sl a k R4 ki fi ke va ta ro q6.2.1 q6.2.2 fin rnd rd mkd lr un q2.2.1 q2.2.2) := hD
    cases hm
    refine W.widen (k := 9) (n := 445) (Nat.le_of_ble_eq_true rfl) (Nat.le_of_ble_eq_true rfl) ?_
    exact rt_j R4 hR5 hx hb hr hlocks hP hD hS dX4_pollNotice_37
  · replace hm := it_t c1 hm
    refine lv_bipush (v := (-2)) hx hb dX4_pollNotice_13 (by decide) ?_
    cases hm
    refine W.widen (k := 9) (n := 445) (Nat.le_of_ble_eq_true rfl) (Nat.le_of_ble_eq_true rfl) ?_
    exact rt_j R rfl hx hb hr hlocks hP hD hS dX4_pollNotice_15
def M_X4_undo (ki : Nat → Int32) (fi : Nat → Int32) (ke : Nat → Int32) (va : Nat → Int32) (ta : Nat → Int32) (ro : Nat → Int32) (qu : Nat → Int32) (nsz : Int32) (fin : Int32) (rnd : Int32) (nx : Int32) (dp : Int32) (rv : Nat → Option SV) : Option (Int32 × (Nat → Int32) × (Nat → Int32) × (Nat → Int32) × (Nat → Int32) × (Nat → Int32) × (Nat → Int32) × (Nat → Int32) × Int32 × Int32 × Int32 × Int32 × Int32) :=
  (M_X0_popInto rv nx dp (pkS ki fi ke va ta ro qu nsz fin rnd)).bind fun q1 => if q1.1 = 0 then (some ((-2), (q1.2.1.1 0), (q1.2.1.1 1), (q1.2.1.1 2), (q1.2.1.1 3), (q1.2.1.1 4), (q1.2.1.1 5), (q1.2.1.1 6), (q1.2.1.2 0), (q1.2.1.2 1), (q1.2.1.2 2), q1.2.2.1, q1.2.2.2)) else (some (q1.2.2.2, (q1.2.1.1 0), (q1.2.1.1 1), (q1.2.1.1 2), (q1.2.1.1 3), (q1.2.1.1 4), (q1.2.1.1 5), (q1.2.1.1 6), (q1.2.1.2 0), (q1.2.1.2 1), (q1.2.1.2 2), q1.2.2.1, q1.2.2.2))
theorem w0_X4_undo : Cond.fieldLink RX4 19 "WeakTableHeap" "history" "LWeakTableHeap$History;" ∈ wsX4_undo := by decide +kernel
theorem w1_X4_undo : ∀ w ∈ u_ws RX4 TX4 4, w ∈ wsX4_undo := by decide +kernel
theorem w2_X4_undo : Cond.fieldLink RX4 10 "WeakTableHeap" "state" "LWeakTableHeap$State;" ∈ wsX4_undo := by decide +kernel
theorem w3_X4_undo : Cond.fieldLink RX4 174 "WeakTableHeap$History" "depth" "I" ∈ wsX4_undo := by decide +kernel
theorem w4_X4_undo : ∀ w ∈ u_ws RX0 TX0 3, w ∈ wsX4_undo := by decide +kernel
abbrev rm_X4_undo : Room := { frames := 5, cells := 0, slots := 0, locals := 103 }
set_option maxHeartbeats 4000000 in
set_option maxRecDepth 100000 in
theorem c_X4_undo (l : Launch) (G : GG) (x : Nat) (hh : Nat) (ra : Nat) (sl : Nat) (a : Nat → Nat) (k : Nat → Nat) (R : SP) (ki : Nat → Int32) (fi : Nat → Int32) (ke : Nat → Int32) (va : Nat → Int32) (ta : Nat → Int32) (ro : Nat → Int32) (qu : Nat → Int32) (nsz : Int32) (fin : Int32) (rnd : Int32) (rd : Nat → Int32) (mkd : Int32) (lr : Int32) (un : Int32) (nx : Int32) (dp : Int32) (q : Int32 × (Nat → Int32) × (Nat → Int32) × (Nat → Int32) × (Nat → Int32) × (Nat → Int32) × (Nat → Int32) × (Nat → Int32) × Int32 × Int32 × Int32 × Int32 × Int32) (hm : M_X4_undo ki fi ke va ta ro qu nsz fin rnd nx dp (vals R) = some q) : CTj l yX4_undo wsX4_undo rm_X4_undo G [.ref x] (wXP G x hh ra sl a k R ki fi ke va ta ro qu nsz fin rnd rd mkd lr un nx dp) q.1 (fun R9 : SP => vals R9 = (vals R)) (fun R9 : SP => (wXP G x hh ra sl a k R9 q.2.1 q.2.2.1 q.2.2.2.1 q.2.2.2.2.1 q.2.2.2.2.2.1 q.2.2.2.2.2.2.1 q.2.2.2.2.2.2.2.1 q.2.2.2.2.2.2.2.2.1 q.2.2.2.2.2.2.2.2.2.1 q.2.2.2.2.2.2.2.2.2.2.1 rd mkd lr un q.2.2.2.2.2.2.2.2.2.2.2.1 q.2.2.2.2.2.2.2.2.2.2.2.2)) := by
  intro sz
  refine mk_body (Qc := fun A => (QJ G A q.1 (fun R9 : SP => vals R9 = (vals R)) (fun R9 : SP => (wXP G x hh ra sl a k R9 q.2.1 q.2.2.1 q.2.2.2.1 q.2.2.2.2.1 q.2.2.2.2.2.1 q.2.2.2.2.2.2.1 q.2.2.2.2.2.2.2.1 q.2.2.2.2.2.2.2.2.1 q.2.2.2.2.2.2.2.2.2.1 q.2.2.2.2.2.2.2.2.2.2.1 rd mkd lr un q.2.2.2.2.2.2.2.2.2.2.2.1 q.2.2.2.2.2.2.2.2.2.2.2.2)))) (cc := cX4_undo) (maxL := 1) (ret := (some .int)) (lv := [(0, .ref x)]) (by decide) rfl rfl (Nat.le_of_ble_eq_true rfl) ?_
  intro p e s m args below meth c A H locs ls hF hr hlocks hname hK hA hP hD hS hl
  obtain ⟨hx, hb, hml, hown, hts⟩ := id hF
  unfold M_X4_undo at hm
  refine lv_aload_n hx hb dX4_undo_0 rfl (lv_at hl 0 rfl) ?_
  refine va_get (D := G.1) (ci := 4) (v := .ref hh) (C := RX4) (T := TX4) (N := 4) hx hb hts w1_X4_undo hown hK.1 hP 0 rfl rfl 1 (by decide) (hts _ w0_X4_undo) (fun _ h9 => h9) rfl dX4_undo_1 ?_
  refine lv_aload_n hx hb dX4_undo_4 rfl (lv_at hl 0 rfl) ?_
  refine va_get (D := G.1) (ci := 4) (v := .ref (a 0)) (C := RX4) (T := TX4) (N := 4) hx hb hts w1_X4_undo hown hK.1 hP 0 rfl rfl 0 (by decide) (hts _ w2_X4_undo) (fun _ h9 => h9) rfl dX4_undo_5 ?_
  obtain ⟨q1, hc2, hm⟩ := bd_s hm
  refine kp_j (S := Unit) (r := q1.1) (ok := fun _ : Unit => True) (X := (wXQ G x hh ra sl a k R ki fi ke va ta ro qu nsz fin rnd rd mkd lr un nx dp)) (pl := fl G.2.1 R 8) (cx := (wST G.2.1 a ki fi ke va ta ro qu nsz fin rnd ++ wHX G hh ra sl R nx dp)) (rx := (fun _ : Unit => wSV G.2.1 a q1.2.1 ++ wHX G hh ra sl R q1.2.2.1 q1.2.2.2)) (pl1 := fun _ : Unit => fl G.2.1 R 8) (wr := [(x, .inr (4, [.ref (a 0), .ref hh, .ref sl, .ref (k 0)])), ((k 0), .inr (1, [.ref (k 1), .int mkd, .int lr, .int un])), ((k 1), .inl (G.2.1, 24, .inl rd))]) (X' := fun _ : Unit => (wXQ G x hh ra sl a k R (q1.2.1.1 0) (q1.2.1.1 1) (q1.2.1.1 2) (q1.2.1.1 3) (q1.2.1.1 4) (q1.2.1.1 5) (q1.2.1.1 6) (q1.2.1.2 0) (q1.2.1.2 1) (q1.2.1.2 2) rd mkd lr un q1.2.2.1 q1.2.2.2)) (rV (As := [.ref (a 0)]) (rest := []) (b := hh) (wi := ((wST G.2.1 a ki fi ke va ta ro qu nsz fin rnd ++ wHX G hh ra sl R nx dp) ++ fl G.2.1 R 8)) hF hK (hP.part [1, 2, 3, 4, 5, 6, 7, 8, 9, 12, 13, 14] rfl) (hD.part [1, 2, 3, 4, 5, 6, 7, 8, 9, 12, 13, 14] rfl rfl) (c_X0_popInto l G hh ra sl a R ki fi ke va ta ro qu nsz fin rnd nx dp q1 hc2 H.size) (cwV 1 hts gX4_undo_X0_popInto rfl rfl rfl (by decide +kernel) ⟨Nat.le_of_ble_eq_true rfl, Nat.le_of_ble_eq_true rfl⟩) (va_recv hK.1 hP (ci := 0) (q0 := 12) rfl rfl) rfl hl.1 rfl (Nat.le_of_ble_eq_true rfl) dX4_undo_8 ⟨Nat.le_of_ble_eq_true rfl, Nat.le_of_ble_eq_true rfl⟩) hP hD hS hA [1, 2, 3, 4, 5, 6, 7, 8, 9, 12, 13, 14] [0, 10, 11] [0, 3, 4, 5, 6, 7, 8, 9, 10, 11, 1, 2, 12, 13, 14] rfl rfl rfl (by decide) (fun _ => rfl) rfl (fun _ H locs _ hP hD hS => ?_)
  have hP : va_P G.1 vwCl (wXP G x hh ra sl a k R (q1.2.1.1 0) (q1.2.1.1 1) (q1.2.1.1 2) (q1.2.1.1 3) (q1.2.1.1 4) (q1.2.1.1 5) (q1.2.1.1 6) (q1.2.1.2 0) (q1.2.1.2 1) (q1.2.1.2 2) rd mkd lr un q1.2.2.1 q1.2.2.2) H := hP
  have hD : va_D A (wXP G x hh ra sl a k R (q1.2.1.1 0) (q1.2.1.1 1) (q1.2.1.1 2) (q1.2.1.1 3) (q1.2.1.1 4) (q1.2.1.1 5) (q1.2.1.1 6) (q1.2.1.2 0) (q1.2.1.2 1) (q1.2.1.2 2) rd mkd lr un q1.2.2.1 q1.2.2.2) := hD
  refine lv_if_ne (tgt := 17) hx hb dX4_undo_11 (by decide) (fun c3 => ?_) (fun c3 => ?_)
  · replace hm := it_f c3 hm
    refine lv_aload_n hx hb dX4_undo_17 rfl (lv_at hl 0 rfl) ?_
    refine va_get (D := G.1) (ci := 4) (v := .ref hh) (C := RX4) (T := TX4) (N := 4) hx hb hts w1_X4_undo hown hK.1 hP 0 rfl rfl 1 (by decide) (hts _ w0_X4_undo) (fun _ h9 => h9) rfl dX4_undo_18 ?_
    refine va_get (D := G.1) (ci := 0) (v := .int q1.2.2.2) (C := RX0) (T := TX0) (N := 3) hx hb hts w4_X4_undo hown hK.1 hP 12 rfl rfl 2 (by decide) (hts _ w3_X4_undo) (fun _ h9 => h9) rfl dX4_undo_21 ?_
    cases hm
    refine W.widen (k := 0) (n := 0) (Nat.le_of_ble_eq_true rfl) (Nat.le_of_ble_eq_true rfl) ?_
    exact rt_j R rfl hx hb hr hlocks hP hD hS dX4_undo_24
  · replace hm := it_t c3 hm
    refine lv_bipush (v := (-2)) hx hb dX4_undo_14 (by decide) ?_
    cases hm
    refine W.widen (k := 0) (n := 0) (Nat.le_of_ble_eq_true rfl) (Nat.le_of_ble_eq_true rfl) ?_
    exact rt_j R rfl hx hb hr hlocks hP hD hS dX4_undo_16
def M_X4_undoDepth (dp : Int32) : Option (Int32) :=
  some dp
theorem w0_X4_undoDepth : Cond.fieldLink RX4 19 "WeakTableHeap" "history" "LWeakTableHeap$History;" ∈ wsX4_undoDepth := by decide +kernel
theorem w1_X4_undoDepth : ∀ w ∈ u_ws RX4 TX4 4, w ∈ wsX4_undoDepth := by decide +kernel
theorem w2_X4_undoDepth : Cond.fieldLink RX4 174 "WeakTableHeap$History" "depth" "I" ∈ wsX4_undoDepth := by decide +kernel
theorem w3_X4_undoDepth : ∀ w ∈ u_ws RX0 TX0 3, w ∈ wsX4_undoDepth := by decide +kernel
abbrev rm_X4_undoDepth : Room := { frames := 0, cells := 0, slots := 0, locals := 0 }
set_option maxHeartbeats 4000000 in
set_option maxRecDepth 100000 in
theorem c_X4_undoDepth (l : Launch) (G : GG) (x : Nat) (hh : Nat) (ra : Nat) (sl : Nat) (a : Nat → Nat) (k : Nat → Nat) (R : SP) (ki : Nat → Int32) (fi : Nat → Int32) (ke : Nat → Int32) (va : Nat → Int32) (ta : Nat → Int32) (ro : Nat → Int32) (qu : Nat → Int32) (nsz : Int32) (fin : Int32) (rnd : Int32) (rd : Nat → Int32) (mkd : Int32) (lr : Int32) (un : Int32) (nx : Int32) (dp : Int32) (q : Int32) (hm : M_X4_undoDepth dp = some q) : CTj l yX4_undoDepth wsX4_undoDepth rm_X4_undoDepth G [.ref x] (wXP G x hh ra sl a k R ki fi ke va ta ro qu nsz fin rnd rd mkd lr un nx dp) q (fun R9 : SP => vals R9 = (vals R)) (fun R9 : SP => (wXP G x hh ra sl a k R9 ki fi ke va ta ro qu nsz fin rnd rd mkd lr un nx dp)) := by
  intro sz
  refine mk_body (Qc := fun A => (QJ G A q (fun R9 : SP => vals R9 = (vals R)) (fun R9 : SP => (wXP G x hh ra sl a k R9 ki fi ke va ta ro qu nsz fin rnd rd mkd lr un nx dp)))) (cc := cX4_undoDepth) (maxL := 1) (ret := (some .int)) (lv := [(0, .ref x)]) (by decide) rfl rfl (Nat.le_of_ble_eq_true rfl) ?_
  intro p e s m args below meth c A H locs ls hF hr hlocks hname hK hA hP hD hS hl
  obtain ⟨hx, hb, hml, hown, hts⟩ := id hF
  unfold M_X4_undoDepth at hm
  refine lv_aload_n hx hb dX4_undoDepth_0 rfl (lv_at hl 0 rfl) ?_
  refine va_get (D := G.1) (ci := 4) (v := .ref hh) (C := RX4) (T := TX4) (N := 4) hx hb hts w1_X4_undoDepth hown hK.1 hP 0 rfl rfl 1 (by decide) (hts _ w0_X4_undoDepth) (fun _ h9 => h9) rfl dX4_undoDepth_1 ?_
  refine va_get (D := G.1) (ci := 0) (v := .int dp) (C := RX0) (T := TX0) (N := 3) hx hb hts w3_X4_undoDepth hown hK.1 hP 12 rfl rfl 2 (by decide) (hts _ w2_X4_undoDepth) (fun _ h9 => h9) rfl dX4_undoDepth_4 ?_
  cases hm
  refine W.widen (k := 0) (n := 0) (Nat.le_of_ble_eq_true rfl) (Nat.le_of_ble_eq_true rfl) ?_
  exact rt_j R rfl hx hb hr hlocks hP hD hS dX4_undoDepth_7
