/-- a state's contents in one piece -/
def pkS (ki fi ke va ta ro qu : Nat → Int32) (nsz fin rnd : Int32) : SV := (fun j => match j with | 0 => ki | 1 => fi | 2 => ke | 3 => va | 4 => ta | 5 => ro | _ => qu, fun j => match j with | 0 => nsz | 1 => fin | _ => rnd)
abbrev TS : Type := (Nat → Int32) × (Nat → Int32) × (Nat → Int32) × (Nat → Int32) × (Nat → Int32) × (Nat → Int32) × (Nat → Int32) × Int32 × Int32 × Int32
def pk (q : TS) : SV := pkS q.1 q.2.1 q.2.2.1 q.2.2.2.1 q.2.2.2.2.1 q.2.2.2.2.2.1 q.2.2.2.2.2.2.1 q.2.2.2.2.2.2.2.1 q.2.2.2.2.2.2.2.2.1 q.2.2.2.2.2.2.2.2.2
/-- d.copyFrom(c) -/
def M_cpy (d c : SV) : Option TS := M_X3_copyFrom (d.1 0) (d.1 1) (d.1 2) (d.1 3) (d.1 4) (d.1 5) (d.1 6) (c.1 0) (c.1 1) (c.1 2) (c.1 3) (c.1 4) (c.1 5) (c.1 6) (c.2 0) (c.2 1) (c.2 2)
def M_X0_push (rv : Nat → Option SV) (nx dp : Int32) (c : SV) : Option ((Nat → Option SV) × Int32 × Int32) :=
  gd nx 6 ((M_cpy ((rv nx.toNatClampNeg).getD frsh) c).bind fun d => some (va_up rv nx.toNatClampNeg (some (pk d)), ((nx + 1) - (nx + 1) / 6 * 6), (if 6 < (dp + 1) then 6 else (dp + 1))))
/-- answers 0 and the state as it was, or 1 and the state that was saved -/
def M_X0_popInto (rv : Nat → Option SV) (nx dp : Int32) (c : SV) : Option (Int32 × SV × Int32 × Int32) :=
  if dp = 0 then some (0, c, nx, dp) else
  gd (((nx + 6) - 1) - ((nx + 6) - 1) / 6 * 6) 6 (match rv (((nx + 6) - 1) - ((nx + 6) - 1) / 6 * 6).toNatClampNeg with
    | none => some (0, c, nx, dp)
    | some v => (M_cpy c v).bind fun d => some (1, pk d, ((nx + 6) - 1) - ((nx + 6) - 1) / 6 * 6, dp - 1))
theorem rg_up {R : SP} {j : Nat} {u : Nat → Nat} {v : SV} : rg (va_up R j (some (u, v))) = va_up (rg R) j (some (u 0)) := by
  funext i
  by_cases h : i = j
  · subst h; simp [rg, va_up]
  · simp [rg, va_up, h]
theorem rg_same {R : SP} {j : Nat} {u : Nat → Nat} {v v' : SV} (h : R j = some (u, v)) : rg (va_up R j (some (u, v'))) = rg R := by
  funext i
  by_cases hi : i = j
  · subst hi; simp [rg, va_up, h]
  · simp [rg, va_up, hi]
theorem sg_low {R : SP} {j : Nat} {z : Option ((Nat → Nat) × SV)} (h : j < 6) : sg (va_up R j z) = sg R := by
  funext i
  have : ¬ 6 + i = j := by omega
  simp [sg, va_up, this]
theorem rg_high {R : SP} {j : Nat} {z : Option ((Nat → Nat) × SV)} : ∀ i, i < 6 → rg (va_up R (6 + j) z) i = rg R i := by
  intro i hi
  have : ¬ i = 6 + j := by omega
  simp [rg, va_up, this]
theorem sg_up {R : SP} {j : Nat} {u : Nat → Nat} {v : SV} : sg (va_up R (6 + j) (some (u, v))) = va_up (sg R) j (some (u 0)) := by
  funext i
  by_cases h : i = j
  · subst h; simp [sg, va_up]
  · have : ¬ 6 + i = 6 + j := by omega
    simp [sg, va_up, h, this]
theorem sg_same {R : SP} {j : Nat} {u : Nat → Nat} {v v' : SV} (h : R (6 + j) = some (u, v)) : sg (va_up R (6 + j) (some (u, v'))) = sg R := by
  funext i
  by_cases hi : i = j
  · subst hi; simp [sg, va_up, h]
  · have : ¬ 6 + i = 6 + j := by omega
    simp [sg, va_up, hi, this]
theorem vals_up {R : SP} {j : Nat} {u : Nat → Nat} {v : SV} : vals (va_up R j (some (u, v))) = va_up (vals R) j (some v) := by
  funext i
  by_cases h : i = j
  · subst h; simp [vals, va_up]
  · simp [vals, va_up, h]
theorem up_none {R : SP} {j : Nat} (h : R j = none) : va_up R j none = R := by
  funext i
  by_cases hi : i = j
  · subst hi; simp [va_up, h]
  · simp [va_up, hi]
/-- the j-th saved state comes to the front -/
theorem pl_out {c : ClassId} {R : SP} {j : Nat} {u : Nat → Nat} {v : SV} (X : va_W) (hj : j < 8) (h : R j = some (u, v)) : (X ++ fl c R 8).Perm ((wSV c u v ++ X) ++ fl c (va_up R j none) 8) := by
  have h1 := fl_perm (c := c) (R := R) (i := j) 8 hj
  rw [h] at h1
  refine (List.Perm.append_left X h1).trans ?_
  show (X ++ (wSV c u v ++ fl c (va_up R j none) 8)).Perm _
  rw [← List.append_assoc]
  exact List.Perm.append_right _ List.perm_append_comm
/-- .. and back, with new contents -/
theorem pl_in {c : ClassId} {R : SP} {j : Nat} {u : Nat → Nat} {v : SV} (X : va_W) (hj : j < 8) : ((wSV c u v ++ X) ++ fl c (va_up R j none) 8).Perm (X ++ fl c (va_up R j (some (u, v))) 8) := by
  have h := pl_out (c := c) (R := va_up R j (some (u, v))) (j := j) (u := u) (v := v) X hj (up_self _ _ _)
  rw [bx_uu] at h
  exact h.symm

theorem wring_X0_push : Cond.fieldLink RX0 11 "WeakTableHeap$History" "ring" "[LWeakTableHeap$State;" ∈ wsX0_push := by decide +kernel
theorem wnext_X0_push : Cond.fieldLink RX0 17 "WeakTableHeap$History" "next" "I" ∈ wsX0_push := by decide +kernel
theorem wdep_X0_push : Cond.fieldLink RX0 26 "WeakTableHeap$History" "depth" "I" ∈ wsX0_push := by decide +kernel
theorem win0_X0_push : ∀ w ∈ u_ws RX0 TX0 3, w ∈ wsX0_push := by decide +kernel
theorem win3_X0_push : ∀ w ∈ u_ws RX3 TX3 9, w ∈ wsX0_push := by decide +kernel
theorem wcl_X0_push : Cond.classLink RX0 9 RX3 ∈ wsX0_push := by decide +kernel
theorem wins_X0_push : Cond.instantiable RX3 9 ∈ wsX0_push := by decide +kernel
theorem wini_X0_push : Cond.initialized RX3 ∈ wsX0_push := by decide +kernel
theorem wim_X0_push : Cond.instanceMethod yX3_init ∈ wsX0_push := by decide +kernel
theorem wml_X0_push : Cond.methodLink RX0 29 Lib.Math.min.name ∈ wsX0_push := by decide +kernel
theorem wms_X0_push : Cond.static Lib.Math.min.name ∈ wsX0_push := by decide +kernel
theorem wmi_X0_push : Cond.initialized "java/lang/Math" ∈ wsX0_push := by decide +kernel
theorem wmc_X0_push : Cond.code Lib.Math.min.name Lib.Math.min.code 2 (some .int) ∈ wsX0_push := by decide +kernel
abbrev rm_X0_push : Room := { frames := 4, cells := 9, slots := 445, locals := 81 }
set_option maxHeartbeats 4000000 in
set_option maxRecDepth 100000 in
theorem c_X0_push (l : Launch) (G : GG) (hh ra sl : Nat) (a : Nat → Nat) (R : SP) (ki : Nat → Int32) (fi : Nat → Int32) (ke : Nat → Int32) (va : Nat → Int32) (ta : Nat → Int32) (ro : Nat → Int32) (qu : Nat → Int32) (nsz : Int32) (fin : Int32) (rnd : Int32) (nx dp : Int32) (q : (Nat → Option SV) × Int32 × Int32) (hm : M_X0_push (vals R) nx dp (pkS ki fi ke va ta ro qu nsz fin rnd) = some q) : CTn l yX0_push wsX0_push rm_X0_push G [.ref hh, .ref (a 0)] ((wST G.2.1 a ki fi ke va ta ro qu nsz fin rnd ++ wHX G hh ra sl R nx dp) ++ fl G.2.1 R 8) (fun R2 : SP => vals R2 = q.1) (fun R2 : SP => (wST G.2.1 a ki fi ke va ta ro qu nsz fin rnd ++ wHX G hh ra sl R2 q.2.1 q.2.2) ++ fl G.2.1 R2 8) := by
  intro sz
  refine mk_body (Qc := fun A => QN G A (fun R2 : SP => vals R2 = q.1) (fun R2 : SP => (wST G.2.1 a ki fi ke va ta ro qu nsz fin rnd ++ wHX G hh ra sl R2 q.2.1 q.2.2) ++ fl G.2.1 R2 8)) (cc := cX0_push) (maxL := 2) (ret := none) (lv := [(0, .ref hh), (1, .ref (a 0))]) (by decide) rfl rfl (Nat.le_of_ble_eq_true rfl) ?_
  intro p e s m args below meth c A H locs ls hF hr hlocks hname hK hA hP hD hS hl
  obtain ⟨hx, hb, hml, hown, hts⟩ := id hF
  unfold M_X0_push at hm
  obtain ⟨hi, hm⟩ := gd_s hm
  obtain ⟨t, ht, hm⟩ := bd_s hm
  cases hm
  have hj : nx.toNatClampNeg < 6 := by
    by_cases h9 : nx.toNatClampNeg < 6
    · exact h9
    · exact absurd (Or.inr (by omega)) hi
  have tail : ∀ (R1 : SP) (u : Nat → Nat) (v : SV), R1 nx.toNatClampNeg = some (u, v) → v = (vals R nx.toNatClampNeg).getD frsh → (∀ i, i ≠ nx.toNatClampNeg → R1 i = R i) → ∀ (H : Heap) (locs : List Loc) (ls : Array Slot) (cells slots : Nat), cells ≤ 9 → slots ≤ 445 → va_P G.1 vwCl ((wST G.2.1 a ki fi ke va ta ro qu nsz fin rnd ++ wHX G hh ra sl R1 nx dp) ++ fl G.2.1 R1 8) H → va_D A ((wST G.2.1 a ki fi ke va ta ro qu nsz fin rnd ++ wHX G hh ra sl R1 nx dp) ++ fl G.2.1 R1 8) → va_S A s.heap H locs → lv_has ls 2 [(0, .ref hh), (1, .ref (a 0))] → W p l e rm_X0_push s m args below meth c H locs cells slots (MQ below (QN G A (fun R2 : SP => vals R2 = (va_up (vals R) nx.toNatClampNeg (some (pk t)))) (fun R2 : SP => (wST G.2.1 a ki fi ke va ta ro qu nsz fin rnd ++ wHX G hh ra sl R2 ((nx + 1) - (nx + 1) / 6 * 6) (if 6 < (dp + 1) then 6 else (dp + 1))) ++ fl G.2.1 R2 8)) args s rm_X0_push.cells rm_X0_push.slots A) (F0 m 28 ls []) := by
    intro R1 u v hR1 hv ho H locs ls cells slots hc hs hP hD hS hl
    refine W.widen (k := 9) (n := 445) hc hs ?_
    refine lv_aload_n hx hb dX0_push_28 rfl (lv_at hl 0 rfl) ?_
    refine va_get (D := G.1) (ci := 0) (v := .ref ra) (C := RX0) (T := TX0) (N := 3) hx hb hts win0_X0_push hown hK.1 hP 9 rfl rfl 0 (by decide) (hts _ wring_X0_push) (fun _ h9 => h9) rfl dX0_push_29 ?_
    refine lv_aload_n hx hb dX0_push_32 rfl (lv_at hl 0 rfl) ?_
    refine va_get (D := G.1) (ci := 0) (v := .int nx) (C := RX0) (T := TX0) (N := 3) hx hb hts win0_X0_push hown hK.1 hP 9 rfl rfl 1 (by decide) (hts _ wnext_X0_push) (fun _ h9 => h9) rfl dX0_push_33 ?_
    refine va_aldq hx hb hK.1 hP 10 2 rfl rfl hi dX0_push_36 ?_
    rw [show va_rf (rg R1 nx.toNatClampNeg) = .ref (u 0) from by simp [rg, hR1, va_rf]]
    refine lv_aload_n hx hb dX0_push_37 rfl (lv_at hl 1 rfl) ?_
    have hP := vP_perm (pl_out (wST G.2.1 a ki fi ke va ta ro qu nsz fin rnd ++ wHX G hh ra sl R1 nx dp) (by omega) hR1) hP
    have hD := vD_perm (pl_out (wST G.2.1 a ki fi ke va ta ro qu nsz fin rnd ++ wHX G hh ra sl R1 nx dp) (by omega) hR1) hD
    rw [← hv] at ht
    have hP : va_P G.1 vwCl (((wSV G.2.1 u v ++ wST G.2.1 a ki fi ke va ta ro qu nsz fin rnd) ++ wHX G hh ra sl R1 nx dp) ++ fl G.2.1 (va_up R1 nx.toNatClampNeg none) 8) H := hP
    have hD : va_D A (((wSV G.2.1 u v ++ wST G.2.1 a ki fi ke va ta ro qu nsz fin rnd) ++ wHX G hh ra sl R1 nx dp) ++ fl G.2.1 (va_up R1 nx.toNatClampNeg none) 8) := hD
    refine kq_v (X := ((wSV G.2.1 u v ++ wST G.2.1 a ki fi ke va ta ro qu nsz fin rnd) ++ wHX G hh ra sl R1 nx dp)) (pl := fl G.2.1 (va_up R1 nx.toNatClampNeg none) 8) (cx := (wSV G.2.1 u v ++ wST G.2.1 a ki fi ke va ta ro qu nsz fin rnd)) (wo := (wSV G.2.1 u (pk t) ++ wST G.2.1 a ki fi ke va ta ro qu nsz fin rnd)) (wr := wHX G hh ra sl R1 nx dp) (X' := ((wSV G.2.1 u (pk t) ++ wST G.2.1 a ki fi ke va ta ro qu nsz fin rnd) ++ wHX G hh ra sl R1 nx dp)) (rV (As := [.ref (a 0)]) (rest := []) (b := u 0) (wi := (wSV G.2.1 u v ++ wST G.2.1 a ki fi ke va ta ro qu nsz fin rnd)) hF hK (hP.sub [0, 1, 2, 3, 4, 5, 6, 7, 8, 9, 10, 11, 12, 13, 14, 15, 16, 17] rfl) (hD.sub [0, 1, 2, 3, 4, 5, 6, 7, 8, 9, 10, 11, 12, 13, 14, 15, 16, 17] rfl rfl) (c_X3_copyFrom l G u a (v.1 0) (v.1 1) (v.1 2) (v.1 3) (v.1 4) (v.1 5) (v.1 6) (v.2 0) (v.2 1) (v.2 2) ki fi ke va ta ro qu nsz fin rnd t ht H.size) (cwV 1 hts gX0_push_X3_copyFrom rfl rfl rfl (by decide +kernel) ⟨Nat.le_of_ble_eq_true rfl, Nat.le_of_ble_eq_true rfl⟩) (va_recv hK.1 hP (ci := 3) (q0 := 0) rfl rfl) rfl hl.1 rfl (Nat.le_of_ble_eq_true rfl) dX0_push_38 ⟨Nat.le_of_ble_eq_true rfl, Nat.le_of_ble_eq_true rfl⟩) hP hD hS hA [0, 1, 2, 3, 4, 5, 6, 7, 8, 9, 10, 11, 12, 13, 14, 15, 16, 17] [18, 19, 20] [3, 4, 5, 6, 7, 8, 9, 10, 11, 12, 13, 14, 15, 16, 17, 18, 19, 20, 0, 1, 2] rfl rfl rfl (by decide) rfl rfl (fun H locs hP hD hS => ?_)
    refine lv_aload_n hx hb dX0_push_41 rfl (lv_at hl 0 rfl) ?_
    refine lv_aload_n hx hb dX0_push_42 rfl (lv_at hl 0 rfl) ?_
    refine va_get (D := G.1) (ci := 0) (v := .int nx) (C := RX0) (T := TX0) (N := 3) hx hb hts win0_X0_push hown hK.1 hP 18 rfl rfl 1 (by decide) (hts _ wnext_X0_push) (fun _ h9 => h9) rfl dX0_push_43 ?_
    refine lv_iconst (v := 1) hx hb dX0_push_46 (by decide) ?_
    refine lv_iadd hx hb dX0_push_47 ?_
    refine lv_bipush (v := 6) hx hb dX0_push_48 (by decide) ?_
    refine lv_irem hx hb dX0_push_50 (by decide) ?_
    refine va_put (D := G.1) (ci := 0) (v := .int ((nx + 1) - (nx + 1) / 6 * 6)) (ty := .int) (C := RX0) (T := TX0) (N := 3) hx hb hts win0_X0_push tyX0 tyX0_ok nmX0 hown hK.1 hP hD hS 18 rfl rfl 1 (by decide) (hts _ wnext_X0_push) (fun _ h9 => h9) rfl (by decide +kernel) rfl rfl (Nat.le_of_ble_eq_true rfl) dX0_push_51 (fun H locs hP hD hS => ?_)
    have hP : va_P G.1 vwCl (((wSV G.2.1 u (pk t) ++ wST G.2.1 a ki fi ke va ta ro qu nsz fin rnd) ++ wHX G hh ra sl R1 ((nx + 1) - (nx + 1) / 6 * 6) dp) ++ fl G.2.1 (va_up R1 nx.toNatClampNeg none) 8) H := hP
    have hD : va_D A (((wSV G.2.1 u (pk t) ++ wST G.2.1 a ki fi ke va ta ro qu nsz fin rnd) ++ wHX G hh ra sl R1 ((nx + 1) - (nx + 1) / 6 * 6) dp) ++ fl G.2.1 (va_up R1 nx.toNatClampNeg none) 8) := hD
    refine lv_aload_n hx hb dX0_push_54 rfl (lv_at hl 0 rfl) ?_
    refine lv_aload_n hx hb dX0_push_55 rfl (lv_at hl 0 rfl) ?_
    refine va_get (D := G.1) (ci := 0) (v := .int dp) (C := RX0) (T := TX0) (N := 3) hx hb hts win0_X0_push hown hK.1 hP 18 rfl rfl 2 (by decide) (hts _ wdep_X0_push) (fun _ h9 => h9) rfl dX0_push_56 ?_
    refine lv_iconst (v := 1) hx hb dX0_push_59 (by decide) ?_
    refine lv_iadd hx hb dX0_push_60 ?_
    refine lv_bipush (v := 6) hx hb dX0_push_61 (by decide) ?_
    refine va_mmin hx hb (hml.trans hl.1.symm) hown (hts _ wml_X0_push) (hts _ wms_X0_push) (hts _ wmi_X0_push) (hts _ wmc_X0_push) (Nat.le_of_ble_eq_true rfl) (Nat.le_of_ble_eq_true rfl) (Nat.le_of_ble_eq_true rfl) (Nat.le_of_ble_eq_true rfl) dX0_push_63 ?_
    refine va_put (D := G.1) (ci := 0) (v := .int (if 6 < (dp + 1) then 6 else (dp + 1))) (ty := .int) (C := RX0) (T := TX0) (N := 3) hx hb hts win0_X0_push tyX0 tyX0_ok nmX0 hown hK.1 hP hD hS 18 rfl rfl 2 (by decide) (hts _ wdep_X0_push) (fun _ h9 => h9) rfl (by decide +kernel) rfl rfl (Nat.le_of_ble_eq_true rfl) dX0_push_66 (fun H locs hP hD hS => ?_)
    have hP : va_P G.1 vwCl ((wSV G.2.1 u (pk t) ++ (wST G.2.1 a ki fi ke va ta ro qu nsz fin rnd ++ wHX G hh ra sl R1 ((nx + 1) - (nx + 1) / 6 * 6) (if 6 < (dp + 1) then 6 else (dp + 1)))) ++ fl G.2.1 (va_up R1 nx.toNatClampNeg none) 8) H := hP
    have hD : va_D A ((wSV G.2.1 u (pk t) ++ (wST G.2.1 a ki fi ke va ta ro qu nsz fin rnd ++ wHX G hh ra sl R1 ((nx + 1) - (nx + 1) / 6 * 6) (if 6 < (dp + 1) then 6 else (dp + 1)))) ++ fl G.2.1 (va_up R1 nx.toNatClampNeg none) 8) := hD
    have hP := vP_perm (pl_in _ (by omega)) hP
    have hD := vD_perm (pl_in _ (by omega)) hD
    refine rt_n (va_up R1 nx.toNatClampNeg (some (u, pk t))) ?_ hx hb hr hlocks ?_ ?_ hS dX0_push_69
    · rw [vals_up]
      funext i
      by_cases h9 : i = nx.toNatClampNeg
      · rw [h9, up_self, up_self]
      · rw [up_ne _ _ h9, up_ne _ _ h9]
        show (R1 i).map _ = (R i).map _
        rw [ho i h9]
    · show va_P G.1 vwCl ((wST G.2.1 a ki fi ke va ta ro qu nsz fin rnd ++ wHX G hh ra sl (va_up R1 nx.toNatClampNeg (some (u, pk t))) _ _) ++ _) H
      unfold wHX
      rw [rg_same hR1, sg_low hj]
      exact hP
    · show va_D A ((wST G.2.1 a ki fi ke va ta ro qu nsz fin rnd ++ wHX G hh ra sl (va_up R1 nx.toNatClampNeg (some (u, pk t))) _ _) ++ _)
      unfold wHX
      rw [rg_same hR1, sg_low hj]
      exact hD
  refine lv_aload_n hx hb dX0_push_0 rfl (lv_at hl 0 rfl) ?_
  refine va_get (D := G.1) (ci := 0) (v := .ref ra) (C := RX0) (T := TX0) (N := 3) hx hb hts win0_X0_push hown hK.1 hP 9 rfl rfl 0 (by decide) (hts _ wring_X0_push) (fun _ h9 => h9) rfl dX0_push_1 ?_
  refine lv_aload_n hx hb dX0_push_4 rfl (lv_at hl 0 rfl) ?_
  refine va_get (D := G.1) (ci := 0) (v := .int nx) (C := RX0) (T := TX0) (N := 3) hx hb hts win0_X0_push hown hK.1 hP 9 rfl rfl 1 (by decide) (hts _ wnext_X0_push) (fun _ h9 => h9) rfl dX0_push_5 ?_
  refine va_aldq hx hb hK.1 hP 10 2 rfl rfl hi dX0_push_8 ?_
  cases hRj : R nx.toNatClampNeg with
  | some z =>
    obtain ⟨u, v⟩ := z
    rw [show va_rf (rg R nx.toNatClampNeg) = .ref (u 0) from by simp [rg, hRj, va_rf]]
    refine lv_ifnonnull (tgt := 28) hx hb dX0_push_9 (by decide) ?_
    exact tail R u v hRj (by simp [vals, hRj]) (fun _ _ => rfl) _ _ _ _ _ (Nat.le_of_ble_eq_true rfl) (Nat.le_of_ble_eq_true rfl) hP hD hS hl
  | none =>
    rw [show va_rf (rg R nx.toNatClampNeg) = .null from by simp [rg, hRj, va_rf]]
    refine lv_ifnonnullN hx hb dX0_push_9 ?_
    refine lv_aload_n hx hb dX0_push_12 rfl (lv_at hl 0 rfl) ?_
    refine va_get (D := G.1) (ci := 0) (v := .ref ra) (C := RX0) (T := TX0) (N := 3) hx hb hts win0_X0_push hown hK.1 hP 9 rfl rfl 0 (by decide) (hts _ wring_X0_push) (fun _ h9 => h9) rfl dX0_push_13 ?_
    refine lv_aload_n hx hb dX0_push_16 rfl (lv_at hl 0 rfl) ?_
    refine va_get (D := G.1) (ci := 0) (v := .int nx) (C := RX0) (T := TX0) (N := 3) hx hb hts win0_X0_push hown hK.1 hP 9 rfl rfl 1 (by decide) (hts _ wnext_X0_push) (fun _ h9 => h9) rfl dX0_push_17 ?_
    refine va_new (ci := 3) (fs := [.null, .null, .null, .null, .null, .null, .null, .int 0, .int 0]) (C := RX3) (T := TX3) (N := 9) hx hb hts win3_X0_push tyX3 tyX3_ok hown (hts _ wcl_X0_push) (hts _ wins_X0_push) (hts _ wini_X0_push) hK.1 hP hD hS hA rfl (fun j hj => by rcases (show j = 0 ∨ j = 1 ∨ j = 2 ∨ j = 3 ∨ j = 4 ∨ j = 5 ∨ j = 6 ∨ j = 7 ∨ j = 8 by omega) with rfl | rfl | rfl | rfl | rfl | rfl | rfl | rfl | rfl <;> rfl) (Nat.le_of_ble_eq_true rfl) (Nat.le_of_ble_eq_true rfl) dX0_push_20 (fun q20 H hP hD hS => ?_)
    have hP := va_P.swap hP
    have hD := va_D.swap hD
    refine lv_dup hx hb dX0_push_23 rfl ?_
    refine kq_n (X := (wST G.2.1 a ki fi ke va ta ro qu nsz fin rnd ++ wHX G hh ra sl R nx dp) ++ [(q20, .inr (3, [.null, .null, .null, .null, .null, .null, .null, .int 0, .int 0]))]) (pl := fl G.2.1 R 8) (cx := [(q20, .inr (3, [.null, .null, .null, .null, .null, .null, .null, .int 0, .int 0]))]) (wr := (wST G.2.1 a ki fi ke va ta ro qu nsz fin rnd ++ wHX G hh ra sl R nx dp)) (rIN (As := []) (rest := [.ref q20, .int nx, .ref ra]) (b := q20) (wi := [(q20, .inr (3, [.null, .null, .null, .null, .null, .null, .null, .int 0, .int 0]))]) hF hK (hP.sub [12] rfl) (hD.sub [12] rfl rfl) (c_X3_init l G q20 H.size) ⟨va_cnB 0 hts gX0_push_X3_init_n21 rfl rfl rfl (nw_RX0_21 hK) (hts _ wini_X0_push) (by decide +kernel) ⟨Nat.le_of_ble_eq_true rfl, Nat.le_of_ble_eq_true rfl⟩, rfl, hts _ wim_X0_push⟩ rfl hl.1 rfl (Nat.le_of_ble_eq_true rfl) dX0_push_24 ⟨Nat.le_of_ble_eq_true rfl, Nat.le_of_ble_eq_true rfl⟩) hP hD hS hA [12] [0, 1, 2, 3, 4, 5, 6, 7, 8, 9, 10, 11] rfl rfl rfl (by decide) (fun u H locs hu hP hD hS => ?_)
    rw [← hu]
    refine va_astq hx hb hK.1 hP hD hS 10 2 12 3 rfl rfl rfl rfl hi dX0_push_27 (fun H locs hP hD hS => ?_)
    have hP : va_P G.1 vwCl (((wST G.2.1 a ki fi ke va ta ro qu nsz fin rnd ++ [(hh, .inr (0, [.ref ra, .int nx, .int dp])), (ra, .inl (G.2.2.2, 6, .inr (.inr (.inr (.inr (va_up (rg R) nx.toNatClampNeg (some (u 0)))))))), (sl, .inl (G.2.2.2, 2, .inr (.inr (.inr (.inr (sg R))))))]) ++ wSV G.2.1 u frsh) ++ fl G.2.1 R 8) H := hP
    have hD : va_D A (((wST G.2.1 a ki fi ke va ta ro qu nsz fin rnd ++ [(hh, .inr (0, [.ref ra, .int nx, .int dp])), (ra, .inl (G.2.2.2, 6, .inr (.inr (.inr (.inr (va_up (rg R) nx.toNatClampNeg (some (u 0)))))))), (sl, .inl (G.2.2.2, 2, .inr (.inr (.inr (.inr (sg R))))))]) ++ wSV G.2.1 u frsh) ++ fl G.2.1 R 8) := hD
    have hpp := (List.Perm.append_right (fl G.2.1 R 8) (List.perm_append_comm (l₁ := (wST G.2.1 a ki fi ke va ta ro qu nsz fin rnd ++ [(hh, .inr (0, [.ref ra, .int nx, .int dp])), (ra, .inl (G.2.2.2, 6, .inr (.inr (.inr (.inr (va_up (rg R) nx.toNatClampNeg (some (u 0)))))))), (sl, .inl (G.2.2.2, 2, .inr (.inr (.inr (.inr (sg R))))))])) (l₂ := wSV G.2.1 u frsh)))
    have hP := vP_perm hpp hP
    have hD := vD_perm hpp hD
    have hup : va_up R nx.toNatClampNeg none = R := up_none hRj
    have hq := pl_in (c := G.2.1) (R := R) (j := nx.toNatClampNeg) (u := u) (v := frsh) (wST G.2.1 a ki fi ke va ta ro qu nsz fin rnd ++ [(hh, .inr (0, [.ref ra, .int nx, .int dp])), (ra, .inl (G.2.2.2, 6, .inr (.inr (.inr (.inr (va_up (rg R) nx.toNatClampNeg (some (u 0)))))))), (sl, .inl (G.2.2.2, 2, .inr (.inr (.inr (.inr (sg R))))))]) (by omega)
    rw [hup] at hq
    have hP := vP_perm hq hP
    have hD := vD_perm hq hD
    refine tail (va_up R nx.toNatClampNeg (some (u, frsh))) u frsh (up_self _ _ _) (by simp [vals, hRj]) (fun i h9 => up_ne _ _ h9) _ _ _ _ _ (Nat.le_of_ble_eq_true rfl) (Nat.le_of_ble_eq_true rfl) ?_ ?_ hS hl
    · unfold wHX
      rw [rg_up, sg_low hj]
      exact hP
    · unfold wHX
      rw [rg_up, sg_low hj]
      exact hD
