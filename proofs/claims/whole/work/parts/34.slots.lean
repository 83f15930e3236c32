theorem arrV_congr {c : ClassId} {N : Nat} {f f' : Nat → Value} (h : ∀ i, i < N → f i = f' i) : arrV c N f = arrV c N f' := by
  have e : (fun j : Fin N => f j.val) = fun j : Fin N => f' j.val := funext fun j => h j.val j.isLt
  simp only [arrV, e]
/-- an array of references is known only up to its length -/
theorem vP_rg {D : va_G} {cl : List vw_C} {ws ws' : va_W} {H : Heap} {a : Nat} {cA : ClassId} {n0 n : Nat} {f f' : Nat → Option Nat} (h1 : ws[n0]? = some (a, .inl (cA, n, .inr (.inr (.inr (.inr f)))))) (h2 : ws.set n0 (a, .inl (cA, n, .inr (.inr (.inr (.inr f'))))) = ws') (hf : ∀ i, i < n → f' i = f i) (h : va_P D cl ws H) : va_P D cl ws' H := by
  subst h2
  have hl := (List.getElem?_eq_some_iff.mp h1).1
  intro k q hk
  by_cases hkp : k = n0
  · subst hkp
    rw [List.getElem?_set_self hl] at hk
    cases hk
    have h3 := h k _ h1
    show H[a]? = some (vp_cell cA (n, .inr (.inr (.inr (.inr f')))))
    have h4 : H[a]? = some (vp_cell cA (n, .inr (.inr (.inr (.inr f))))) := h3
    rw [h4, vp_cell_q, vp_cell_q]
    exact congrArg some (arrV_congr (fun i hi => by rw [hf i hi]))
  · rw [List.getElem?_set_ne (Ne.symm hkp)] at hk
    exact h k q hk
theorem vD_rg {A : Nat → Prop} {ws ws' : va_W} {a : Nat} {cA : ClassId} {n0 n : Nat} {f f' : Nat → Option Nat} (h1 : ws[n0]? = some (a, .inl (cA, n, .inr (.inr (.inr (.inr f)))))) (h2 : ws.set n0 (a, .inl (cA, n, .inr (.inr (.inr (.inr f'))))) = ws') (h : va_D A ws) : va_D A ws' := by
  subst h2
  exact h.set h1
def M_X4_save (N : Nat) (ki : Nat → Int32) (fi : Nat → Int32) (ke : Nat → Int32) (va : Nat → Int32) (ta : Nat → Int32) (ro : Nat → Int32) (qu : Nat → Int32) (nsz : Int32) (fin : Int32) (rnd : Int32) (rv : Nat → Option SV) (p1 : Int32) : Option (Int32 × (Nat → Option SV)) :=
  (M_X4_within p1 2).bind fun q1 => if q1 = 0 then (some ((-1), rv)) else (gd p1 2 ((M_cpy ((rv (6 + p1.toNatClampNeg)).getD frsh) (pkS ki fi ke va ta ro qu nsz fin rnd)).bind fun t => (M_X3_allocated N ki).bind fun q2 => (M_J6_bitCount_0f7a4 q2).bind fun q3 => some (q3, va_up rv (6 + p1.toNatClampNeg) (some (pk t)))))
def M_X4_restore (N : Nat) (ki : Nat → Int32) (fi : Nat → Int32) (ke : Nat → Int32) (va : Nat → Int32) (ta : Nat → Int32) (ro : Nat → Int32) (qu : Nat → Int32) (nsz : Int32) (fin : Int32) (rnd : Int32) (dp : Int32) (rv : Nat → Option SV) (p1 : Int32) : Option (Int32 × SV × Int32) :=
  (M_X4_within p1 2).bind fun q1 => if q1 = 0 then (some ((-1), (pkS ki fi ke va ta ro qu nsz fin rnd), dp)) else (gd p1 2 (match rv (6 + p1.toNatClampNeg) with
    | none => some ((-2), (pkS ki fi ke va ta ro qu nsz fin rnd), dp)
    | some v => (M_cpy (pkS ki fi ke va ta ro qu nsz fin rnd) v).bind fun t => M_X0_forget.bind fun q9 => (M_X3_allocated N ((pk t).1 0)).bind fun q2 => (M_J6_bitCount_0f7a4 q2).bind fun q3 => some (q3, pk t, q9)))
theorem wslots_X4_save : Cond.fieldLink RX4 23 "WeakTableHeap" "slots" "[LWeakTableHeap$State;" ∈ wsX4_save := by decide +kernel
theorem wstate_X4_save : Cond.fieldLink RX4 10 "WeakTableHeap" "state" "LWeakTableHeap$State;" ∈ wsX4_save := by decide +kernel
theorem win4_X4_save : ∀ w ∈ u_ws RX4 TX4 4, w ∈ wsX4_save := by decide +kernel
theorem win3_X4_save : ∀ w ∈ u_ws RX3 TX3 9, w ∈ wsX4_save := by decide +kernel
theorem wcl_X4_save : Cond.classLink RX4 7 RX3 ∈ wsX4_save := by decide +kernel
theorem wins_X4_save : Cond.instantiable RX3 9 ∈ wsX4_save := by decide +kernel
theorem wini_X4_save : Cond.initialized RX3 ∈ wsX4_save := by decide +kernel
theorem wim_X4_save : Cond.instanceMethod yX3_init ∈ wsX4_save := by decide +kernel
theorem w0_X4_save : Cond.fieldLink RX4 10 "WeakTableHeap" "state" "LWeakTableHeap$State;" ∈ wsX4_save := by decide +kernel
theorem w1_X4_save : ∀ w ∈ u_ws RX4 TX4 4, w ∈ wsX4_save := by decide +kernel
abbrev rm_X4_save : Room := { frames := 4, cells := 9, slots := 445, locals := 81 }
set_option maxHeartbeats 4000000 in
set_option maxRecDepth 100000 in
theorem c_X4_save (l : Launch) (G : GG) (N : Nat) (x : Nat) (hh : Nat) (ra : Nat) (sl : Nat) (a : Nat → Nat) (k : Nat → Nat) (R : SP) (ki : Nat → Int32) (fi : Nat → Int32) (ke : Nat → Int32) (va : Nat → Int32) (ta : Nat → Int32) (ro : Nat → Int32) (qu : Nat → Int32) (nsz : Int32) (fin : Int32) (rnd : Int32) (rd : Nat → Int32) (mkd : Int32) (lr : Int32) (un : Int32) (nx : Int32) (dp : Int32) (p1 : Int32) (q : Int32 × (Nat → Option SV)) (hm : M_X4_save N ki fi ke va ta ro qu nsz fin rnd (vals R) p1 = some q) : CTj l yX4_save wsX4_save rm_X4_save G [.ref x, .int p1] (wXP G x hh ra sl a k R ki fi ke va ta ro qu nsz fin rnd rd mkd lr un nx dp) q.1 (fun R9 : SP => vals R9 = q.2) (fun R9 : SP => (wXP G x hh ra sl a k R9 ki fi ke va ta ro qu nsz fin rnd rd mkd lr un nx dp)) := by
  intro sz
  refine mk_body (Qc := fun A => (QJ G A q.1 (fun R9 : SP => vals R9 = q.2) (fun R9 : SP => (wXP G x hh ra sl a k R9 ki fi ke va ta ro qu nsz fin rnd rd mkd lr un nx dp)))) (cc := cX4_save) (maxL := 2) (ret := (some .int)) (lv := [(0, .ref x), (1, .int p1)]) (by decide) rfl rfl (Nat.le_of_ble_eq_true rfl) ?_
  intro p e s m args below meth c A H locs ls hF hr hlocks hname hK hA hP hD hS hl
  obtain ⟨hx, hb, hml, hown, hts⟩ := id hF
  unfold M_X4_save at hm
  obtain ⟨q1, hc1, hm⟩ := bd_s hm
  refine lv_iload_n hx hb dX4_save_0 rfl (lv_at hl 1 rfl) ?_
  refine lv_iconst (v := 2) hx hb dX4_save_1 (by decide) ?_
  refine k0_i (ws := (wXP G x hh ra sl a k R ki fi ke va ta ro qu nsz fin rnd rd mkd lr un nx dp)) (rS (As := [.int p1, .int 2]) (rest := []) (wi := ([] : va_W)) hF hK k0_P (k0_D (A := A)) (c_X4_within l G p1 2 q1 hc1 H.size) (va_cwS 2 hts gX4_save_X4_within rfl rfl rfl (by decide +kernel) ⟨Nat.le_of_ble_eq_true rfl, Nat.le_of_ble_eq_true rfl⟩) rfl hl.1 rfl (Nat.le_of_ble_eq_true rfl) dX4_save_2 ⟨Nat.le_of_ble_eq_true rfl, Nat.le_of_ble_eq_true rfl⟩) hP hS hA (fun H locs hP hS => ?_)
  refine lv_if_ne (tgt := 10) hx hb dX4_save_5 (by decide) (fun c1 => ?_) (fun c1 => ?_)
  · replace hm := it_f c1 hm
    obtain ⟨hi, hm⟩ := gd_s hm
    have hj : p1.toNatClampNeg < 2 := by
      by_cases h9 : p1.toNatClampNeg < 2
      · exact h9
      · exact absurd (Or.inr (by omega)) hi
    refine lv_aload_n hx hb dX4_save_10 rfl (lv_at hl 0 rfl) ?_
    refine va_get (D := G.1) (ci := 4) (v := .ref sl) (C := RX4) (T := TX4) (N := 4) hx hb hts win4_X4_save hown hK.1 hP 0 rfl rfl 2 (by decide) (hts _ wslots_X4_save) (fun _ h9 => h9) rfl dX4_save_11 ?_
    refine lv_iload_n hx hb dX4_save_14 rfl (lv_at hl 1 rfl) ?_
    refine va_aldq hx hb hK.1 hP 14 2 rfl rfl hi dX4_save_15 ?_
    obtain ⟨t, ht, hm⟩ := bd_s hm
    have tail : ∀ (R1 : SP) (u : Nat → Nat) (v : SV), R1 (6 + p1.toNatClampNeg) = some (u, v) → v = (vals R (6 + p1.toNatClampNeg)).getD frsh → (∀ i, i ≠ (6 + p1.toNatClampNeg) → R1 i = R i) → ∀ (H : Heap) (locs : List Loc) (ls : Array Slot) (cells slots : Nat), cells ≤ 9 → slots ≤ 445 → va_P G.1 vwCl (wXP G x hh ra sl a k R1 ki fi ke va ta ro qu nsz fin rnd rd mkd lr un nx dp) H → va_D A (wXP G x hh ra sl a k R1 ki fi ke va ta ro qu nsz fin rnd rd mkd lr un nx dp) → va_S A s.heap H locs → lv_has ls 2 [(0, .ref x), (1, .int p1)] → W p l e rm_X4_save s m args below meth c H locs cells slots (MQ below (QJ G A q.1 (fun R9 : SP => vals R9 = q.2) (fun R9 : SP => (wXP G x hh ra sl a k R9 ki fi ke va ta ro qu nsz fin rnd rd mkd lr un nx dp))) args s rm_X4_save.cells rm_X4_save.slots A) (F0 m 32 ls []) := by
      intro R1 u v hR1 hv ho H locs ls cells slots hc hs hP hD hS hl
      refine W.widen (k := 9) (n := 445) hc hs ?_
      refine lv_aload_n hx hb dX4_save_32 rfl (lv_at hl 0 rfl) ?_
      refine va_get (D := G.1) (ci := 4) (v := .ref sl) (C := RX4) (T := TX4) (N := 4) hx hb hts win4_X4_save hown hK.1 hP 0 rfl rfl 2 (by decide) (hts _ wslots_X4_save) (fun _ h9 => h9) rfl dX4_save_33 ?_
      refine lv_iload_n hx hb dX4_save_36 rfl (lv_at hl 1 rfl) ?_
      refine va_aldq hx hb hK.1 hP 14 2 rfl rfl hi dX4_save_37 ?_
      rw [show va_rf (sg R1 p1.toNatClampNeg) = .ref (u 0) from by simp [sg, hR1, va_rf]]
      refine lv_aload_n hx hb dX4_save_38 rfl (lv_at hl 0 rfl) ?_
      refine va_get (D := G.1) (ci := 4) (v := .ref (a 0)) (C := RX4) (T := TX4) (N := 4) hx hb hts win4_X4_save hown hK.1 hP 0 rfl rfl 0 (by decide) (hts _ wstate_X4_save) (fun _ h9 => h9) rfl dX4_save_39 ?_
      have hP := vP_perm (pl_out (wXQ G x hh ra sl a k R1 ki fi ke va ta ro qu nsz fin rnd rd mkd lr un nx dp) (by omega) hR1) hP
      have hD := vD_perm (pl_out (wXQ G x hh ra sl a k R1 ki fi ke va ta ro qu nsz fin rnd rd mkd lr un nx dp) (by omega) hR1) hD
      rw [← hv] at ht
      refine kq_v (X := (wSV G.2.1 u v ++ (wXQ G x hh ra sl a k R1 ki fi ke va ta ro qu nsz fin rnd rd mkd lr un nx dp))) (pl := fl G.2.1 (va_up R1 (6 + p1.toNatClampNeg) none) 8) (cx := (wSV G.2.1 u v ++ wST G.2.1 a ki fi ke va ta ro qu nsz fin rnd)) (wo := (wSV G.2.1 u (pk t) ++ wST G.2.1 a ki fi ke va ta ro qu nsz fin rnd)) (wr := [(x, .inr (4, [.ref (a 0), .ref hh, .ref sl, .ref (k 0)])), ((k 0), .inr (1, [.ref (k 1), .int mkd, .int lr, .int un])), ((k 1), .inl (G.2.1, 24, .inl rd)), (hh, .inr (0, [.ref ra, .int nx, .int dp])), (ra, .inl (G.2.2.2, 6, .inr (.inr (.inr (.inr (rg R1)))))), (sl, .inl (G.2.2.2, 2, .inr (.inr (.inr (.inr (sg R1))))))]) (X' := (wSV G.2.1 u (pk t) ++ (wXQ G x hh ra sl a k R1 ki fi ke va ta ro qu nsz fin rnd rd mkd lr un nx dp))) (rV (As := [.ref (a 0)]) (rest := []) (b := u 0) (wi := (wSV G.2.1 u v ++ wST G.2.1 a ki fi ke va ta ro qu nsz fin rnd)) hF hK (hP.sub [0, 1, 2, 3, 4, 5, 6, 7, 8, 10, 11, 12, 13, 14, 15, 16, 17, 18] rfl) (hD.sub [0, 1, 2, 3, 4, 5, 6, 7, 8, 10, 11, 12, 13, 14, 15, 16, 17, 18] rfl rfl) (c_X3_copyFrom l G u a (v.1 0) (v.1 1) (v.1 2) (v.1 3) (v.1 4) (v.1 5) (v.1 6) (v.2 0) (v.2 1) (v.2 2) ki fi ke va ta ro qu nsz fin rnd t ht H.size) (cwV 1 hts gX4_save_X3_copyFrom rfl rfl rfl (by decide +kernel) ⟨Nat.le_of_ble_eq_true rfl, Nat.le_of_ble_eq_true rfl⟩) (va_recv hK.1 hP (ci := 3) (q0 := 0) rfl rfl) rfl hl.1 rfl (Nat.le_of_ble_eq_true rfl) dX4_save_42 ⟨Nat.le_of_ble_eq_true rfl, Nat.le_of_ble_eq_true rfl⟩) hP hD hS hA [0, 1, 2, 3, 4, 5, 6, 7, 8, 10, 11, 12, 13, 14, 15, 16, 17, 18] [9, 19, 20, 21, 22, 23] [6, 7, 8, 9, 10, 11, 12, 13, 14, 0, 15, 16, 17, 18, 19, 20, 21, 22, 23, 1, 2, 3, 4, 5] rfl rfl rfl (by decide) rfl rfl (fun H locs hP hD hS => ?_)
      have hP := vP_perm (pl_in _ (by omega)) hP
      have hD := vD_perm (pl_in _ (by omega)) hD
      obtain ⟨R2, hR2⟩ : ∃ R2 : SP, R2 = va_up R1 (6 + p1.toNatClampNeg) (some (u, pk t)) := ⟨_, rfl⟩
      have hok : vals R2 = va_up (vals R) (6 + p1.toNatClampNeg) (some (pk t)) := by
        rw [hR2, vals_up]
        funext i
        by_cases h9 : i = (6 + p1.toNatClampNeg)
        · rw [h9, up_self, up_self]
        · rw [up_ne _ _ h9, up_ne _ _ h9]
          show (R1 i).map _ = (R i).map _
          rw [ho i h9]
      have hsg : sg R2 = sg R1 := by rw [hR2]; exact sg_same hR1
      have hrg : ∀ i, i < 6 → rg R2 i = rg R1 i := by rw [hR2]; exact rg_high
      rw [← hR2] at hP hD
      unfold wXQ wHX at hP hD
      rw [← hsg] at hP hD
      have hP : va_P G.1 vwCl (wXP G x hh ra sl a k R2 ki fi ke va ta ro qu nsz fin rnd rd mkd lr un nx dp) H := vP_rg (n0 := 13) (n := 6) rfl rfl (fun i hi => hrg i hi) hP
      have hD : va_D A (wXP G x hh ra sl a k R2 ki fi ke va ta ro qu nsz fin rnd rd mkd lr un nx dp) := vD_rg (n0 := 13) (n := 6) rfl rfl hD
      refine lv_aload_n hx hb dX4_save_45 rfl (lv_at hl 0 rfl) ?_
      refine va_get (D := G.1) (ci := 4) (v := .ref (a 0)) (C := RX4) (T := TX4) (N := 4) hx hb hts w1_X4_save hown hK.1 hP 0 rfl rfl 0 (by decide) (hts _ w0_X4_save) (fun _ h9 => h9) rfl dX4_save_46 ?_
      obtain ⟨q101, hc102, hm⟩ := bd_s hm
      refine kq_i (X := (wXQ G x hh ra sl a k R2 ki fi ke va ta ro qu nsz fin rnd rd mkd lr un nx dp)) (pl := fl G.2.1 R2 8) (cx := (wST G.2.1 a ki fi ke va ta ro qu nsz fin rnd)) (wo := (wST G.2.1 a ki fi ke va ta ro qu nsz fin rnd)) (wr := [(x, .inr (4, [.ref (a 0), .ref hh, .ref sl, .ref (k 0)])), ((k 0), .inr (1, [.ref (k 1), .int mkd, .int lr, .int un])), ((k 1), .inl (G.2.1, 24, .inl rd)), (hh, .inr (0, [.ref ra, .int nx, .int dp])), (ra, .inl (G.2.2.2, 6, .inr (.inr (.inr (.inr (rg R2)))))), (sl, .inl (G.2.2.2, 2, .inr (.inr (.inr (.inr (sg R2))))))]) (X' := (wXQ G x hh ra sl a k R2 ki fi ke va ta ro qu nsz fin rnd rd mkd lr un nx dp)) (rV (As := []) (rest := []) (b := (a 0)) (wi := (wST G.2.1 a ki fi ke va ta ro qu nsz fin rnd)) hF hK (hP.sub [1, 2, 3, 4, 5, 6, 7, 8, 9] rfl) (hD.sub [1, 2, 3, 4, 5, 6, 7, 8, 9] rfl rfl) (c_X3_allocated l G N a ki fi ke va ta ro qu nsz fin rnd q101 hc102 H.size) (cwV 0 hts gX4_save_X3_allocated rfl rfl rfl (by decide +kernel) ⟨Nat.le_of_ble_eq_true rfl, Nat.le_of_ble_eq_true rfl⟩) (va_recv hK.1 hP (ci := 3) (q0 := 1) rfl rfl) rfl hl.1 rfl (Nat.le_of_ble_eq_true rfl) dX4_save_49 ⟨Nat.le_of_ble_eq_true rfl, Nat.le_of_ble_eq_true rfl⟩) hP hD hS hA [1, 2, 3, 4, 5, 6, 7, 8, 9] [0, 10, 11, 12, 13, 14] [0, 6, 7, 8, 9, 10, 11, 12, 13, 14, 1, 2, 3, 4, 5] rfl rfl rfl (by decide) rfl rfl (fun H locs hP hD hS => ?_)
      have hP : va_P G.1 vwCl (wXP G x hh ra sl a k R2 ki fi ke va ta ro qu nsz fin rnd rd mkd lr un nx dp) H := hP
      have hD : va_D A (wXP G x hh ra sl a k R2 ki fi ke va ta ro qu nsz fin rnd rd mkd lr un nx dp) := hD
      obtain ⟨q103, hc104, hm⟩ := bd_s hm
      refine k0_i (ws := (wXP G x hh ra sl a k R2 ki fi ke va ta ro qu nsz fin rnd rd mkd lr un nx dp)) (rS (As := [.int q101]) (rest := []) (wi := ([] : va_W)) hF hK k0_P (k0_D (A := A)) (c_J6_bitCount_0f7a4 l G q101 q103 hc104 H.size) (va_cwS 1 hts gX4_save_J6_bitCount_0f7a4 rfl rfl rfl (by decide +kernel) ⟨Nat.le_of_ble_eq_true rfl, Nat.le_of_ble_eq_true rfl⟩) rfl hl.1 rfl (Nat.le_of_ble_eq_true rfl) dX4_save_52 ⟨Nat.le_of_ble_eq_true rfl, Nat.le_of_ble_eq_true rfl⟩) hP hS hA (fun H locs hP hS => ?_)
      cases hm
      refine W.widen (k := 9) (n := 445) (Nat.le_of_ble_eq_true rfl) (Nat.le_of_ble_eq_true rfl) ?_
      exact rt_j R2 hok hx hb hr hlocks hP hD hS dX4_save_55
    cases hRj : R (6 + p1.toNatClampNeg) with
    | some z =>
      obtain ⟨u, v⟩ := z
      rw [show va_rf (sg R p1.toNatClampNeg) = .ref (u 0) from by simp [sg, hRj, va_rf]]
      refine lv_ifnonnull (tgt := 32) hx hb dX4_save_16 (by decide) ?_
      exact tail R u v hRj (by simp [vals, hRj]) (fun _ _ => rfl) _ _ _ _ _ (Nat.le_of_ble_eq_true rfl) (Nat.le_of_ble_eq_true rfl) hP hD hS hl
    | none =>
      rw [show va_rf (sg R p1.toNatClampNeg) = .null from by simp [sg, hRj, va_rf]]
      refine lv_ifnonnullN hx hb dX4_save_16 ?_
      refine lv_aload_n hx hb dX4_save_19 rfl (lv_at hl 0 rfl) ?_
      refine va_get (D := G.1) (ci := 4) (v := .ref sl) (C := RX4) (T := TX4) (N := 4) hx hb hts win4_X4_save hown hK.1 hP 0 rfl rfl 2 (by decide) (hts _ wslots_X4_save) (fun _ h9 => h9) rfl dX4_save_20 ?_
      refine lv_iload_n hx hb dX4_save_23 rfl (lv_at hl 1 rfl) ?_
      refine va_new (ci := 3) (fs := [.null, .null, .null, .null, .null, .null, .null, .int 0, .int 0]) (C := RX3) (T := TX3) (N := 9) hx hb hts win3_X4_save tyX3 tyX3_ok hown (hts _ wcl_X4_save) (hts _ wins_X4_save) (hts _ wini_X4_save) hK.1 hP hD hS hA rfl (fun j hj => by rcases (show j = 0 ∨ j = 1 ∨ j = 2 ∨ j = 3 ∨ j = 4 ∨ j = 5 ∨ j = 6 ∨ j = 7 ∨ j = 8 by omega) with rfl | rfl | rfl | rfl | rfl | rfl | rfl | rfl | rfl <;> rfl) (Nat.le_of_ble_eq_true rfl) (Nat.le_of_ble_eq_true rfl) dX4_save_24 (fun q24 H hP hD hS => ?_)
      have hP := va_P.swap hP
      have hD := va_D.swap hD
      refine lv_dup hx hb dX4_save_27 rfl ?_
      refine kq_n (X := (wXQ G x hh ra sl a k R ki fi ke va ta ro qu nsz fin rnd rd mkd lr un nx dp) ++ [(q24, .inr (3, [.null, .null, .null, .null, .null, .null, .null, .int 0, .int 0]))]) (pl := fl G.2.1 R 8) (cx := [(q24, .inr (3, [.null, .null, .null, .null, .null, .null, .null, .int 0, .int 0]))]) (wr := (wXQ G x hh ra sl a k R ki fi ke va ta ro qu nsz fin rnd rd mkd lr un nx dp)) (rIN (As := []) (rest := [.ref q24, .int p1, .ref sl]) (b := q24) (wi := [(q24, .inr (3, [.null, .null, .null, .null, .null, .null, .null, .int 0, .int 0]))]) hF hK (hP.sub [15] rfl) (hD.sub [15] rfl rfl) (c_X3_init l G q24 H.size) ⟨va_cnB 0 hts gX4_save_X3_init_n9 rfl rfl rfl (nw_RX4_9 hK) (hts _ wini_X4_save) (by decide +kernel) ⟨Nat.le_of_ble_eq_true rfl, Nat.le_of_ble_eq_true rfl⟩, rfl, hts _ wim_X4_save⟩ rfl hl.1 rfl (Nat.le_of_ble_eq_true rfl) dX4_save_28 ⟨Nat.le_of_ble_eq_true rfl, Nat.le_of_ble_eq_true rfl⟩) hP hD hS hA [15] [0, 1, 2, 3, 4, 5, 6, 7, 8, 9, 10, 11, 12, 13, 14] rfl rfl rfl (by decide) (fun u H locs hu hP hD hS => ?_)
      rw [← hu]
      refine va_astq hx hb hK.1 hP hD hS 14 2 15 3 rfl rfl rfl rfl hi dX4_save_31 (fun H locs hP hD hS => ?_)
      have hP : va_P G.1 vwCl (((wX4 G.2.1 x hh sl a k ki fi ke va ta ro qu nsz fin rnd rd mkd lr un ++ [(hh, .inr (0, [.ref ra, .int nx, .int dp])), (ra, .inl (G.2.2.2, 6, .inr (.inr (.inr (.inr (rg R)))))), (sl, .inl (G.2.2.2, 2, .inr (.inr (.inr (.inr (va_up (sg R) p1.toNatClampNeg (some (u 0))))))))]) ++ wSV G.2.1 u frsh) ++ fl G.2.1 R 8) H := hP
      have hD : va_D A (((wX4 G.2.1 x hh sl a k ki fi ke va ta ro qu nsz fin rnd rd mkd lr un ++ [(hh, .inr (0, [.ref ra, .int nx, .int dp])), (ra, .inl (G.2.2.2, 6, .inr (.inr (.inr (.inr (rg R)))))), (sl, .inl (G.2.2.2, 2, .inr (.inr (.inr (.inr (va_up (sg R) p1.toNatClampNeg (some (u 0))))))))]) ++ wSV G.2.1 u frsh) ++ fl G.2.1 R 8) := hD
      have hpp := (List.Perm.append_right (fl G.2.1 R 8) (List.perm_append_comm (l₁ := (wX4 G.2.1 x hh sl a k ki fi ke va ta ro qu nsz fin rnd rd mkd lr un ++ [(hh, .inr (0, [.ref ra, .int nx, .int dp])), (ra, .inl (G.2.2.2, 6, .inr (.inr (.inr (.inr (rg R)))))), (sl, .inl (G.2.2.2, 2, .inr (.inr (.inr (.inr (va_up (sg R) p1.toNatClampNeg (some (u 0))))))))])) (l₂ := wSV G.2.1 u frsh)))
      have hP := vP_perm hpp hP
      have hD := vD_perm hpp hD
      have hup : va_up R (6 + p1.toNatClampNeg) none = R := up_none hRj
      have hq := pl_in (c := G.2.1) (R := R) (j := (6 + p1.toNatClampNeg)) (u := u) (v := frsh) (wX4 G.2.1 x hh sl a k ki fi ke va ta ro qu nsz fin rnd rd mkd lr un ++ [(hh, .inr (0, [.ref ra, .int nx, .int dp])), (ra, .inl (G.2.2.2, 6, .inr (.inr (.inr (.inr (rg R)))))), (sl, .inl (G.2.2.2, 2, .inr (.inr (.inr (.inr (va_up (sg R) p1.toNatClampNeg (some (u 0))))))))]) (by omega)
      rw [hup] at hq
      have hP := vP_perm hq hP
      have hD := vD_perm hq hD
      obtain ⟨R1, hR1⟩ : ∃ R1 : SP, R1 = va_up R (6 + p1.toNatClampNeg) (some (u, frsh)) := ⟨_, rfl⟩
      have hsg : sg R1 = va_up (sg R) p1.toNatClampNeg (some (u 0)) := by rw [hR1]; exact sg_up
      have hrg : ∀ i, i < 6 → rg R1 i = rg R i := by rw [hR1]; exact rg_high
      rw [← hR1, ← hsg] at hP hD
      have hP : va_P G.1 vwCl (wXP G x hh ra sl a k R1 ki fi ke va ta ro qu nsz fin rnd rd mkd lr un nx dp) H := vP_rg (n0 := 13) (n := 6) rfl rfl (fun i hi => hrg i hi) hP
      have hD : va_D A (wXP G x hh ra sl a k R1 ki fi ke va ta ro qu nsz fin rnd rd mkd lr un nx dp) := vD_rg (n0 := 13) (n := 6) rfl rfl hD
      exact tail R1 u frsh (by rw [hR1]; exact up_self _ _ _) (by simp [vals, hRj]) (fun i h9 => by rw [hR1]; exact up_ne _ _ h9) _ _ _ _ _ (Nat.le_of_ble_eq_true rfl) (Nat.le_of_ble_eq_true rfl) hP hD hS hl
  · replace hm := it_t c1 hm
    cases hm
    refine lv_iconst (v := (-1)) hx hb dX4_save_8 (by decide) ?_
    refine W.widen (k := 9) (n := 445) (Nat.le_of_ble_eq_true rfl) (Nat.le_of_ble_eq_true rfl) ?_
    exact rt_j R rfl hx hb hr hlocks hP hD hS dX4_save_9
theorem wslots_X4_restore : Cond.fieldLink RX4 23 "WeakTableHeap" "slots" "[LWeakTableHeap$State;" ∈ wsX4_restore := by decide +kernel
theorem wstate_X4_restore : Cond.fieldLink RX4 10 "WeakTableHeap" "state" "LWeakTableHeap$State;" ∈ wsX4_restore := by decide +kernel
theorem win4_X4_restore : ∀ w ∈ u_ws RX4 TX4 4, w ∈ wsX4_restore := by decide +kernel
theorem win3_X4_restore : ∀ w ∈ u_ws RX3 TX3 9, w ∈ wsX4_restore := by decide +kernel
theorem w0_X4_restore : Cond.fieldLink RX4 19 "WeakTableHeap" "history" "LWeakTableHeap$History;" ∈ wsX4_restore := by decide +kernel
theorem w1_X4_restore : ∀ w ∈ u_ws RX4 TX4 4, w ∈ wsX4_restore := by decide +kernel
theorem w2_X4_restore : Cond.fieldLink RX4 10 "WeakTableHeap" "state" "LWeakTableHeap$State;" ∈ wsX4_restore := by decide +kernel
abbrev rm_X4_restore : Room := { frames := 4, cells := 0, slots := 0, locals := 81 }
set_option maxHeartbeats 4000000 in
set_option maxRecDepth 100000 in
theorem c_X4_restore (l : Launch) (G : GG) (N : Nat) (x : Nat) (hh : Nat) (ra : Nat) (sl : Nat) (a : Nat → Nat) (k : Nat → Nat) (R : SP) (ki : Nat → Int32) (fi : Nat → Int32) (ke : Nat → Int32) (va : Nat → Int32) (ta : Nat → Int32) (ro : Nat → Int32) (qu : Nat → Int32) (nsz : Int32) (fin : Int32) (rnd : Int32) (rd : Nat → Int32) (mkd : Int32) (lr : Int32) (un : Int32) (nx : Int32) (dp : Int32) (p1 : Int32) (q : Int32 × SV × Int32) (hm : M_X4_restore N ki fi ke va ta ro qu nsz fin rnd dp (vals R) p1 = some q) : CTj l yX4_restore wsX4_restore rm_X4_restore G [.ref x, .int p1] (wXP G x hh ra sl a k R ki fi ke va ta ro qu nsz fin rnd rd mkd lr un nx dp) q.1 (fun R9 : SP => vals R9 = vals R) (fun R9 : SP => (wXP G x hh ra sl a k R9 (q.2.1.1 0) (q.2.1.1 1) (q.2.1.1 2) (q.2.1.1 3) (q.2.1.1 4) (q.2.1.1 5) (q.2.1.1 6) (q.2.1.2 0) (q.2.1.2 1) (q.2.1.2 2) rd mkd lr un nx q.2.2)) := by
  intro sz
  refine mk_body (Qc := fun A => (QJ G A q.1 (fun R9 : SP => vals R9 = vals R) (fun R9 : SP => (wXP G x hh ra sl a k R9 (q.2.1.1 0) (q.2.1.1 1) (q.2.1.1 2) (q.2.1.1 3) (q.2.1.1 4) (q.2.1.1 5) (q.2.1.1 6) (q.2.1.2 0) (q.2.1.2 1) (q.2.1.2 2) rd mkd lr un nx q.2.2)))) (cc := cX4_restore) (maxL := 2) (ret := (some .int)) (lv := [(0, .ref x), (1, .int p1)]) (by decide) rfl rfl (Nat.le_of_ble_eq_true rfl) ?_
  intro p e s m args below meth c A H locs ls hF hr hlocks hname hK hA hP hD hS hl
  obtain ⟨hx, hb, hml, hown, hts⟩ := id hF
  unfold M_X4_restore at hm
  obtain ⟨q1, hc1, hm⟩ := bd_s hm
  refine lv_iload_n hx hb dX4_restore_0 rfl (lv_at hl 1 rfl) ?_
  refine lv_iconst (v := 2) hx hb dX4_restore_1 (by decide) ?_
  refine k0_i (ws := (wXP G x hh ra sl a k R ki fi ke va ta ro qu nsz fin rnd rd mkd lr un nx dp)) (rS (As := [.int p1, .int 2]) (rest := []) (wi := ([] : va_W)) hF hK k0_P (k0_D (A := A)) (c_X4_within l G p1 2 q1 hc1 H.size) (va_cwS 2 hts gX4_restore_X4_within rfl rfl rfl (by decide +kernel) ⟨Nat.le_of_ble_eq_true rfl, Nat.le_of_ble_eq_true rfl⟩) rfl hl.1 rfl (Nat.le_of_ble_eq_true rfl) dX4_restore_2 ⟨Nat.le_of_ble_eq_true rfl, Nat.le_of_ble_eq_true rfl⟩) hP hS hA (fun H locs hP hS => ?_)
  refine lv_if_ne (tgt := 10) hx hb dX4_restore_5 (by decide) (fun c1 => ?_) (fun c1 => ?_)
  · replace hm := it_f c1 hm
    obtain ⟨hi, hm⟩ := gd_s hm
    have hj : p1.toNatClampNeg < 2 := by
      by_cases h9 : p1.toNatClampNeg < 2
      · exact h9
      · exact absurd (Or.inr (by omega)) hi
    refine lv_aload_n hx hb dX4_restore_10 rfl (lv_at hl 0 rfl) ?_
    refine va_get (D := G.1) (ci := 4) (v := .ref sl) (C := RX4) (T := TX4) (N := 4) hx hb hts win4_X4_restore hown hK.1 hP 0 rfl rfl 2 (by decide) (hts _ wslots_X4_restore) (fun _ h9 => h9) rfl dX4_restore_11 ?_
    refine lv_iload_n hx hb dX4_restore_14 rfl (lv_at hl 1 rfl) ?_
    refine va_aldq hx hb hK.1 hP 14 2 rfl rfl hi dX4_restore_15 ?_
    cases hRj : R (6 + p1.toNatClampNeg) with
    | none =>
      rw [show vals R (6 + p1.toNatClampNeg) = none from by simp [vals, hRj]] at hm
      cases hm
      rw [show va_rf (sg R p1.toNatClampNeg) = .null from by simp [sg, hRj, va_rf]]
      refine lv_ifnonnullN hx hb dX4_restore_16 ?_
      refine lv_bipush (v := (-2)) hx hb dX4_restore_19 (by decide) ?_
      exact rt_j R rfl hx hb hr hlocks hP hD hS dX4_restore_21
    | some z =>
      obtain ⟨u, v⟩ := z
      rw [show vals R (6 + p1.toNatClampNeg) = some v from by simp [vals, hRj]] at hm
      obtain ⟨t, ht, hm⟩ := bd_s hm
      rw [show va_rf (sg R p1.toNatClampNeg) = .ref (u 0) from by simp [sg, hRj, va_rf]]
      refine lv_ifnonnull (tgt := 22) hx hb dX4_restore_16 (by decide) ?_
      refine lv_aload_n hx hb dX4_restore_22 rfl (lv_at hl 0 rfl) ?_
      refine va_get (D := G.1) (ci := 4) (v := .ref (a 0)) (C := RX4) (T := TX4) (N := 4) hx hb hts win4_X4_restore hown hK.1 hP 0 rfl rfl 0 (by decide) (hts _ wstate_X4_restore) (fun _ h9 => h9) rfl dX4_restore_23 ?_
      refine lv_aload_n hx hb dX4_restore_26 rfl (lv_at hl 0 rfl) ?_
      refine va_get (D := G.1) (ci := 4) (v := .ref sl) (C := RX4) (T := TX4) (N := 4) hx hb hts win4_X4_restore hown hK.1 hP 0 rfl rfl 2 (by decide) (hts _ wslots_X4_restore) (fun _ h9 => h9) rfl dX4_restore_27 ?_
      refine lv_iload_n hx hb dX4_restore_30 rfl (lv_at hl 1 rfl) ?_
      refine va_aldq hx hb hK.1 hP 14 2 rfl rfl hi dX4_restore_31 ?_
      rw [show va_rf (sg R p1.toNatClampNeg) = .ref (u 0) from by simp [sg, hRj, va_rf]]
      have hP := vP_perm (pl_out (wXQ G x hh ra sl a k R ki fi ke va ta ro qu nsz fin rnd rd mkd lr un nx dp) (by omega) hRj) hP
      have hD := vD_perm (pl_out (wXQ G x hh ra sl a k R ki fi ke va ta ro qu nsz fin rnd rd mkd lr un nx dp) (by omega) hRj) hD
      refine kq_v (X := (wSV G.2.1 u v ++ (wXQ G x hh ra sl a k R ki fi ke va ta ro qu nsz fin rnd rd mkd lr un nx dp))) (pl := fl G.2.1 (va_up R (6 + p1.toNatClampNeg) none) 8) (cx := (wST G.2.1 a ki fi ke va ta ro qu nsz fin rnd ++ wSV G.2.1 u v)) (wo := (wSV G.2.1 a (pk t) ++ wSV G.2.1 u v)) (wr := [(x, .inr (4, [.ref (a 0), .ref hh, .ref sl, .ref (k 0)])), ((k 0), .inr (1, [.ref (k 1), .int mkd, .int lr, .int un])), ((k 1), .inl (G.2.1, 24, .inl rd)), (hh, .inr (0, [.ref ra, .int nx, .int dp])), (ra, .inl (G.2.2.2, 6, .inr (.inr (.inr (.inr (rg R)))))), (sl, .inl (G.2.2.2, 2, .inr (.inr (.inr (.inr (sg R))))))]) (X' := (wSV G.2.1 u v ++ (wXQ G x hh ra sl a k R ((pk t).1 0) ((pk t).1 1) ((pk t).1 2) ((pk t).1 3) ((pk t).1 4) ((pk t).1 5) ((pk t).1 6) ((pk t).2 0) ((pk t).2 1) ((pk t).2 2) rd mkd lr un nx dp))) (rV (As := [.ref (u 0)]) (rest := []) (b := a 0) (wi := (wST G.2.1 a ki fi ke va ta ro qu nsz fin rnd ++ wSV G.2.1 u v)) hF hK (hP.sub [10, 11, 12, 13, 14, 15, 16, 17, 18, 0, 1, 2, 3, 4, 5, 6, 7, 8] rfl) (hD.sub [10, 11, 12, 13, 14, 15, 16, 17, 18, 0, 1, 2, 3, 4, 5, 6, 7, 8] rfl rfl) (c_X3_copyFrom l G a u ki fi ke va ta ro qu nsz fin rnd (v.1 0) (v.1 1) (v.1 2) (v.1 3) (v.1 4) (v.1 5) (v.1 6) (v.2 0) (v.2 1) (v.2 2) t ht H.size) (cwV 1 hts gX4_restore_X3_copyFrom rfl rfl rfl (by decide +kernel) ⟨Nat.le_of_ble_eq_true rfl, Nat.le_of_ble_eq_true rfl⟩) (va_recv hK.1 hP (ci := 3) (q0 := 10) rfl rfl) rfl hl.1 rfl (Nat.le_of_ble_eq_true rfl) dX4_restore_32 ⟨Nat.le_of_ble_eq_true rfl, Nat.le_of_ble_eq_true rfl⟩) hP hD hS hA [10, 11, 12, 13, 14, 15, 16, 17, 18, 0, 1, 2, 3, 4, 5, 6, 7, 8] [9, 19, 20, 21, 22, 23] [15, 16, 17, 18, 19, 20, 21, 22, 23, 0, 6, 7, 8, 9, 10, 11, 12, 13, 14, 1, 2, 3, 4, 5] rfl rfl rfl (by decide) rfl rfl (fun H locs hP hD hS => ?_)
      have hP : va_P G.1 vwCl (wXP G x hh ra sl a k R ((pk t).1 0) ((pk t).1 1) ((pk t).1 2) ((pk t).1 3) ((pk t).1 4) ((pk t).1 5) ((pk t).1 6) ((pk t).2 0) ((pk t).2 1) ((pk t).2 2) rd mkd lr un nx dp) H := vP_perm (pl_out (wXQ G x hh ra sl a k R ((pk t).1 0) ((pk t).1 1) ((pk t).1 2) ((pk t).1 3) ((pk t).1 4) ((pk t).1 5) ((pk t).1 6) ((pk t).2 0) ((pk t).2 1) ((pk t).2 2) rd mkd lr un nx dp) (by omega) hRj).symm hP
      have hD : va_D A (wXP G x hh ra sl a k R ((pk t).1 0) ((pk t).1 1) ((pk t).1 2) ((pk t).1 3) ((pk t).1 4) ((pk t).1 5) ((pk t).1 6) ((pk t).2 0) ((pk t).2 1) ((pk t).2 2) rd mkd lr un nx dp) := vD_perm (pl_out (wXQ G x hh ra sl a k R ((pk t).1 0) ((pk t).1 1) ((pk t).1 2) ((pk t).1 3) ((pk t).1 4) ((pk t).1 5) ((pk t).1 6) ((pk t).2 0) ((pk t).2 1) ((pk t).2 2) rd mkd lr un nx dp) (by omega) hRj).symm hD
      refine lv_aload_n hx hb dX4_restore_35 rfl (lv_at hl 0 rfl) ?_
      refine va_get (D := G.1) (ci := 4) (v := .ref hh) (C := RX4) (T := TX4) (N := 4) hx hb hts w1_X4_restore hown hK.1 hP 0 rfl rfl 1 (by decide) (hts _ w0_X4_restore) (fun _ h9 => h9) rfl dX4_restore_36 ?_
      obtain ⟨q101, hc102, hm⟩ := bd_s hm
      refine kq_v (X := (wXQ G x hh ra sl a k R ((pk t).1 0) ((pk t).1 1) ((pk t).1 2) ((pk t).1 3) ((pk t).1 4) ((pk t).1 5) ((pk t).1 6) ((pk t).2 0) ((pk t).2 1) ((pk t).2 2) rd mkd lr un nx dp)) (pl := fl G.2.1 R 8) (cx := [(hh, .inr (0, [.ref ra, .int nx, .int dp]))]) (wo := [(hh, .inr (0, [.ref ra, .int nx, .int q101]))]) (wr := [(x, .inr (4, [.ref (a 0), .ref hh, .ref sl, .ref (k 0)])), ((a 0), .inr (3, [.ref (a 1), .ref (a 2), .ref (a 3), .ref (a 4), .ref (a 5), .ref (a 6), .ref (a 7), .int ((pk t).2 1), .int ((pk t).2 2)])), ((a 1), .inl (G.2.1, 24, .inl ((pk t).1 0))), ((a 2), .inl (G.2.1, 72, .inl ((pk t).1 1))), ((a 3), .inl (G.2.1, 144, .inl ((pk t).1 2))), ((a 4), .inl (G.2.1, 144, .inl ((pk t).1 3))), ((a 5), .inl (G.2.1, 24, .inl ((pk t).1 4))), ((a 6), .inl (G.2.1, 6, .inl ((pk t).1 5))), ((a 7), .inr (2, [.ref (a 8), .int ((pk t).2 0)])), ((a 8), .inl (G.2.1, 20, .inl ((pk t).1 6))), ((k 0), .inr (1, [.ref (k 1), .int mkd, .int lr, .int un])), ((k 1), .inl (G.2.1, 24, .inl rd)), (ra, .inl (G.2.2.2, 6, .inr (.inr (.inr (.inr (rg R)))))), (sl, .inl (G.2.2.2, 2, .inr (.inr (.inr (.inr (sg R))))))]) (X' := (wXQ G x hh ra sl a k R ((pk t).1 0) ((pk t).1 1) ((pk t).1 2) ((pk t).1 3) ((pk t).1 4) ((pk t).1 5) ((pk t).1 6) ((pk t).2 0) ((pk t).2 1) ((pk t).2 2) rd mkd lr un nx q101)) (rV (As := []) (rest := []) (b := hh) (wi := [(hh, .inr (0, [.ref ra, .int nx, .int dp]))]) hF hK (hP.sub [12] rfl) (hD.sub [12] rfl rfl) (c_X0_forget l G hh ra nx dp q101 hc102 H.size) (cwV 0 hts gX4_restore_X0_forget rfl rfl rfl (by decide +kernel) ⟨Nat.le_of_ble_eq_true rfl, Nat.le_of_ble_eq_true rfl⟩) (va_recv hK.1 hP (ci := 0) (q0 := 12) rfl rfl) rfl hl.1 rfl (Nat.le_of_ble_eq_true rfl) dX4_restore_39 ⟨Nat.le_of_ble_eq_true rfl, Nat.le_of_ble_eq_true rfl⟩) hP hD hS hA [12] [0, 1, 2, 3, 4, 5, 6, 7, 8, 9, 10, 11, 13, 14] [0, 1, 2, 3, 4, 5, 6, 7, 8, 9, 10, 11, 14, 12, 13] rfl rfl rfl (by decide) rfl rfl (fun H locs hP hD hS => ?_)
      have hP : va_P G.1 vwCl (wXP G x hh ra sl a k R ((pk t).1 0) ((pk t).1 1) ((pk t).1 2) ((pk t).1 3) ((pk t).1 4) ((pk t).1 5) ((pk t).1 6) ((pk t).2 0) ((pk t).2 1) ((pk t).2 2) rd mkd lr un nx q101) H := hP
      have hD : va_D A (wXP G x hh ra sl a k R ((pk t).1 0) ((pk t).1 1) ((pk t).1 2) ((pk t).1 3) ((pk t).1 4) ((pk t).1 5) ((pk t).1 6) ((pk t).2 0) ((pk t).2 1) ((pk t).2 2) rd mkd lr un nx q101) := hD
      refine lv_aload_n hx hb dX4_restore_42 rfl (lv_at hl 0 rfl) ?_
      refine va_get (D := G.1) (ci := 4) (v := .ref (a 0)) (C := RX4) (T := TX4) (N := 4) hx hb hts w1_X4_restore hown hK.1 hP 0 rfl rfl 0 (by decide) (hts _ w2_X4_restore) (fun _ h9 => h9) rfl dX4_restore_43 ?_
      obtain ⟨q103, hc104, hm⟩ := bd_s hm
      refine kq_i (X := (wXQ G x hh ra sl a k R ((pk t).1 0) ((pk t).1 1) ((pk t).1 2) ((pk t).1 3) ((pk t).1 4) ((pk t).1 5) ((pk t).1 6) ((pk t).2 0) ((pk t).2 1) ((pk t).2 2) rd mkd lr un nx q101)) (pl := fl G.2.1 R 8) (cx := (wST G.2.1 a ((pk t).1 0) ((pk t).1 1) ((pk t).1 2) ((pk t).1 3) ((pk t).1 4) ((pk t).1 5) ((pk t).1 6) ((pk t).2 0) ((pk t).2 1) ((pk t).2 2))) (wo := (wST G.2.1 a ((pk t).1 0) ((pk t).1 1) ((pk t).1 2) ((pk t).1 3) ((pk t).1 4) ((pk t).1 5) ((pk t).1 6) ((pk t).2 0) ((pk t).2 1) ((pk t).2 2))) (wr := [(x, .inr (4, [.ref (a 0), .ref hh, .ref sl, .ref (k 0)])), ((k 0), .inr (1, [.ref (k 1), .int mkd, .int lr, .int un])), ((k 1), .inl (G.2.1, 24, .inl rd)), (hh, .inr (0, [.ref ra, .int nx, .int q101])), (ra, .inl (G.2.2.2, 6, .inr (.inr (.inr (.inr (rg R)))))), (sl, .inl (G.2.2.2, 2, .inr (.inr (.inr (.inr (sg R))))))]) (X' := (wXQ G x hh ra sl a k R ((pk t).1 0) ((pk t).1 1) ((pk t).1 2) ((pk t).1 3) ((pk t).1 4) ((pk t).1 5) ((pk t).1 6) ((pk t).2 0) ((pk t).2 1) ((pk t).2 2) rd mkd lr un nx q101)) (rV (As := []) (rest := []) (b := (a 0)) (wi := (wST G.2.1 a ((pk t).1 0) ((pk t).1 1) ((pk t).1 2) ((pk t).1 3) ((pk t).1 4) ((pk t).1 5) ((pk t).1 6) ((pk t).2 0) ((pk t).2 1) ((pk t).2 2))) hF hK (hP.sub [1, 2, 3, 4, 5, 6, 7, 8, 9] rfl) (hD.sub [1, 2, 3, 4, 5, 6, 7, 8, 9] rfl rfl) (c_X3_allocated l G N a ((pk t).1 0) ((pk t).1 1) ((pk t).1 2) ((pk t).1 3) ((pk t).1 4) ((pk t).1 5) ((pk t).1 6) ((pk t).2 0) ((pk t).2 1) ((pk t).2 2) q103 hc104 H.size) (cwV 0 hts gX4_restore_X3_allocated rfl rfl rfl (by decide +kernel) ⟨Nat.le_of_ble_eq_true rfl, Nat.le_of_ble_eq_true rfl⟩) (va_recv hK.1 hP (ci := 3) (q0 := 1) rfl rfl) rfl hl.1 rfl (Nat.le_of_ble_eq_true rfl) dX4_restore_46 ⟨Nat.le_of_ble_eq_true rfl, Nat.le_of_ble_eq_true rfl⟩) hP hD hS hA [1, 2, 3, 4, 5, 6, 7, 8, 9] [0, 10, 11, 12, 13, 14] [0, 6, 7, 8, 9, 10, 11, 12, 13, 14, 1, 2, 3, 4, 5] rfl rfl rfl (by decide) rfl rfl (fun H locs hP hD hS => ?_)
      have hP : va_P G.1 vwCl (wXP G x hh ra sl a k R ((pk t).1 0) ((pk t).1 1) ((pk t).1 2) ((pk t).1 3) ((pk t).1 4) ((pk t).1 5) ((pk t).1 6) ((pk t).2 0) ((pk t).2 1) ((pk t).2 2) rd mkd lr un nx q101) H := hP
      have hD : va_D A (wXP G x hh ra sl a k R ((pk t).1 0) ((pk t).1 1) ((pk t).1 2) ((pk t).1 3) ((pk t).1 4) ((pk t).1 5) ((pk t).1 6) ((pk t).2 0) ((pk t).2 1) ((pk t).2 2) rd mkd lr un nx q101) := hD
      obtain ⟨q105, hc106, hm⟩ := bd_s hm
      refine k0_i (ws := (wXP G x hh ra sl a k R ((pk t).1 0) ((pk t).1 1) ((pk t).1 2) ((pk t).1 3) ((pk t).1 4) ((pk t).1 5) ((pk t).1 6) ((pk t).2 0) ((pk t).2 1) ((pk t).2 2) rd mkd lr un nx q101)) (rS (As := [.int q103]) (rest := []) (wi := ([] : va_W)) hF hK k0_P (k0_D (A := A)) (c_J6_bitCount_0f7a4 l G q103 q105 hc106 H.size) (va_cwS 1 hts gX4_restore_J6_bitCount_0f7a4 rfl rfl rfl (by decide +kernel) ⟨Nat.le_of_ble_eq_true rfl, Nat.le_of_ble_eq_true rfl⟩) rfl hl.1 rfl (Nat.le_of_ble_eq_true rfl) dX4_restore_49 ⟨Nat.le_of_ble_eq_true rfl, Nat.le_of_ble_eq_true rfl⟩) hP hS hA (fun H locs hP hS => ?_)
      cases hm
      refine W.widen (k := 0) (n := 0) (Nat.le_of_ble_eq_true rfl) (Nat.le_of_ble_eq_true rfl) ?_
      exact rt_j R rfl hx hb hr hlocks hP hD hS dX4_restore_52
  · replace hm := it_t c1 hm
    cases hm
    refine lv_iconst (v := (-1)) hx hb dX4_restore_8 (by decide) ?_
    refine W.widen (k := 0) (n := 0) (Nat.le_of_ble_eq_true rfl) (Nat.le_of_ble_eq_true rfl) ?_
    exact rt_j R rfl hx hb hr hlocks hP hD hS dX4_restore_9
