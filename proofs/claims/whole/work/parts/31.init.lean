theorem kc_n {p : Program} {l : Launch} {e : Env} {R : Room} {s : State} {m : MethodId} {args : Array Value} {below : List Frame} {meth : Method} {c : Code} {H : Heap} {locs : List Loc} {cells slots : Nat} {Q : State → Prop} {pc : Nat} {ls : Array Slot} {rest st : List Value} {G : GG} {A : Nat → Prop} {H0 : Heap} {mc ms : Nat} {wi wr ws : va_W} {S : Type} {ok : S → Prop} {wo : S → va_W} {a : Array Value} (hr : va_Run p l e R s m args below meth c H locs cells slots mc ms (F0 m pc ls st) rest (QN G (va_A wi H.size) ok wo a) (va_A wi H.size)) (hP : va_P G.1 vwCl ws H) (hD : va_D A ws) (hS : va_S A H0 H locs) (hA : ∀ q, H0.size ≤ q → A q)
    (isC isR : List Nat) (hC : isC.map (fun i => ws[i]?) = wi.map some) (hR : isR.map (fun i => ws[i]?) = wr.map some) (hn : va_nd isR = true) (hdis : ∀ i ∈ isR, i ∉ isC)
    (kk : ∀ (u : S) (H1 : Heap) (locs1 : List Loc), ok u → va_P G.1 vwCl (wr ++ wo u) H1 → va_D A (wr ++ wo u) → va_S A H0 H1 locs1 → W p l e R s m args below meth c H1 locs1 (cells + mc) (slots + ms) Q (F0 m (pc + 3) ls rest)) : W p l e R s m args below meth c H locs cells slots Q (F0 m pc ls st) := by
  have hF := va_free hD hS hA isC hC
  refine va_callv hr hS (fun q _ h => hF q h) hF (fun u t H1 locs1 ht hvm hw hB hz1 hk1 hS1 => ?_)
  obtain ⟨h1, h2⟩ := hB
  rw [ht] at h1
  obtain ⟨a1, a2⟩ := va_join hP hD isC isR hC hR hn hdis hk1 hF h1 h2
  exact kk u H1 locs1 hw a1 a2 hS1
/-- an empty row -/
def emp (n : Nat) : Nat → Int32 := fun k => if k < n then -9 else 0
theorem fill_loop (n : Nat) (hn : n < 2 ^ 31) (v : Int32) : ∀ (k i : Nat) (f : Nat → Int32), i ≤ n → n - i < k → M_J7_fill_53178_L5 n v (Int32.ofNat n) k (nI i) f = some (fun j => if i ≤ j ∧ j < n then v else f j) := by
  intro k
  induction k with
  | zero => intro i f h1 h2; omega
  | succ k ih =>
    intro i f h1 h2
    rw [M_J7_fill_53178_L5]
    by_cases hi : i = n
    · subst hi
      rw [if_pos (show Int32.ofNat i ≤ nI i from nI_le (Nat.le_refl i) hn)]
      congr 1
      funext j
      rw [if_neg (by omega)]
    · have hlt : i < n := by omega
      rw [if_neg (show ¬ Int32.ofNat n ≤ nI i from nI_ge hlt hn)]
      have hin : vp_in (nI i) n := vp_in_nI hlt hn
      rw [gd, if_neg hin, nI_1, ih (i + 1) _ (by omega) (by omega), nI_clamp (by omega)]
      congr 1
      funext j
      by_cases h3 : i ≤ j ∧ j < n
      · rw [if_pos h3]
        by_cases h4 : i + 1 ≤ j ∧ j < n
        · rw [if_pos h4]
        · rw [if_neg h4]
          have : j = i := by omega
          subst this
          exact pk_us
      · rw [if_neg h3, if_neg (by omega)]
        exact pk_un (by omega)
theorem fill_eq (N n : Nat) (hN : n < N) (hn : n < 2 ^ 31) : M_J7_fill_53178 N n (fun _ => 0) (-9) = some (emp n) := by
  rw [M_J7_fill_53178, show (0 : Int32) = nI 0 from nI_0.symm, fill_loop n hn (-9) N 0 _ (Nat.zero_le n) (by omega)]
  congr 1
  funext j
  rw [emp, show nI 0 = 0 from nI_0]
  by_cases h : j < n
  · rw [if_pos h, if_pos ⟨Nat.zero_le j, h⟩]
  · rw [if_neg h, if_neg (by omega)]

theorem w0_X4_emptyRow_24 : Cond.methodLink RX4 183 Lib.Math.max.name ∈ wsX4_emptyRow := by decide +kernel
theorem w1_X4_emptyRow_24 : Cond.static Lib.Math.max.name ∈ wsX4_emptyRow := by decide +kernel
theorem w2_X4_emptyRow_24 : Cond.initialized "java/lang/Math" ∈ wsX4_emptyRow := by decide +kernel
theorem w3_X4_emptyRow_24 : Cond.code Lib.Math.max.name Lib.Math.max.code 2 (some .int) ∈ wsX4_emptyRow := by decide +kernel
theorem w4_X4_emptyRow_24 : Cond.arrayClass .int ∈ wsX4_emptyRow := by decide +kernel
abbrev rm_X4_emptyRow_24 : Room := { frames := 1, cells := 1, slots := 24, locals := 23 }
set_option maxHeartbeats 4000000 in
set_option maxRecDepth 100000 in
theorem c_X4_emptyRow_24 (l : Launch) (G : GG) : CTa l yX4_emptyRow wsX4_emptyRow rm_X4_emptyRow_24 G [.int 24] ([] : va_W) (fun u : Nat => [(u, .inl (G.2.1, 24, .inl (emp 24)))]) := by
  intro sz
  refine mk_body (Qc := fun A => QA G A (fun u : Nat => [(u, .inl (G.2.1, 24, .inl (emp 24)))])) (cc := cX4_emptyRow) (maxL := 2) (ret := (some (.array .int))) (lv := [(0, .int 24)]) (by decide) rfl rfl (Nat.le_of_ble_eq_true rfl) ?_
  intro p e s m args below meth c A H locs ls hF hr hlocks hname hK hA hP hD hS hl
  obtain ⟨hx, hb, hml, hown, hts⟩ := id hF
  refine lv_iload_n hx hb dX4_emptyRow_0 rfl (lv_at hl 0 rfl) ?_
  refine lv_iconst (v := 0) hx hb dX4_emptyRow_1 (by decide) ?_
  refine va_mmax hx hb (hml.trans hl.1.symm) hown (hts _ w0_X4_emptyRow_24) (hts _ w1_X4_emptyRow_24) (hts _ w2_X4_emptyRow_24) (hts _ w3_X4_emptyRow_24) (Nat.le_of_ble_eq_true rfl) (Nat.le_of_ble_eq_true rfl) (Nat.le_of_ble_eq_true rfl) (Nat.le_of_ble_eq_true rfl) dX4_emptyRow_2 ?_
  refine nw_I (N' := 24) hx hb (hts _ w4_X4_emptyRow_24) hK hP hD hS hA (by decide) (by decide) (by decide) (Nat.le_of_ble_eq_true rfl) (Nat.le_of_ble_eq_true rfl) dX4_emptyRow_5 (fun q5 H hP hD hS => ?_)
  have hP : va_P G.1 vwCl [(q5, .inl (G.2.1, 24, .inl (fun _ => 0)))] H := hP
  have hD : va_D A [(q5, .inl (G.2.1, 24, .inl (fun _ => 0)))] := hD
  refine lv_astore_n (lv' := [(1, .ref q5), (0, .int 24)]) hx hb dX4_emptyRow_7 rfl hl (by decide) rfl (fun ls hl => ?_)
  refine lv_aload_n hx hb dX4_emptyRow_8 rfl (lv_at hl 0 rfl) ?_
  refine lv_bipush (v := (-9)) hx hb dX4_emptyRow_9 (by decide) ?_
  refine ks_v (wo := [(q5, .inl (G.2.1, 24, .inl (emp 24)))]) (rS (As := [.ref q5, .int (-9)]) (rest := []) (wi := [(q5, .inl (G.2.1, 24, .inl (fun _ => 0)))]) hF hK hP hD (c_J7_fill_53178 l G 400 q5 24 (fun _ => 0) (-9) (emp 24) (fill_eq 400 24 (by decide) (by decide)) H.size) (va_cwS 2 hts gX4_emptyRow_J7_fill_53178 rfl rfl rfl (by decide +kernel) ⟨Nat.le_of_ble_eq_true rfl, Nat.le_of_ble_eq_true rfl⟩) rfl hl.1 rfl (Nat.le_of_ble_eq_true rfl) dX4_emptyRow_11 ⟨Nat.le_of_ble_eq_true rfl, Nat.le_of_ble_eq_true rfl⟩) hD hS hA (fun H locs hP hD hS => ?_)
  have hP : va_P G.1 vwCl [(q5, .inl (G.2.1, 24, .inl (emp 24)))] H := hP
  have hD : va_D A [(q5, .inl (G.2.1, 24, .inl (emp 24)))] := hD
  refine lv_aload_n hx hb dX4_emptyRow_14 rfl (lv_at hl 0 rfl) ?_
  exact rt_a q5 hx hb hr (Or.inr ⟨_, rfl⟩) hlocks hP hD hS dX4_emptyRow_15
theorem w0_X4_emptyRow_72 : Cond.methodLink RX4 183 Lib.Math.max.name ∈ wsX4_emptyRow := by decide +kernel
theorem w1_X4_emptyRow_72 : Cond.static Lib.Math.max.name ∈ wsX4_emptyRow := by decide +kernel
theorem w2_X4_emptyRow_72 : Cond.initialized "java/lang/Math" ∈ wsX4_emptyRow := by decide +kernel
theorem w3_X4_emptyRow_72 : Cond.code Lib.Math.max.name Lib.Math.max.code 2 (some .int) ∈ wsX4_emptyRow := by decide +kernel
theorem w4_X4_emptyRow_72 : Cond.arrayClass .int ∈ wsX4_emptyRow := by decide +kernel
abbrev rm_X4_emptyRow_72 : Room := { frames := 1, cells := 1, slots := 72, locals := 23 }
set_option maxHeartbeats 4000000 in
set_option maxRecDepth 100000 in
theorem c_X4_emptyRow_72 (l : Launch) (G : GG) : CTa l yX4_emptyRow wsX4_emptyRow rm_X4_emptyRow_72 G [.int 72] ([] : va_W) (fun u : Nat => [(u, .inl (G.2.1, 72, .inl (emp 72)))]) := by
  intro sz
  refine mk_body (Qc := fun A => QA G A (fun u : Nat => [(u, .inl (G.2.1, 72, .inl (emp 72)))])) (cc := cX4_emptyRow) (maxL := 2) (ret := (some (.array .int))) (lv := [(0, .int 72)]) (by decide) rfl rfl (Nat.le_of_ble_eq_true rfl) ?_
  intro p e s m args below meth c A H locs ls hF hr hlocks hname hK hA hP hD hS hl
  obtain ⟨hx, hb, hml, hown, hts⟩ := id hF
  refine lv_iload_n hx hb dX4_emptyRow_0 rfl (lv_at hl 0 rfl) ?_
  refine lv_iconst (v := 0) hx hb dX4_emptyRow_1 (by decide) ?_
  refine va_mmax hx hb (hml.trans hl.1.symm) hown (hts _ w0_X4_emptyRow_72) (hts _ w1_X4_emptyRow_72) (hts _ w2_X4_emptyRow_72) (hts _ w3_X4_emptyRow_72) (Nat.le_of_ble_eq_true rfl) (Nat.le_of_ble_eq_true rfl) (Nat.le_of_ble_eq_true rfl) (Nat.le_of_ble_eq_true rfl) dX4_emptyRow_2 ?_
  refine nw_I (N' := 72) hx hb (hts _ w4_X4_emptyRow_72) hK hP hD hS hA (by decide) (by decide) (by decide) (Nat.le_of_ble_eq_true rfl) (Nat.le_of_ble_eq_true rfl) dX4_emptyRow_5 (fun q5 H hP hD hS => ?_)
  have hP : va_P G.1 vwCl [(q5, .inl (G.2.1, 72, .inl (fun _ => 0)))] H := hP
  have hD : va_D A [(q5, .inl (G.2.1, 72, .inl (fun _ => 0)))] := hD
  refine lv_astore_n (lv' := [(1, .ref q5), (0, .int 72)]) hx hb dX4_emptyRow_7 rfl hl (by decide) rfl (fun ls hl => ?_)
  refine lv_aload_n hx hb dX4_emptyRow_8 rfl (lv_at hl 0 rfl) ?_
  refine lv_bipush (v := (-9)) hx hb dX4_emptyRow_9 (by decide) ?_
  refine ks_v (wo := [(q5, .inl (G.2.1, 72, .inl (emp 72)))]) (rS (As := [.ref q5, .int (-9)]) (rest := []) (wi := [(q5, .inl (G.2.1, 72, .inl (fun _ => 0)))]) hF hK hP hD (c_J7_fill_53178 l G 400 q5 72 (fun _ => 0) (-9) (emp 72) (fill_eq 400 72 (by decide) (by decide)) H.size) (va_cwS 2 hts gX4_emptyRow_J7_fill_53178 rfl rfl rfl (by decide +kernel) ⟨Nat.le_of_ble_eq_true rfl, Nat.le_of_ble_eq_true rfl⟩) rfl hl.1 rfl (Nat.le_of_ble_eq_true rfl) dX4_emptyRow_11 ⟨Nat.le_of_ble_eq_true rfl, Nat.le_of_ble_eq_true rfl⟩) hD hS hA (fun H locs hP hD hS => ?_)
  have hP : va_P G.1 vwCl [(q5, .inl (G.2.1, 72, .inl (emp 72)))] H := hP
  have hD : va_D A [(q5, .inl (G.2.1, 72, .inl (emp 72)))] := hD
  refine lv_aload_n hx hb dX4_emptyRow_14 rfl (lv_at hl 0 rfl) ?_
  exact rt_a q5 hx hb hr (Or.inr ⟨_, rfl⟩) hlocks hP hD hS dX4_emptyRow_15
theorem w0_X4_emptyRow_144 : Cond.methodLink RX4 183 Lib.Math.max.name ∈ wsX4_emptyRow := by decide +kernel
theorem w1_X4_emptyRow_144 : Cond.static Lib.Math.max.name ∈ wsX4_emptyRow := by decide +kernel
theorem w2_X4_emptyRow_144 : Cond.initialized "java/lang/Math" ∈ wsX4_emptyRow := by decide +kernel
theorem w3_X4_emptyRow_144 : Cond.code Lib.Math.max.name Lib.Math.max.code 2 (some .int) ∈ wsX4_emptyRow := by decide +kernel
theorem w4_X4_emptyRow_144 : Cond.arrayClass .int ∈ wsX4_emptyRow := by decide +kernel
abbrev rm_X4_emptyRow_144 : Room := { frames := 1, cells := 1, slots := 144, locals := 23 }
set_option maxHeartbeats 4000000 in
set_option maxRecDepth 100000 in
theorem c_X4_emptyRow_144 (l : Launch) (G : GG) : CTa l yX4_emptyRow wsX4_emptyRow rm_X4_emptyRow_144 G [.int 144] ([] : va_W) (fun u : Nat => [(u, .inl (G.2.1, 144, .inl (emp 144)))]) := by
  intro sz
  refine mk_body (Qc := fun A => QA G A (fun u : Nat => [(u, .inl (G.2.1, 144, .inl (emp 144)))])) (cc := cX4_emptyRow) (maxL := 2) (ret := (some (.array .int))) (lv := [(0, .int 144)]) (by decide) rfl rfl (Nat.le_of_ble_eq_true rfl) ?_
  intro p e s m args below meth c A H locs ls hF hr hlocks hname hK hA hP hD hS hl
  obtain ⟨hx, hb, hml, hown, hts⟩ := id hF
  refine lv_iload_n hx hb dX4_emptyRow_0 rfl (lv_at hl 0 rfl) ?_
  refine lv_iconst (v := 0) hx hb dX4_emptyRow_1 (by decide) ?_
  refine va_mmax hx hb (hml.trans hl.1.symm) hown (hts _ w0_X4_emptyRow_144) (hts _ w1_X4_emptyRow_144) (hts _ w2_X4_emptyRow_144) (hts _ w3_X4_emptyRow_144) (Nat.le_of_ble_eq_true rfl) (Nat.le_of_ble_eq_true rfl) (Nat.le_of_ble_eq_true rfl) (Nat.le_of_ble_eq_true rfl) dX4_emptyRow_2 ?_
  refine nw_I (N' := 144) hx hb (hts _ w4_X4_emptyRow_144) hK hP hD hS hA (by decide) (by decide) (by decide) (Nat.le_of_ble_eq_true rfl) (Nat.le_of_ble_eq_true rfl) dX4_emptyRow_5 (fun q5 H hP hD hS => ?_)
  have hP : va_P G.1 vwCl [(q5, .inl (G.2.1, 144, .inl (fun _ => 0)))] H := hP
  have hD : va_D A [(q5, .inl (G.2.1, 144, .inl (fun _ => 0)))] := hD
  refine lv_astore_n (lv' := [(1, .ref q5), (0, .int 144)]) hx hb dX4_emptyRow_7 rfl hl (by decide) rfl (fun ls hl => ?_)
  refine lv_aload_n hx hb dX4_emptyRow_8 rfl (lv_at hl 0 rfl) ?_
  refine lv_bipush (v := (-9)) hx hb dX4_emptyRow_9 (by decide) ?_
  refine ks_v (wo := [(q5, .inl (G.2.1, 144, .inl (emp 144)))]) (rS (As := [.ref q5, .int (-9)]) (rest := []) (wi := [(q5, .inl (G.2.1, 144, .inl (fun _ => 0)))]) hF hK hP hD (c_J7_fill_53178 l G 400 q5 144 (fun _ => 0) (-9) (emp 144) (fill_eq 400 144 (by decide) (by decide)) H.size) (va_cwS 2 hts gX4_emptyRow_J7_fill_53178 rfl rfl rfl (by decide +kernel) ⟨Nat.le_of_ble_eq_true rfl, Nat.le_of_ble_eq_true rfl⟩) rfl hl.1 rfl (Nat.le_of_ble_eq_true rfl) dX4_emptyRow_11 ⟨Nat.le_of_ble_eq_true rfl, Nat.le_of_ble_eq_true rfl⟩) hD hS hA (fun H locs hP hD hS => ?_)
  have hP : va_P G.1 vwCl [(q5, .inl (G.2.1, 144, .inl (emp 144)))] H := hP
  have hD : va_D A [(q5, .inl (G.2.1, 144, .inl (emp 144)))] := hD
  refine lv_aload_n hx hb dX4_emptyRow_14 rfl (lv_at hl 0 rfl) ?_
  exact rt_a q5 hx hb hr (Or.inr ⟨_, rfl⟩) hlocks hP hD hS dX4_emptyRow_15
theorem w0_X4_emptyRow_6 : Cond.methodLink RX4 183 Lib.Math.max.name ∈ wsX4_emptyRow := by decide +kernel
theorem w1_X4_emptyRow_6 : Cond.static Lib.Math.max.name ∈ wsX4_emptyRow := by decide +kernel
theorem w2_X4_emptyRow_6 : Cond.initialized "java/lang/Math" ∈ wsX4_emptyRow := by decide +kernel
theorem w3_X4_emptyRow_6 : Cond.code Lib.Math.max.name Lib.Math.max.code 2 (some .int) ∈ wsX4_emptyRow := by decide +kernel
theorem w4_X4_emptyRow_6 : Cond.arrayClass .int ∈ wsX4_emptyRow := by decide +kernel
abbrev rm_X4_emptyRow_6 : Room := { frames := 1, cells := 1, slots := 6, locals := 23 }
set_option maxHeartbeats 4000000 in
set_option maxRecDepth 100000 in
theorem c_X4_emptyRow_6 (l : Launch) (G : GG) : CTa l yX4_emptyRow wsX4_emptyRow rm_X4_emptyRow_6 G [.int 6] ([] : va_W) (fun u : Nat => [(u, .inl (G.2.1, 6, .inl (emp 6)))]) := by
  intro sz
  refine mk_body (Qc := fun A => QA G A (fun u : Nat => [(u, .inl (G.2.1, 6, .inl (emp 6)))])) (cc := cX4_emptyRow) (maxL := 2) (ret := (some (.array .int))) (lv := [(0, .int 6)]) (by decide) rfl rfl (Nat.le_of_ble_eq_true rfl) ?_
  intro p e s m args below meth c A H locs ls hF hr hlocks hname hK hA hP hD hS hl
  obtain ⟨hx, hb, hml, hown, hts⟩ := id hF
  refine lv_iload_n hx hb dX4_emptyRow_0 rfl (lv_at hl 0 rfl) ?_
  refine lv_iconst (v := 0) hx hb dX4_emptyRow_1 (by decide) ?_
  refine va_mmax hx hb (hml.trans hl.1.symm) hown (hts _ w0_X4_emptyRow_6) (hts _ w1_X4_emptyRow_6) (hts _ w2_X4_emptyRow_6) (hts _ w3_X4_emptyRow_6) (Nat.le_of_ble_eq_true rfl) (Nat.le_of_ble_eq_true rfl) (Nat.le_of_ble_eq_true rfl) (Nat.le_of_ble_eq_true rfl) dX4_emptyRow_2 ?_
  refine nw_I (N' := 6) hx hb (hts _ w4_X4_emptyRow_6) hK hP hD hS hA (by decide) (by decide) (by decide) (Nat.le_of_ble_eq_true rfl) (Nat.le_of_ble_eq_true rfl) dX4_emptyRow_5 (fun q5 H hP hD hS => ?_)
  have hP : va_P G.1 vwCl [(q5, .inl (G.2.1, 6, .inl (fun _ => 0)))] H := hP
  have hD : va_D A [(q5, .inl (G.2.1, 6, .inl (fun _ => 0)))] := hD
  refine lv_astore_n (lv' := [(1, .ref q5), (0, .int 6)]) hx hb dX4_emptyRow_7 rfl hl (by decide) rfl (fun ls hl => ?_)
  refine lv_aload_n hx hb dX4_emptyRow_8 rfl (lv_at hl 0 rfl) ?_
  refine lv_bipush (v := (-9)) hx hb dX4_emptyRow_9 (by decide) ?_
  refine ks_v (wo := [(q5, .inl (G.2.1, 6, .inl (emp 6)))]) (rS (As := [.ref q5, .int (-9)]) (rest := []) (wi := [(q5, .inl (G.2.1, 6, .inl (fun _ => 0)))]) hF hK hP hD (c_J7_fill_53178 l G 400 q5 6 (fun _ => 0) (-9) (emp 6) (fill_eq 400 6 (by decide) (by decide)) H.size) (va_cwS 2 hts gX4_emptyRow_J7_fill_53178 rfl rfl rfl (by decide +kernel) ⟨Nat.le_of_ble_eq_true rfl, Nat.le_of_ble_eq_true rfl⟩) rfl hl.1 rfl (Nat.le_of_ble_eq_true rfl) dX4_emptyRow_11 ⟨Nat.le_of_ble_eq_true rfl, Nat.le_of_ble_eq_true rfl⟩) hD hS hA (fun H locs hP hD hS => ?_)
  have hP : va_P G.1 vwCl [(q5, .inl (G.2.1, 6, .inl (emp 6)))] H := hP
  have hD : va_D A [(q5, .inl (G.2.1, 6, .inl (emp 6)))] := hD
  refine lv_aload_n hx hb dX4_emptyRow_14 rfl (lv_at hl 0 rfl) ?_
  exact rt_a q5 hx hb hr (Or.inr ⟨_, rfl⟩) hlocks hP hD hS dX4_emptyRow_15
def ad2 (x y : Nat) : Nat → Nat | 0 => x | _ => y
def ad5 (a b c d e : Nat) : Nat → Nat | 0 => a | 1 => b | 2 => c | 3 => d | _ => e
def ad9 (a b c d e f g h i : Nat) : Nat → Nat | 0 => a | 1 => b | 2 => c | 3 => d | 4 => e | 5 => f | 6 => g | 7 => h | _ => i

theorem w0_X2_init : Cond.methodLink RX2 3 objectInit ∈ wsX2_init := by decide +kernel
theorem w1_X2_init : Cond.instanceMethod objectInit ∈ wsX2_init := by decide +kernel
theorem w2_X2_init : Cond.code objectInit ⟨#[0xb1]⟩ 1 none ∈ wsX2_init := by decide +kernel
theorem w3_X2_init : Cond.arrayClass .int ∈ wsX2_init := by decide +kernel
theorem w4_X2_init : Cond.fieldLink RX2 9 "WeakTableHeap$Notices" "queue" "[I" ∈ wsX2_init := by decide +kernel
theorem w5_X2_init : ∀ w ∈ u_ws RX2 TX2 2, w ∈ wsX2_init := by decide +kernel
abbrev rm_X2_init : Room := { frames := 1, cells := 1, slots := 20, locals := 12 }
set_option maxHeartbeats 4000000 in
set_option maxRecDepth 100000 in
theorem c_X2_init (l : Launch) (G : GG) (h : Nat) : CTn l yX2_init wsX2_init rm_X2_init G [.ref h] [(h, .inr (2, [.null, .int 0]))] (fun u : Nat → Nat => u 0 = h) (fun u => wNT G.2.1 (u 0) (u 1) (fun _ => 0) 0) := by
  intro sz
  refine mk_body (Qc := fun A => QN G A (fun u : Nat → Nat => u 0 = h) (fun u => wNT G.2.1 (u 0) (u 1) (fun _ => 0) 0)) (cc := cX2_init) (maxL := 1) (ret := none) (lv := [(0, .ref h)]) (by decide) rfl rfl (Nat.le_of_ble_eq_true rfl) ?_
  intro p e s m args below meth c A H locs ls hF hr hlocks hname hK hA hP hD hS hl
  obtain ⟨hx, hb, hml, hown, hts⟩ := id hF
  refine lv_aload_n hx hb dX2_init_0 rfl (lv_at hl 0 rfl) ?_
  refine W.objInit hx hb hown (hts _ w0_X2_init) (hts _ w1_X2_init) (hts _ w2_X2_init) rfl (hl.1.trans hml.symm) rfl dX2_init_1 (Nat.le_of_ble_eq_true rfl) (Nat.le_of_ble_eq_true rfl) ?_
  refine W.eq (g2 := F0 m 4 ls []) rfl ?_
  refine lv_aload_n hx hb dX2_init_4 rfl (lv_at hl 0 rfl) ?_
  refine lv_bipush (v := 20) hx hb dX2_init_5 (by decide) ?_
  refine nw_I (N' := 20) hx hb (hts _ w3_X2_init) hK hP hD hS hA (by decide) (by decide) (by decide) (Nat.le_of_ble_eq_true rfl) (Nat.le_of_ble_eq_true rfl) dX2_init_7 (fun q7 H hP hD hS => ?_)
  have hP : va_P G.1 vwCl [(h, .inr (2, [.null, .int 0])), (q7, .inl (G.2.1, 20, .inl (fun _ => 0)))] H := hP
  have hD : va_D A [(h, .inr (2, [.null, .int 0])), (q7, .inl (G.2.1, 20, .inl (fun _ => 0)))] := hD
  refine va_putF (D := G.1) (ci := 2) (v := .ref q7) (ty := .array .int) (C := RX2) (T := TX2) (N := 2) hx hb hts w5_X2_init tyX2 tyX2_ok nmX2 hown hK.1 hP hD hS 0 rfl rfl 0 (by decide) (hts _ w4_X2_init) (fun _ h9 => h9) rfl hname rfl (by decide +kernel) rfl rfl (Nat.le_of_ble_eq_true rfl) dX2_init_9 (fun H locs hP hD hS => ?_)
  have hP : va_P G.1 vwCl [(h, .inr (2, [.ref q7, .int 0])), (q7, .inl (G.2.1, 20, .inl (fun _ => 0)))] H := hP
  have hD : va_D A [(h, .inr (2, [.ref q7, .int 0])), (q7, .inl (G.2.1, 20, .inl (fun _ => 0)))] := hD
  have hP : va_P G.1 vwCl [(h, .inr (2, [.ref q7, .int 0])), (q7, .inl (G.2.1, 20, .inl (fun _ => 0)))] H := hP.sub [0, 1] rfl
  have hD : va_D A [(h, .inr (2, [.ref q7, .int 0])), (q7, .inl (G.2.1, 20, .inl (fun _ => 0)))] := hD.sub [0, 1] rfl rfl
  refine W.widen (k := 1) (n := 20) (Nat.le_of_ble_eq_true rfl) (Nat.le_of_ble_eq_true rfl) ?_
  exact rt_n (ad2 h q7) rfl hx hb hr hlocks hP hD hS dX2_init_12
theorem w0_X1_init : Cond.methodLink RX1 3 objectInit ∈ wsX1_init := by decide +kernel
theorem w1_X1_init : Cond.instanceMethod objectInit ∈ wsX1_init := by decide +kernel
theorem w2_X1_init : Cond.code objectInit ⟨#[0xb1]⟩ 1 none ∈ wsX1_init := by decide +kernel
theorem w3_X1_init : Cond.arrayClass .int ∈ wsX1_init := by decide +kernel
theorem w4_X1_init : Cond.fieldLink RX1 9 "WeakTableHeap$Marking" "rounds" "[I" ∈ wsX1_init := by decide +kernel
theorem w5_X1_init : ∀ w ∈ u_ws RX1 TX1 4, w ∈ wsX1_init := by decide +kernel
abbrev rm_X1_init : Room := { frames := 1, cells := 1, slots := 24, locals := 12 }
set_option maxHeartbeats 4000000 in
set_option maxRecDepth 100000 in
theorem c_X1_init (l : Launch) (G : GG) (h : Nat) : CTn l yX1_init wsX1_init rm_X1_init G [.ref h] [(h, .inr (1, [.null, .int 0, .int 0, .int 0]))] (fun u : Nat → Nat => u 0 = h) (fun u => wMK G.2.1 u (fun _ => 0) 0 0 0) := by
  intro sz
  refine mk_body (Qc := fun A => QN G A (fun u : Nat → Nat => u 0 = h) (fun u => wMK G.2.1 u (fun _ => 0) 0 0 0)) (cc := cX1_init) (maxL := 1) (ret := none) (lv := [(0, .ref h)]) (by decide) rfl rfl (Nat.le_of_ble_eq_true rfl) ?_
  intro p e s m args below meth c A H locs ls hF hr hlocks hname hK hA hP hD hS hl
  obtain ⟨hx, hb, hml, hown, hts⟩ := id hF
  refine lv_aload_n hx hb dX1_init_0 rfl (lv_at hl 0 rfl) ?_
  refine W.objInit hx hb hown (hts _ w0_X1_init) (hts _ w1_X1_init) (hts _ w2_X1_init) rfl (hl.1.trans hml.symm) rfl dX1_init_1 (Nat.le_of_ble_eq_true rfl) (Nat.le_of_ble_eq_true rfl) ?_
  refine W.eq (g2 := F0 m 4 ls []) rfl ?_
  refine lv_aload_n hx hb dX1_init_4 rfl (lv_at hl 0 rfl) ?_
  refine lv_bipush (v := 24) hx hb dX1_init_5 (by decide) ?_
  refine nw_I (N' := 24) hx hb (hts _ w3_X1_init) hK hP hD hS hA (by decide) (by decide) (by decide) (Nat.le_of_ble_eq_true rfl) (Nat.le_of_ble_eq_true rfl) dX1_init_7 (fun q7 H hP hD hS => ?_)
  have hP : va_P G.1 vwCl [(h, .inr (1, [.null, .int 0, .int 0, .int 0])), (q7, .inl (G.2.1, 24, .inl (fun _ => 0)))] H := hP
  have hD : va_D A [(h, .inr (1, [.null, .int 0, .int 0, .int 0])), (q7, .inl (G.2.1, 24, .inl (fun _ => 0)))] := hD
  refine va_putF (D := G.1) (ci := 1) (v := .ref q7) (ty := .array .int) (C := RX1) (T := TX1) (N := 4) hx hb hts w5_X1_init tyX1 tyX1_ok nmX1 hown hK.1 hP hD hS 0 rfl rfl 0 (by decide) (hts _ w4_X1_init) (fun _ h9 => h9) rfl hname rfl (by decide +kernel) rfl rfl (Nat.le_of_ble_eq_true rfl) dX1_init_9 (fun H locs hP hD hS => ?_)
  have hP : va_P G.1 vwCl [(h, .inr (1, [.ref q7, .int 0, .int 0, .int 0])), (q7, .inl (G.2.1, 24, .inl (fun _ => 0)))] H := hP
  have hD : va_D A [(h, .inr (1, [.ref q7, .int 0, .int 0, .int 0])), (q7, .inl (G.2.1, 24, .inl (fun _ => 0)))] := hD
  have hP : va_P G.1 vwCl [(h, .inr (1, [.ref q7, .int 0, .int 0, .int 0])), (q7, .inl (G.2.1, 24, .inl (fun _ => 0)))] H := hP.sub [0, 1] rfl
  have hD : va_D A [(h, .inr (1, [.ref q7, .int 0, .int 0, .int 0])), (q7, .inl (G.2.1, 24, .inl (fun _ => 0)))] := hD.sub [0, 1] rfl rfl
  refine W.widen (k := 1) (n := 24) (Nat.le_of_ble_eq_true rfl) (Nat.le_of_ble_eq_true rfl) ?_
  exact rt_n (ad2 h q7) rfl hx hb hr hlocks hP hD hS dX1_init_12
/-- a state just made -/
def frsh : SV := (fun j => match j with | 0 => emp 24 | 1 => emp 72 | 2 => emp 144 | 3 => emp 144 | 4 => emp 24 | 5 => emp 6 | _ => fun _ => 0, fun _ => 0)
abbrev wHX (G : GG) (hh ra sl : Nat) (R : SP) (nx dp : Int32) : va_W := [(hh, .inr (0, [.ref ra, .int nx, .int dp])), (ra, .inl (G.2.2.2, 6, .inr (.inr (.inr (.inr (rg R)))))), (sl, .inl (G.2.2.2, 2, .inr (.inr (.inr (.inr (sg R))))))]
abbrev wXQ (G : GG) (x hh ra sl : Nat) (a k : Nat → Nat) (R : SP) (ki fi ke va ta ro qu : Nat → Int32) (nsz fin rnd : Int32) (rd : Nat → Int32) (mkd lr un : Int32) (nx dp : Int32) : va_W := wX4 G.2.1 x hh sl a k ki fi ke va ta ro qu nsz fin rnd rd mkd lr un ++ wHX G hh ra sl R nx dp
abbrev wXP (G : GG) (x hh ra sl : Nat) (a k : Nat → Nat) (R : SP) (ki fi ke va ta ro qu : Nat → Int32) (nsz fin rnd : Int32) (rd : Nat → Int32) (mkd lr un : Int32) (nx dp : Int32) : va_W := wXQ G x hh ra sl a k R ki fi ke va ta ro qu nsz fin rnd rd mkd lr un nx dp ++ fl G.2.1 R 8

theorem w0_X0_init : Cond.methodLink RX0 3 objectInit ∈ wsX0_init := by decide +kernel
theorem w1_X0_init : Cond.instanceMethod objectInit ∈ wsX0_init := by decide +kernel
theorem w2_X0_init : Cond.code objectInit ⟨#[0xb1]⟩ 1 none ∈ wsX0_init := by decide +kernel
theorem w3_X0_init : Cond.classLink RX0 9 RX3 ∈ wsX0_init := by decide +kernel
theorem w4_X0_init : Cond.fieldLink RX0 11 "WeakTableHeap$History" "ring" "[LWeakTableHeap$State;" ∈ wsX0_init := by decide +kernel
theorem w5_X0_init : ∀ w ∈ u_ws RX0 TX0 3, w ∈ wsX0_init := by decide +kernel
abbrev rm_X0_init : Room := { frames := 1, cells := 1, slots := 6, locals := 12 }
set_option maxHeartbeats 4000000 in
set_option maxRecDepth 100000 in
theorem c_X0_init (l : Launch) (G : GG) (h : Nat) : CTn l yX0_init wsX0_init rm_X0_init G [.ref h] [(h, .inr (0, [.null, .int 0, .int 0]))] (fun u : Nat → Nat => u 0 = h) (fun u => [(u 0, .inr (0, [.ref (u 1), .int 0, .int 0])), (u 1, .inl (G.2.2.2, 6, .inr (.inr (.inr (.inr (fun _ => none))))))]) := by
  intro sz
  refine mk_body (Qc := fun A => QN G A (fun u : Nat → Nat => u 0 = h) (fun u => [(u 0, .inr (0, [.ref (u 1), .int 0, .int 0])), (u 1, .inl (G.2.2.2, 6, .inr (.inr (.inr (.inr (fun _ => none))))))])) (cc := cX0_init) (maxL := 1) (ret := none) (lv := [(0, .ref h)]) (by decide) rfl rfl (Nat.le_of_ble_eq_true rfl) ?_
  intro p e s m args below meth c A H locs ls hF hr hlocks hname hK hA hP hD hS hl
  obtain ⟨hx, hb, hml, hown, hts⟩ := id hF
  refine lv_aload_n hx hb dX0_init_0 rfl (lv_at hl 0 rfl) ?_
  refine W.objInit hx hb hown (hts _ w0_X0_init) (hts _ w1_X0_init) (hts _ w2_X0_init) rfl (hl.1.trans hml.symm) rfl dX0_init_1 (Nat.le_of_ble_eq_true rfl) (Nat.le_of_ble_eq_true rfl) ?_
  refine W.eq (g2 := F0 m 4 ls []) rfl ?_
  refine lv_aload_n hx hb dX0_init_4 rfl (lv_at hl 0 rfl) ?_
  refine lv_bipush (v := 6) hx hb dX0_init_5 (by decide) ?_
  refine nw_S (N' := 6) hx hb hown (hts _ w3_X0_init) hK hP hD hS hA (by decide) (by decide) (by decide) (Nat.le_of_ble_eq_true rfl) (Nat.le_of_ble_eq_true rfl) dX0_init_7 (fun q7 H hP hD hS => ?_)
  have hP : va_P G.1 vwCl [(h, .inr (0, [.null, .int 0, .int 0])), (q7, .inl (G.2.2.2, 6, .inr (.inr (.inr (.inr (fun _ => none))))))] H := hP
  have hD : va_D A [(h, .inr (0, [.null, .int 0, .int 0])), (q7, .inl (G.2.2.2, 6, .inr (.inr (.inr (.inr (fun _ => none))))))] := hD
  refine va_putF (D := G.1) (ci := 0) (v := .ref q7) (ty := .array (.object "WeakTableHeap$State")) (C := RX0) (T := TX0) (N := 3) hx hb hts w5_X0_init tyX0 tyX0_ok nmX0 hown hK.1 hP hD hS 0 rfl rfl 0 (by decide) (hts _ w4_X0_init) (fun _ h9 => h9) rfl hname rfl (by decide +kernel) rfl rfl (Nat.le_of_ble_eq_true rfl) dX0_init_10 (fun H locs hP hD hS => ?_)
  have hP : va_P G.1 vwCl [(h, .inr (0, [.ref q7, .int 0, .int 0])), (q7, .inl (G.2.2.2, 6, .inr (.inr (.inr (.inr (fun _ => none))))))] H := hP
  have hD : va_D A [(h, .inr (0, [.ref q7, .int 0, .int 0])), (q7, .inl (G.2.2.2, 6, .inr (.inr (.inr (.inr (fun _ => none))))))] := hD
  have hP : va_P G.1 vwCl [(h, .inr (0, [.ref q7, .int 0, .int 0])), (q7, .inl (G.2.2.2, 6, .inr (.inr (.inr (.inr (fun _ => none))))))] H := hP.sub [0, 1] rfl
  have hD : va_D A [(h, .inr (0, [.ref q7, .int 0, .int 0])), (q7, .inl (G.2.2.2, 6, .inr (.inr (.inr (.inr (fun _ => none))))))] := hD.sub [0, 1] rfl rfl
  refine W.widen (k := 1) (n := 6) (Nat.le_of_ble_eq_true rfl) (Nat.le_of_ble_eq_true rfl) ?_
  exact rt_n (ad2 h q7) rfl hx hb hr hlocks hP hD hS dX0_init_13
theorem w0_X3_init : Cond.methodLink RX3 3 objectInit ∈ wsX3_init := by decide +kernel
theorem w1_X3_init : Cond.instanceMethod objectInit ∈ wsX3_init := by decide +kernel
theorem w2_X3_init : Cond.code objectInit ⟨#[0xb1]⟩ 1 none ∈ wsX3_init := by decide +kernel
theorem w3_X3_init : Cond.initialized RX4 ∈ wsX3_init := by decide +kernel
theorem w4_X3_init : Cond.static yX4_emptyRow ∈ wsX3_init := by decide +kernel
theorem w5_X3_init : Cond.fieldLink RX3 13 "WeakTableHeap$State" "kinds" "[I" ∈ wsX3_init := by decide +kernel
theorem w6_X3_init : ∀ w ∈ u_ws RX3 TX3 9, w ∈ wsX3_init := by decide +kernel
theorem w7_X3_init : Cond.fieldLink RX3 19 "WeakTableHeap$State" "fields" "[I" ∈ wsX3_init := by decide +kernel
theorem w8_X3_init : Cond.fieldLink RX3 22 "WeakTableHeap$State" "keys" "[I" ∈ wsX3_init := by decide +kernel
theorem w9_X3_init : Cond.fieldLink RX3 25 "WeakTableHeap$State" "values" "[I" ∈ wsX3_init := by decide +kernel
theorem w10_X3_init : Cond.fieldLink RX3 28 "WeakTableHeap$State" "targets" "[I" ∈ wsX3_init := by decide +kernel
theorem w11_X3_init : Cond.fieldLink RX3 31 "WeakTableHeap$State" "roots" "[I" ∈ wsX3_init := by decide +kernel
theorem w12_X3_init : ∀ w ∈ u_ws RX2 TX2 2, w ∈ wsX3_init := by decide +kernel
theorem w13_X3_init : Cond.classLink RX3 34 RX2 ∈ wsX3_init := by decide +kernel
theorem w14_X3_init : Cond.instantiable RX2 2 ∈ wsX3_init := by decide +kernel
theorem w15_X3_init : Cond.initialized RX2 ∈ wsX3_init := by decide +kernel
theorem w16_X3_init : Cond.instanceMethod yX2_init ∈ wsX3_init := by decide +kernel
theorem w17_X3_init : Cond.fieldLink RX3 37 "WeakTableHeap$State" "notices" "LWeakTableHeap$Notices;" ∈ wsX3_init := by decide +kernel
abbrev rm_X3_init : Room := { frames := 2, cells := 8, slots := 436, locals := 44 }
set_option maxHeartbeats 4000000 in
set_option maxRecDepth 100000 in
theorem c_X3_init (l : Launch) (G : GG) (h : Nat) : CTn l yX3_init wsX3_init rm_X3_init G [.ref h] [(h, .inr (3, [.null, .null, .null, .null, .null, .null, .null, .int 0, .int 0]))] (fun u : Nat → Nat => u 0 = h) (fun u => wSV G.2.1 u frsh) := by
  intro sz
  refine mk_body (Qc := fun A => QN G A (fun u : Nat → Nat => u 0 = h) (fun u => wSV G.2.1 u frsh)) (cc := cX3_init) (maxL := 1) (ret := none) (lv := [(0, .ref h)]) (by decide) rfl rfl (Nat.le_of_ble_eq_true rfl) ?_
  intro p e s m args below meth c A H locs ls hF hr hlocks hname hK hA hP hD hS hl
  obtain ⟨hx, hb, hml, hown, hts⟩ := id hF
  refine lv_aload_n hx hb dX3_init_0 rfl (lv_at hl 0 rfl) ?_
  refine W.objInit hx hb hown (hts _ w0_X3_init) (hts _ w1_X3_init) (hts _ w2_X3_init) rfl (hl.1.trans hml.symm) rfl dX3_init_1 (Nat.le_of_ble_eq_true rfl) (Nat.le_of_ble_eq_true rfl) ?_
  refine W.eq (g2 := F0 m 4 ls []) rfl ?_
  refine lv_aload_n hx hb dX3_init_4 rfl (lv_at hl 0 rfl) ?_
  refine lv_bipush (v := 24) hx hb dX3_init_5 (by decide) ?_
  refine k0_a (ws := [(h, .inr (3, [.null, .null, .null, .null, .null, .null, .null, .int 0, .int 0]))]) (rSN (As := [.int 24]) (rest := [.ref h]) (wi := ([] : va_W)) hF hK k0_P (k0_D (A := A)) (c_X4_emptyRow_24 l G H.size) ⟨va_cnB 1 hts gX3_init_X4_emptyRow_n9 rfl rfl rfl (nw_RX3_9 hK) (hts _ w3_X3_init) (by decide +kernel) ⟨Nat.le_of_ble_eq_true rfl, Nat.le_of_ble_eq_true rfl⟩, hts _ w4_X3_init, trivial⟩ rfl hl.1 rfl (Nat.le_of_ble_eq_true rfl) dX3_init_7 ⟨Nat.le_of_ble_eq_true rfl, Nat.le_of_ble_eq_true rfl⟩) hP hD hS hA (fun u7 H locs hP hD hS => ?_)
  have hP : va_P G.1 vwCl [(h, .inr (3, [.null, .null, .null, .null, .null, .null, .null, .int 0, .int 0])), (u7, .inl (G.2.1, 24, .inl (emp 24)))] H := hP
  have hD : va_D A [(h, .inr (3, [.null, .null, .null, .null, .null, .null, .null, .int 0, .int 0])), (u7, .inl (G.2.1, 24, .inl (emp 24)))] := hD
  refine va_putF (D := G.1) (ci := 3) (v := .ref u7) (ty := .array .int) (C := RX3) (T := TX3) (N := 9) hx hb hts w6_X3_init tyX3 tyX3_ok nmX3 hown hK.1 hP hD hS 0 rfl rfl 0 (by decide) (hts _ w5_X3_init) (fun _ h9 => h9) rfl hname rfl (by decide +kernel) rfl rfl (Nat.le_of_ble_eq_true rfl) dX3_init_10 (fun H locs hP hD hS => ?_)
  have hP : va_P G.1 vwCl [(h, .inr (3, [.ref u7, .null, .null, .null, .null, .null, .null, .int 0, .int 0])), (u7, .inl (G.2.1, 24, .inl (emp 24)))] H := hP
  have hD : va_D A [(h, .inr (3, [.ref u7, .null, .null, .null, .null, .null, .null, .int 0, .int 0])), (u7, .inl (G.2.1, 24, .inl (emp 24)))] := hD
  refine lv_aload_n hx hb dX3_init_13 rfl (lv_at hl 0 rfl) ?_
  refine lv_bipush (v := 72) hx hb dX3_init_14 (by decide) ?_
  refine k0_a (ws := [(h, .inr (3, [.ref u7, .null, .null, .null, .null, .null, .null, .int 0, .int 0])), (u7, .inl (G.2.1, 24, .inl (emp 24)))]) (rSN (As := [.int 72]) (rest := [.ref h]) (wi := ([] : va_W)) hF hK k0_P (k0_D (A := A)) (c_X4_emptyRow_72 l G H.size) ⟨va_cnB 1 hts gX3_init_X4_emptyRow_n9 rfl rfl rfl (nw_RX3_9 hK) (hts _ w3_X3_init) (by decide +kernel) ⟨Nat.le_of_ble_eq_true rfl, Nat.le_of_ble_eq_true rfl⟩, hts _ w4_X3_init, trivial⟩ rfl hl.1 rfl (Nat.le_of_ble_eq_true rfl) dX3_init_16 ⟨Nat.le_of_ble_eq_true rfl, Nat.le_of_ble_eq_true rfl⟩) hP hD hS hA (fun u16 H locs hP hD hS => ?_)
  have hP : va_P G.1 vwCl [(h, .inr (3, [.ref u7, .null, .null, .null, .null, .null, .null, .int 0, .int 0])), (u7, .inl (G.2.1, 24, .inl (emp 24))), (u16, .inl (G.2.1, 72, .inl (emp 72)))] H := hP
  have hD : va_D A [(h, .inr (3, [.ref u7, .null, .null, .null, .null, .null, .null, .int 0, .int 0])), (u7, .inl (G.2.1, 24, .inl (emp 24))), (u16, .inl (G.2.1, 72, .inl (emp 72)))] := hD
  refine va_putF (D := G.1) (ci := 3) (v := .ref u16) (ty := .array .int) (C := RX3) (T := TX3) (N := 9) hx hb hts w6_X3_init tyX3 tyX3_ok nmX3 hown hK.1 hP hD hS 0 rfl rfl 1 (by decide) (hts _ w7_X3_init) (fun _ h9 => h9) rfl hname rfl (by decide +kernel) rfl rfl (Nat.le_of_ble_eq_true rfl) dX3_init_19 (fun H locs hP hD hS => ?_)
  have hP : va_P G.1 vwCl [(h, .inr (3, [.ref u7, .ref u16, .null, .null, .null, .null, .null, .int 0, .int 0])), (u7, .inl (G.2.1, 24, .inl (emp 24))), (u16, .inl (G.2.1, 72, .inl (emp 72)))] H := hP
  have hD : va_D A [(h, .inr (3, [.ref u7, .ref u16, .null, .null, .null, .null, .null, .int 0, .int 0])), (u7, .inl (G.2.1, 24, .inl (emp 24))), (u16, .inl (G.2.1, 72, .inl (emp 72)))] := hD
  refine lv_aload_n hx hb dX3_init_22 rfl (lv_at hl 0 rfl) ?_
  refine lv_sipush (v := 144) hx hb dX3_init_23 (by decide) ?_
  refine k0_a (ws := [(h, .inr (3, [.ref u7, .ref u16, .null, .null, .null, .null, .null, .int 0, .int 0])), (u7, .inl (G.2.1, 24, .inl (emp 24))), (u16, .inl (G.2.1, 72, .inl (emp 72)))]) (rSN (As := [.int 144]) (rest := [.ref h]) (wi := ([] : va_W)) hF hK k0_P (k0_D (A := A)) (c_X4_emptyRow_144 l G H.size) ⟨va_cnB 1 hts gX3_init_X4_emptyRow_n9 rfl rfl rfl (nw_RX3_9 hK) (hts _ w3_X3_init) (by decide +kernel) ⟨Nat.le_of_ble_eq_true rfl, Nat.le_of_ble_eq_true rfl⟩, hts _ w4_X3_init, trivial⟩ rfl hl.1 rfl (Nat.le_of_ble_eq_true rfl) dX3_init_26 ⟨Nat.le_of_ble_eq_true rfl, Nat.le_of_ble_eq_true rfl⟩) hP hD hS hA (fun u26 H locs hP hD hS => ?_)
  have hP : va_P G.1 vwCl [(h, .inr (3, [.ref u7, .ref u16, .null, .null, .null, .null, .null, .int 0, .int 0])), (u7, .inl (G.2.1, 24, .inl (emp 24))), (u16, .inl (G.2.1, 72, .inl (emp 72))), (u26, .inl (G.2.1, 144, .inl (emp 144)))] H := hP
  have hD : va_D A [(h, .inr (3, [.ref u7, .ref u16, .null, .null, .null, .null, .null, .int 0, .int 0])), (u7, .inl (G.2.1, 24, .inl (emp 24))), (u16, .inl (G.2.1, 72, .inl (emp 72))), (u26, .inl (G.2.1, 144, .inl (emp 144)))] := hD
  refine va_putF (D := G.1) (ci := 3) (v := .ref u26) (ty := .array .int) (C := RX3) (T := TX3) (N := 9) hx hb hts w6_X3_init tyX3 tyX3_ok nmX3 hown hK.1 hP hD hS 0 rfl rfl 2 (by decide) (hts _ w8_X3_init) (fun _ h9 => h9) rfl hname rfl (by decide +kernel) rfl rfl (Nat.le_of_ble_eq_true rfl) dX3_init_29 (fun H locs hP hD hS => ?_)
  have hP : va_P G.1 vwCl [(h, .inr (3, [.ref u7, .ref u16, .ref u26, .null, .null, .null, .null, .int 0, .int 0])), (u7, .inl (G.2.1, 24, .inl (emp 24))), (u16, .inl (G.2.1, 72, .inl (emp 72))), (u26, .inl (G.2.1, 144, .inl (emp 144)))] H := hP
  have hD : va_D A [(h, .inr (3, [.ref u7, .ref u16, .ref u26, .null, .null, .null, .null, .int 0, .int 0])), (u7, .inl (G.2.1, 24, .inl (emp 24))), (u16, .inl (G.2.1, 72, .inl (emp 72))), (u26, .inl (G.2.1, 144, .inl (emp 144)))] := hD
  refine lv_aload_n hx hb dX3_init_32 rfl (lv_at hl 0 rfl) ?_
  refine lv_sipush (v := 144) hx hb dX3_init_33 (by decide) ?_
  refine k0_a (ws := [(h, .inr (3, [.ref u7, .ref u16, .ref u26, .null, .null, .null, .null, .int 0, .int 0])), (u7, .inl (G.2.1, 24, .inl (emp 24))), (u16, .inl (G.2.1, 72, .inl (emp 72))), (u26, .inl (G.2.1, 144, .inl (emp 144)))]) (rSN (As := [.int 144]) (rest := [.ref h]) (wi := ([] : va_W)) hF hK k0_P (k0_D (A := A)) (c_X4_emptyRow_144 l G H.size) ⟨va_cnB 1 hts gX3_init_X4_emptyRow_n9 rfl rfl rfl (nw_RX3_9 hK) (hts _ w3_X3_init) (by decide +kernel) ⟨Nat.le_of_ble_eq_true rfl, Nat.le_of_ble_eq_true rfl⟩, hts _ w4_X3_init, trivial⟩ rfl hl.1 rfl (Nat.le_of_ble_eq_true rfl) dX3_init_36 ⟨Nat.le_of_ble_eq_true rfl, Nat.le_of_ble_eq_true rfl⟩) hP hD hS hA (fun u36 H locs hP hD hS => ?_)
  have hP : va_P G.1 vwCl [(h, .inr (3, [.ref u7, .ref u16, .ref u26, .null, .null, .null, .null, .int 0, .int 0])), (u7, .inl (G.2.1, 24, .inl (emp 24))), (u16, .inl (G.2.1, 72, .inl (emp 72))), (u26, .inl (G.2.1, 144, .inl (emp 144))), (u36, .inl (G.2.1, 144, .inl (emp 144)))] H := hP
  have hD : va_D A [(h, .inr (3, [.ref u7, .ref u16, .ref u26, .null, .null, .null, .null, .int 0, .int 0])), (u7, .inl (G.2.1, 24, .inl (emp 24))), (u16, .inl (G.2.1, 72, .inl (emp 72))), (u26, .inl (G.2.1, 144, .inl (emp 144))), (u36, .inl (G.2.1, 144, .inl (emp 144)))] := hD
  refine va_putF (D := G.1) (ci := 3) (v := .ref u36) (ty := .array .int) (C := RX3) (T := TX3) (N := 9) hx hb hts w6_X3_init tyX3 tyX3_ok nmX3 hown hK.1 hP hD hS 0 rfl rfl 3 (by decide) (hts _ w9_X3_init) (fun _ h9 => h9) rfl hname rfl (by decide +kernel) rfl rfl (Nat.le_of_ble_eq_true rfl) dX3_init_39 (fun H locs hP hD hS => ?_)
  have hP : va_P G.1 vwCl [(h, .inr (3, [.ref u7, .ref u16, .ref u26, .ref u36, .null, .null, .null, .int 0, .int 0])), (u7, .inl (G.2.1, 24, .inl (emp 24))), (u16, .inl (G.2.1, 72, .inl (emp 72))), (u26, .inl (G.2.1, 144, .inl (emp 144))), (u36, .inl (G.2.1, 144, .inl (emp 144)))] H := hP
  have hD : va_D A [(h, .inr (3, [.ref u7, .ref u16, .ref u26, .ref u36, .null, .null, .null, .int 0, .int 0])), (u7, .inl (G.2.1, 24, .inl (emp 24))), (u16, .inl (G.2.1, 72, .inl (emp 72))), (u26, .inl (G.2.1, 144, .inl (emp 144))), (u36, .inl (G.2.1, 144, .inl (emp 144)))] := hD
  refine lv_aload_n hx hb dX3_init_42 rfl (lv_at hl 0 rfl) ?_
  refine lv_bipush (v := 24) hx hb dX3_init_43 (by decide) ?_
  refine k0_a (ws := [(h, .inr (3, [.ref u7, .ref u16, .ref u26, .ref u36, .null, .null, .null, .int 0, .int 0])), (u7, .inl (G.2.1, 24, .inl (emp 24))), (u16, .inl (G.2.1, 72, .inl (emp 72))), (u26, .inl (G.2.1, 144, .inl (emp 144))), (u36, .inl (G.2.1, 144, .inl (emp 144)))]) (rSN (As := [.int 24]) (rest := [.ref h]) (wi := ([] : va_W)) hF hK k0_P (k0_D (A := A)) (c_X4_emptyRow_24 l G H.size) ⟨va_cnB 1 hts gX3_init_X4_emptyRow_n9 rfl rfl rfl (nw_RX3_9 hK) (hts _ w3_X3_init) (by decide +kernel) ⟨Nat.le_of_ble_eq_true rfl, Nat.le_of_ble_eq_true rfl⟩, hts _ w4_X3_init, trivial⟩ rfl hl.1 rfl (Nat.le_of_ble_eq_true rfl) dX3_init_45 ⟨Nat.le_of_ble_eq_true rfl, Nat.le_of_ble_eq_true rfl⟩) hP hD hS hA (fun u45 H locs hP hD hS => ?_)
  have hP : va_P G.1 vwCl [(h, .inr (3, [.ref u7, .ref u16, .ref u26, .ref u36, .null, .null, .null, .int 0, .int 0])), (u7, .inl (G.2.1, 24, .inl (emp 24))), (u16, .inl (G.2.1, 72, .inl (emp 72))), (u26, .inl (G.2.1, 144, .inl (emp 144))), (u36, .inl (G.2.1, 144, .inl (emp 144))), (u45, .inl (G.2.1, 24, .inl (emp 24)))] H := hP
  have hD : va_D A [(h, .inr (3, [.ref u7, .ref u16, .ref u26, .ref u36, .null, .null, .null, .int 0, .int 0])), (u7, .inl (G.2.1, 24, .inl (emp 24))), (u16, .inl (G.2.1, 72, .inl (emp 72))), (u26, .inl (G.2.1, 144, .inl (emp 144))), (u36, .inl (G.2.1, 144, .inl (emp 144))), (u45, .inl (G.2.1, 24, .inl (emp 24)))] := hD
  refine va_putF (D := G.1) (ci := 3) (v := .ref u45) (ty := .array .int) (C := RX3) (T := TX3) (N := 9) hx hb hts w6_X3_init tyX3 tyX3_ok nmX3 hown hK.1 hP hD hS 0 rfl rfl 4 (by decide) (hts _ w10_X3_init) (fun _ h9 => h9) rfl hname rfl (by decide +kernel) rfl rfl (Nat.le_of_ble_eq_true rfl) dX3_init_48 (fun H locs hP hD hS => ?_)
  have hP : va_P G.1 vwCl [(h, .inr (3, [.ref u7, .ref u16, .ref u26, .ref u36, .ref u45, .null, .null, .int 0, .int 0])), (u7, .inl (G.2.1, 24, .inl (emp 24))), (u16, .inl (G.2.1, 72, .inl (emp 72))), (u26, .inl (G.2.1, 144, .inl (emp 144))), (u36, .inl (G.2.1, 144, .inl (emp 144))), (u45, .inl (G.2.1, 24, .inl (emp 24)))] H := hP
  have hD : va_D A [(h, .inr (3, [.ref u7, .ref u16, .ref u26, .ref u36, .ref u45, .null, .null, .int 0, .int 0])), (u7, .inl (G.2.1, 24, .inl (emp 24))), (u16, .inl (G.2.1, 72, .inl (emp 72))), (u26, .inl (G.2.1, 144, .inl (emp 144))), (u36, .inl (G.2.1, 144, .inl (emp 144))), (u45, .inl (G.2.1, 24, .inl (emp 24)))] := hD
  refine lv_aload_n hx hb dX3_init_51 rfl (lv_at hl 0 rfl) ?_
  refine lv_bipush (v := 6) hx hb dX3_init_52 (by decide) ?_
  refine k0_a (ws := [(h, .inr (3, [.ref u7, .ref u16, .ref u26, .ref u36, .ref u45, .null, .null, .int 0, .int 0])), (u7, .inl (G.2.1, 24, .inl (emp 24))), (u16, .inl (G.2.1, 72, .inl (emp 72))), (u26, .inl (G.2.1, 144, .inl (emp 144))), (u36, .inl (G.2.1, 144, .inl (emp 144))), (u45, .inl (G.2.1, 24, .inl (emp 24)))]) (rSN (As := [.int 6]) (rest := [.ref h]) (wi := ([] : va_W)) hF hK k0_P (k0_D (A := A)) (c_X4_emptyRow_6 l G H.size) ⟨va_cnB 1 hts gX3_init_X4_emptyRow_n9 rfl rfl rfl (nw_RX3_9 hK) (hts _ w3_X3_init) (by decide +kernel) ⟨Nat.le_of_ble_eq_true rfl, Nat.le_of_ble_eq_true rfl⟩, hts _ w4_X3_init, trivial⟩ rfl hl.1 rfl (Nat.le_of_ble_eq_true rfl) dX3_init_54 ⟨Nat.le_of_ble_eq_true rfl, Nat.le_of_ble_eq_true rfl⟩) hP hD hS hA (fun u54 H locs hP hD hS => ?_)
  have hP : va_P G.1 vwCl [(h, .inr (3, [.ref u7, .ref u16, .ref u26, .ref u36, .ref u45, .null, .null, .int 0, .int 0])), (u7, .inl (G.2.1, 24, .inl (emp 24))), (u16, .inl (G.2.1, 72, .inl (emp 72))), (u26, .inl (G.2.1, 144, .inl (emp 144))), (u36, .inl (G.2.1, 144, .inl (emp 144))), (u45, .inl (G.2.1, 24, .inl (emp 24))), (u54, .inl (G.2.1, 6, .inl (emp 6)))] H := hP
  have hD : va_D A [(h, .inr (3, [.ref u7, .ref u16, .ref u26, .ref u36, .ref u45, .null, .null, .int 0, .int 0])), (u7, .inl (G.2.1, 24, .inl (emp 24))), (u16, .inl (G.2.1, 72, .inl (emp 72))), (u26, .inl (G.2.1, 144, .inl (emp 144))), (u36, .inl (G.2.1, 144, .inl (emp 144))), (u45, .inl (G.2.1, 24, .inl (emp 24))), (u54, .inl (G.2.1, 6, .inl (emp 6)))] := hD
  refine va_putF (D := G.1) (ci := 3) (v := .ref u54) (ty := .array .int) (C := RX3) (T := TX3) (N := 9) hx hb hts w6_X3_init tyX3 tyX3_ok nmX3 hown hK.1 hP hD hS 0 rfl rfl 5 (by decide) (hts _ w11_X3_init) (fun _ h9 => h9) rfl hname rfl (by decide +kernel) rfl rfl (Nat.le_of_ble_eq_true rfl) dX3_init_57 (fun H locs hP hD hS => ?_)
  have hP : va_P G.1 vwCl [(h, .inr (3, [.ref u7, .ref u16, .ref u26, .ref u36, .ref u45, .ref u54, .null, .int 0, .int 0])), (u7, .inl (G.2.1, 24, .inl (emp 24))), (u16, .inl (G.2.1, 72, .inl (emp 72))), (u26, .inl (G.2.1, 144, .inl (emp 144))), (u36, .inl (G.2.1, 144, .inl (emp 144))), (u45, .inl (G.2.1, 24, .inl (emp 24))), (u54, .inl (G.2.1, 6, .inl (emp 6)))] H := hP
  have hD : va_D A [(h, .inr (3, [.ref u7, .ref u16, .ref u26, .ref u36, .ref u45, .ref u54, .null, .int 0, .int 0])), (u7, .inl (G.2.1, 24, .inl (emp 24))), (u16, .inl (G.2.1, 72, .inl (emp 72))), (u26, .inl (G.2.1, 144, .inl (emp 144))), (u36, .inl (G.2.1, 144, .inl (emp 144))), (u45, .inl (G.2.1, 24, .inl (emp 24))), (u54, .inl (G.2.1, 6, .inl (emp 6)))] := hD
  refine lv_aload_n hx hb dX3_init_60 rfl (lv_at hl 0 rfl) ?_
  refine va_new (ci := 2) (fs := [.null, .int 0]) (C := RX2) (T := TX2) (N := 2) hx hb hts w12_X3_init tyX2 tyX2_ok hown (hts _ w13_X3_init) (hts _ w14_X3_init) (hts _ w15_X3_init) hK.1 hP hD hS hA rfl (fun j hj => by rcases (show j = 0 ∨ j = 1 by omega) with rfl | rfl <;> rfl) (Nat.le_of_ble_eq_true rfl) (Nat.le_of_ble_eq_true rfl) dX3_init_61 (fun q61 H hP hD hS => ?_)
  have hP : va_P G.1 vwCl [(h, .inr (3, [.ref u7, .ref u16, .ref u26, .ref u36, .ref u45, .ref u54, .null, .int 0, .int 0])), (u7, .inl (G.2.1, 24, .inl (emp 24))), (u16, .inl (G.2.1, 72, .inl (emp 72))), (u26, .inl (G.2.1, 144, .inl (emp 144))), (u36, .inl (G.2.1, 144, .inl (emp 144))), (u45, .inl (G.2.1, 24, .inl (emp 24))), (u54, .inl (G.2.1, 6, .inl (emp 6))), (q61, .inr (2, [.null, .int 0]))] H := hP
  have hD : va_D A [(h, .inr (3, [.ref u7, .ref u16, .ref u26, .ref u36, .ref u45, .ref u54, .null, .int 0, .int 0])), (u7, .inl (G.2.1, 24, .inl (emp 24))), (u16, .inl (G.2.1, 72, .inl (emp 72))), (u26, .inl (G.2.1, 144, .inl (emp 144))), (u36, .inl (G.2.1, 144, .inl (emp 144))), (u45, .inl (G.2.1, 24, .inl (emp 24))), (u54, .inl (G.2.1, 6, .inl (emp 6))), (q61, .inr (2, [.null, .int 0]))] := hD
  refine lv_dup hx hb dX3_init_64 rfl ?_
  refine kc_n (wi := [(q61, .inr (2, [.null, .int 0]))]) (wr := [(h, .inr (3, [.ref u7, .ref u16, .ref u26, .ref u36, .ref u45, .ref u54, .null, .int 0, .int 0])), (u7, .inl (G.2.1, 24, .inl (emp 24))), (u16, .inl (G.2.1, 72, .inl (emp 72))), (u26, .inl (G.2.1, 144, .inl (emp 144))), (u36, .inl (G.2.1, 144, .inl (emp 144))), (u45, .inl (G.2.1, 24, .inl (emp 24))), (u54, .inl (G.2.1, 6, .inl (emp 6)))]) (rIN (As := []) (rest := [.ref q61, .ref h]) (b := q61) (wi := [(q61, .inr (2, [.null, .int 0]))]) hF hK (hP.sub [7] rfl) (hD.sub [7] rfl rfl) (c_X2_init l G q61 H.size) ⟨va_cnB 0 hts gX3_init_X2_init_n36 rfl rfl rfl (nw_RX3_36 hK) (hts _ w15_X3_init) (by decide +kernel) ⟨Nat.le_of_ble_eq_true rfl, Nat.le_of_ble_eq_true rfl⟩, rfl, hts _ w16_X3_init⟩ rfl hl.1 rfl (Nat.le_of_ble_eq_true rfl) dX3_init_65 ⟨Nat.le_of_ble_eq_true rfl, Nat.le_of_ble_eq_true rfl⟩) hP hD hS hA [7] [0, 1, 2, 3, 4, 5, 6] rfl rfl rfl (by decide) (fun u65 H locs hu65 hP hD hS => ?_)
  rw [← hu65]
  have hP : va_P G.1 vwCl [(h, .inr (3, [.ref u7, .ref u16, .ref u26, .ref u36, .ref u45, .ref u54, .null, .int 0, .int 0])), (u7, .inl (G.2.1, 24, .inl (emp 24))), (u16, .inl (G.2.1, 72, .inl (emp 72))), (u26, .inl (G.2.1, 144, .inl (emp 144))), (u36, .inl (G.2.1, 144, .inl (emp 144))), (u45, .inl (G.2.1, 24, .inl (emp 24))), (u54, .inl (G.2.1, 6, .inl (emp 6))), ((u65 0), .inr (2, [.ref (u65 1), .int 0])), ((u65 1), .inl (G.2.1, 20, .inl (fun _ => 0)))] H := hP
  have hD : va_D A [(h, .inr (3, [.ref u7, .ref u16, .ref u26, .ref u36, .ref u45, .ref u54, .null, .int 0, .int 0])), (u7, .inl (G.2.1, 24, .inl (emp 24))), (u16, .inl (G.2.1, 72, .inl (emp 72))), (u26, .inl (G.2.1, 144, .inl (emp 144))), (u36, .inl (G.2.1, 144, .inl (emp 144))), (u45, .inl (G.2.1, 24, .inl (emp 24))), (u54, .inl (G.2.1, 6, .inl (emp 6))), ((u65 0), .inr (2, [.ref (u65 1), .int 0])), ((u65 1), .inl (G.2.1, 20, .inl (fun _ => 0)))] := hD
  refine va_putF (D := G.1) (ci := 3) (v := .ref (u65 0)) (ty := .object "WeakTableHeap$Notices") (C := RX3) (T := TX3) (N := 9) hx hb hts w6_X3_init tyX3 tyX3_ok nmX3 hown hK.1 hP hD hS 0 rfl rfl 6 (by decide) (hts _ w17_X3_init) (fun _ h9 => h9) rfl hname rfl (by decide +kernel) rfl rfl (Nat.le_of_ble_eq_true rfl) dX3_init_68 (fun H locs hP hD hS => ?_)
  have hP : va_P G.1 vwCl [(h, .inr (3, [.ref u7, .ref u16, .ref u26, .ref u36, .ref u45, .ref u54, .ref (u65 0), .int 0, .int 0])), (u7, .inl (G.2.1, 24, .inl (emp 24))), (u16, .inl (G.2.1, 72, .inl (emp 72))), (u26, .inl (G.2.1, 144, .inl (emp 144))), (u36, .inl (G.2.1, 144, .inl (emp 144))), (u45, .inl (G.2.1, 24, .inl (emp 24))), (u54, .inl (G.2.1, 6, .inl (emp 6))), ((u65 0), .inr (2, [.ref (u65 1), .int 0])), ((u65 1), .inl (G.2.1, 20, .inl (fun _ => 0)))] H := hP
  have hD : va_D A [(h, .inr (3, [.ref u7, .ref u16, .ref u26, .ref u36, .ref u45, .ref u54, .ref (u65 0), .int 0, .int 0])), (u7, .inl (G.2.1, 24, .inl (emp 24))), (u16, .inl (G.2.1, 72, .inl (emp 72))), (u26, .inl (G.2.1, 144, .inl (emp 144))), (u36, .inl (G.2.1, 144, .inl (emp 144))), (u45, .inl (G.2.1, 24, .inl (emp 24))), (u54, .inl (G.2.1, 6, .inl (emp 6))), ((u65 0), .inr (2, [.ref (u65 1), .int 0])), ((u65 1), .inl (G.2.1, 20, .inl (fun _ => 0)))] := hD
  have hP : va_P G.1 vwCl [(h, .inr (3, [.ref u7, .ref u16, .ref u26, .ref u36, .ref u45, .ref u54, .ref (u65 0), .int 0, .int 0])), (u7, .inl (G.2.1, 24, .inl (emp 24))), (u16, .inl (G.2.1, 72, .inl (emp 72))), (u26, .inl (G.2.1, 144, .inl (emp 144))), (u36, .inl (G.2.1, 144, .inl (emp 144))), (u45, .inl (G.2.1, 24, .inl (emp 24))), (u54, .inl (G.2.1, 6, .inl (emp 6))), ((u65 0), .inr (2, [.ref (u65 1), .int 0])), ((u65 1), .inl (G.2.1, 20, .inl (fun _ => 0)))] H := hP.sub [0, 1, 2, 3, 4, 5, 6, 7, 8] rfl
  have hD : va_D A [(h, .inr (3, [.ref u7, .ref u16, .ref u26, .ref u36, .ref u45, .ref u54, .ref (u65 0), .int 0, .int 0])), (u7, .inl (G.2.1, 24, .inl (emp 24))), (u16, .inl (G.2.1, 72, .inl (emp 72))), (u26, .inl (G.2.1, 144, .inl (emp 144))), (u36, .inl (G.2.1, 144, .inl (emp 144))), (u45, .inl (G.2.1, 24, .inl (emp 24))), (u54, .inl (G.2.1, 6, .inl (emp 6))), ((u65 0), .inr (2, [.ref (u65 1), .int 0])), ((u65 1), .inl (G.2.1, 20, .inl (fun _ => 0)))] := hD.sub [0, 1, 2, 3, 4, 5, 6, 7, 8] rfl rfl
  refine W.widen (k := 8) (n := 436) (Nat.le_of_ble_eq_true rfl) (Nat.le_of_ble_eq_true rfl) ?_
  exact rt_n (ad9 h u7 u16 u26 u36 u45 u54 (u65 0) (u65 1)) rfl hx hb hr hlocks hP hD hS dX3_init_71
theorem w0_X4_init : Cond.methodLink RX4 1 objectInit ∈ wsX4_init := by decide +kernel
theorem w1_X4_init : Cond.instanceMethod objectInit ∈ wsX4_init := by decide +kernel
theorem w2_X4_init : Cond.code objectInit ⟨#[0xb1]⟩ 1 none ∈ wsX4_init := by decide +kernel
theorem w3_X4_init : ∀ w ∈ u_ws RX3 TX3 9, w ∈ wsX4_init := by decide +kernel
theorem w4_X4_init : Cond.classLink RX4 7 RX3 ∈ wsX4_init := by decide +kernel
theorem w5_X4_init : Cond.instantiable RX3 9 ∈ wsX4_init := by decide +kernel
theorem w6_X4_init : Cond.initialized RX3 ∈ wsX4_init := by decide +kernel
theorem w7_X4_init : Cond.instanceMethod yX3_init ∈ wsX4_init := by decide +kernel
theorem w8_X4_init : Cond.fieldLink RX4 10 "WeakTableHeap" "state" "LWeakTableHeap$State;" ∈ wsX4_init := by decide +kernel
theorem w9_X4_init : ∀ w ∈ u_ws RX4 TX4 4, w ∈ wsX4_init := by decide +kernel
theorem w10_X4_init : ∀ w ∈ u_ws RX0 TX0 3, w ∈ wsX4_init := by decide +kernel
theorem w11_X4_init : Cond.classLink RX4 16 RX0 ∈ wsX4_init := by decide +kernel
theorem w12_X4_init : Cond.instantiable RX0 3 ∈ wsX4_init := by decide +kernel
theorem w13_X4_init : Cond.initialized RX0 ∈ wsX4_init := by decide +kernel
theorem w14_X4_init : Cond.instanceMethod yX0_init ∈ wsX4_init := by decide +kernel
theorem w15_X4_init : Cond.fieldLink RX4 19 "WeakTableHeap" "history" "LWeakTableHeap$History;" ∈ wsX4_init := by decide +kernel
theorem w16_X4_init : Cond.fieldLink RX4 23 "WeakTableHeap" "slots" "[LWeakTableHeap$State;" ∈ wsX4_init := by decide +kernel
theorem w17_X4_init : ∀ w ∈ u_ws RX1 TX1 4, w ∈ wsX4_init := by decide +kernel
theorem w18_X4_init : Cond.classLink RX4 27 RX1 ∈ wsX4_init := by decide +kernel
theorem w19_X4_init : Cond.instantiable RX1 4 ∈ wsX4_init := by decide +kernel
theorem w20_X4_init : Cond.initialized RX1 ∈ wsX4_init := by decide +kernel
theorem w21_X4_init : Cond.instanceMethod yX1_init ∈ wsX4_init := by decide +kernel
theorem w22_X4_init : Cond.fieldLink RX4 30 "WeakTableHeap" "marking" "LWeakTableHeap$Marking;" ∈ wsX4_init := by decide +kernel
abbrev rm_X4_init : Room := { frames := 3, cells := 14, slots := 484, locals := 64 }
set_option maxHeartbeats 4000000 in
set_option maxRecDepth 100000 in
theorem c_X4_init (l : Launch) (G : GG) (h : Nat) : CTn l yX4_init wsX4_init rm_X4_init G [.ref h] [(h, .inr (4, [.null, .null, .null, .null]))] (fun u : (Nat × Nat × Nat × Nat) × (Nat → Nat) × (Nat → Nat) => u.1.1 = h) (fun u => wXP G u.1.1 u.1.2.1 u.1.2.2.1 u.1.2.2.2 u.2.1 u.2.2 (fun _ => none) (emp 24) (emp 72) (emp 144) (emp 144) (emp 24) (emp 6) (fun _ => 0) 0 0 0 (fun _ => 0) 0 0 0 0 0) := by
  intro sz
  refine mk_body (Qc := fun A => QN G A (fun u : (Nat × Nat × Nat × Nat) × (Nat → Nat) × (Nat → Nat) => u.1.1 = h) (fun u => wXP G u.1.1 u.1.2.1 u.1.2.2.1 u.1.2.2.2 u.2.1 u.2.2 (fun _ => none) (emp 24) (emp 72) (emp 144) (emp 144) (emp 24) (emp 6) (fun _ => 0) 0 0 0 (fun _ => 0) 0 0 0 0 0)) (cc := cX4_init) (maxL := 1) (ret := none) (lv := [(0, .ref h)]) (by decide) rfl rfl (Nat.le_of_ble_eq_true rfl) ?_
  intro p e s m args below meth c A H locs ls hF hr hlocks hname hK hA hP hD hS hl
  obtain ⟨hx, hb, hml, hown, hts⟩ := id hF
  refine lv_aload_n hx hb dX4_init_0 rfl (lv_at hl 0 rfl) ?_
  refine W.objInit hx hb hown (hts _ w0_X4_init) (hts _ w1_X4_init) (hts _ w2_X4_init) rfl (hl.1.trans hml.symm) rfl dX4_init_1 (Nat.le_of_ble_eq_true rfl) (Nat.le_of_ble_eq_true rfl) ?_
  refine W.eq (g2 := F0 m 4 ls []) rfl ?_
  refine lv_aload_n hx hb dX4_init_4 rfl (lv_at hl 0 rfl) ?_
  refine va_new (ci := 3) (fs := [.null, .null, .null, .null, .null, .null, .null, .int 0, .int 0]) (C := RX3) (T := TX3) (N := 9) hx hb hts w3_X4_init tyX3 tyX3_ok hown (hts _ w4_X4_init) (hts _ w5_X4_init) (hts _ w6_X4_init) hK.1 hP hD hS hA rfl (fun j hj => by rcases (show j = 0 ∨ j = 1 ∨ j = 2 ∨ j = 3 ∨ j = 4 ∨ j = 5 ∨ j = 6 ∨ j = 7 ∨ j = 8 by omega) with rfl | rfl | rfl | rfl | rfl | rfl | rfl | rfl | rfl <;> rfl) (Nat.le_of_ble_eq_true rfl) (Nat.le_of_ble_eq_true rfl) dX4_init_5 (fun q5 H hP hD hS => ?_)
  have hP : va_P G.1 vwCl [(h, .inr (4, [.null, .null, .null, .null])), (q5, .inr (3, [.null, .null, .null, .null, .null, .null, .null, .int 0, .int 0]))] H := hP
  have hD : va_D A [(h, .inr (4, [.null, .null, .null, .null])), (q5, .inr (3, [.null, .null, .null, .null, .null, .null, .null, .int 0, .int 0]))] := hD
  refine lv_dup hx hb dX4_init_8 rfl ?_
  refine kc_n (wi := [(q5, .inr (3, [.null, .null, .null, .null, .null, .null, .null, .int 0, .int 0]))]) (wr := [(h, .inr (4, [.null, .null, .null, .null]))]) (rIN (As := []) (rest := [.ref q5, .ref h]) (b := q5) (wi := [(q5, .inr (3, [.null, .null, .null, .null, .null, .null, .null, .int 0, .int 0]))]) hF hK (hP.sub [1] rfl) (hD.sub [1] rfl rfl) (c_X3_init l G q5 H.size) ⟨va_cnB 0 hts gX4_init_X3_init_n9 rfl rfl rfl (nw_RX4_9 hK) (hts _ w6_X4_init) (by decide +kernel) ⟨Nat.le_of_ble_eq_true rfl, Nat.le_of_ble_eq_true rfl⟩, rfl, hts _ w7_X4_init⟩ rfl hl.1 rfl (Nat.le_of_ble_eq_true rfl) dX4_init_9 ⟨Nat.le_of_ble_eq_true rfl, Nat.le_of_ble_eq_true rfl⟩) hP hD hS hA [1] [0] rfl rfl rfl (by decide) (fun u9 H locs hu9 hP hD hS => ?_)
  rw [← hu9]
  have hP : va_P G.1 vwCl [(h, .inr (4, [.null, .null, .null, .null])), ((u9 0), .inr (3, [.ref (u9 1), .ref (u9 2), .ref (u9 3), .ref (u9 4), .ref (u9 5), .ref (u9 6), .ref (u9 7), .int 0, .int 0])), ((u9 1), .inl (G.2.1, 24, .inl (emp 24))), ((u9 2), .inl (G.2.1, 72, .inl (emp 72))), ((u9 3), .inl (G.2.1, 144, .inl (emp 144))), ((u9 4), .inl (G.2.1, 144, .inl (emp 144))), ((u9 5), .inl (G.2.1, 24, .inl (emp 24))), ((u9 6), .inl (G.2.1, 6, .inl (emp 6))), ((u9 7), .inr (2, [.ref (u9 8), .int 0])), ((u9 8), .inl (G.2.1, 20, .inl (fun _ => 0)))] H := hP
  have hD : va_D A [(h, .inr (4, [.null, .null, .null, .null])), ((u9 0), .inr (3, [.ref (u9 1), .ref (u9 2), .ref (u9 3), .ref (u9 4), .ref (u9 5), .ref (u9 6), .ref (u9 7), .int 0, .int 0])), ((u9 1), .inl (G.2.1, 24, .inl (emp 24))), ((u9 2), .inl (G.2.1, 72, .inl (emp 72))), ((u9 3), .inl (G.2.1, 144, .inl (emp 144))), ((u9 4), .inl (G.2.1, 144, .inl (emp 144))), ((u9 5), .inl (G.2.1, 24, .inl (emp 24))), ((u9 6), .inl (G.2.1, 6, .inl (emp 6))), ((u9 7), .inr (2, [.ref (u9 8), .int 0])), ((u9 8), .inl (G.2.1, 20, .inl (fun _ => 0)))] := hD
  refine va_putF (D := G.1) (ci := 4) (v := .ref (u9 0)) (ty := .object "WeakTableHeap$State") (C := RX4) (T := TX4) (N := 4) hx hb hts w9_X4_init tyX4 tyX4_ok nmX4 hown hK.1 hP hD hS 0 rfl rfl 0 (by decide) (hts _ w8_X4_init) (fun _ h9 => h9) rfl hname rfl (by decide +kernel) rfl rfl (Nat.le_of_ble_eq_true rfl) dX4_init_12 (fun H locs hP hD hS => ?_)
  have hP : va_P G.1 vwCl [(h, .inr (4, [.ref (u9 0), .null, .null, .null])), ((u9 0), .inr (3, [.ref (u9 1), .ref (u9 2), .ref (u9 3), .ref (u9 4), .ref (u9 5), .ref (u9 6), .ref (u9 7), .int 0, .int 0])), ((u9 1), .inl (G.2.1, 24, .inl (emp 24))), ((u9 2), .inl (G.2.1, 72, .inl (emp 72))), ((u9 3), .inl (G.2.1, 144, .inl (emp 144))), ((u9 4), .inl (G.2.1, 144, .inl (emp 144))), ((u9 5), .inl (G.2.1, 24, .inl (emp 24))), ((u9 6), .inl (G.2.1, 6, .inl (emp 6))), ((u9 7), .inr (2, [.ref (u9 8), .int 0])), ((u9 8), .inl (G.2.1, 20, .inl (fun _ => 0)))] H := hP
  have hD : va_D A [(h, .inr (4, [.ref (u9 0), .null, .null, .null])), ((u9 0), .inr (3, [.ref (u9 1), .ref (u9 2), .ref (u9 3), .ref (u9 4), .ref (u9 5), .ref (u9 6), .ref (u9 7), .int 0, .int 0])), ((u9 1), .inl (G.2.1, 24, .inl (emp 24))), ((u9 2), .inl (G.2.1, 72, .inl (emp 72))), ((u9 3), .inl (G.2.1, 144, .inl (emp 144))), ((u9 4), .inl (G.2.1, 144, .inl (emp 144))), ((u9 5), .inl (G.2.1, 24, .inl (emp 24))), ((u9 6), .inl (G.2.1, 6, .inl (emp 6))), ((u9 7), .inr (2, [.ref (u9 8), .int 0])), ((u9 8), .inl (G.2.1, 20, .inl (fun _ => 0)))] := hD
  refine lv_aload_n hx hb dX4_init_15 rfl (lv_at hl 0 rfl) ?_
  refine va_new (ci := 0) (fs := [.null, .int 0, .int 0]) (C := RX0) (T := TX0) (N := 3) hx hb hts w10_X4_init tyX0 tyX0_ok hown (hts _ w11_X4_init) (hts _ w12_X4_init) (hts _ w13_X4_init) hK.1 hP hD hS hA rfl (fun j hj => by rcases (show j = 0 ∨ j = 1 ∨ j = 2 by omega) with rfl | rfl | rfl <;> rfl) (Nat.le_of_ble_eq_true rfl) (Nat.le_of_ble_eq_true rfl) dX4_init_16 (fun q16 H hP hD hS => ?_)
  have hP : va_P G.1 vwCl [(h, .inr (4, [.ref (u9 0), .null, .null, .null])), ((u9 0), .inr (3, [.ref (u9 1), .ref (u9 2), .ref (u9 3), .ref (u9 4), .ref (u9 5), .ref (u9 6), .ref (u9 7), .int 0, .int 0])), ((u9 1), .inl (G.2.1, 24, .inl (emp 24))), ((u9 2), .inl (G.2.1, 72, .inl (emp 72))), ((u9 3), .inl (G.2.1, 144, .inl (emp 144))), ((u9 4), .inl (G.2.1, 144, .inl (emp 144))), ((u9 5), .inl (G.2.1, 24, .inl (emp 24))), ((u9 6), .inl (G.2.1, 6, .inl (emp 6))), ((u9 7), .inr (2, [.ref (u9 8), .int 0])), ((u9 8), .inl (G.2.1, 20, .inl (fun _ => 0))), (q16, .inr (0, [.null, .int 0, .int 0]))] H := hP
  have hD : va_D A [(h, .inr (4, [.ref (u9 0), .null, .null, .null])), ((u9 0), .inr (3, [.ref (u9 1), .ref (u9 2), .ref (u9 3), .ref (u9 4), .ref (u9 5), .ref (u9 6), .ref (u9 7), .int 0, .int 0])), ((u9 1), .inl (G.2.1, 24, .inl (emp 24))), ((u9 2), .inl (G.2.1, 72, .inl (emp 72))), ((u9 3), .inl (G.2.1, 144, .inl (emp 144))), ((u9 4), .inl (G.2.1, 144, .inl (emp 144))), ((u9 5), .inl (G.2.1, 24, .inl (emp 24))), ((u9 6), .inl (G.2.1, 6, .inl (emp 6))), ((u9 7), .inr (2, [.ref (u9 8), .int 0])), ((u9 8), .inl (G.2.1, 20, .inl (fun _ => 0))), (q16, .inr (0, [.null, .int 0, .int 0]))] := hD
  refine lv_dup hx hb dX4_init_19 rfl ?_
  refine kc_n (wi := [(q16, .inr (0, [.null, .int 0, .int 0]))]) (wr := [(h, .inr (4, [.ref (u9 0), .null, .null, .null])), ((u9 0), .inr (3, [.ref (u9 1), .ref (u9 2), .ref (u9 3), .ref (u9 4), .ref (u9 5), .ref (u9 6), .ref (u9 7), .int 0, .int 0])), ((u9 1), .inl (G.2.1, 24, .inl (emp 24))), ((u9 2), .inl (G.2.1, 72, .inl (emp 72))), ((u9 3), .inl (G.2.1, 144, .inl (emp 144))), ((u9 4), .inl (G.2.1, 144, .inl (emp 144))), ((u9 5), .inl (G.2.1, 24, .inl (emp 24))), ((u9 6), .inl (G.2.1, 6, .inl (emp 6))), ((u9 7), .inr (2, [.ref (u9 8), .int 0])), ((u9 8), .inl (G.2.1, 20, .inl (fun _ => 0)))]) (rIN (As := []) (rest := [.ref q16, .ref h]) (b := q16) (wi := [(q16, .inr (0, [.null, .int 0, .int 0]))]) hF hK (hP.sub [10] rfl) (hD.sub [10] rfl rfl) (c_X0_init l G q16 H.size) ⟨va_cnB 0 hts gX4_init_X0_init_n18 rfl rfl rfl (nw_RX4_18 hK) (hts _ w13_X4_init) (by decide +kernel) ⟨Nat.le_of_ble_eq_true rfl, Nat.le_of_ble_eq_true rfl⟩, rfl, hts _ w14_X4_init⟩ rfl hl.1 rfl (Nat.le_of_ble_eq_true rfl) dX4_init_20 ⟨Nat.le_of_ble_eq_true rfl, Nat.le_of_ble_eq_true rfl⟩) hP hD hS hA [10] [0, 1, 2, 3, 4, 5, 6, 7, 8, 9] rfl rfl rfl (by decide) (fun u20 H locs hu20 hP hD hS => ?_)
  rw [← hu20]
  have hP : va_P G.1 vwCl [(h, .inr (4, [.ref (u9 0), .null, .null, .null])), ((u9 0), .inr (3, [.ref (u9 1), .ref (u9 2), .ref (u9 3), .ref (u9 4), .ref (u9 5), .ref (u9 6), .ref (u9 7), .int 0, .int 0])), ((u9 1), .inl (G.2.1, 24, .inl (emp 24))), ((u9 2), .inl (G.2.1, 72, .inl (emp 72))), ((u9 3), .inl (G.2.1, 144, .inl (emp 144))), ((u9 4), .inl (G.2.1, 144, .inl (emp 144))), ((u9 5), .inl (G.2.1, 24, .inl (emp 24))), ((u9 6), .inl (G.2.1, 6, .inl (emp 6))), ((u9 7), .inr (2, [.ref (u9 8), .int 0])), ((u9 8), .inl (G.2.1, 20, .inl (fun _ => 0))), ((u20 0), .inr (0, [.ref (u20 1), .int 0, .int 0])), ((u20 1), .inl (G.2.2.2, 6, .inr (.inr (.inr (.inr (fun _ => none))))))] H := hP
  have hD : va_D A [(h, .inr (4, [.ref (u9 0), .null, .null, .null])), ((u9 0), .inr (3, [.ref (u9 1), .ref (u9 2), .ref (u9 3), .ref (u9 4), .ref (u9 5), .ref (u9 6), .ref (u9 7), .int 0, .int 0])), ((u9 1), .inl (G.2.1, 24, .inl (emp 24))), ((u9 2), .inl (G.2.1, 72, .inl (emp 72))), ((u9 3), .inl (G.2.1, 144, .inl (emp 144))), ((u9 4), .inl (G.2.1, 144, .inl (emp 144))), ((u9 5), .inl (G.2.1, 24, .inl (emp 24))), ((u9 6), .inl (G.2.1, 6, .inl (emp 6))), ((u9 7), .inr (2, [.ref (u9 8), .int 0])), ((u9 8), .inl (G.2.1, 20, .inl (fun _ => 0))), ((u20 0), .inr (0, [.ref (u20 1), .int 0, .int 0])), ((u20 1), .inl (G.2.2.2, 6, .inr (.inr (.inr (.inr (fun _ => none))))))] := hD
  refine va_putF (D := G.1) (ci := 4) (v := .ref (u20 0)) (ty := .object "WeakTableHeap$History") (C := RX4) (T := TX4) (N := 4) hx hb hts w9_X4_init tyX4 tyX4_ok nmX4 hown hK.1 hP hD hS 0 rfl rfl 1 (by decide) (hts _ w15_X4_init) (fun _ h9 => h9) rfl hname rfl (by decide +kernel) rfl rfl (Nat.le_of_ble_eq_true rfl) dX4_init_23 (fun H locs hP hD hS => ?_)
  have hP : va_P G.1 vwCl [(h, .inr (4, [.ref (u9 0), .ref (u20 0), .null, .null])), ((u9 0), .inr (3, [.ref (u9 1), .ref (u9 2), .ref (u9 3), .ref (u9 4), .ref (u9 5), .ref (u9 6), .ref (u9 7), .int 0, .int 0])), ((u9 1), .inl (G.2.1, 24, .inl (emp 24))), ((u9 2), .inl (G.2.1, 72, .inl (emp 72))), ((u9 3), .inl (G.2.1, 144, .inl (emp 144))), ((u9 4), .inl (G.2.1, 144, .inl (emp 144))), ((u9 5), .inl (G.2.1, 24, .inl (emp 24))), ((u9 6), .inl (G.2.1, 6, .inl (emp 6))), ((u9 7), .inr (2, [.ref (u9 8), .int 0])), ((u9 8), .inl (G.2.1, 20, .inl (fun _ => 0))), ((u20 0), .inr (0, [.ref (u20 1), .int 0, .int 0])), ((u20 1), .inl (G.2.2.2, 6, .inr (.inr (.inr (.inr (fun _ => none))))))] H := hP
  have hD : va_D A [(h, .inr (4, [.ref (u9 0), .ref (u20 0), .null, .null])), ((u9 0), .inr (3, [.ref (u9 1), .ref (u9 2), .ref (u9 3), .ref (u9 4), .ref (u9 5), .ref (u9 6), .ref (u9 7), .int 0, .int 0])), ((u9 1), .inl (G.2.1, 24, .inl (emp 24))), ((u9 2), .inl (G.2.1, 72, .inl (emp 72))), ((u9 3), .inl (G.2.1, 144, .inl (emp 144))), ((u9 4), .inl (G.2.1, 144, .inl (emp 144))), ((u9 5), .inl (G.2.1, 24, .inl (emp 24))), ((u9 6), .inl (G.2.1, 6, .inl (emp 6))), ((u9 7), .inr (2, [.ref (u9 8), .int 0])), ((u9 8), .inl (G.2.1, 20, .inl (fun _ => 0))), ((u20 0), .inr (0, [.ref (u20 1), .int 0, .int 0])), ((u20 1), .inl (G.2.2.2, 6, .inr (.inr (.inr (.inr (fun _ => none))))))] := hD
  refine lv_aload_n hx hb dX4_init_26 rfl (lv_at hl 0 rfl) ?_
  refine lv_iconst (v := 2) hx hb dX4_init_27 (by decide) ?_
  refine nw_S (N' := 2) hx hb hown (hts _ w4_X4_init) hK hP hD hS hA (by decide) (by decide) (by decide) (Nat.le_of_ble_eq_true rfl) (Nat.le_of_ble_eq_true rfl) dX4_init_28 (fun q28 H hP hD hS => ?_)
  have hP : va_P G.1 vwCl [(h, .inr (4, [.ref (u9 0), .ref (u20 0), .null, .null])), ((u9 0), .inr (3, [.ref (u9 1), .ref (u9 2), .ref (u9 3), .ref (u9 4), .ref (u9 5), .ref (u9 6), .ref (u9 7), .int 0, .int 0])), ((u9 1), .inl (G.2.1, 24, .inl (emp 24))), ((u9 2), .inl (G.2.1, 72, .inl (emp 72))), ((u9 3), .inl (G.2.1, 144, .inl (emp 144))), ((u9 4), .inl (G.2.1, 144, .inl (emp 144))), ((u9 5), .inl (G.2.1, 24, .inl (emp 24))), ((u9 6), .inl (G.2.1, 6, .inl (emp 6))), ((u9 7), .inr (2, [.ref (u9 8), .int 0])), ((u9 8), .inl (G.2.1, 20, .inl (fun _ => 0))), ((u20 0), .inr (0, [.ref (u20 1), .int 0, .int 0])), ((u20 1), .inl (G.2.2.2, 6, .inr (.inr (.inr (.inr (fun _ => none)))))), (q28, .inl (G.2.2.2, 2, .inr (.inr (.inr (.inr (fun _ => none))))))] H := hP
  have hD : va_D A [(h, .inr (4, [.ref (u9 0), .ref (u20 0), .null, .null])), ((u9 0), .inr (3, [.ref (u9 1), .ref (u9 2), .ref (u9 3), .ref (u9 4), .ref (u9 5), .ref (u9 6), .ref (u9 7), .int 0, .int 0])), ((u9 1), .inl (G.2.1, 24, .inl (emp 24))), ((u9 2), .inl (G.2.1, 72, .inl (emp 72))), ((u9 3), .inl (G.2.1, 144, .inl (emp 144))), ((u9 4), .inl (G.2.1, 144, .inl (emp 144))), ((u9 5), .inl (G.2.1, 24, .inl (emp 24))), ((u9 6), .inl (G.2.1, 6, .inl (emp 6))), ((u9 7), .inr (2, [.ref (u9 8), .int 0])), ((u9 8), .inl (G.2.1, 20, .inl (fun _ => 0))), ((u20 0), .inr (0, [.ref (u20 1), .int 0, .int 0])), ((u20 1), .inl (G.2.2.2, 6, .inr (.inr (.inr (.inr (fun _ => none)))))), (q28, .inl (G.2.2.2, 2, .inr (.inr (.inr (.inr (fun _ => none))))))] := hD
  refine va_putF (D := G.1) (ci := 4) (v := .ref q28) (ty := .array (.object "WeakTableHeap$State")) (C := RX4) (T := TX4) (N := 4) hx hb hts w9_X4_init tyX4 tyX4_ok nmX4 hown hK.1 hP hD hS 0 rfl rfl 2 (by decide) (hts _ w16_X4_init) (fun _ h9 => h9) rfl hname rfl (by decide +kernel) rfl rfl (Nat.le_of_ble_eq_true rfl) dX4_init_31 (fun H locs hP hD hS => ?_)
  have hP : va_P G.1 vwCl [(h, .inr (4, [.ref (u9 0), .ref (u20 0), .ref q28, .null])), ((u9 0), .inr (3, [.ref (u9 1), .ref (u9 2), .ref (u9 3), .ref (u9 4), .ref (u9 5), .ref (u9 6), .ref (u9 7), .int 0, .int 0])), ((u9 1), .inl (G.2.1, 24, .inl (emp 24))), ((u9 2), .inl (G.2.1, 72, .inl (emp 72))), ((u9 3), .inl (G.2.1, 144, .inl (emp 144))), ((u9 4), .inl (G.2.1, 144, .inl (emp 144))), ((u9 5), .inl (G.2.1, 24, .inl (emp 24))), ((u9 6), .inl (G.2.1, 6, .inl (emp 6))), ((u9 7), .inr (2, [.ref (u9 8), .int 0])), ((u9 8), .inl (G.2.1, 20, .inl (fun _ => 0))), ((u20 0), .inr (0, [.ref (u20 1), .int 0, .int 0])), ((u20 1), .inl (G.2.2.2, 6, .inr (.inr (.inr (.inr (fun _ => none)))))), (q28, .inl (G.2.2.2, 2, .inr (.inr (.inr (.inr (fun _ => none))))))] H := hP
  have hD : va_D A [(h, .inr (4, [.ref (u9 0), .ref (u20 0), .ref q28, .null])), ((u9 0), .inr (3, [.ref (u9 1), .ref (u9 2), .ref (u9 3), .ref (u9 4), .ref (u9 5), .ref (u9 6), .ref (u9 7), .int 0, .int 0])), ((u9 1), .inl (G.2.1, 24, .inl (emp 24))), ((u9 2), .inl (G.2.1, 72, .inl (emp 72))), ((u9 3), .inl (G.2.1, 144, .inl (emp 144))), ((u9 4), .inl (G.2.1, 144, .inl (emp 144))), ((u9 5), .inl (G.2.1, 24, .inl (emp 24))), ((u9 6), .inl (G.2.1, 6, .inl (emp 6))), ((u9 7), .inr (2, [.ref (u9 8), .int 0])), ((u9 8), .inl (G.2.1, 20, .inl (fun _ => 0))), ((u20 0), .inr (0, [.ref (u20 1), .int 0, .int 0])), ((u20 1), .inl (G.2.2.2, 6, .inr (.inr (.inr (.inr (fun _ => none)))))), (q28, .inl (G.2.2.2, 2, .inr (.inr (.inr (.inr (fun _ => none))))))] := hD
  refine lv_aload_n hx hb dX4_init_34 rfl (lv_at hl 0 rfl) ?_
  refine va_new (ci := 1) (fs := [.null, .int 0, .int 0, .int 0]) (C := RX1) (T := TX1) (N := 4) hx hb hts w17_X4_init tyX1 tyX1_ok hown (hts _ w18_X4_init) (hts _ w19_X4_init) (hts _ w20_X4_init) hK.1 hP hD hS hA rfl (fun j hj => by rcases (show j = 0 ∨ j = 1 ∨ j = 2 ∨ j = 3 by omega) with rfl | rfl | rfl | rfl <;> rfl) (Nat.le_of_ble_eq_true rfl) (Nat.le_of_ble_eq_true rfl) dX4_init_35 (fun q35 H hP hD hS => ?_)
  have hP : va_P G.1 vwCl [(h, .inr (4, [.ref (u9 0), .ref (u20 0), .ref q28, .null])), ((u9 0), .inr (3, [.ref (u9 1), .ref (u9 2), .ref (u9 3), .ref (u9 4), .ref (u9 5), .ref (u9 6), .ref (u9 7), .int 0, .int 0])), ((u9 1), .inl (G.2.1, 24, .inl (emp 24))), ((u9 2), .inl (G.2.1, 72, .inl (emp 72))), ((u9 3), .inl (G.2.1, 144, .inl (emp 144))), ((u9 4), .inl (G.2.1, 144, .inl (emp 144))), ((u9 5), .inl (G.2.1, 24, .inl (emp 24))), ((u9 6), .inl (G.2.1, 6, .inl (emp 6))), ((u9 7), .inr (2, [.ref (u9 8), .int 0])), ((u9 8), .inl (G.2.1, 20, .inl (fun _ => 0))), ((u20 0), .inr (0, [.ref (u20 1), .int 0, .int 0])), ((u20 1), .inl (G.2.2.2, 6, .inr (.inr (.inr (.inr (fun _ => none)))))), (q28, .inl (G.2.2.2, 2, .inr (.inr (.inr (.inr (fun _ => none)))))), (q35, .inr (1, [.null, .int 0, .int 0, .int 0]))] H := hP
  have hD : va_D A [(h, .inr (4, [.ref (u9 0), .ref (u20 0), .ref q28, .null])), ((u9 0), .inr (3, [.ref (u9 1), .ref (u9 2), .ref (u9 3), .ref (u9 4), .ref (u9 5), .ref (u9 6), .ref (u9 7), .int 0, .int 0])), ((u9 1), .inl (G.2.1, 24, .inl (emp 24))), ((u9 2), .inl (G.2.1, 72, .inl (emp 72))), ((u9 3), .inl (G.2.1, 144, .inl (emp 144))), ((u9 4), .inl (G.2.1, 144, .inl (emp 144))), ((u9 5), .inl (G.2.1, 24, .inl (emp 24))), ((u9 6), .inl (G.2.1, 6, .inl (emp 6))), ((u9 7), .inr (2, [.ref (u9 8), .int 0])), ((u9 8), .inl (G.2.1, 20, .inl (fun _ => 0))), ((u20 0), .inr (0, [.ref (u20 1), .int 0, .int 0])), ((u20 1), .inl (G.2.2.2, 6, .inr (.inr (.inr (.inr (fun _ => none)))))), (q28, .inl (G.2.2.2, 2, .inr (.inr (.inr (.inr (fun _ => none)))))), (q35, .inr (1, [.null, .int 0, .int 0, .int 0]))] := hD
  refine lv_dup hx hb dX4_init_38 rfl ?_
  refine kc_n (wi := [(q35, .inr (1, [.null, .int 0, .int 0, .int 0]))]) (wr := [(h, .inr (4, [.ref (u9 0), .ref (u20 0), .ref q28, .null])), ((u9 0), .inr (3, [.ref (u9 1), .ref (u9 2), .ref (u9 3), .ref (u9 4), .ref (u9 5), .ref (u9 6), .ref (u9 7), .int 0, .int 0])), ((u9 1), .inl (G.2.1, 24, .inl (emp 24))), ((u9 2), .inl (G.2.1, 72, .inl (emp 72))), ((u9 3), .inl (G.2.1, 144, .inl (emp 144))), ((u9 4), .inl (G.2.1, 144, .inl (emp 144))), ((u9 5), .inl (G.2.1, 24, .inl (emp 24))), ((u9 6), .inl (G.2.1, 6, .inl (emp 6))), ((u9 7), .inr (2, [.ref (u9 8), .int 0])), ((u9 8), .inl (G.2.1, 20, .inl (fun _ => 0))), ((u20 0), .inr (0, [.ref (u20 1), .int 0, .int 0])), ((u20 1), .inl (G.2.2.2, 6, .inr (.inr (.inr (.inr (fun _ => none)))))), (q28, .inl (G.2.2.2, 2, .inr (.inr (.inr (.inr (fun _ => none))))))]) (rIN (As := []) (rest := [.ref q35, .ref h]) (b := q35) (wi := [(q35, .inr (1, [.null, .int 0, .int 0, .int 0]))]) hF hK (hP.sub [13] rfl) (hD.sub [13] rfl rfl) (c_X1_init l G q35 H.size) ⟨va_cnB 0 hts gX4_init_X1_init_n29 rfl rfl rfl (nw_RX4_29 hK) (hts _ w20_X4_init) (by decide +kernel) ⟨Nat.le_of_ble_eq_true rfl, Nat.le_of_ble_eq_true rfl⟩, rfl, hts _ w21_X4_init⟩ rfl hl.1 rfl (Nat.le_of_ble_eq_true rfl) dX4_init_39 ⟨Nat.le_of_ble_eq_true rfl, Nat.le_of_ble_eq_true rfl⟩) hP hD hS hA [13] [0, 1, 2, 3, 4, 5, 6, 7, 8, 9, 10, 11, 12] rfl rfl rfl (by decide) (fun u39 H locs hu39 hP hD hS => ?_)
  rw [← hu39]
  have hP : va_P G.1 vwCl [(h, .inr (4, [.ref (u9 0), .ref (u20 0), .ref q28, .null])), ((u9 0), .inr (3, [.ref (u9 1), .ref (u9 2), .ref (u9 3), .ref (u9 4), .ref (u9 5), .ref (u9 6), .ref (u9 7), .int 0, .int 0])), ((u9 1), .inl (G.2.1, 24, .inl (emp 24))), ((u9 2), .inl (G.2.1, 72, .inl (emp 72))), ((u9 3), .inl (G.2.1, 144, .inl (emp 144))), ((u9 4), .inl (G.2.1, 144, .inl (emp 144))), ((u9 5), .inl (G.2.1, 24, .inl (emp 24))), ((u9 6), .inl (G.2.1, 6, .inl (emp 6))), ((u9 7), .inr (2, [.ref (u9 8), .int 0])), ((u9 8), .inl (G.2.1, 20, .inl (fun _ => 0))), ((u20 0), .inr (0, [.ref (u20 1), .int 0, .int 0])), ((u20 1), .inl (G.2.2.2, 6, .inr (.inr (.inr (.inr (fun _ => none)))))), (q28, .inl (G.2.2.2, 2, .inr (.inr (.inr (.inr (fun _ => none)))))), ((u39 0), .inr (1, [.ref (u39 1), .int 0, .int 0, .int 0])), ((u39 1), .inl (G.2.1, 24, .inl (fun _ => 0)))] H := hP
  have hD : va_D A [(h, .inr (4, [.ref (u9 0), .ref (u20 0), .ref q28, .null])), ((u9 0), .inr (3, [.ref (u9 1), .ref (u9 2), .ref (u9 3), .ref (u9 4), .ref (u9 5), .ref (u9 6), .ref (u9 7), .int 0, .int 0])), ((u9 1), .inl (G.2.1, 24, .inl (emp 24))), ((u9 2), .inl (G.2.1, 72, .inl (emp 72))), ((u9 3), .inl (G.2.1, 144, .inl (emp 144))), ((u9 4), .inl (G.2.1, 144, .inl (emp 144))), ((u9 5), .inl (G.2.1, 24, .inl (emp 24))), ((u9 6), .inl (G.2.1, 6, .inl (emp 6))), ((u9 7), .inr (2, [.ref (u9 8), .int 0])), ((u9 8), .inl (G.2.1, 20, .inl (fun _ => 0))), ((u20 0), .inr (0, [.ref (u20 1), .int 0, .int 0])), ((u20 1), .inl (G.2.2.2, 6, .inr (.inr (.inr (.inr (fun _ => none)))))), (q28, .inl (G.2.2.2, 2, .inr (.inr (.inr (.inr (fun _ => none)))))), ((u39 0), .inr (1, [.ref (u39 1), .int 0, .int 0, .int 0])), ((u39 1), .inl (G.2.1, 24, .inl (fun _ => 0)))] := hD
  refine va_putF (D := G.1) (ci := 4) (v := .ref (u39 0)) (ty := .object "WeakTableHeap$Marking") (C := RX4) (T := TX4) (N := 4) hx hb hts w9_X4_init tyX4 tyX4_ok nmX4 hown hK.1 hP hD hS 0 rfl rfl 3 (by decide) (hts _ w22_X4_init) (fun _ h9 => h9) rfl hname rfl (by decide +kernel) rfl rfl (Nat.le_of_ble_eq_true rfl) dX4_init_42 (fun H locs hP hD hS => ?_)
  have hP : va_P G.1 vwCl [(h, .inr (4, [.ref (u9 0), .ref (u20 0), .ref q28, .ref (u39 0)])), ((u9 0), .inr (3, [.ref (u9 1), .ref (u9 2), .ref (u9 3), .ref (u9 4), .ref (u9 5), .ref (u9 6), .ref (u9 7), .int 0, .int 0])), ((u9 1), .inl (G.2.1, 24, .inl (emp 24))), ((u9 2), .inl (G.2.1, 72, .inl (emp 72))), ((u9 3), .inl (G.2.1, 144, .inl (emp 144))), ((u9 4), .inl (G.2.1, 144, .inl (emp 144))), ((u9 5), .inl (G.2.1, 24, .inl (emp 24))), ((u9 6), .inl (G.2.1, 6, .inl (emp 6))), ((u9 7), .inr (2, [.ref (u9 8), .int 0])), ((u9 8), .inl (G.2.1, 20, .inl (fun _ => 0))), ((u20 0), .inr (0, [.ref (u20 1), .int 0, .int 0])), ((u20 1), .inl (G.2.2.2, 6, .inr (.inr (.inr (.inr (fun _ => none)))))), (q28, .inl (G.2.2.2, 2, .inr (.inr (.inr (.inr (fun _ => none)))))), ((u39 0), .inr (1, [.ref (u39 1), .int 0, .int 0, .int 0])), ((u39 1), .inl (G.2.1, 24, .inl (fun _ => 0)))] H := hP
  have hD : va_D A [(h, .inr (4, [.ref (u9 0), .ref (u20 0), .ref q28, .ref (u39 0)])), ((u9 0), .inr (3, [.ref (u9 1), .ref (u9 2), .ref (u9 3), .ref (u9 4), .ref (u9 5), .ref (u9 6), .ref (u9 7), .int 0, .int 0])), ((u9 1), .inl (G.2.1, 24, .inl (emp 24))), ((u9 2), .inl (G.2.1, 72, .inl (emp 72))), ((u9 3), .inl (G.2.1, 144, .inl (emp 144))), ((u9 4), .inl (G.2.1, 144, .inl (emp 144))), ((u9 5), .inl (G.2.1, 24, .inl (emp 24))), ((u9 6), .inl (G.2.1, 6, .inl (emp 6))), ((u9 7), .inr (2, [.ref (u9 8), .int 0])), ((u9 8), .inl (G.2.1, 20, .inl (fun _ => 0))), ((u20 0), .inr (0, [.ref (u20 1), .int 0, .int 0])), ((u20 1), .inl (G.2.2.2, 6, .inr (.inr (.inr (.inr (fun _ => none)))))), (q28, .inl (G.2.2.2, 2, .inr (.inr (.inr (.inr (fun _ => none)))))), ((u39 0), .inr (1, [.ref (u39 1), .int 0, .int 0, .int 0])), ((u39 1), .inl (G.2.1, 24, .inl (fun _ => 0)))] := hD
  have hP : va_P G.1 vwCl [(h, .inr (4, [.ref (u9 0), .ref (u20 0), .ref q28, .ref (u39 0)])), ((u9 0), .inr (3, [.ref (u9 1), .ref (u9 2), .ref (u9 3), .ref (u9 4), .ref (u9 5), .ref (u9 6), .ref (u9 7), .int 0, .int 0])), ((u9 1), .inl (G.2.1, 24, .inl (emp 24))), ((u9 2), .inl (G.2.1, 72, .inl (emp 72))), ((u9 3), .inl (G.2.1, 144, .inl (emp 144))), ((u9 4), .inl (G.2.1, 144, .inl (emp 144))), ((u9 5), .inl (G.2.1, 24, .inl (emp 24))), ((u9 6), .inl (G.2.1, 6, .inl (emp 6))), ((u9 7), .inr (2, [.ref (u9 8), .int 0])), ((u9 8), .inl (G.2.1, 20, .inl (fun _ => 0))), ((u39 0), .inr (1, [.ref (u39 1), .int 0, .int 0, .int 0])), ((u39 1), .inl (G.2.1, 24, .inl (fun _ => 0))), ((u20 0), .inr (0, [.ref (u20 1), .int 0, .int 0])), ((u20 1), .inl (G.2.2.2, 6, .inr (.inr (.inr (.inr (fun _ => none)))))), (q28, .inl (G.2.2.2, 2, .inr (.inr (.inr (.inr (fun _ => none))))))] H := hP.sub [0, 1, 2, 3, 4, 5, 6, 7, 8, 9, 13, 14, 10, 11, 12] rfl
  have hD : va_D A [(h, .inr (4, [.ref (u9 0), .ref (u20 0), .ref q28, .ref (u39 0)])), ((u9 0), .inr (3, [.ref (u9 1), .ref (u9 2), .ref (u9 3), .ref (u9 4), .ref (u9 5), .ref (u9 6), .ref (u9 7), .int 0, .int 0])), ((u9 1), .inl (G.2.1, 24, .inl (emp 24))), ((u9 2), .inl (G.2.1, 72, .inl (emp 72))), ((u9 3), .inl (G.2.1, 144, .inl (emp 144))), ((u9 4), .inl (G.2.1, 144, .inl (emp 144))), ((u9 5), .inl (G.2.1, 24, .inl (emp 24))), ((u9 6), .inl (G.2.1, 6, .inl (emp 6))), ((u9 7), .inr (2, [.ref (u9 8), .int 0])), ((u9 8), .inl (G.2.1, 20, .inl (fun _ => 0))), ((u39 0), .inr (1, [.ref (u39 1), .int 0, .int 0, .int 0])), ((u39 1), .inl (G.2.1, 24, .inl (fun _ => 0))), ((u20 0), .inr (0, [.ref (u20 1), .int 0, .int 0])), ((u20 1), .inl (G.2.2.2, 6, .inr (.inr (.inr (.inr (fun _ => none)))))), (q28, .inl (G.2.2.2, 2, .inr (.inr (.inr (.inr (fun _ => none))))))] := hD.sub [0, 1, 2, 3, 4, 5, 6, 7, 8, 9, 13, 14, 10, 11, 12] rfl rfl
  refine W.widen (k := 14) (n := 484) (Nat.le_of_ble_eq_true rfl) (Nat.le_of_ble_eq_true rfl) ?_
  exact rt_n (((h, u20 0, u20 1, q28), u9, u39)) rfl hx hb hr hlocks hP hD hS dX4_init_45
def M_X5_init_L65 : Nat → (Int32) → (Nat → Int32) → Option ((Nat → Int32))
  | 0, _, _ => none
  | n65 + 1, v65_1, w65_ => if 6 ≤ v65_1 then (some w65_) else (gd (360 + v65_1) 3880 (M_X5_init_L65 n65 (v65_1 + 1) (upd w65_ (360 + v65_1).toNatClampNeg (-9))))
def M_X5_init_L38 (N : Nat) : Nat → (Int32) → (Nat → Int32) → Option ((Nat → Int32))
  | 0, _, _ => none
  | n38 + 1, v38_1, w38_ => if 24 ≤ v38_1 then (M_X5_init_L65 N 0 w38_) else (gd ((15 * v38_1) + 0) 3880 (M_X5_init_L38 N n38 (v38_1 + 1) (upd w38_ ((15 * v38_1) + 0).toNatClampNeg (-9))))
def M_X5_init (N : Nat) (w : Nat → Int32) : Option (Nat → Int32) :=
  M_X5_init_L38 N N 0 w
theorem w0_X5_init : Cond.methodLink RX5 1 objectInit ∈ wsX5_init := by decide +kernel
theorem w1_X5_init : Cond.instanceMethod objectInit ∈ wsX5_init := by decide +kernel
theorem w2_X5_init : Cond.code objectInit ⟨#[0xb1]⟩ 1 none ∈ wsX5_init := by decide +kernel
theorem w3_X5_init : Cond.arrayClass .int ∈ wsX5_init := by decide +kernel
theorem w4_X5_init : Cond.fieldLink RX5 7 "WeakTableHeapModel" "w" "[I" ∈ wsX5_init := by decide +kernel
theorem w5_X5_init : ∀ w ∈ u_ws RX5 TX5 5, w ∈ wsX5_init := by decide +kernel
theorem w6_X5_init : Cond.arrayClass .boolean ∈ wsX5_init := by decide +kernel
theorem w7_X5_init : Cond.fieldLink RX5 13 "WeakTableHeapModel" "kept" "[Z" ∈ wsX5_init := by decide +kernel
theorem w8_X5_init : Cond.fieldLink RX5 17 "WeakTableHeapModel" "mark" "[I" ∈ wsX5_init := by decide +kernel
theorem w9_X5_init : Cond.fieldLink RX5 20 "WeakTableHeapModel" "start" "[Z" ∈ wsX5_init := by decide +kernel
abbrev rm_X5_init : Room := { frames := 1, cells := 4, slots := 3930, locals := 12 }
theorem w0_X5_init_b : Cond.fieldLink RX5 7 "WeakTableHeapModel" "w" "[I" ∈ wsX5_init := by decide +kernel
theorem w1_X5_init_b : ∀ w ∈ u_ws RX5 TX5 5, w ∈ wsX5_init := by decide +kernel
set_option maxHeartbeats 4000000 in
set_option maxRecDepth 100000 in
theorem c_X5_init (l : Launch) (G : GG) (N : Nat) (h : Nat) (q : Nat → Int32) (hm : M_X5_init N (fun _ => 0) = some q) : CTn l yX5_init wsX5_init rm_X5_init G [.ref h] [(h, .inr (5, [.null, .int 0, .null, .null, .null]))] (fun b : Nat → Nat => b 0 = h) (fun b => wMD G b q 0 (fun _ => 0) (fun _ => 0) (fun _ => 0)) := by
  intro sz
  refine mk_body (Qc := fun A => QN G A (fun b : Nat → Nat => b 0 = h) (fun b => wMD G b q 0 (fun _ => 0) (fun _ => 0) (fun _ => 0))) (cc := cX5_init) (maxL := 2) (ret := none) (lv := [(0, .ref h)]) (by decide) rfl rfl (Nat.le_of_ble_eq_true rfl) ?_
  intro p e s m args below meth c A H locs ls hF hr hlocks hname hK hA hP hD hS hl
  obtain ⟨hx, hb, hml, hown, hts⟩ := id hF
  refine lv_aload_n hx hb dX5_init_0 rfl (lv_at hl 0 rfl) ?_
  refine W.objInit hx hb hown (hts _ w0_X5_init) (hts _ w1_X5_init) (hts _ w2_X5_init) rfl (hl.1.trans hml.symm) rfl dX5_init_1 (Nat.le_of_ble_eq_true rfl) (Nat.le_of_ble_eq_true rfl) ?_
  refine W.eq (g2 := F0 m 4 ls []) rfl ?_
  refine lv_aload_n hx hb dX5_init_4 rfl (lv_at hl 0 rfl) ?_
  refine lv_sipush (v := 3880) hx hb dX5_init_5 (by decide) ?_
  refine nw_I (N' := 3880) hx hb (hts _ w3_X5_init) hK hP hD hS hA (by decide) (by decide) (by decide) (Nat.le_of_ble_eq_true rfl) (Nat.le_of_ble_eq_true rfl) dX5_init_8 (fun q8 H hP hD hS => ?_)
  have hP : va_P G.1 vwCl [(h, .inr (5, [.null, .int 0, .null, .null, .null])), (q8, .inl (G.2.1, 3880, .inl (fun _ => 0)))] H := hP
  have hD : va_D A [(h, .inr (5, [.null, .int 0, .null, .null, .null])), (q8, .inl (G.2.1, 3880, .inl (fun _ => 0)))] := hD
  refine va_putF (D := G.1) (ci := 5) (v := .ref q8) (ty := .array .int) (C := RX5) (T := TX5) (N := 5) hx hb hts w5_X5_init tyX5 tyX5_ok nmX5 hown hK.1 hP hD hS 0 rfl rfl 0 (by decide) (hts _ w4_X5_init) (fun _ h9 => h9) rfl hname rfl (by decide +kernel) rfl rfl (Nat.le_of_ble_eq_true rfl) dX5_init_10 (fun H locs hP hD hS => ?_)
  have hP : va_P G.1 vwCl [(h, .inr (5, [.ref q8, .int 0, .null, .null, .null])), (q8, .inl (G.2.1, 3880, .inl (fun _ => 0)))] H := hP
  have hD : va_D A [(h, .inr (5, [.ref q8, .int 0, .null, .null, .null])), (q8, .inl (G.2.1, 3880, .inl (fun _ => 0)))] := hD
  refine lv_aload_n hx hb dX5_init_13 rfl (lv_at hl 0 rfl) ?_
  refine lv_iconst (v := 2) hx hb dX5_init_14 (by decide) ?_
  refine nw_Z (N' := 2) hx hb (hts _ w6_X5_init) hK hP hD hS hA (by decide) (by decide) (by decide) (Nat.le_of_ble_eq_true rfl) (Nat.le_of_ble_eq_true rfl) dX5_init_15 (fun q15 H hP hD hS => ?_)
  have hP : va_P G.1 vwCl [(h, .inr (5, [.ref q8, .int 0, .null, .null, .null])), (q8, .inl (G.2.1, 3880, .inl (fun _ => 0))), (q15, .inl (G.2.2.1, 2, .inl (fun _ => 0)))] H := hP
  have hD : va_D A [(h, .inr (5, [.ref q8, .int 0, .null, .null, .null])), (q8, .inl (G.2.1, 3880, .inl (fun _ => 0))), (q15, .inl (G.2.2.1, 2, .inl (fun _ => 0)))] := hD
  refine va_putF (D := G.1) (ci := 5) (v := .ref q15) (ty := .array .boolean) (C := RX5) (T := TX5) (N := 5) hx hb hts w5_X5_init tyX5 tyX5_ok nmX5 hown hK.1 hP hD hS 0 rfl rfl 2 (by decide) (hts _ w7_X5_init) (fun _ h9 => h9) rfl hname rfl (by decide +kernel) rfl rfl (Nat.le_of_ble_eq_true rfl) dX5_init_17 (fun H locs hP hD hS => ?_)
  have hP : va_P G.1 vwCl [(h, .inr (5, [.ref q8, .int 0, .ref q15, .null, .null])), (q8, .inl (G.2.1, 3880, .inl (fun _ => 0))), (q15, .inl (G.2.2.1, 2, .inl (fun _ => 0)))] H := hP
  have hD : va_D A [(h, .inr (5, [.ref q8, .int 0, .ref q15, .null, .null])), (q8, .inl (G.2.1, 3880, .inl (fun _ => 0))), (q15, .inl (G.2.2.1, 2, .inl (fun _ => 0)))] := hD
  refine lv_aload_n hx hb dX5_init_20 rfl (lv_at hl 0 rfl) ?_
  refine lv_bipush (v := 24) hx hb dX5_init_21 (by decide) ?_
  refine nw_I (N' := 24) hx hb (hts _ w3_X5_init) hK hP hD hS hA (by decide) (by decide) (by decide) (Nat.le_of_ble_eq_true rfl) (Nat.le_of_ble_eq_true rfl) dX5_init_23 (fun q23 H hP hD hS => ?_)
  have hP : va_P G.1 vwCl [(h, .inr (5, [.ref q8, .int 0, .ref q15, .null, .null])), (q8, .inl (G.2.1, 3880, .inl (fun _ => 0))), (q15, .inl (G.2.2.1, 2, .inl (fun _ => 0))), (q23, .inl (G.2.1, 24, .inl (fun _ => 0)))] H := hP
  have hD : va_D A [(h, .inr (5, [.ref q8, .int 0, .ref q15, .null, .null])), (q8, .inl (G.2.1, 3880, .inl (fun _ => 0))), (q15, .inl (G.2.2.1, 2, .inl (fun _ => 0))), (q23, .inl (G.2.1, 24, .inl (fun _ => 0)))] := hD
  refine va_putF (D := G.1) (ci := 5) (v := .ref q23) (ty := .array .int) (C := RX5) (T := TX5) (N := 5) hx hb hts w5_X5_init tyX5 tyX5_ok nmX5 hown hK.1 hP hD hS 0 rfl rfl 3 (by decide) (hts _ w8_X5_init) (fun _ h9 => h9) rfl hname rfl (by decide +kernel) rfl rfl (Nat.le_of_ble_eq_true rfl) dX5_init_25 (fun H locs hP hD hS => ?_)
  have hP : va_P G.1 vwCl [(h, .inr (5, [.ref q8, .int 0, .ref q15, .ref q23, .null])), (q8, .inl (G.2.1, 3880, .inl (fun _ => 0))), (q15, .inl (G.2.2.1, 2, .inl (fun _ => 0))), (q23, .inl (G.2.1, 24, .inl (fun _ => 0)))] H := hP
  have hD : va_D A [(h, .inr (5, [.ref q8, .int 0, .ref q15, .ref q23, .null])), (q8, .inl (G.2.1, 3880, .inl (fun _ => 0))), (q15, .inl (G.2.2.1, 2, .inl (fun _ => 0))), (q23, .inl (G.2.1, 24, .inl (fun _ => 0)))] := hD
  refine lv_aload_n hx hb dX5_init_28 rfl (lv_at hl 0 rfl) ?_
  refine lv_bipush (v := 24) hx hb dX5_init_29 (by decide) ?_
  refine nw_Z (N' := 24) hx hb (hts _ w6_X5_init) hK hP hD hS hA (by decide) (by decide) (by decide) (Nat.le_of_ble_eq_true rfl) (Nat.le_of_ble_eq_true rfl) dX5_init_31 (fun q31 H hP hD hS => ?_)
  have hP : va_P G.1 vwCl [(h, .inr (5, [.ref q8, .int 0, .ref q15, .ref q23, .null])), (q8, .inl (G.2.1, 3880, .inl (fun _ => 0))), (q15, .inl (G.2.2.1, 2, .inl (fun _ => 0))), (q23, .inl (G.2.1, 24, .inl (fun _ => 0))), (q31, .inl (G.2.2.1, 24, .inl (fun _ => 0)))] H := hP
  have hD : va_D A [(h, .inr (5, [.ref q8, .int 0, .ref q15, .ref q23, .null])), (q8, .inl (G.2.1, 3880, .inl (fun _ => 0))), (q15, .inl (G.2.2.1, 2, .inl (fun _ => 0))), (q23, .inl (G.2.1, 24, .inl (fun _ => 0))), (q31, .inl (G.2.2.1, 24, .inl (fun _ => 0)))] := hD
  refine va_putF (D := G.1) (ci := 5) (v := .ref q31) (ty := .array .boolean) (C := RX5) (T := TX5) (N := 5) hx hb hts w5_X5_init tyX5 tyX5_ok nmX5 hown hK.1 hP hD hS 0 rfl rfl 4 (by decide) (hts _ w9_X5_init) (fun _ h9 => h9) rfl hname rfl (by decide +kernel) rfl rfl (Nat.le_of_ble_eq_true rfl) dX5_init_33 (fun H locs hP hD hS => ?_)
  have hP : va_P G.1 vwCl [(h, .inr (5, [.ref q8, .int 0, .ref q15, .ref q23, .ref q31])), (q8, .inl (G.2.1, 3880, .inl (fun _ => 0))), (q15, .inl (G.2.2.1, 2, .inl (fun _ => 0))), (q23, .inl (G.2.1, 24, .inl (fun _ => 0))), (q31, .inl (G.2.2.1, 24, .inl (fun _ => 0)))] H := hP
  have hD : va_D A [(h, .inr (5, [.ref q8, .int 0, .ref q15, .ref q23, .ref q31])), (q8, .inl (G.2.1, 3880, .inl (fun _ => 0))), (q15, .inl (G.2.2.1, 2, .inl (fun _ => 0))), (q23, .inl (G.2.1, 24, .inl (fun _ => 0))), (q31, .inl (G.2.2.1, 24, .inl (fun _ => 0)))] := hD
  have hP : va_P G.1 vwCl (wMD G (ad5 h q8 q15 q23 q31) (fun _ => 0) 0 (fun _ => 0) (fun _ => 0) (fun _ => 0)) H := hP.sub [0, 1, 2, 3, 4] rfl
  have hD : va_D A (wMD G (ad5 h q8 q15 q23 q31) (fun _ => 0) 0 (fun _ => 0) (fun _ => 0) (fun _ => 0)) := hD.sub [0, 1, 2, 3, 4] rfl rfl
  refine W.widen (k := 4) (n := 3930) (Nat.le_of_ble_eq_true rfl) (Nat.le_of_ble_eq_true rfl) ?_
  have key : ∀ (b : Nat → Nat) (w : Nat → Int32) (dep : Int32) (kept mark start : Nat → Int32), b 0 = h → M_X5_init N w = some q → ∀ (H : Heap) (locs : List Loc) (ls : Array Slot), va_P G.1 vwCl (wMD G b w dep kept mark start) H → va_D A (wMD G b w dep kept mark start) → va_S A s.heap H locs → lv_has ls 2 [(0, .ref (b 0))] → W p l e rm_X5_init s m args below meth c H locs 4 3930 (MQ below (QN G A (fun b : Nat → Nat => b 0 = h) (fun b => wMD G b q dep kept mark start)) args s rm_X5_init.cells rm_X5_init.slots A) (F0 m 36 ls []) := by
    intro b w dep kept mark start hb0 hm H locs ls hP hD hS hl
    unfold M_X5_init at hm
    refine lv_iconst (v := 0) hx hb dX5_init_36 (by decide) ?_
    refine lv_istore_n (lv' := [(1, .int 0), (0, .ref (b 0))]) hx hb dX5_init_37 rfl hl (by decide) rfl (fun ls hl => ?_)
    have L38 : ∀ (n38 : Nat) (v38_1 : Int32) (w38_ : Nat → Int32), M_X5_init_L38 N n38 v38_1 w38_ = some q → ∀ (H : Heap) (locs : List Loc) (ls : Array Slot), va_P G.1 vwCl (wMD G b w38_ dep kept mark start) H → va_D A (wMD G b w38_ dep kept mark start) → va_S A s.heap H locs → lv_has ls 2 [(0, .ref (b 0)), (1, .int v38_1)] → W p l e rm_X5_init s m args below meth c H locs 4 3930 (MQ below (QN G A (fun b : Nat → Nat => b 0 = h) (fun b => wMD G b q dep kept mark start)) args s rm_X5_init.cells rm_X5_init.slots A) (F0 m 38 ls []) := by
      intro  n38
      induction n38 with
      | zero => intro v38_1 w38_ hm; cases hm
      | succ n38 ih38 =>
        intro v38_1 w38_ hm H locs ls hP hD hS hl
        rw [M_X5_init_L38] at hm
        refine lv_iload_n hx hb dX5_init_38 rfl (lv_at hl 1 rfl) ?_
        refine lv_bipush (v := 24) hx hb dX5_init_39 (by decide) ?_
        refine lv_icmp_ge (tgt := 63) hx hb dX5_init_41 (by decide) (fun c3801 => ?_) (fun c3801 => ?_)
        · replace hm := it_t c3801 hm
          refine lv_iconst (v := 0) hx hb dX5_init_63 (by decide) ?_
          refine lv_istore_n (lv' := [(1, .int 0), (0, .ref (b 0))]) hx hb dX5_init_64 rfl hl (by decide) rfl (fun ls hl => ?_)
          have L65 : ∀ (n65 : Nat) (v65_1 : Int32) (w65_ : Nat → Int32), M_X5_init_L65 n65 v65_1 w65_ = some q → ∀ (H : Heap) (locs : List Loc) (ls : Array Slot), va_P G.1 vwCl (wMD G b w65_ dep kept mark start) H → va_D A (wMD G b w65_ dep kept mark start) → va_S A s.heap H locs → lv_has ls 2 [(0, .ref (b 0)), (1, .int v65_1)] → W p l e rm_X5_init s m args below meth c H locs 4 3930 (MQ below (QN G A (fun b : Nat → Nat => b 0 = h) (fun b => wMD G b q dep kept mark start)) args s rm_X5_init.cells rm_X5_init.slots A) (F0 m 65 ls []) := by
            intro  n65
            induction n65 with
            | zero => intro v65_1 w65_ hm; cases hm
            | succ n65 ih65 =>
              intro v65_1 w65_ hm H locs ls hP hD hS hl
              rw [M_X5_init_L65] at hm
              refine lv_iload_n hx hb dX5_init_65 rfl (lv_at hl 1 rfl) ?_
              refine lv_bipush (v := 6) hx hb dX5_init_66 (by decide) ?_
              refine lv_icmp_ge (tgt := 89) hx hb dX5_init_68 (by decide) (fun c6501 => ?_) (fun c6501 => ?_)
              · replace hm := it_t c6501 hm
                cases hm
                exact rt_n b hb0 hx hb hr hlocks hP hD hS dX5_init_89
              · replace hm := it_f c6501 hm
                refine lv_aload_n hx hb dX5_init_71 rfl (lv_at hl 0 rfl) ?_
                refine va_get (D := G.1) (ci := 5) (v := .ref (b 1)) (C := RX5) (T := TX5) (N := 5) hx hb hts w1_X5_init_b hown hK.1 hP 0 rfl rfl 0 (by decide) (hts _ w0_X5_init_b) (fun _ h9 => h9) rfl dX5_init_72 ?_
                refine lv_sipush (v := 360) hx hb dX5_init_75 (by decide) ?_
                refine lv_iload_n hx hb dX5_init_78 rfl (lv_at hl 1 rfl) ?_
                refine lv_iadd hx hb dX5_init_79 ?_
                refine lv_bipush (v := (-9)) hx hb dX5_init_80 (by decide) ?_
                obtain ⟨hi6502, hm⟩ := gd_s hm
                refine va_iast hx hb hK.1 hP hD hS 1 0 rfl rfl hi6502 dX5_init_82 (fun H locs hP hD hS => ?_)
                have hP : va_P G.1 vwCl (wMD G b (upd w65_ (360 + v65_1).toNatClampNeg (-9)) dep kept mark start) H := hP
                have hD : va_D A (wMD G b (upd w65_ (360 + v65_1).toNatClampNeg (-9)) dep kept mark start) := hD
                refine lv_iinc (v := (v65_1 + 1)) (lv' := [(1, .int (v65_1 + 1)), (0, .ref (b 0))]) hx hb dX5_init_83 hl (k := 1) rfl rfl (by decide) rfl (fun ls hl => ?_)
                refine lv_goto (tgt := 65) hx hb dX5_init_86 (by decide) ?_
                exact ih65 (v65_1 + 1) (upd w65_ (360 + v65_1).toNatClampNeg (-9)) hm _ _ _ hP hD hS (lv_sub hl [1, 0] rfl)
          exact L65 N 0 w38_ hm _ _ _ hP hD hS (lv_sub hl [1, 0] rfl)
        · replace hm := it_f c3801 hm
          refine lv_aload_n hx hb dX5_init_44 rfl (lv_at hl 0 rfl) ?_
          refine va_get (D := G.1) (ci := 5) (v := .ref (b 1)) (C := RX5) (T := TX5) (N := 5) hx hb hts w1_X5_init_b hown hK.1 hP 0 rfl rfl 0 (by decide) (hts _ w0_X5_init_b) (fun _ h9 => h9) rfl dX5_init_45 ?_
          refine lv_bipush (v := 15) hx hb dX5_init_48 (by decide) ?_
          refine lv_iload_n hx hb dX5_init_50 rfl (lv_at hl 1 rfl) ?_
          refine lv_imul hx hb dX5_init_51 ?_
          refine lv_iconst (v := 0) hx hb dX5_init_52 (by decide) ?_
          refine lv_iadd hx hb dX5_init_53 ?_
          refine lv_bipush (v := (-9)) hx hb dX5_init_54 (by decide) ?_
          obtain ⟨hi3803, hm⟩ := gd_s hm
          refine va_iast hx hb hK.1 hP hD hS 1 0 rfl rfl hi3803 dX5_init_56 (fun H locs hP hD hS => ?_)
          have hP : va_P G.1 vwCl (wMD G b (upd w38_ ((15 * v38_1) + 0).toNatClampNeg (-9)) dep kept mark start) H := hP
          have hD : va_D A (wMD G b (upd w38_ ((15 * v38_1) + 0).toNatClampNeg (-9)) dep kept mark start) := hD
          refine lv_iinc (v := (v38_1 + 1)) (lv' := [(1, .int (v38_1 + 1)), (0, .ref (b 0))]) hx hb dX5_init_57 hl (k := 1) rfl rfl (by decide) rfl (fun ls hl => ?_)
          refine lv_goto (tgt := 38) hx hb dX5_init_60 (by decide) ?_
          exact ih38 (v38_1 + 1) (upd w38_ ((15 * v38_1) + 0).toNatClampNeg (-9)) hm _ _ _ hP hD hS (lv_sub hl [1, 0] rfl)
    exact L38 N 0 w hm _ _ _ hP hD hS (lv_sub hl [1, 0] rfl)
  exact key (ad5 h q8 q15 q23 q31) _ _ _ _ _ rfl hm _ _ _ hP hD hS hl
