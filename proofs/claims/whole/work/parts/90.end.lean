set_option maxHeartbeats 4000000 in
set_option maxRecDepth 100000 in
theorem law_loop {p : Program} {e : Env} {s : State} {m : MethodId} {below : List Frame} {meth : Method} {c : Code} (l : Launch) {bs L : Nat} {xs : Nat → Int32} (hL : L ≤ 2048) (C0 : lw_At p s m meth c bs L xs) (G : GG) (hK : KK G s) : ∀ n : Nat, LIH p l e s m below meth c bs L G n := by
  intro n
  induction n with
  | zero => intro x hh ra sl a k b R ki fi ke va ta ro qu nsz fin rnd rd mkd lr un nx dp w dep kept mark start hR i hi hn; omega
  | succ n ih =>
    intro x hh ra sl a k b R ki fi ke va ta ro qu nsz fin rnd rd mkd lr un nx dp w dep kept mark start hR i hi hn cells slots hc hs H locs ls hP hD hS hl
    obtain ⟨hx, hb, hr, hml, hown, hts, hX, hbl, hlocks, hgv⟩ := id C0
    have hbA : ¬ (fun q : Nat => s.heap.size ≤ q) bs := Nat.not_le.mpr hbl
    refine lv_iload_n hx hb dL_law_18 rfl (lv_at hl 3 rfl) ?_
    refine lv_aload_n hx hb dL_law_19 rfl (lv_at hl 0 rfl) ?_
    refine va_slen hx hb hX hbl hbA hS dL_law_20 ?_
    refine lv_iconst (v := 4) hx hb dL_law_21 (by decide) ?_
    refine lv_isub hx hb dL_law_22 ?_
    have hsub : (Int32.ofNat L - 4 : Int32).toInt = (L : Int) - 4 := pk_sub_toInt (a := L) (b := 4) (by omega) (by decide)
    have hii : (nI i).toInt = (i : Int) := nI_toInt (by omega)
    refine lv_icmp_gt (tgt := 854) hx hb dL_law_23 (by decide) (fun c1 => ?_) (fun c1 => ?_)
    · refine lv_iconst (v := 1) hx hb dL_law_854 (by decide) ?_
      refine va_forget (fun q hq => hS.2.2 q hq) ?_
      refine W.widen (k := 600000) (n := 7302250) (by omega) (by omega) ?_
      exact lw_ret hx hb hr hlocks dL_law_855
    · have hi4 : i + 4 ≤ L := by rw [Int32.lt_iff_toInt_lt, hsub, hii] at c1; omega
      refine lv_aload_n hx hb dL_law_26 rfl (lv_at hl 0 rfl) ?_
      refine lv_iload_n hx hb dL_law_27 rfl (lv_at hl 3 rfl) ?_
      refine va_sld hx hb hX hbl hbA hS (vp_in_nI (show i < L by omega) (by omega)) dL_law_28 ?_
      refine lv_bipush (v := 31) hx hb dL_law_29 (by decide) ?_
      refine lv_iand hx hb dL_law_31 ?_
      obtain ⟨j, hj, ej⟩ := pk_andE (xs (nI i).toNatClampNeg) (m := 31) 5 (by decide)
      rw [ej]
      have hj32 : j < 32 := hj
      clear hj ej
      rcases (show j = 0 ∨ j = 1 ∨ j = 2 ∨ j = 3 ∨ j = 4 ∨ j = 5 ∨ j = 6 ∨ j = 7 ∨ j = 8 ∨ j = 9 ∨ j = 10 ∨ j = 11 ∨ j = 12 ∨ j = 13 ∨ j = 14 ∨ j = 15 ∨ j = 16 ∨ j = 17 ∨ j = 18 ∨ j = 19 ∨ j = 20 ∨ j = 21 ∨ j = 22 ∨ j = 23 ∨ j = 24 ∨ j = 25 ∨ j = 26 ∨ j = 27 ∨ j = 28 ∨ j = 29 ∨ j = 30 ∨ j = 31 by omega) with rfl | rfl | rfl | rfl | rfl | rfl | rfl | rfl | rfl | rfl | rfl | rfl | rfl | rfl | rfl | rfl | rfl | rfl | rfl | rfl | rfl | rfl | rfl | rfl | rfl | rfl | rfl | rfl | rfl | rfl | rfl | rfl
      · refine lv_tableIn (off := 136) (tgt := 168) hx hb dL_law_32 (by decide) (by decide) rfl (by decide) ?_
        exact law_allocate l hL C0 G hK n ih x hh ra sl a k b R ki fi ke va ta ro qu nsz fin rnd rd mkd lr un nx dp w dep kept mark start hR i hi4 hn cells slots hc hs H locs ls hP hD hS hl
      · refine lv_tableIn (off := 149) (tgt := 181) hx hb dL_law_32 (by decide) (by decide) rfl (by decide) ?_
        exact law_allocateTable l hL C0 G hK n ih x hh ra sl a k b R ki fi ke va ta ro qu nsz fin rnd rd mkd lr un nx dp w dep kept mark start hR i hi4 hn cells slots hc hs H locs ls hP hD hS hl
      · refine lv_tableIn (off := 162) (tgt := 194) hx hb dL_law_32 (by decide) (by decide) rfl (by decide) ?_
        exact law_allocateWeak l hL C0 G hK n ih x hh ra sl a k b R ki fi ke va ta ro qu nsz fin rnd rd mkd lr un nx dp w dep kept mark start hR i hi4 hn cells slots hc hs H locs ls hP hD hS hl
      · refine lv_tableIn (off := 185) (tgt := 217) hx hb dL_law_32 (by decide) (by decide) rfl (by decide) ?_
        exact law_kind l hL C0 G hK n ih x hh ra sl a k b R ki fi ke va ta ro qu nsz fin rnd rd mkd lr un nx dp w dep kept mark start hR i hi4 hn cells slots hc hs H locs ls hP hD hS hl
      · refine lv_tableIn (off := 208) (tgt := 240) hx hb dL_law_32 (by decide) (by decide) rfl (by decide) ?_
        exact law_setField l hL C0 G hK n ih x hh ra sl a k b R ki fi ke va ta ro qu nsz fin rnd rd mkd lr un nx dp w dep kept mark start hR i hi4 hn cells slots hc hs H locs ls hP hD hS hl
      · refine lv_tableIn (off := 251) (tgt := 283) hx hb dL_law_32 (by decide) (by decide) rfl (by decide) ?_
        exact law_field l hL C0 G hK n ih x hh ra sl a k b R ki fi ke va ta ro qu nsz fin rnd rd mkd lr un nx dp w dep kept mark start hR i hi4 hn cells slots hc hs H locs ls hP hD hS hl
      · refine lv_tableIn (off := 284) (tgt := 316) hx hb dL_law_32 (by decide) (by decide) rfl (by decide) ?_
        exact law_setRoot l hL C0 G hK n ih x hh ra sl a k b R ki fi ke va ta ro qu nsz fin rnd rd mkd lr un nx dp w dep kept mark start hR i hi4 hn cells slots hc hs H locs ls hP hD hS hl
      · refine lv_tableIn (off := 317) (tgt := 349) hx hb dL_law_32 (by decide) (by decide) rfl (by decide) ?_
        exact law_root l hL C0 G hK n ih x hh ra sl a k b R ki fi ke va ta ro qu nsz fin rnd rd mkd lr un nx dp w dep kept mark start hR i hi4 hn cells slots hc hs H locs ls hP hD hS hl
      · refine lv_tableIn (off := 340) (tgt := 372) hx hb dL_law_32 (by decide) (by decide) rfl (by decide) ?_
        exact law_target l hL C0 G hK n ih x hh ra sl a k b R ki fi ke va ta ro qu nsz fin rnd rd mkd lr un nx dp w dep kept mark start hR i hi4 hn cells slots hc hs H locs ls hP hD hS hl
      · refine lv_tableIn (off := 363) (tgt := 395) hx hb dL_law_32 (by decide) (by decide) rfl (by decide) ?_
        exact law_setFinalizable l hL C0 G hK n ih x hh ra sl a k b R ki fi ke va ta ro qu nsz fin rnd rd mkd lr un nx dp w dep kept mark start hR i hi4 hn cells slots hc hs H locs ls hP hD hS hl
      · refine lv_tableIn (off := 396) (tgt := 428) hx hb dL_law_32 (by decide) (by decide) rfl (by decide) ?_
        exact law_put l hL C0 G hK n ih x hh ra sl a k b R ki fi ke va ta ro qu nsz fin rnd rd mkd lr un nx dp w dep kept mark start hR i hi4 hn cells slots hc hs H locs ls hP hD hS hl
      · refine lv_tableIn (off := 439) (tgt := 471) hx hb dL_law_32 (by decide) (by decide) rfl (by decide) ?_
        exact law_get l hL C0 G hK n ih x hh ra sl a k b R ki fi ke va ta ro qu nsz fin rnd rd mkd lr un nx dp w dep kept mark start hR i hi4 hn cells slots hc hs H locs ls hP hD hS hl
      · refine lv_tableIn (off := 472) (tgt := 504) hx hb dL_law_32 (by decide) (by decide) rfl (by decide) ?_
        exact law_removeEntry l hL C0 G hK n ih x hh ra sl a k b R ki fi ke va ta ro qu nsz fin rnd rd mkd lr un nx dp w dep kept mark start hR i hi4 hn cells slots hc hs H locs ls hP hD hS hl
      · refine lv_tableIn (off := 505) (tgt := 537) hx hb dL_law_32 (by decide) (by decide) rfl (by decide) ?_
        exact law_entryCount l hL C0 G hK n ih x hh ra sl a k b R ki fi ke va ta ro qu nsz fin rnd rd mkd lr un nx dp w dep kept mark start hR i hi4 hn cells slots hc hs H locs ls hP hD hS hl
      · refine lv_tableIn (off := 528) (tgt := 560) hx hb dL_law_32 (by decide) (by decide) rfl (by decide) ?_
        exact law_entryKey l hL C0 G hK n ih x hh ra sl a k b R ki fi ke va ta ro qu nsz fin rnd rd mkd lr un nx dp w dep kept mark start hR i hi4 hn cells slots hc hs H locs ls hP hD hS hl
      · refine lv_tableIn (off := 561) (tgt := 593) hx hb dL_law_32 (by decide) (by decide) rfl (by decide) ?_
        exact law_collect l hL C0 G hK n ih x hh ra sl a k b R ki fi ke va ta ro qu nsz fin rnd rd mkd lr un nx dp w dep kept mark start hR i hi4 hn cells slots hc hs H locs ls hP hD hS hl
      · refine lv_tableIn (off := 574) (tgt := 606) hx hb dL_law_32 (by decide) (by decide) rfl (by decide) ?_
        exact law_lastRounds l hL C0 G hK n ih x hh ra sl a k b R ki fi ke va ta ro qu nsz fin rnd rd mkd lr un nx dp w dep kept mark start hR i hi4 hn cells slots hc hs H locs ls hP hD hS hl
      · refine lv_tableIn (off := 587) (tgt := 619) hx hb dL_law_32 (by decide) (by decide) rfl (by decide) ?_
        exact law_pollNotice l hL C0 G hK n ih x hh ra sl a k b R ki fi ke va ta ro qu nsz fin rnd rd mkd lr un nx dp w dep kept mark start hR i hi4 hn cells slots hc hs H locs ls hP hD hS hl
      · refine lv_tableIn (off := 600) (tgt := 632) hx hb dL_law_32 (by decide) (by decide) rfl (by decide) ?_
        exact law_noticeCount l hL C0 G hK n ih x hh ra sl a k b R ki fi ke va ta ro qu nsz fin rnd rd mkd lr un nx dp w dep kept mark start hR i hi4 hn cells slots hc hs H locs ls hP hD hS hl
      · refine lv_tableIn (off := 613) (tgt := 645) hx hb dL_law_32 (by decide) (by decide) rfl (by decide) ?_
        exact law_objectCount l hL C0 G hK n ih x hh ra sl a k b R ki fi ke va ta ro qu nsz fin rnd rd mkd lr un nx dp w dep kept mark start hR i hi4 hn cells slots hc hs H locs ls hP hD hS hl
      · refine lv_tableIn (off := 626) (tgt := 658) hx hb dL_law_32 (by decide) (by decide) rfl (by decide) ?_
        exact law_reachableCount l hL C0 G hK n ih x hh ra sl a k b R ki fi ke va ta ro qu nsz fin rnd rd mkd lr un nx dp w dep kept mark start hR i hi4 hn cells slots hc hs H locs ls hP hD hS hl
      · refine lv_tableIn (off := 639) (tgt := 671) hx hb dL_law_32 (by decide) (by decide) rfl (by decide) ?_
        exact law_markRound l hL C0 G hK n ih x hh ra sl a k b R ki fi ke va ta ro qu nsz fin rnd rd mkd lr un nx dp w dep kept mark start hR i hi4 hn cells slots hc hs H locs ls hP hD hS hl
      · refine lv_tableIn (off := 662) (tgt := 694) hx hb dL_law_32 (by decide) (by decide) rfl (by decide) ?_
        exact law_wouldFree l hL C0 G hK n ih x hh ra sl a k b R ki fi ke va ta ro qu nsz fin rnd rd mkd lr un nx dp w dep kept mark start hR i hi4 hn cells slots hc hs H locs ls hP hD hS hl
      · refine lv_tableIn (off := 675) (tgt := 707) hx hb dL_law_32 (by decide) (by decide) rfl (by decide) ?_
        exact law_retainedSize l hL C0 G hK n ih x hh ra sl a k b R ki fi ke va ta ro qu nsz fin rnd rd mkd lr un nx dp w dep kept mark start hR i hi4 hn cells slots hc hs H locs ls hP hD hS hl
      · refine lv_tableIn (off := 698) (tgt := 730) hx hb dL_law_32 (by decide) (by decide) rfl (by decide) ?_
        exact law_waitingEntries l hL C0 G hK n ih x hh ra sl a k b R ki fi ke va ta ro qu nsz fin rnd rd mkd lr un nx dp w dep kept mark start hR i hi4 hn cells slots hc hs H locs ls hP hD hS hl
      · refine lv_tableIn (off := 721) (tgt := 753) hx hb dL_law_32 (by decide) (by decide) rfl (by decide) ?_
        exact law_referenceCount l hL C0 G hK n ih x hh ra sl a k b R ki fi ke va ta ro qu nsz fin rnd rd mkd lr un nx dp w dep kept mark start hR i hi4 hn cells slots hc hs H locs ls hP hD hS hl
      · refine lv_tableIn (off := 744) (tgt := 776) hx hb dL_law_32 (by decide) (by decide) rfl (by decide) ?_
        exact law_undo l hL C0 G hK n ih x hh ra sl a k b R ki fi ke va ta ro qu nsz fin rnd rd mkd lr un nx dp w dep kept mark start hR i hi4 hn cells slots hc hs H locs ls hP hD hS hl
      · refine lv_tableIn (off := 757) (tgt := 789) hx hb dL_law_32 (by decide) (by decide) rfl (by decide) ?_
        exact law_undoDepth l hL C0 G hK n ih x hh ra sl a k b R ki fi ke va ta ro qu nsz fin rnd rd mkd lr un nx dp w dep kept mark start hR i hi4 hn cells slots hc hs H locs ls hP hD hS hl
      · refine lv_tableIn (off := 770) (tgt := 802) hx hb dL_law_32 (by decide) (by decide) rfl (by decide) ?_
        exact law_save l hL C0 G hK n ih x hh ra sl a k b R ki fi ke va ta ro qu nsz fin rnd rd mkd lr un nx dp w dep kept mark start hR i hi4 hn cells slots hc hs H locs ls hP hD hS hl
      · refine lv_tableIn (off := 793) (tgt := 825) hx hb dL_law_32 (by decide) (by decide) rfl (by decide) ?_
        exact law_restore l hL C0 G hK n ih x hh ra sl a k b R ki fi ke va ta ro qu nsz fin rnd rd mkd lr un nx dp w dep kept mark start hR i hi4 hn cells slots hc hs H locs ls hP hD hS hl
      · refine lv_tableOut (tgt := 848) hx hb dL_law_32 (by decide) (by decide) ?_
        refine lv_iinc (v := nI (i + 4)) (lv' := [(3, .int (nI (i + 4))), (0, .ref bs), (1, .ref x), (2, .ref (b 0))]) hx hb dL_law_848 hl (k := 3) rfl (nI_add i 4) (by decide) rfl (fun ls hl => ?_)
        refine lv_goto (tgt := 18) hx hb dL_law_851 (by decide) ?_
        exact ih x hh ra sl a k b R ki fi ke va ta ro qu nsz fin rnd rd mkd lr un nx dp w dep kept mark start hR (i + 4) (by omega) (by omega) cells slots (by omega) (by omega) _ _ _ hP hD hS (lv_sub hl [1, 2, 3, 0] rfl)
      · refine lv_tableOut (tgt := 848) hx hb dL_law_32 (by decide) (by decide) ?_
        refine lv_iinc (v := nI (i + 4)) (lv' := [(3, .int (nI (i + 4))), (0, .ref bs), (1, .ref x), (2, .ref (b 0))]) hx hb dL_law_848 hl (k := 3) rfl (nI_add i 4) (by decide) rfl (fun ls hl => ?_)
        refine lv_goto (tgt := 18) hx hb dL_law_851 (by decide) ?_
        exact ih x hh ra sl a k b R ki fi ke va ta ro qu nsz fin rnd rd mkd lr un nx dp w dep kept mark start hR (i + 4) (by omega) (by omega) cells slots (by omega) (by omega) _ _ _ hP hD hS (lv_sub hl [1, 2, 3, 0] rfl)
set_option maxRecDepth 100000 in
theorem kk_law {s : State} {b : Nat} (hts : ∀ w ∈ lw_tbl, w.before #[Value.ref b] s = true) : ∃ G : GG, KK G s := by
  obtain ⟨c0, iS0, hKn0⟩ := u_known (C := RX0) (T := TX0) (N := 3) (n := 3) hts inX0 (hts (.instantiable RX0 3) (List.mem_of_getElem? (i := 118) rfl))
  obtain ⟨c1, iS1, hKn1⟩ := u_known (C := RX1) (T := TX1) (N := 4) (n := 4) hts inX1 (hts (.instantiable RX1 4) (List.mem_of_getElem? (i := 137) rfl))
  obtain ⟨c2, iS2, hKn2⟩ := u_known (C := RX2) (T := TX2) (N := 2) (n := 2) hts inX2 (hts (.instantiable RX2 2) (List.mem_of_getElem? (i := 66) rfl))
  obtain ⟨c3, iS3, hKn3⟩ := u_known (C := RX3) (T := TX3) (N := 9) (n := 9) hts inX3 (hts (.instantiable RX3 9) (List.mem_of_getElem? (i := 51) rfl))
  obtain ⟨c4, iS4, hKn4⟩ := u_known (C := RX4) (T := TX4) (N := 4) (n := 4) hts inX4 (hts (.instantiable RX4 4) (List.mem_of_getElem? (i := 43) rfl))
  obtain ⟨c5, iS5, hKn5⟩ := u_known (C := RX5) (T := TX5) (N := 5) (n := 5) hts inX5 (hts (.instantiable RX5 5) (List.mem_of_getElem? (i := 478) rfl))
  obtain ⟨cI, kI, pI, i1, i2, i3⟩ := Cond.arrayClass_spec (hts (.arrayClass .int) (List.mem_of_getElem? (i := 79) rfl))
  obtain ⟨cZ, kZ, pZ, z1, z2, z3⟩ := Cond.arrayClass_spec (hts (.arrayClass .boolean) (List.mem_of_getElem? (i := 499) rfl))
  have hAO : va_AO RX3 s := va_AO.of (hts (.arrayOver (.object RX3)) (List.mem_of_getElem? (i := 124) rfl))
  obtain ⟨pS, cS, kS, s1, s2, s3, s4, s5⟩ := Cond.arrayOver_spec hAO
  refine ⟨((fun k => if k = 0 then c0 else if k = 1 then c1 else if k = 2 then c2 else if k = 3 then c3 else if k = 4 then c4 else c5, fun k => if k = 0 then iS0 else if k = 1 then iS1 else if k = 2 then iS2 else if k = 3 then iS3 else if k = 4 then iS4 else iS5), cI, cZ, cS), ⟨?_, ?_⟩, ?_, hAO⟩
  · intro k q hq
    match k, hq with
    | 0, hq => cases hq; exact hKn0
    | 1, hq => cases hq; exact hKn1
    | 2, hq => cases hq; exact hKn2
    | 3, hq => cases hq; exact hKn3
    | 4, hq => cases hq; exact hKn4
    | 5, hq => cases hq; exact hKn5
    | k + 6, hq => simp [vwCl] at hq
  · intro k q hq
    match k, hq with
    | 0, hq => cases hq; exact ⟨fun n z => ⟨fun k h => (by cases h), kI, i2, pI, i3⟩, i1⟩
    | 1, hq => cases hq; exact ⟨fun n z => ⟨fun k h => (by cases h), kZ, z2, pZ, z3⟩, z1⟩
    | 2, hq => cases hq; exact ⟨fun n z => ⟨fun k h => (by cases h), kS, s3, pS, s4⟩, kS, pS, s3, s4, s1, s5⟩
    | k + 3, hq => simp at hq
  · intro w hw
    obtain ⟨k, hk⟩ := List.getElem?_of_mem hw
    match k, hk with
    | 0, hk => cases hk; exact va_Nw.of rfl (hts (.methodLinkNest RX4 18 yX0_init RX4) (List.mem_of_getElem? (i := 119) rfl))
    | 1, hk => cases hk; exact va_Nw.of rfl (hts (.methodLinkNest RX4 29 yX1_init RX4) (List.mem_of_getElem? (i := 138) rfl))
    | 2, hk => cases hk; exact va_Nw.of rfl (hts (.methodLinkNest RX4 9 yX3_init RX4) (List.mem_of_getElem? (i := 52) rfl))
    | 3, hk => cases hk; exact va_Nw.of rfl (hts (.methodLinkNest RX0 21 yX3_init RX4) (List.mem_of_getElem? (i := 187) rfl))
    | 4, hk => cases hk; exact va_Nw.of rfl (hts (.methodLinkNest RX1 52 yX4_contains RX4) (List.mem_of_getElem? (i := 340) rfl))
    | 5, hk => cases hk; exact va_Nw.of rfl (hts (.methodLinkNest RX2 15 yX4_copyRow RX4) (List.mem_of_getElem? (i := 205) rfl))
    | 6, hk => cases hk; exact va_Nw.of rfl (hts (.methodLinkNest RX2 27 yX4_within RX4) (List.mem_of_getElem? (i := 371) rfl))
    | 7, hk => cases hk; exact va_Nw.of rfl (hts (.methodLinkNest RX3 36 yX2_init RX4) (List.mem_of_getElem? (i := 67) rfl))
    | 8, hk => cases hk; exact va_Nw.of rfl (hts (.methodLinkNest RX3 41 yX4_copyRow RX4) (List.mem_of_getElem? (i := 192) rfl))
    | 9, hk => cases hk; exact va_Nw.of rfl (hts (.methodLinkNest RX3 56 yX4_within RX4) (List.mem_of_getElem? (i := 211) rfl))
    | 10, hk => cases hk; exact va_Nw.of rfl (hts (.methodLinkNest RX3 67 yX4_setOf RX4) (List.mem_of_getElem? (i := 322) rfl))
    | 11, hk => cases hk; exact va_Nw.of rfl (hts (.methodLinkNest RX3 71 yX4_contains RX4) (List.mem_of_getElem? (i := 301) rfl))
    | 12, hk => cases hk; exact va_Nw.of rfl (hts (.methodLinkNest RX3 9 yX4_emptyRow RX4) (List.mem_of_getElem? (i := 56) rfl))
    | k + 13, hk => simp [NWs] at hk
set_option maxHeartbeats 4000000 in
set_option maxRecDepth 100000 in
theorem whole_start {p : Program} {e : Env} {s : State} {m : MethodId} {below : List Frame} {meth : Method} {c : Code} (l : Launch) (hflags : l.flags = flags0) {b L : Nat} {xs : Nat → Int32} (hL : L ≤ 2048) (C0 : lw_At p s m meth c b L xs) : W p l e room_1 s m #[Value.ref b] below meth c s.heap [] 0 0 (lw_Z below #[Value.ref b] s) (entryFrame m ([Value.ref b] : List Value).toArray 4) := by
  obtain ⟨hx, hb, hr, hml, hown, hts0, hX, hbl, hlocks, hgv⟩ := id C0
  obtain ⟨G, hK⟩ := kk_law hts0
  obtain ⟨w0, hw0, hR0⟩ := rel_0
  have hts := fun w h => hts0 w (wsL_law_in w h)
  have hF : CallFix p m c cL_law 4 s #[Value.ref b] wsL_law RL := ⟨hx, hb, hml, hown, hts⟩
  have hA : ∀ q : Nat, s.heap.size ≤ q → (fun q : Nat => s.heap.size ≤ q) q := fun _ h => h
  have hS : va_S (fun q : Nat => s.heap.size ≤ q) s.heap s.heap [] := va_S.rf
  have hP : va_P G.1 vwCl [] s.heap := fun k q h => by simp at h
  have hD : va_D (fun q : Nat => s.heap.size ≤ q) [] := ⟨fun i j p q h => by simp at h, fun k q h => by simp at h⟩
  have hl := lv_entry ([.ref b]) (n := 4) (Nat.le_of_ble_eq_true rfl)
  rw [lg_entry_eq]
  generalize (lg_sl ([.ref b]) ++ List.replicate (4 - (lg_sl ([.ref b])).length) Slot.unset).toArray = ls at hl ⊢
  have hl : lv_has ls 4 [(0, .ref b)] := hl
  refine va_new (ci := 4) (fs := [.null, .null, .null, .null]) (C := RX4) (T := TX4) (N := 4) hx hb hts0 inX4 tyX4 tyX4_ok hown (hts0 (.classLink RL 7 RX4) (List.mem_of_getElem? (i := 42) rfl)) (hts0 (.instantiable RX4 4) (List.mem_of_getElem? (i := 43) rfl)) (hts0 (.initialized RX4) (List.mem_of_getElem? (i := 32) rfl)) hK.1 hP hD hS hA rfl (fun j hj => by rcases (show j = 0 ∨ j = 1 ∨ j = 2 ∨ j = 3 by omega) with rfl | rfl | rfl | rfl <;> rfl) (Nat.le_of_ble_eq_true rfl) (Nat.le_of_ble_eq_true rfl) dL_law_0 (fun q0 H hP hD hS => ?_)
  have hP : va_P G.1 vwCl [(q0, .inr (4, [.null, .null, .null, .null]))] H := hP
  have hD : va_D (fun q : Nat => s.heap.size ≤ q) [(q0, .inr (4, [.null, .null, .null, .null]))] := hD
  refine lv_dup hx hb dL_law_3 rfl ?_
  refine kc_n (wi := [(q0, .inr (4, [.null, .null, .null, .null]))]) (wr := ([] : va_W)) (rI (As := []) (rest := [.ref q0]) (b := q0) (wi := [(q0, .inr (4, [.null, .null, .null, .null]))]) hF hK hP hD (c_X4_init l G q0 H.size) (cwI 0 hts gL_law_X4_init rfl rfl rfl (hts0 (.initialized RX4) (List.mem_of_getElem? (i := 32) rfl)) (hts0 (.methodLink RL 9 yX4_init) (List.mem_of_getElem? (i := 44) rfl)) (hts0 (.instanceMethod yX4_init) (List.mem_of_getElem? (i := 45) rfl)) rfl (by decide +kernel) ⟨Nat.le_of_ble_eq_true rfl, Nat.le_of_ble_eq_true rfl⟩) rfl hl.1 rfl (Nat.le_of_ble_eq_true rfl) dL_law_4 ⟨Nat.le_of_ble_eq_true rfl, Nat.le_of_ble_eq_true rfl⟩) hP hD hS hA [0] [] rfl rfl rfl (by decide) (fun u H locs hu hP hD hS => ?_)
  rw [← hu]
  have hP : va_P G.1 vwCl (wXQ G u.1.1 u.1.2.1 u.1.2.2.1 u.1.2.2.2 u.2.1 u.2.2 (fun _ => none) (emp 24) (emp 72) (emp 144) (emp 144) (emp 24) (emp 6) (fun _ => 0) 0 0 0 (fun _ => 0) 0 0 0 0 0) H := hP
  have hD : va_D (fun q : Nat => s.heap.size ≤ q) (wXQ G u.1.1 u.1.2.1 u.1.2.2.1 u.1.2.2.2 u.2.1 u.2.2 (fun _ => none) (emp 24) (emp 72) (emp 144) (emp 144) (emp 24) (emp 6) (fun _ => 0) 0 0 0 (fun _ => 0) 0 0 0 0 0) := hD
  refine lv_astore_n (lv' := [(1, .ref u.1.1), (0, .ref b)]) hx hb dL_law_7 rfl hl (by decide) rfl (fun ls hl => ?_)
  refine va_new (ci := 5) (fs := [.null, .int 0, .null, .null, .null]) (C := RX5) (T := TX5) (N := 5) hx hb hts0 inX5 tyX5 tyX5_ok hown (hts0 (.classLink RL 10 RX5) (List.mem_of_getElem? (i := 477) rfl)) (hts0 (.instantiable RX5 5) (List.mem_of_getElem? (i := 478) rfl)) (hts0 (.initialized RX5) (List.mem_of_getElem? (i := 39) rfl)) hK.1 hP hD hS hA rfl (fun j hj => by rcases (show j = 0 ∨ j = 1 ∨ j = 2 ∨ j = 3 ∨ j = 4 by omega) with rfl | rfl | rfl | rfl | rfl <;> rfl) (Nat.le_of_ble_eq_true rfl) (Nat.le_of_ble_eq_true rfl) dL_law_8 (fun q8 H hP hD hS => ?_)
  refine lv_dup hx hb dL_law_11 rfl ?_
  refine kc_n (ws := (wXQ G u.1.1 u.1.2.1 u.1.2.2.1 u.1.2.2.2 u.2.1 u.2.2 (fun _ => none) (emp 24) (emp 72) (emp 144) (emp 144) (emp 24) (emp 6) (fun _ => 0) 0 0 0 (fun _ => 0) 0 0 0 0 0) ++ [(q8, .inr (5, [.null, .int 0, .null, .null, .null]))]) (wi := [(q8, .inr (5, [.null, .int 0, .null, .null, .null]))]) (wr := (wXQ G u.1.1 u.1.2.1 u.1.2.2.1 u.1.2.2.2 u.2.1 u.2.2 (fun _ => none) (emp 24) (emp 72) (emp 144) (emp 144) (emp 24) (emp 6) (fun _ => 0) 0 0 0 (fun _ => 0) 0 0 0 0 0)) (rI (As := []) (rest := [.ref q8]) (b := q8) (wi := [(q8, .inr (5, [.null, .int 0, .null, .null, .null]))]) hF hK (hP.sub [15] rfl) (hD.sub [15] rfl rfl) (c_X5_init l G 400 q8 w0 hw0 H.size) (cwI 0 hts gL_law_X5_init rfl rfl rfl (hts0 (.initialized RX5) (List.mem_of_getElem? (i := 39) rfl)) (hts0 (.methodLink RL 12 yX5_init) (List.mem_of_getElem? (i := 479) rfl)) (hts0 (.instanceMethod yX5_init) (List.mem_of_getElem? (i := 480) rfl)) rfl (by decide +kernel) ⟨Nat.le_of_ble_eq_true rfl, Nat.le_of_ble_eq_true rfl⟩) rfl hl.1 rfl (Nat.le_of_ble_eq_true rfl) dL_law_12 ⟨Nat.le_of_ble_eq_true rfl, Nat.le_of_ble_eq_true rfl⟩) hP hD hS hA [15] [0, 1, 2, 3, 4, 5, 6, 7, 8, 9, 10, 11, 12, 13, 14] rfl rfl rfl (by decide) (fun bb H locs hbb hP hD hS => ?_)
  rw [← hbb]
  refine lv_astore_n (lv' := [(2, .ref (bb 0)), (1, .ref u.1.1), (0, .ref b)]) hx hb dL_law_15 rfl hl (by decide) rfl (fun ls hl => ?_)
  refine lv_iconst (v := 0) hx hb dL_law_16 (by decide) ?_
  refine lv_istore_n (lv' := [(3, .int 0), (2, .ref (bb 0)), (1, .ref u.1.1), (0, .ref b)]) hx hb dL_law_17 rfl hl (by decide) rfl (fun ls hl => ?_)
  have hP : va_P G.1 vwCl (((wXQ G u.1.1 u.1.2.1 u.1.2.2.1 u.1.2.2.2 u.2.1 u.2.2 (fun _ => none) (emp 24) (emp 72) (emp 144) (emp 144) (emp 24) (emp 6) (fun _ => 0) 0 0 0 (fun _ => 0) 0 0 0 0 0) ++ wMD G bb w0 0 (fun _ => 0) (fun _ => 0) (fun _ => 0)) ++ fl G.2.1 (fun _ => none) 8) H := hP
  have hD : va_D (fun q : Nat => s.heap.size ≤ q) (((wXQ G u.1.1 u.1.2.1 u.1.2.2.1 u.1.2.2.2 u.2.1 u.2.2 (fun _ => none) (emp 24) (emp 72) (emp 144) (emp 144) (emp 24) (emp 6) (fun _ => 0) 0 0 0 (fun _ => 0) 0 0 0 0 0) ++ wMD G bb w0 0 (fun _ => 0) (fun _ => 0) (fun _ => 0)) ++ fl G.2.1 (fun _ => none) 8) := hD
  refine W.widen (k := 20) (n := 4423) (Nat.le_of_ble_eq_true rfl) (Nat.le_of_ble_eq_true rfl) ?_
  exact law_loop l hL C0 G hK 513 u.1.1 u.1.2.1 u.1.2.2.1 u.1.2.2.2 u.2.1 u.2.2 bb (fun _ => none) (emp 24) (emp 72) (emp 144) (emp 144) (emp 24) (emp 6) (fun _ => 0) 0 0 0 (fun _ => 0) 0 0 0 0 0 w0 0 (fun _ => 0) (fun _ => 0) (fun _ => 0) hR0 0 (Nat.zero_le L) (by omega) 20 4423 (Nat.le_of_ble_eq_true rfl) (Nat.le_of_ble_eq_true rfl) _ _ _ hP hD hS (lv_sub hl [3, 2, 1, 0] rfl)
set_option maxHeartbeats 4000000 in
theorem lw_walk (l : Launch) (hflags : l.flags = flags0) (b : Addr) (xs : List Int32) : MetFree l x (headSpec (Jvm.Cond.code x code maxLocals ret :: tables_1) room_1) (lw_P b xs) (fun _ _ _ _ _ => True) lw_Q := by
  refine MetFree.of_bodyS (code := code) (maxLocals := maxLocals) (ret := ret) (by decide) ?_ ?_
  · intro args s m h hn
    obtain ⟨meth, c, h1, h2, h3, h4, h5, h6, -, -⟩ := Cond.code_spec hn (atoms_spec (ws := Jvm.Cond.code x code maxLocals ret :: tables_1) h _ List.mem_cons_self)
    exact ⟨meth, c, h1, h2, h3, h4, h5, h6⟩
  · intro p e s m args below meth c s₁ B hml0 hP _
    obtain ⟨rfl, hx, hbd, hgv⟩ := hP
    obtain ⟨scr, harrAt, hlist, hof, hsmall⟩ := hx
    obtain ⟨hcb, hkn, -, -⟩ := State.arrayAt?_spec harrAt
    have hown : s.vm.findClass R_law = some m.cls := findClass_of_methodNamed B.named
    have hts0 : ∀ c ∈ (Jvm.Cond.code x code maxLocals ret :: tables_1), c.before #[Value.ref b] s = true := atoms_spec (ws := Jvm.Cond.code x code maxLocals ret :: tables_1) B.pre
    have hts : ∀ w ∈ lw_tbl, w.before #[Value.ref b] s = true := k2_hts_sels lw_privs (fun w hw => hts0 w (List.mem_cons_of_mem _ hw)) lw_privs_ok
    have hml : c.maxLocals = 4 := B.maxLocals_eq (hts0 _ List.mem_cons_self)
    have X₀ : Stand p l e room_1 s m #[Value.ref b] below meth c s₁ [] 0 0 := Stand.of_body B
    have hh0 : s₁.heap = s.heap := by rw [B.state]; rfl
    have hsz : scr.slots.size = xs.length := by rw [← Array.length_toList, hlist, List.length_map]
    have hval : ∀ j : Nat, j < xs.length → scr.slots[j]? = some (.int (xs.getD j 0)) := fun j hj => by
      rw [← Array.getElem?_toList, hlist]
      simp [hj]
    have hbl : b < s.heap.size := (Array.getElem?_eq_some_iff.mp hcb).1
    have hX : va_X b xs.length (fun j => xs.getD j 0) s s.heap := ⟨scr, hcb, hof, hkn, hsz, hval⟩
    have K : W p l e room_1 s m #[Value.ref b] below meth c s₁.heap [] 0 0 (lw_Z below #[Value.ref b] s) (entryFrame m ([Value.ref b] : List Value).toArray 4) := by
      rw [hh0]
      exact whole_start l hflags hbd ⟨B.exec, B.bytes, B.returns, hml, hown, hts, hX, hbl, B.notSynchronized, hgv⟩
    obtain ⟨t, a1, o, b1, b2, b3⟩ := K s₁ rfl X₀
    exact ⟨t, o, a1, b1, b2, b3⟩
theorem lw_pre_spec {args : Array Value} {s : State} (h : (Jvm.Cond.and given_1 narrow_1).before args s = true) (hr : rest_1_c.before args s = true) : ∃ (b : Addr) (xs : List Int32), lw_P b xs args s := by
  have hs := flat_of_before _ h
  have hq := flat_of_before _ hr
  have hc : (Cond.count 1).before args s = true := hs _ (by decide +kernel)
  have harr : (Cond.arrayOf (.arg 0) .int).before args s = true := hs _ (by decide +kernel)
  have hle : (Cond.le (.length (.arg 0)) (.int 2048)).before args s = true := hs _ (by decide +kernel)
  have hlen : (Cond.isInt (.length (.arg 0))).before args s = true := hq _ (by decide +kernel)
  have hall : (Cond.all (.arg 0) (.isInt (.elem (.arg 0) (.index 0)))).before args s = true := hq _ (by decide +kernel)
  obtain ⟨b, xs, hb, hx⟩ := State.ints_of_pre rfl harr hlen hall
  have hsm : xs.length < 2 ^ 31 := hx.choose_spec.2.2.2
  have hev : (Term.length (.arg 0)).eval args s none [] s = some (.int xs.length.toInt32) := hx.length_eval hb
  have hv := Cond.le_ints hev (show (Term.int 2048).eval args s none [] s = some (.int 2048) from rfl)
  have hd : xs.length.toInt32 ≤ 2048 := by
    simpa [Cond.before, Cond.holds, hv] using hle
  have hN : xs.length ≤ 2048 := (Int32.ofNat_le_ofNat hsm (by decide)).mp (show Int32.ofNat xs.length ≤ Int32.ofNat 2048 from hd)
  exact ⟨b, xs, Cond.one_arg hc (show args[0]? = some (.ref b) from hb), hx, hN, h⟩
theorem lw_comes (l : Launch) (hflags : l.flags = flags0) : Comes l x (Jvm.Cond.code x code maxLocals ret :: tables_1) room_1 (fun tb e args s => Calls_1 tb e args s ∧ rest_1 tb e args s ∧ Pre_1 tb e args s)
    (fun _ _ args s o t => lw_Q args s o t) := by
  intro p e ha hc hk s m args below hf hfit hheap happ hpre
  obtain ⟨b, xs, hP⟩ := lw_pre_spec hpre.2.2 hpre.2.1
  obtain ⟨k, o, h1, h2, h3, hQ⟩ := lw_walk l hflags b xs p e ha hc hk s m args below hf ((Spec.applies_iff_loose hf).mp happ).1 hP trivial
  exact ⟨k, o, h1, h2, h3, hQ⟩
theorem lw_frame {s t : State} {o : Outcome} {args : Array Value} (h : Framed s o t [] 600000 7302250) :
    Framed s o t (fieldLocs frame_1_writes args s ++ arrayLocs frame_1_arrays args s ++ staticLocs frame_1_statics s) 600000 7302250 := h
theorem lw_limb (L : Cond) (hL : ∀ (args : Array Value) (s t : State), L.after args s (.returned (some (.int 1))) t = true) :
    ArmFor flags0 classFile x code maxLocals ret World_1 tables_1 room_1 Calls_1 rest_1 Pre_1
      (fun tb e a s o t => postC L tb e a s o t ∧ Framed s o t (fieldLocs frame_1_writes a s ++ arrayLocs frame_1_arrays a s ++ staticLocs frame_1_statics s) 600000 7302250) := by
  intro l hflags _ _ p e ha hc hk s m args below hf hfit hheap happ hpre
  obtain ⟨k, o, h1, h2, h3, rfl, hF⟩ := lw_comes l hflags p e ha hc hk s m args below hf hfit hheap happ hpre
  exact ⟨k, _, h1, h2, h3, hL args s _, lw_frame hF⟩
theorem i_vc : Claimed_1_1 ∧ Claimed_1_2 := ⟨lw_limb limb_1_1 (fun args s t => by simp [limb_1_1, Cond.after, Cond.holds, Cond.value]), lw_limb limb_1_2 (fun args s t => Cond.after_iff.mpr (by
  first | (rw [show limb_1_2 = Cond.eq .result (.int 1) from rfl, Cond.eq_ints (x := 1) (y := 1) rfl rfl]; simp; done) | (simp [limb_1_2, Cond.value, Term.eval]; done)))⟩

