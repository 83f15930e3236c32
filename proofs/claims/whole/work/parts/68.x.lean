/-! a collection on both sides -/
theorem RS.rnd {ki fi ke va ta ro qu w : Nat → Int32} {nsz fin rnd : Int32} (h : RS (pkS ki fi ke va ta ro qu nsz fin rnd) w) (v : Int32) : RS (pkS ki fi ke va ta ro qu nsz fin v) (upd w 387 v) :=
  RS.of (fun y hy => (h.ro hy).cg rfl rfl (fun _ _ => rfl) (fun _ _ => ⟨rfl, rfl⟩) rfl (fun j hj => pk_un (by omega))) h.2.1.2 (h.2.2.2.2.2.1.cong fun j hj => pk_un (by omega)) (h.2.2.2.2.2.2.1.cong fun j hj => pk_un (by omega)) pk_us
theorem df_bits {x y : Int32} (hx : ∀ b, 24 ≤ b → bit x b = false) : (∀ b, bit (x &&& (y ^^^ (-1))) b = true ↔ bit x b = true ∧ bit y b = false) ∧ ∀ b, 24 ≤ b → bit (x &&& (y ^^^ (-1))) b = false := by
  have e : ∀ b, bit (x &&& (y ^^^ (-1))) b = (bit x b && !bit y b) := fun b => by
    by_cases hb : b < 32
    · exact bit_diff x y hb
    · rw [bit_big (by omega), hx b (by omega)]; rfl
  refine ⟨fun b => ?_, fun b hb => by rw [e b, hx b hb]; rfl⟩
  rw [e b]
  cases bit x b <;> cases bit y b <;> simp
theorem cn_both {ki fi ke va ta ro qu w : Nat → Int32} {nsz fin rnd : Int32} (h : RS (pkS ki fi ke va ta ro qu nsz fin rnd) w) (rd mark start : Nat → Int32) : ∃ (q : Int32) (rd1 : Nat → Int32) (mkd1 lr1 : Int32) (mk1 ta1 qu1 : Nat → Int32) (nsz1 : Int32) (qu2 : Nat → Int32) (nsz2 fin2 : Int32) (rd2 : Nat → Int32) (mkd2 lr2 : Int32) (ke3 va3 qu3 : Nat → Int32) (nsz3 : Int32) (ta4 qu4 : Nat → Int32) (nsz4 q17 : Int32) (ki5 fi5 ke5 va5 ta5 : Nat → Int32) (fin5 c : Int32) (w' mk' st' : Nat → Int32), M_X3_rootObjects 400 ro = some q ∧ M_X4_markFromRoots 400 fi ke va ro rd = some (rd1, mkd1, lr1, 0) ∧ M_X3_emptyWeakReferences 400 ta qu nsz mkd1 1 = some (ta1, qu1, nsz1) ∧ M_X3_finalizeObjects 400 qu1 nsz1 fin (fin &&& (mkd1 ^^^ (-1))) = some (qu2, nsz2, fin2) ∧ M_X4_markFromRootsAnd 400 fi ke va ro rd1 (fin &&& (mkd1 ^^^ (-1))) = some (rd2, mkd2, lr2, 0) ∧ M_X3_removeEntriesWithoutKey 400 ke va qu2 nsz2 mkd2 = some (ke3, va3, qu3, nsz3) ∧ M_X3_emptyWeakReferences 400 ta1 qu3 nsz3 mkd2 0 = some (ta4, qu4, nsz4) ∧ M_X3_allocated 400 ki = some q17 ∧ M_X3_free 400 ki fi ke3 va3 ta4 fin2 (q17 &&& (mkd2 ^^^ (-1))) = some (ki5, fi5, ke5, va5, ta5, fin5) ∧ M_J6_bitCount_0f7a4 (q17 &&& (mkd2 ^^^ (-1))) = some c ∧ M_X5_collectNow 400 w mark start = some (c, w', mk', st') ∧ RS (pkS ki5 fi5 ke5 va5 ta5 ro qu4 nsz4 fin5 lr1) w' ∧ (∀ j, 388 ≤ j → w' j = w j) ∧ MK fi ke va 0 q rd1 mkd1 mk1 ∧ MK fi ke va 0 (q ||| (fin &&& (mkd1 ^^^ (-1)))) rd2 mkd2 mk' := by
  obtain ⟨q, rd1, mkd1, lr1, mk1, st, a1, a2, a3, a4, a5, a6⟩ := ma_both h (-9) 0 hU9 rd mark start
  have hf24 : ∀ b, 24 ≤ b → bit fin b = false := h.2.1.2
  obtain ⟨F1, F2⟩ := df_bits (x := fin) (y := mkd1) hf24
  obtain ⟨ta1, qu1, nsz1, w4, b1, b2, b3, b4⟩ := ew_loop a4.2.1 1 400 0 ta qu nsz (upd w 387 lr1) (by decide) (by decide) (h.rnd lr1)
  obtain ⟨qu2, nsz2, w6, st', c1, c2, c3, c4, c5⟩ := fz_loop a4.2.1 fin (fin &&& (mkd1 ^^^ (-1))) (fun x _ => F1 x) hf24 400 0 qu1 nsz1 fin w4 st (by decide) (by decide) b3 (fun b => by simp)
  have hs : ∀ x, x < 24 → (st' x ≠ 0 ↔ bit (q ||| (fin &&& (mkd1 ^^^ (-1)))) x = true) := fun x hx => by
    rw [c5 x hx, bit_or, Bool.or_eq_true, a5 x hx]
    exact ⟨fun hh => hh.imp id And.right, fun hh => hh.imp id fun hb => ⟨Nat.zero_le x, hb⟩⟩
  obtain ⟨rd2, mkd2, lr2, mk2, d1, d2, d3⟩ := mk_both (ki := ki) (fi := fi) (ke := ke) (va := va) (w := w6) c3.1 c3.2.2.1 c3.2.2.2.1 (-9) 0 hU9 (s := q ||| (fin &&& (mkd1 ^^^ (-1)))) (start := st') (fun b hb => by rw [bit_or, a6 b hb, F2 b hb]; rfl) hs rd1 mk1
  have d3 : MK fi ke va 0 (q ||| (fin &&& (mkd1 ^^^ (-1)))) rd2 mkd2 mk2 := d3
  obtain ⟨ke3, va3, qu3, nsz3, w10, e1, e2, e3, e4⟩ := dr_loop d3.2.1 400 0 ke va qu2 nsz2 w6 (by decide) (by decide) c3
  obtain ⟨ta4, qu4, nsz4, w12, f1, f2, f3, f4⟩ := ew_loop d3.2.1 0 400 0 ta1 qu3 nsz3 w10 (by decide) (by decide) e3
  obtain ⟨q17, g1, g2⟩ := al_eq ki
  have g3 : ∀ b, 24 ≤ b → bit q17 b = false := fun b hb => bf fun hh => by have := ((g2 b).mp hh).1; omega
  obtain ⟨G1, G2⟩ := df_bits (x := q17) (y := mkd2) g3
  obtain ⟨ki5, fi5, ke5, va5, ta5, w14, k1, k2, k3, k4⟩ := fr_loop d3.2.1 ki (fin &&& ((fin &&& (mkd1 ^^^ (-1))) ^^^ (-1))) (q17 &&& (mkd2 ^^^ (-1))) (fun x hx => (G1 x).trans ⟨fun hh => ⟨((g2 x).mp hh.1).2, hh.2⟩, fun hh => ⟨(g2 x).mpr ⟨hx, hh.1⟩, hh.2⟩⟩) f3.2.1.2 400 0 ki fi ke3 va3 ta4 _ w12 (by decide) (by decide) f3 (fun _ _ _ => rfl) (fun b => by simp)
  have b1 : M_X3_emptyWeakReferences 400 ta qu nsz mkd1 1 = some (ta1, qu1, nsz1) := b1
  have b2 : M_X5_emptyWeak 400 (upd w 387 lr1) mk1 1 = some w4 := b2
  have c1 : M_X3_finalizeObjects 400 qu1 nsz1 fin (fin &&& (mkd1 ^^^ (-1))) = some (qu2, nsz2, fin &&& ((fin &&& (mkd1 ^^^ (-1))) ^^^ (-1))) := c1
  have c2 : M_X5_finalizeAll 400 w4 mk1 st = some (w6, st') := c2
  have e1 : M_X3_removeEntriesWithoutKey 400 ke va qu2 nsz2 mkd2 = some (ke3, va3, qu3, nsz3) := e1
  have e2 : M_X5_dropEntries 400 w6 mk2 = some w10 := e2
  have f1 : M_X3_emptyWeakReferences 400 ta1 qu3 nsz3 mkd2 0 = some (ta4, qu4, nsz4) := f1
  have f2 : M_X5_emptyWeak 400 w10 mk2 0 = some w12 := f2
  have k1 : M_X3_free 400 ki fi ke3 va3 ta4 (fin &&& ((fin &&& (mkd1 ^^^ (-1))) ^^^ (-1))) (q17 &&& (mkd2 ^^^ (-1))) = some (ki5, fi5, ke5, va5, ta5, _) := k1
  have k2 : M_X5_free 400 w12 mk2 = some (nI (fb_ct (bit (q17 &&& (mkd2 ^^^ (-1)))) 24), w14) := k2
  refine ⟨q, rd1, mkd1, lr1, mk1, ta1, qu1, nsz1, qu2, nsz2, _, rd2, mkd2, lr2, ke3, va3, qu3, nsz3, ta4, qu4, nsz4, q17, ki5, fi5, ke5, va5, ta5, _, _, w14, mk2, st', a1, ?_, b1, c1, ?_, e1, f1, g1, k1, bc_ct _ G2, ?_, k3, fun j hj => ?_, a4, d3⟩
  · rw [M_X4_markFromRoots, a1, Option.bind_some, a2, Option.bind_some]
  · rw [M_X4_markFromRootsAnd, a1, Option.bind_some, d1, Option.bind_some]
  · have hg : ∀ (X : Option (Int32 × (Nat → Int32) × (Nat → Int32) × (Nat → Int32))), gd 387 3880 X = X := fun X => gd_e (i := 387) 387 rfl (by decide) (by decide)
    rw [M_X5_collectNow, a3, Option.bind_some, hg]
    show (M_X5_emptyWeak 400 (upd w 387 lr1) mk1 1).bind _ = _
    rw [b2, Option.bind_some]
    show (M_X5_finalizeAll 400 w4 mk1 st).bind _ = _
    rw [c2, Option.bind_some]
    show (M_X5_marks 400 w6 mk1 st' (-9)).bind _ = _
    rw [d2, Option.bind_some]
    show (M_X5_dropEntries 400 w6 mk2).bind _ = _
    rw [e2, Option.bind_some]
    show (M_X5_emptyWeak 400 w10 mk2 0).bind _ = _
    rw [f2, Option.bind_some]
    show (M_X5_free 400 w12 mk2).bind _ = _
    rw [k2, Option.bind_some]
  · rw [k4 j hj, f4 j hj, e4 j hj, c4 j hj, b4 j hj, pk_un (by omega)]
theorem step_collect (ki : Nat → Int32) (fi : Nat → Int32) (ke : Nat → Int32) (va : Nat → Int32) (ta : Nat → Int32) (ro : Nat → Int32) (qu : Nat → Int32) (nsz : Int32) (fin : Int32) (rnd : Int32) (rd : Nat → Int32) (mkd : Int32) (lr : Int32) (un : Int32) (nx : Int32) (dp : Int32) (rv : Nat → Option SV) (w : Nat → Int32) (dep : Int32) (kept : Nat → Int32) (mark : Nat → Int32) (start : Nat → Int32) (h : Rel (pkS ki fi ke va ta ro qu nsz fin rnd) nx dp rv w dep kept) : ∃ (qa : Int32 × (Nat → Int32) × (Nat → Int32) × (Nat → Int32) × (Nat → Int32) × (Nat → Int32) × (Nat → Int32) × Int32 × Int32 × Int32 × (Nat → Int32) × Int32 × Int32 × Int32 × Int32 × Int32 × (Nat → Option SV)) (qb : Int32 × (Nat → Int32) × Int32 × (Nat → Int32) × (Nat → Int32)), M_X4_collect 400 ki fi ke va ta ro qu nsz fin rnd rd nx dp rv = some qa ∧ M_X5_collect 400 w dep mark start = some qb ∧ qa.1 = qb.1 ∧ Rel (pkS qa.2.1 qa.2.2.1 qa.2.2.2.1 qa.2.2.2.2.1 qa.2.2.2.2.2.1 ro qa.2.2.2.2.2.2.1 qa.2.2.2.2.2.2.2.1 qa.2.2.2.2.2.2.2.2.1 qa.2.2.2.2.2.2.2.2.2.1) qa.2.2.2.2.2.2.2.2.2.2.2.2.2.2.1 qa.2.2.2.2.2.2.2.2.2.2.2.2.2.2.2.1 qa.2.2.2.2.2.2.2.2.2.2.2.2.2.2.2.2 qb.2.1 qb.2.2.1 kept := by
  obtain ⟨pa, pb, hpa, hpb, hh1, hh2, hrow⟩ := save_both h
  have hrs1 : RS (pkS ki fi ke va ta ro qu nsz fin rnd) pb.1 := h.rs.cong (SVe.rfl' _) hrow
  obtain ⟨q, rd1, mkd1, lr1, mk1, ta1, qu1, nsz1, qu2, nsz2, fin2, rd2, mkd2, lr2, ke3, va3, qu3, nsz3, ta4, qu4, nsz4, q17, ki5, fi5, ke5, va5, ta5, fin5, c, w', mk', st', a0, a1, a2, a3, a4, a5, a6, a7, a8, a9, a10, a11, a12, a13, a14⟩ := cn_both hrs1 rd mark start
  refine ⟨(c, ki5, fi5, ke5, va5, ta5, qu4, nsz4, fin5, lr1, rd2, mkd2, lr2, 0, pa.2.1, pa.2.2, pa.1), (c, w', pb.2, mk', st'), ?_, ?_, rfl, ?_⟩
  · rw [M_X4_collect, hpa, Option.bind_some, a1, Option.bind_some]
    show (M_X3_emptyWeakReferences 400 ta qu nsz mkd1 1).bind _ = _
    rw [a2, Option.bind_some]
    show (M_X3_finalizeObjects 400 qu1 nsz1 fin (fin &&& (mkd1 ^^^ (-1)))).bind _ = _
    rw [a3, Option.bind_some]
    show (M_X4_markFromRootsAnd 400 fi ke va ro rd1 (fin &&& (mkd1 ^^^ (-1)))).bind _ = _
    rw [a4, Option.bind_some]
    show (M_X3_removeEntriesWithoutKey 400 ke va qu2 nsz2 mkd2).bind _ = _
    rw [a5, Option.bind_some]
    show (M_X3_emptyWeakReferences 400 ta1 qu3 nsz3 mkd2 0).bind _ = _
    rw [a6, Option.bind_some, a7, Option.bind_some]
    show (M_X3_free 400 ki fi ke3 va3 ta4 fin2 (q17 &&& (mkd2 ^^^ (-1)))).bind _ = _
    rw [a8, Option.bind_some]
    show (M_J6_bitCount_0f7a4 (q17 &&& (mkd2 ^^^ (-1)))).bind _ = _
    rw [a9, Option.bind_some]
  · rw [M_X5_collect, hpb, Option.bind_some, a10, Option.bind_some]
  · exact fw hh1 hh2 (fun j h1 h2 => a12 j (by omega)) a11
theorem step_wouldFree (ki : Nat → Int32) (fi : Nat → Int32) (ke : Nat → Int32) (va : Nat → Int32) (ta : Nat → Int32) (ro : Nat → Int32) (qu : Nat → Int32) (nsz : Int32) (fin : Int32) (rnd : Int32) (rd : Nat → Int32) (mkd : Int32) (lr : Int32) (un : Int32) (nx : Int32) (dp : Int32) (rv : Nat → Option SV) (w : Nat → Int32) (dep : Int32) (kept : Nat → Int32) (mark : Nat → Int32) (start : Nat → Int32) (h : Rel (pkS ki fi ke va ta ro qu nsz fin rnd) nx dp rv w dep kept) : ∃ (qa : Int32 × (Nat → Int32) × Int32 × Int32 × Int32) (qb : Int32 × (Nat → Int32) × (Nat → Int32) × (Nat → Int32)), M_X4_wouldFree 400 ki fi ke va ro fin rd = some qa ∧ M_X5_wouldFree 400 w mark start = some qb ∧ qa.1 = qb.1 ∧ Rel (pkS ki fi ke va ta ro qu nsz fin rnd) nx dp rv qb.2.1 dep kept := by
  have hrs := h.rs
  have hf24 : ∀ b, 24 ≤ b → bit fin b = false := hrs.2.1.2
  have hc1 : ∀ j, j < 388 → cps w 0 1 388 j = w j := fun j hj => by
    have := cps_out (w := w) (f := 0) (t := 1) (r := 0) (by decide) hj
    rwa [Nat.mul_zero, Nat.zero_add] at this
  have hrs1 : RS (pkS ki fi ke va ta ro qu nsz fin rnd) (cps w 0 1 388) := hrs.cong (SVe.rfl' _) hc1
  obtain ⟨q, rd1, mkd1, lr1, mk1, ta1, qu1, nsz1, qu2, nsz2, fin2, rd2, mkd2, lr2, ke3, va3, qu3, nsz3, ta4, qu4, nsz4, q17, ki5, fi5, ke5, va5, ta5, fin5, c, w', mk', st', a0, a1, a2, a3, a4, a5, a6, a7, a8, a9, a10, a11, a12, a13, a14⟩ := cn_both hrs1 rd mark start
  obtain ⟨q', q1, q2⟩ := ro_eq ro
  have eq : q' = q := Option.some.inj (q1.symm.trans a0)
  subst eq
  obtain ⟨rd3, mkd3, lr3, mk3, b1, b2, b3⟩ := mk_both (ki := ki) (fi := fi) (ke := ke) (va := va) (w := w) hrs.1 hrs.2.2.1 hrs.2.2.2.1 (-9) 0 hU9 (s := q' ||| fin) (start := fun x => if bit (q' ||| fin) x then 1 else 0) (fun b hb => by
    rw [bit_or, hf24 b hb, Bool.or_false]
    exact bf fun hh => by have := ((q2 b).mp hh).1; omega) (fun x hx => by
    cases bit (q' ||| fin) x
    · exact ⟨fun hh => absurd rfl hh, fun hh => by cases hh⟩
    · exact ⟨fun _ => rfl, fun _ => i10⟩) rd mark
  have b3 : MK fi ke va 0 (q' ||| fin) rd3 mkd3 mk3 := b3
  obtain ⟨F1, F2⟩ := df_bits (x := fin) (y := mkd1) hf24
  have s12 : ∀ b, bit mkd1 b = true → bit mkd2 b = true := a13.2.2.2.2.2.2 (fun b => bit mkd2 b = true) (fun b hb _ => a14.2.2.2.1 b (by rw [bit_or, hb]; rfl) (bit_0 b)) a14.2.2.2.2.1 a14.2.2.2.2.2.1
  have s32 : ∀ b, bit mkd3 b = true → bit mkd2 b = true := b3.2.2.2.2.2.2 (fun b => bit mkd2 b = true) (fun b hb _ => by
    rw [bit_or, Bool.or_eq_true] at hb
    rcases hb with hb | hb
    · exact a14.2.2.2.1 b (by rw [bit_or, hb]; rfl) (bit_0 b)
    · by_cases hm : bit mkd1 b = true
      · exact s12 b hm
      · exact a14.2.2.2.1 b (by rw [bit_or, (F1 b).mpr ⟨hb, bf hm⟩, Bool.or_true]) (bit_0 b)) a14.2.2.2.2.1 a14.2.2.2.2.2.1
  have s23 : ∀ b, bit mkd2 b = true → bit mkd3 b = true := a14.2.2.2.2.2.2 (fun b => bit mkd3 b = true) (fun b hb _ => by
    rw [bit_or, Bool.or_eq_true] at hb
    refine b3.2.2.2.1 b ?_ (bit_0 b)
    rw [bit_or, Bool.or_eq_true]
    exact hb.imp id fun hh => ((F1 b).mp hh).1) b3.2.2.2.2.1 b3.2.2.2.2.2.1
  have e32 : mkd3 = mkd2 := bit_ext fun b _ => by
    by_cases h2 : bit mkd2 b = true
    · rw [h2, s23 b h2]
    · rw [bf h2, bf fun hh => h2 (s32 b hh)]
  subst e32
  refine ⟨(c, rd3, mkd3, lr3, 0), (c, cps w' 1 0 388, mk', st'), ?_, ?_, rfl, ?_⟩
  · rw [M_X4_wouldFree, M_X4_markFromRootsAnd, q1, Option.bind_some, b1, Option.bind_some, Option.bind_some, a7, Option.bind_some]
    show (M_J6_bitCount_0f7a4 (q17 &&& (mkd3 ^^^ (-1)))).bind _ = _
    rw [a9, Option.bind_some]
  · rw [M_X5_wouldFree, cps_eq w (a := 0) (b := 1) (f := 0) (t := 1) rfl rfl (by decide) (by decide) (by decide), Option.bind_some, a10, Option.bind_some]
    show (M_X5_copyState 400 w' 1 0).bind _ = _
    rw [cps_eq w' (a := 1) (b := 0) (f := 1) (t := 0) rfl rfl (by decide) (by decide) (by decide), Option.bind_some]
  · have hrow : ∀ r j, 2 ≤ r → j < 388 → cps w' 1 0 388 (388 * r + j) = w (388 * r + j) := fun r j hr hj => by
      rw [cps_out (by omega) hj, a12 _ (by omega), cps_out (by omega) hj]
    refine Rel.mk (hrs.cong (SVe.rfl' _) fun j hj => ?_) ?_ ?_
    · have e1 := cps_in (w := w') (f := 1) (t := 0) hj
      rw [Nat.mul_zero, Nat.zero_add] at e1
      have e2 := cps_in (w := w) (f := 0) (t := 1) hj
      rw [Nat.mul_zero, Nat.zero_add] at e2
      show cps w' 1 0 388 j = w j
      rw [e1, a12 _ (by omega), e2]
    · obtain ⟨n, d, c1, c2, c3, c4, c5, hist⟩ := h.2.1
      refine ⟨n, d, c1, c2, c3, c4, c5, fun t ht => ?_⟩
      obtain ⟨v, e1, e2⟩ := hist t ht
      exact ⟨v, e1, e2.cong (SVe.rfl' v) fun j hj => hrow _ j (by omega) hj⟩
    · intro i hi
      rcases h.2.2 i hi with h1 | ⟨h1, v, h2, h3⟩
      · exact Or.inl h1
      · exact Or.inr ⟨h1, v, h2, h3.cong (SVe.rfl' v) fun j hj => hrow _ j (by omega) hj⟩
