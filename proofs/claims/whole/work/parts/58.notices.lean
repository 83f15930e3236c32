/-! finalizable, tables, the saved states -/
theorem fn_loop {ki w : Nat → Int32} {f : Int32} (h : RKi ki w) (hf : RFn ki f w) (d : Int32) : ∀ (k i : Nat), i ≤ 24 → 24 - i < k → M_X5_setFinalizable_L53 w d k (nI (fb_ct (bit f) i)) (nI i) = some (nI (fb_ct (bit f) 24), w, d) := by
  intro k
  induction k with
  | zero => intro i h1 h2; omega
  | succ k ih =>
    intro i h1 h2
    rw [M_X5_setFinalizable_L53]
    by_cases hi : i = 24
    · subst hi
      rw [if_pos (show (24 : Int32) ≤ nI 24 from nI_le (Nat.le_refl _) (by decide))]
    · have hlt : i < 24 := by omega
      have := ih (i + 1) (by omega) (by omega)
      rw [fb_ct_succ] at this
      rw [if_neg (show ¬ (24 : Int32) ≤ nI i from nI_ge hlt (by decide)), bAl_in w hlt, (h i hlt).1, Option.bind_some, nI_1]
      by_cases h9 : ki i = -9
      · rw [if_pos h9, if_pos rfl, l0, nI_add]
        have hb : bit f i = false := by
          cases hb : bit f i
          · rfl
          · exact absurd h9 ((hf.1 i hlt).2 hb)
        simpa [hb] using this
      · rw [if_neg h9, if_neg i10, bPt w l1 (by omega), Option.bind_some, (hf.1 i hlt).1]
        cases hb : bit f i
        · rw [if_neg (by decide), l0, nI_add]
          simpa [hb] using this
        · rw [if_pos rfl, nI_1]
          simpa [hb] using this
theorem w_fin {ki fi ke va ta ro qu : Nat → Int32} {nsz fin rnd nx dp : Int32} {rv : Nat → Option SV} {w : Nat → Int32} {dep : Int32} {kept : Nat → Int32} (h : Rel (pkS ki fi ke va ta ro qu nsz fin rnd) nx dp rv w dep kept) {x : Nat} (hx : x < 24) (h9 : ki x ≠ -9) (b : Bool) (hb : bit fin x = !b) : ∃ (qa : Int32 × Int32 × Int32 × Int32 × (Nat → Option SV)) (qb : Int32 × (Nat → Int32) × Int32), ((M_X0_push rv nx dp (pkS ki fi ke va ta ro qu nsz fin rnd)).bind fun q9 => (M_X4_setOf (nI x)).bind fun q13 => (M_J6_bitCount_0f7a4 (fin ^^^ q13)).bind fun q15 => some (q15, (fin ^^^ q13), q9.2.1, q9.2.2, q9.1)) = some qa ∧ ((M_X5_saveState 400 w dep).bind fun q10 => gd ((15 * nI x) + 1) 3880 (M_X5_setFinalizable_L53 (upd q10.1 ((15 * nI x) + 1).toNatClampNeg (if b then 1 else 0)) q10.2 400 0 0)) = some qb ∧ qa.1 = qb.1 ∧ Rel (pkS ki fi ke va ta ro qu nsz qa.2.1 rnd) qa.2.2.1 qa.2.2.2.1 qa.2.2.2.2 qb.2.1 qb.2.2 kept := by
  obtain ⟨pa, pb, hpa, hpb, hh1, hh2, hrow⟩ := save_both h
  have hrs := h.rs
  have hrs1 := hrs.cong (SVe.rfl' _) hrow
  obtain ⟨s, s1, s2⟩ := sO (nI x)
  have hbit : ∀ i, bit (fin ^^^ s) i = if i = x then b else bit fin i := by
    intro i
    rw [bit_xor]
    by_cases e : i = x
    · subst e
      rw [(s2 i).mpr ⟨hx, rfl⟩, hb, if_pos rfl]
      cases b <;> rfl
    · have : bit s i = false := by
        cases hs : bit s i
        · rfl
        · obtain ⟨h1, h2⟩ := (s2 i).mp hs
          exact absurd ((nI_eq (by omega) (by omega)).mp h2).symm e
      rw [this, if_neg e]
      cases bit fin i <;> rfl
  have hrs2 := hrs1.fin hx h9 hbit
  have e1 : (15 * nI x + 1 : Int32) = nI (15 * x + 1) := by rw [l15, l1, pk_mul, nI_add]
  have hcount := bc_ct (fin ^^^ s) hrs2.2.1.2
  rw [hpa, hpb, s1, Option.bind_some, Option.bind_some, Option.bind_some, hcount, Option.bind_some, e1, gd_in (by omega) (by decide), cl (by omega)]
  have hl := fn_loop hrs2.1 hrs2.2.1 pb.2 400 0 (by omega) (by omega)
  refine ⟨_, _, rfl, hl, rfl, ?_⟩
  exact fw hh1 hh2 (fun j h1 h2 => pk_un (by omega)) hrs2
theorem TB.put {ke va : Nat → Int32} {x n j y z m : Nat} (ht : TB ke va x n) (hj : j ≤ n) (hj6 : j < 6) (hy : y < 24) (hz : z < 24) (hd : ∀ l, l < n → l ≠ j → ke (6 * x + l) ≠ nI y) (hm : m = n ∧ j < n ∨ m = n + 1 ∧ j = n) : TB (upd ke (6 * x + j) (nI y)) (upd va (6 * x + j) (nI z)) x m := by
  obtain ⟨t0, t1, t2, t3⟩ := ht
  refine ⟨by omega, fun l hl => ?_, fun l hl hl6 => ?_, fun i l hi hl => ?_⟩
  · by_cases e : l = j
    · subst e; rw [pk_us, pk_us]; exact ⟨⟨y, hy, rfl⟩, ⟨z, hz, rfl⟩⟩
    · rw [pk_un (by omega), pk_un (by omega)]; exact t1 l (by omega)
  · rw [pk_un (by omega), pk_un (by omega)]; exact t2 l (by omega) hl6
  · by_cases e : i = j
    · by_cases e2 : l = j
      · intro _; omega
      · subst e
        rw [pk_us, pk_un (by omega)]
        intro hh
        exact absurd hh.symm (hd l (by omega) e2)
    · by_cases e2 : l = j
      · subst e2
        rw [pk_us, pk_un (by omega)]
        intro hh
        exact absurd hh (hd i (by omega) e)
      · rw [pk_un (by omega), pk_un (by omega)]
        exact t3 i l (by omega) (by omega)
theorem step_setFinalizable (ki : Nat → Int32) (fi : Nat → Int32) (ke : Nat → Int32) (va : Nat → Int32) (ta : Nat → Int32) (ro : Nat → Int32) (qu : Nat → Int32) (nsz : Int32) (fin : Int32) (rnd : Int32) (rd : Nat → Int32) (mkd : Int32) (lr : Int32) (un : Int32) (nx : Int32) (dp : Int32) (rv : Nat → Option SV) (w : Nat → Int32) (dep : Int32) (kept : Nat → Int32) (mark : Nat → Int32) (start : Nat → Int32) (p1 : Int32) (p2 : Int32) (h : Rel (pkS ki fi ke va ta ro qu nsz fin rnd) nx dp rv w dep kept) : ∃ (qa : Int32 × Int32 × Int32 × Int32 × (Nat → Option SV)) (qb : Int32 × (Nat → Int32) × Int32), M_X4_setFinalizable ki fi ke va ta ro qu nsz fin rnd nx dp rv p1 p2 = some qa ∧ M_X5_setFinalizable 400 w dep p1 p2 = some qb ∧ qa.1 = qb.1 ∧ Rel (pkS ki fi ke va ta ro qu nsz qa.2.1 rnd) qa.2.2.1 qa.2.2.2.1 qa.2.2.2.2 qb.2.1 qb.2.2 kept := by
  have hrs := h.rs
  have hki : RKi ki w := hrs.1
  have hfn : RFn ki fin w := hrs.2.1
  rw [M_X4_setFinalizable, M_X5_setFinalizable]
  rcases cls p1 (n := 24) (by decide) with ho | ⟨x, hx, rfl⟩
  · rw [aAl_out ki ho, bAl_out w ho]
    exact ⟨_, _, rfl, rfl, rfl, h⟩
  · rw [aAl_in ki hx, bAl_in w hx, (hki x hx).1, Option.bind_some, Option.bind_some]
    by_cases h9 : ki x = -9
    · rw [if_pos h9]
      exact ⟨_, _, rfl, rfl, rfl, h⟩
    · rw [if_neg h9, if_neg i10, if_neg i10]
      rcases cls p2 (n := 2) (by decide) with ho | ⟨b, hb, rfl⟩
      · have n0 : ¬ p2 = 0 := by
          rintro rfl
          rcases ho with ho | ho
          · exact absurd ho (by decide)
          · exact absurd ho (by decide)
        have n1 : ¬ p2 = 1 := by
          rintro rfl
          rcases ho with ho | ho
          · exact absurd ho (by decide)
          · exact absurd ho (by decide)
        rw [wB_out l1 (by decide) ho, if_neg n0, if_neg n1]
        exact ⟨_, _, rfl, rfl, rfl, h⟩
      · rw [wB_in l1 (by omega) (by decide), Option.bind_some, if_neg i10, bPt w l1 (by omega), Option.bind_some, (hfn.1 x hx).1, ctn_in fin hx, Option.bind_some]
        rcases (show b = 0 ∨ b = 1 by omega) with rfl | rfl
        · rw [if_pos (show nI 0 = 0 from rfl), if_neg (show ¬ nI 0 = 1 by decide)]
          cases hbit : bit fin x
          · exact ⟨_, _, rfl, rfl, rfl, h⟩
          · have := w_fin h hx h9 false (by rw [hbit]; rfl)
            exact this
        · rw [if_neg (show ¬ nI 1 = 0 by decide), if_pos (show nI 1 = 1 from rfl), if_pos (show nI 1 = 1 from rfl)]
          cases hbit : bit fin x
          · have := w_fin h hx h9 true (by rw [hbit]; rfl)
            exact this
          · exact ⟨_, _, rfl, rfl, rfl, h⟩
theorem step_put (ki : Nat → Int32) (fi : Nat → Int32) (ke : Nat → Int32) (va : Nat → Int32) (ta : Nat → Int32) (ro : Nat → Int32) (qu : Nat → Int32) (nsz : Int32) (fin : Int32) (rnd : Int32) (rd : Nat → Int32) (mkd : Int32) (lr : Int32) (un : Int32) (nx : Int32) (dp : Int32) (rv : Nat → Option SV) (w : Nat → Int32) (dep : Int32) (kept : Nat → Int32) (mark : Nat → Int32) (start : Nat → Int32) (p1 : Int32) (p2 : Int32) (p3 : Int32) (h : Rel (pkS ki fi ke va ta ro qu nsz fin rnd) nx dp rv w dep kept) : ∃ (qa : Int32 × (Nat → Int32) × (Nat → Int32) × Int32 × Int32 × (Nat → Option SV)) (qb : Int32 × (Nat → Int32) × Int32), M_X4_put 400 ki fi ke va ta ro qu nsz fin rnd nx dp rv p1 p2 p3 = some qa ∧ M_X5_put 400 w dep p1 p2 p3 = some qb ∧ qa.1 = qb.1 ∧ Rel (pkS ki fi qa.2.1 qa.2.2.1 ta ro qu nsz fin rnd) qa.2.2.2.1 qa.2.2.2.2.1 qa.2.2.2.2.2 qb.2.1 qb.2.2 kept := by
  have hrs := h.rs
  have hki : RKi ki w := hrs.1
  have htb : RTb ki ke va w := hrs.2.2.2.1
  rw [M_X4_put, M_X5_put]
  rcases cls p1 (n := 24) (by decide) with ho | ⟨x, hx, rfl⟩
  · rw [aTK_o1 ki ho, bKd_out w ho]
    exact ⟨_, _, rfl, rfl, rfl, h⟩
  · rw [bKd_in w hx (by decide), (hki x hx).1, Option.bind_some]
    rcases cls p2 (n := 24) (by decide) with ho | ⟨y, hy, rfl⟩
    · rw [aTK_o2 ki hx ho, bAl_out w ho]
      by_cases h1 : ki x = 1
      · rw [if_pos h1, if_neg i10]
        exact ⟨_, _, rfl, rfl, rfl, h⟩
      · rw [if_neg h1]
        exact ⟨_, _, rfl, rfl, rfl, h⟩
    · rw [aTK_in ki hx hy, bAl_in w hy, (hki y hy).1, Option.bind_some, Option.bind_some]
      by_cases h1 : ki x = 1
      · by_cases hy9 : ki y = -9
        · rw [if_neg (show ¬ (ki x = 1 ∧ ki y ≠ -9) from fun hh => hh.2 hy9), if_pos h1, if_neg i10, if_pos hy9]
          exact ⟨_, _, rfl, rfl, rfl, h⟩
        · rw [if_pos (show ki x = 1 ∧ ki y ≠ -9 from ⟨h1, hy9⟩), if_neg i10, if_pos h1, if_neg i10, if_neg hy9, if_neg i10]
          rcases cls p3 (n := 24) (by decide) with ho | ⟨z, hz, rfl⟩
          · rw [aAl_out ki ho, bAl_out w ho]
            exact ⟨_, _, rfl, rfl, rfl, h⟩
          · rw [aAl_in ki hz, bAl_in w hz, (hki z hz).1, Option.bind_some, Option.bind_some]
            by_cases hz9 : ki z = -9
            · rw [if_pos hz9]
              exact ⟨_, _, rfl, rfl, rfl, h⟩
            · rw [if_neg hz9, if_neg i10, if_neg i10]
              obtain ⟨⟨n, hc, ht⟩, hu⟩ := (htb x hx).2 h1
              have hn := ht.1
              obtain ⟨pa, pb, hpa, hpb, hh1, hh2, hrow⟩ := save_both h
              have hrs1 : RS (pkS ki fi ke va ta ro qu nsz fin rnd) pb.1 := hrs.cong (SVe.rfl' _) hrow
              have hc1 : pb.1 (15 * x + 2) = nI n := by rw [hrow _ (by omega)]; exact hc
              have hu1 : ∀ j, j < 6 → pb.1 (15 * x + 3 + j) = ke (6 * x + j) ∧ pb.1 (15 * x + 9 + j) = va (6 * x + j) := fun j hj => by rw [hrow _ (by omega), hrow _ (by omega)]; exact hu j hj
              rcases pl_both hx hc ht hu hy with ⟨j, b1, b2, b3, b4, b5⟩ | ⟨b1, b2, b3⟩
              · rw [b4, b5, Option.bind_some, Option.bind_some, if_neg (n9 (by omega)), if_neg (n9 (by omega)), if_neg (n9 (by omega)), hpa, hpb, Option.bind_some, Option.bind_some, if_neg (n9 (by omega)), bPt pb.1 (k := 9 + nI j) (n := 9 + j) (by rw [l9, nI_add]) (by omega), Option.bind_some]
                rw [l15, l3, l9, pk_mul, nI_add, nI_add, nI_add, nI_add, gd_in (by omega) (by decide), gd_in (by omega) (by decide), gd_in (by omega) (by decide), gd_in (by omega) (by decide), gd_in (by omega) (by decide), cl (by omega), cl (by omega), cl (by omega)]
                refine ⟨_, _, rfl, rfl, ?_, ?_⟩
                · show va (6 * x + j) = pb.1 (15 * x + (9 + j))
                  rw [← Nat.add_assoc, (hu1 j (by omega)).2]
                · dsimp only
                  refine fw hh1 hh2 (fun l h1 h2 => ?_) (hrs1.tab hx h1 (n := n) (fun u l hu hne hl => ?_) (fun l hl hr => ?_) ?_ (ht.put (j := j) (y := y) (z := z) (by omega) (by omega) hy hz (fun l h1 h2 e => ?_) (Or.inl ⟨rfl, b1⟩)) (fun l hl => ?_))
                  · rw [pk_un (by omega), pk_un (by omega)]
                  · rw [pk_un (by omega), pk_un (by omega)]; exact ⟨rfl, rfl⟩
                  · rw [pk_un (by omega), pk_un (by omega)]
                  · rw [pk_un (by omega), pk_un (by omega)]; exact hc1
                  · exact h2 (ht.2.2.2 l j h1 b1 (e.trans b2.symm))
                  · by_cases e : l = j
                    · subst e; rw [pk_us, pk_us, pk_us, pk_un (by omega), pk_us]; exact ⟨rfl, rfl⟩
                    · rw [pk_un (by omega), pk_un (by omega), pk_un (by omega), pk_un (by omega), pk_un (by omega), pk_un (by omega)]; exact hu1 l hl
              · rw [b2, b3, Option.bind_some, Option.bind_some, if_pos rfl, if_pos rfl, pl_9 hx ht, Option.bind_some, bPt w l2 (by omega), Option.bind_some, hc]
                by_cases h6 : n < 6
                · rw [if_pos h6, if_neg (n9 (by omega)), if_neg (show ¬ nI n = 6 from fun e => by have := (nI_eq (b := 6) (by omega) (by decide)).mp e; omega), hpa, hpb, Option.bind_some, Option.bind_some, if_pos rfl, bPt pb.1 l2 (by omega), Option.bind_some]
                  have e2 : (15 * nI x + 2 : Int32) = nI (15 * x + 2) := by rw [l15, l2, pk_mul, nI_add]
                  have e3 : (15 * nI x + 3 + nI n : Int32) = nI (15 * x + 3 + n) := by rw [l15, l3, pk_mul, nI_add, nI_add]
                  have e9 : (15 * nI x + 9 + nI n : Int32) = nI (15 * x + 9 + n) := by rw [l15, l9, pk_mul, nI_add, nI_add]
                  rw [hc1, e2, e3, e9, gd_in (by omega) (by decide), gd_in (by omega) (by decide), gd_in (by omega) (by decide), gd_in (by omega) (by decide), gd_in (by omega) (by decide), cl (by omega), cl (by omega), hc1, nI_1]
                  rw [bPt _ (k := 9 + nI n) (n := 9 + n) (by rw [l9, nI_add]) (by omega), Option.bind_some, gd_in (by omega) (by decide), gd_in (by omega) (by decide), cl (by omega), cl (by omega)]
                  refine ⟨_, _, rfl, rfl, ?_, ?_⟩
                  · show va (6 * x + n) = upd pb.1 (15 * x + 2) (nI (n + 1)) (15 * x + (9 + n))
                    rw [pk_un (by omega), ← Nat.add_assoc, (hu1 n h6).2]
                  · dsimp only
                    refine fw hh1 hh2 (fun l h1 h2 => ?_) (hrs1.tab hx h1 (n := n + 1) (fun u l hu hne hl => ?_) (fun l hl hr => ?_) ?_ (ht.put (j := n) (y := y) (z := z) (by omega) (by omega) hy hz (fun l h1 h2 e => ?_) (Or.inr ⟨rfl, rfl⟩)) (fun l hl => ?_))
                    · rw [pk_un (by omega), pk_un (by omega), pk_un (by omega)]
                    · rw [pk_un (by omega), pk_un (by omega)]; exact ⟨rfl, rfl⟩
                    · rw [pk_un (by omega), pk_un (by omega), pk_un (by omega)]
                    · rw [pk_un (by omega), pk_un (by omega), pk_us]
                    · exact b1 l (by omega) e
                    · by_cases e : l = n
                      · subst e; rw [pk_us, pk_us, pk_us, pk_un (by omega), pk_us]; exact ⟨rfl, rfl⟩
                      · rw [pk_un (by omega), pk_un (by omega), pk_un (by omega), pk_un (by omega), pk_un (by omega), pk_un (by omega), pk_un (by omega), pk_un (by omega)]; exact hu1 l hl
                · rw [if_neg h6, if_pos rfl, if_pos (show nI n = 6 by rw [show n = 6 by omega]; rfl)]
                  exact ⟨_, _, rfl, rfl, rfl, h⟩
      · rw [if_neg (show ¬ (ki x = 1 ∧ ki y ≠ -9) from fun hh => h1 hh.1), if_neg h1]
        exact ⟨_, _, rfl, rfl, rfl, h⟩
theorem step_undo (ki : Nat → Int32) (fi : Nat → Int32) (ke : Nat → Int32) (va : Nat → Int32) (ta : Nat → Int32) (ro : Nat → Int32) (qu : Nat → Int32) (nsz : Int32) (fin : Int32) (rnd : Int32) (rd : Nat → Int32) (mkd : Int32) (lr : Int32) (un : Int32) (nx : Int32) (dp : Int32) (rv : Nat → Option SV) (w : Nat → Int32) (dep : Int32) (kept : Nat → Int32) (mark : Nat → Int32) (start : Nat → Int32) (h : Rel (pkS ki fi ke va ta ro qu nsz fin rnd) nx dp rv w dep kept) : ∃ (qa : Int32 × (Nat → Int32) × (Nat → Int32) × (Nat → Int32) × (Nat → Int32) × (Nat → Int32) × (Nat → Int32) × (Nat → Int32) × Int32 × Int32 × Int32 × Int32 × Int32) (qb : Int32 × (Nat → Int32) × Int32), M_X4_undo ki fi ke va ta ro qu nsz fin rnd nx dp rv = some qa ∧ M_X5_undo 400 w dep = some qb ∧ qa.1 = qb.1 ∧ Rel (pkS qa.2.1 qa.2.2.1 qa.2.2.2.1 qa.2.2.2.2.1 qa.2.2.2.2.2.1 qa.2.2.2.2.2.2.1 qa.2.2.2.2.2.2.2.1 qa.2.2.2.2.2.2.2.2.1 qa.2.2.2.2.2.2.2.2.2.1 qa.2.2.2.2.2.2.2.2.2.2.1) qa.2.2.2.2.2.2.2.2.2.2.2.1 qa.2.2.2.2.2.2.2.2.2.2.2.2 rv qb.2.1 qb.2.2 kept := by
  obtain ⟨h0, ⟨n, d, hn, hd, rfl, rfl, rfl, hist⟩, hsl⟩ := h
  rw [M_X4_undo, M_X5_undo, M_X0_popInto]
  by_cases d0 : d = 0
  · subst d0
    rw [if_pos (show nI 0 = 0 from rfl), if_pos (show nI 0 = 0 from rfl)]
    exact ⟨_, _, rfl, rfl, rfl, h0, ⟨n, 0, hn, hd, rfl, rfl, rfl, hist⟩, hsl⟩
  · have e0 : ¬ nI d = 0 := fun e => by have := (nI_eq (b := 0) (by omega) (by decide)).mp e; omega
    have e1 : ((nI n + 6) - 1 - ((nI n + 6) - 1) / 6 * 6 : Int32) = nI ((n + 5) % 6) := by
      rw [l6, l1, nI_add, pk_sub (by omega), show n + 6 - 1 = n + 5 by omega]
      exact pk_rem (by omega) (by decide) (by decide)
    have e2 : (nI d - 1 : Int32) = nI (d - 1) := by rw [l1, pk_sub (by omega)]
    obtain ⟨v, hv, hrv⟩ := hist 0 (by omega)
    rw [Nat.sub_zero] at hv
    have hm := Nat.mod_lt (n + 5) (show 0 < 6 by decide)
    rw [if_neg e0, if_neg e0, e1, e2, gd_in hm (by decide), cl (by omega), hv]
    obtain ⟨t, ht, hte⟩ := cpy_ok (pkS ki fi ke va ta ro qu nsz fin rnd) v
    dsimp only
    rw [ht, Option.bind_some, Option.bind_some, cps_eq w (a := 2 + nI (d - 1)) (b := 0) (f := 2 + (d - 1)) (t := 0) (by rw [l2, nI_add]) rfl (by omega) (by decide) (by omega), Option.bind_some]
    refine ⟨_, _, rfl, rfl, rfl, ?_⟩
    dsimp only
    have ho : ∀ r j, r ≠ 0 → j < 388 → cps w (2 + (d - 1)) 0 388 (388 * r + j) = w (388 * r + j) := fun r j hr hj => cps_out hr hj
    refine ⟨?_, ⟨(n + 5) % 6, d - 1, hm, by omega, rfl, rfl, rfl, fun s hs => ?_⟩, fun i hi => ?_⟩
    · refine RS.cong (c := v) (u := rwr w (2 + (d - 1 - 0))) hte (fun j hj => ?_) hrv
      show cps w (2 + (d - 1)) 0 388 (388 * 0 + j) = w (388 * (2 + (d - 1 - 0)) + j)
      rw [cps_in hj, Nat.sub_zero]
    · obtain ⟨u, hu1, hu2⟩ := hist (s + 1) (by omega)
      refine ⟨u, by rw [← hu1]; congr 1; omega, hu2.cong (SVe.rfl' u) fun j hj => ?_⟩
      show cps w (2 + (d - 1)) 0 388 (388 * (2 + (d - 1 - 1 - s)) + j) = w (388 * (2 + (d - 1 - (s + 1))) + j)
      rw [ho _ j (by omega) hj, show d - 1 - 1 - s = d - 1 - (s + 1) by omega]
    · rcases hsl i hi with h1 | ⟨h1, u, h2, h3⟩
      · exact Or.inl h1
      · exact Or.inr ⟨h1, u, h2, h3.cong (SVe.rfl' u) fun j hj => ho _ j (by omega) hj⟩
theorem step_save (ki : Nat → Int32) (fi : Nat → Int32) (ke : Nat → Int32) (va : Nat → Int32) (ta : Nat → Int32) (ro : Nat → Int32) (qu : Nat → Int32) (nsz : Int32) (fin : Int32) (rnd : Int32) (rd : Nat → Int32) (mkd : Int32) (lr : Int32) (un : Int32) (nx : Int32) (dp : Int32) (rv : Nat → Option SV) (w : Nat → Int32) (dep : Int32) (kept : Nat → Int32) (mark : Nat → Int32) (start : Nat → Int32) (p1 : Int32) (h : Rel (pkS ki fi ke va ta ro qu nsz fin rnd) nx dp rv w dep kept) : ∃ (qa : Int32 × (Nat → Option SV)) (qb : Int32 × (Nat → Int32) × (Nat → Int32)), M_X4_save 400 ki fi ke va ta ro qu nsz fin rnd rv p1 = some qa ∧ M_X5_save 400 w kept p1 = some qb ∧ qa.1 = qb.1 ∧ Rel (pkS ki fi ke va ta ro qu nsz fin rnd) nx dp qa.2 qb.2.1 dep qb.2.2 := by
  have hrs := h.rs
  have hki : RKi ki w := hrs.1
  obtain ⟨h0, hhi, hsl⟩ := h
  rw [M_X4_save, M_X5_save]
  rcases cls p1 (n := 2) (by decide) with ho | ⟨i, hi, rfl⟩
  · rw [wA_out l2 ho, wB_out l1 (by decide) ho]
    exact ⟨_, _, rfl, rfl, rfl, h0, hhi, hsl⟩
  · rw [wA_in l2 hi (by decide), wB_in l1 (by omega) (by decide), Option.bind_some, Option.bind_some, if_neg i10, if_neg i10, gd_in hi (by decide), cl (by omega)]
    obtain ⟨t, ht, hte⟩ := cpy_ok ((rv (6 + i)).getD frsh) (pkS ki fi ke va ta ro qu nsz fin rnd)
    have ho : ∀ r j, r ≠ 8 + i → j < 388 → cps w 0 (8 + i) 388 (388 * r + j) = w (388 * r + j) := fun r j hr hj => cps_out hr hj
    have h00 : ∀ j, j < 388 → cps w 0 (8 + i) 388 j = w j := fun j hj => by have := ho 0 j (by omega) hj; rwa [Nat.mul_zero, Nat.zero_add] at this
    have hki' : RKi ki (cps w 0 (8 + i) 388) := fun x hx => by rw [h00 _ (by omega)]; exact hki x hx
    obtain ⟨q, r, c1, c2, c3⟩ := oc_both hki'
    rw [ht, Option.bind_some, c1, Option.bind_some, c2, Option.bind_some, cps_eq w (a := 0) (b := 8 + nI i) (f := 0) (t := 8 + i) rfl (by rw [show (8 : Int32) = nI 8 from rfl, nI_add]) (by decide) (by omega) (by omega), Option.bind_some, gd_in hi (by decide), c3, Option.bind_some]
    refine ⟨_, _, rfl, rfl, rfl, ?_⟩
    dsimp only
    refine Rel.mk (hrs.cong (SVe.rfl' _) h00) ?_ (fun k hk => ?_)
    · obtain ⟨n, d, a1, a2, a3, a4, a5, hist⟩ := hhi
      refine ⟨n, d, a1, a2, a3, a4, a5, fun s hs => ?_⟩
      obtain ⟨u, hu1, hu2⟩ := hist s hs
      refine ⟨u, by rw [up_ne _ _ (by omega)]; exact hu1, hu2.cong (SVe.rfl' u) fun j hj => ho _ j (by omega) hj⟩
    · by_cases e : k = i
      · subst e
        rw [up_self, pk_us]
        refine Or.inr ⟨rfl, _, rfl, hrs.cong hte fun j hj => ?_⟩
        show cps w 0 (8 + k) 388 (388 * (8 + k) + j) = w j
        rw [cps_in hj, Nat.mul_zero, Nat.zero_add]
      · rw [up_ne _ _ (by omega), pk_un e]
        rcases hsl k hk with h1 | ⟨h1, u, h2, h3⟩
        · exact Or.inl h1
        · exact Or.inr ⟨h1, u, h2, h3.cong (SVe.rfl' u) fun j hj => ho _ j (by omega) hj⟩
theorem step_restore (ki : Nat → Int32) (fi : Nat → Int32) (ke : Nat → Int32) (va : Nat → Int32) (ta : Nat → Int32) (ro : Nat → Int32) (qu : Nat → Int32) (nsz : Int32) (fin : Int32) (rnd : Int32) (rd : Nat → Int32) (mkd : Int32) (lr : Int32) (un : Int32) (nx : Int32) (dp : Int32) (rv : Nat → Option SV) (w : Nat → Int32) (dep : Int32) (kept : Nat → Int32) (mark : Nat → Int32) (start : Nat → Int32) (p1 : Int32) (h : Rel (pkS ki fi ke va ta ro qu nsz fin rnd) nx dp rv w dep kept) : ∃ (qa : Int32 × SV × Int32) (qb : Int32 × (Nat → Int32) × Int32), M_X4_restore 400 ki fi ke va ta ro qu nsz fin rnd dp rv p1 = some qa ∧ M_X5_restore 400 w dep kept p1 = some qb ∧ qa.1 = qb.1 ∧ Rel (pkS (qa.2.1.1 0) (qa.2.1.1 1) (qa.2.1.1 2) (qa.2.1.1 3) (qa.2.1.1 4) (qa.2.1.1 5) (qa.2.1.1 6) (qa.2.1.2 0) (qa.2.1.2 1) (qa.2.1.2 2)) nx qa.2.2 rv qb.2.1 qb.2.2 kept := by
  have hrs := h.rs
  obtain ⟨h0, hhi, hsl⟩ := h
  rw [M_X4_restore, M_X5_restore]
  rcases cls p1 (n := 2) (by decide) with ho | ⟨i, hi, rfl⟩
  · rw [wA_out l2 ho, wB_out l1 (by decide) ho]
    exact ⟨_, _, rfl, rfl, rfl, h0, hhi, hsl⟩
  · rw [wA_in l2 hi (by decide), wB_in l1 (by omega) (by decide), Option.bind_some, Option.bind_some, if_neg i10, if_neg i10, gd_in hi (by decide), gd_in hi (by decide), cl (by omega)]
    have hsi := hsl i hi
    rcases hsi with ⟨k0, r0⟩ | ⟨k1, v, r1, hv⟩
    · rw [r0, k0]
      exact ⟨_, _, rfl, rfl, rfl, h0, hhi, hsl⟩
    · rw [r1, k1]
      obtain ⟨t, ht, hte⟩ := cpy_ok (pkS ki fi ke va ta ro qu nsz fin rnd) v
      have ho : ∀ r j, r ≠ 0 → j < 388 → cps w (8 + i) 0 388 (388 * r + j) = w (388 * r + j) := fun r j hr hj => cps_out hr hj
      have hrs' : RS (pk t) (cps w (8 + i) 0 388) := by
        refine RS.cong (c := v) (u := rwr w (8 + i)) hte (fun j hj => ?_) hv
        show cps w (8 + i) 0 388 j = w (388 * (8 + i) + j)
        have := cps_in (w := w) (f := 8 + i) (t := 0) hj
        rwa [Nat.mul_zero, Nat.zero_add] at this
      obtain ⟨q, r, c1, c2, c3⟩ := oc_both hrs'.1
      dsimp only
      rw [ht, Option.bind_some, M_X0_forget, Option.bind_some, c1, Option.bind_some, c2, Option.bind_some, if_neg i10, cps_eq w (a := 8 + nI i) (b := 0) (f := 8 + i) (t := 0) (by rw [show (8 : Int32) = nI 8 from rfl, nI_add]) rfl (by omega) (by decide) (by omega), Option.bind_some, c3, Option.bind_some]
      refine ⟨_, _, rfl, rfl, rfl, ?_⟩
      dsimp only
      refine Rel.mk hrs' ?_ (fun k hk => ?_)
      · obtain ⟨n, d, a1, a2, a3, a4, a5, hist⟩ := hhi
        exact ⟨n, 0, a1, by decide, a3, rfl, rfl, fun s hs => absurd hs (Nat.not_lt_zero s)⟩
      · rcases hsl k hk with h1 | ⟨h1, u, h2, h3⟩
        · exact Or.inl h1
        · exact Or.inr ⟨h1, u, h2, h3.cong (SVe.rfl' u) fun j hj => ho _ j (by omega) hj⟩
