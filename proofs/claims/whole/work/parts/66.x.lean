/-! the steps of a collection -/
theorem RS.wk {ki fi ke va ta ro qu w : Nat → Int32} {nsz fin rnd : Int32} (h : RS (pkS ki fi ke va ta ro qu nsz fin rnd) w) {x : Nat} (hx : x < 24) (h2 : ki x = 2) : RS (pkS ki fi ke va (upd ta x (-9)) ro qu nsz fin rnd) (upd w (15 * x + 3) (-9)) := by
  refine RS.of (fun y hy => ?_) h.2.1.2 (h.2.2.2.2.2.1.cong fun j hj => pk_un (by omega)) (h.2.2.2.2.2.2.1.cong fun j hj => pk_un (by omega)) ((pk_un (by omega)).trans h.2.2.2.2.2.2.2)
  by_cases e : y = x
  · subst e
    obtain ⟨a1, a2, a3, a4, a5⟩ := h.ro hy
    refine ⟨?_, ?_, ⟨a3.1, fun h0 => absurd (h2.symm.trans h0) (by decide)⟩, ⟨a4.1, fun h1 => absurd (h2.symm.trans h1) (by decide)⟩, ?_, fun hh => absurd h2 hh, fun _ j hj => ?_⟩
    · rw [pk_un (by omega)]; exact a1
    · rw [pk_un (by omega)]; exact a2
    · show okv (upd ta y (-9) y)
      rw [pk_us]; exact Or.inl rfl
    · show upd w (15 * y + 3) (-9) (15 * y + 3 + j) = if j = 0 then upd ta y (-9) y else -9
      by_cases ej : j = 0
      · subst ej; rw [if_pos rfl, Nat.add_zero, pk_us, pk_us]
      · have := a5.2.2 h2 j hj
        rw [if_neg ej] at this
        rw [pk_un (by omega), if_neg ej]; exact this
  · refine (h.ro hy).cg rfl rfl (fun _ _ => rfl) (fun _ _ => ⟨rfl, rfl⟩) ?_ (fun j hj => pk_un (by omega))
    show upd ta x (-9) y = ta y
    exact pk_un e
theorem ew_loop {ki fi ke va ro : Nat → Int32} {fin rnd : Int32} {mkd : Int32} {mark : Nat → Int32} (hm : ∀ x, x < 24 → (bit mkd x = true ↔ mark x ≠ -9)) (fl : Int32) : ∀ (k i : Nat) (ta qu : Nat → Int32) (nsz : Int32) (w : Nat → Int32), i ≤ 24 → 24 - i < k → RS (pkS ki fi ke va ta ro qu nsz fin rnd) w → ∃ ta' qu' nsz' w', M_X3_emptyWeakReferences_L2 mkd fl k (nI i) ta qu nsz = some (ta', qu', nsz') ∧ M_X5_emptyWeak_L2 400 fl mark k (nI i) w = some w' ∧ RS (pkS ki fi ke va ta' ro qu' nsz' fin rnd) w' ∧ ∀ j, 388 ≤ j → w' j = w j := by
  intro k
  induction k with
  | zero => intro i ta qu nsz w h1 h2; omega
  | succ k ih =>
    intro i ta qu nsz w h1 h2 h
    have hki : RKi ki w := h.1
    have hwk : RWk ki ta w := h.2.2.2.2.1
    rw [M_X3_emptyWeakReferences_L2, M_X5_emptyWeak_L2]
    by_cases hi : i = 24
    · subst hi
      rw [if_pos (show (24 : Int32) ≤ nI 24 from nI_le (Nat.le_refl _) (by decide)), if_pos (show (24 : Int32) ≤ nI 24 from nI_le (Nat.le_refl _) (by decide))]
      exact ⟨_, _, _, _, rfl, rfl, h, fun _ _ => rfl⟩
    · have hlt : i < 24 := by omega
      have skip := ih (i + 1) ta qu nsz w (by omega) (by omega) h
      rw [if_neg (show ¬ (24 : Int32) ≤ nI i from nI_ge hlt (by decide)), if_neg (show ¬ (24 : Int32) ≤ nI i from nI_ge hlt (by decide)), cl (by omega), nI_1]
      simp only [gd_in hlt (show 24 < 2 ^ 31 by decide)]
      by_cases h9 : ta i = -9
      · rw [if_pos h9]
        by_cases hm9 : mark i = -9
        · rw [if_pos hm9]; exact skip
        · rw [if_neg hm9, bPt w l0 (by omega), Option.bind_some, show w (15 * i + 0) = ki i from (hki i hlt).1]
          by_cases k2 : ki i = 2
          · have := (hwk i hlt).2.2 k2 0 (by decide)
            rw [Nat.add_zero, if_pos rfl, h9] at this
            rw [if_pos k2, bPt w l3 (by omega), Option.bind_some, this, if_pos rfl]; exact skip
          · rw [if_neg k2]; exact skip
      · have k2 : ki i = 2 := Classical.byContradiction fun hh => h9 ((hwk i hlt).2.1 hh)
        rcases (hwk i hlt).1 with e9 | ⟨y, hy, ey⟩
        · exact absurd e9 h9
        · have w3 := (hwk i hlt).2.2 k2 0 (by decide)
          rw [Nat.add_zero, if_pos rfl, ey] at w3
          rw [if_neg h9, ey, ctn_in mkd hy, Option.bind_some, ctn_in mkd hlt, Option.bind_some]
          by_cases hm9 : mark i = -9
          · rw [if_pos hm9, if_neg (show ¬ bit mkd i = true from fun hh => (hm i hlt).mp hh hm9), if_pos rfl, ite_self]; exact skip
          · rw [if_neg hm9, bPt w l0 (by omega), Option.bind_some, show w (15 * i + 0) = ki i from (hki i hlt).1, if_pos k2, bPt w l3 (by omega), Option.bind_some, w3, if_neg (n9 (by omega)), Option.bind_some, gd_in hy (by decide), cl (by omega), if_pos ((hm i hlt).mpr hm9), if_neg i10]
            by_cases hmy : mark y = -9
            · rw [if_neg (show ¬ bit mkd y = true from fun hh => (hm y hy).mp hh hmy), if_pos rfl, if_pos hmy, show (15 * nI i + 3 : Int32) = nI (15 * i + 3) by rw [l15, l3, pk_mul, nI_add], gd_in (by omega) (by decide), cl (by omega)]
              have hw := h.wk hlt k2
              by_cases f0 : fl = 0
              · rw [if_pos f0, if_pos f0]
                obtain ⟨ta', qu', nsz', w', a1, a2, a3, a4⟩ := ih (i + 1) _ qu nsz _ (by omega) (by omega) hw
                exact ⟨ta', qu', nsz', w', a1, a2, a3, fun j hj => by rw [a4 j hj, pk_un (by omega)]⟩
              · rw [if_neg f0, if_neg f0]
                obtain ⟨qu1, nsz1, w1, b1, b2, b3, b4⟩ := q_issue hw.2.2.2.2.2.2.1 (1000 + nI i)
                have b1 : M_X2_issue qu nsz (1000 + nI i) = some (qu1, nsz1) := b1
                rw [b1, b2, Option.bind_some, Option.bind_some]
                obtain ⟨ta', qu', nsz', w', a1, a2, a3, a4⟩ := ih (i + 1) (upd ta i (-9)) qu1 nsz1 w1 (by omega) (by omega) (hw.que b3 b4)
                exact ⟨ta', qu', nsz', w', a1, a2, a3, fun j hj => by rw [a4 j hj, b4 j (by omega), pk_un (by omega)]⟩
            · rw [if_pos ((hm y hy).mpr hmy), if_neg i10, if_neg hmy]; exact skip
theorem fz_loop {ki fi ke va ta ro : Nat → Int32} {rnd : Int32} {mkd : Int32} {mark : Nat → Int32} (hm : ∀ x, x < 24 → (bit mkd x = true ↔ mark x ≠ -9)) (fin F : Int32) (hF : ∀ x, x < 24 → (bit F x = true ↔ bit fin x = true ∧ bit mkd x = false)) (hf24 : ∀ b, 24 ≤ b → bit fin b = false) : ∀ (k i : Nat) (qu : Nat → Int32) (nsz f : Int32) (w st : Nat → Int32), i ≤ 24 → 24 - i < k → RS (pkS ki fi ke va ta ro qu nsz f rnd) w → (∀ b, bit f b = (bit fin b && !(decide (b < i) && bit F b))) → ∃ qu' nsz' w' st', M_X3_finalizeObjects_L2 F fin k (nI i) qu nsz = some (qu', nsz', fin &&& (F ^^^ (-1))) ∧ M_X5_finalizeAll_L2 400 mark k (nI i) w st = some (w', st') ∧ RS (pkS ki fi ke va ta ro qu' nsz' (fin &&& (F ^^^ (-1))) rnd) w' ∧ (∀ j, 388 ≤ j → w' j = w j) ∧ ∀ x, x < 24 → (st' x ≠ 0 ↔ st x ≠ 0 ∨ (i ≤ x ∧ bit F x = true)) := by
  intro k
  induction k with
  | zero => intro i qu nsz f w st h1 h2; omega
  | succ k ih =>
    intro i qu nsz f w st h1 h2 h hf
    have hki : RKi ki w := h.1
    have hfn : RFn ki f w := h.2.1
    rw [M_X3_finalizeObjects_L2, M_X5_finalizeAll_L2]
    by_cases hi : i = 24
    · subst hi
      rw [if_pos (show (24 : Int32) ≤ nI 24 from nI_le (Nat.le_refl _) (by decide)), if_pos (show (24 : Int32) ≤ nI 24 from nI_le (Nat.le_refl _) (by decide))]
      have ef : f = fin &&& (F ^^^ (-1)) := by
        apply bit_ext
        intro b hb
        rw [hf b, bit_diff fin F hb]
        by_cases h24 : b < 24
        · rw [decide_eq_true h24]; rfl
        · rw [hf24 b (by omega)]; rfl
      rw [← ef]
      exact ⟨_, _, _, _, rfl, rfl, h, fun _ _ => rfl, fun x hx => ⟨Or.inl, fun hh => hh.elim id fun ⟨a, _⟩ => by omega⟩⟩
    · have hlt : i < 24 := by omega
      have hfi : bit f i = bit fin i := by rw [hf i, decide_eq_false (Nat.lt_irrefl i)]; simp
      rw [if_neg (show ¬ (24 : Int32) ≤ nI i from nI_ge hlt (by decide)), if_neg (show ¬ (24 : Int32) ≤ nI i from nI_ge hlt (by decide)), gd_in hlt (by decide), cl (by omega), nI_1, ctn_in F hlt, Option.bind_some]
      by_cases hb : bit F i = true
      · obtain ⟨hb1, hb2⟩ := (hF i hlt).mp hb
        have hm9 : mark i = -9 := Classical.byContradiction fun hh => by
          have := (hm i hlt).mpr hh
          rw [hb2] at this; cases this
        have hbf : bit f i = true := hfi.trans hb1
        have hk9 : ki i ≠ -9 := (hfn.1 i hlt).2 hbf
        have w1 := (hfn.1 i hlt).1
        rw [if_pos hbf] at w1
        rw [if_pos hb, if_neg i10, if_pos hm9, bAl_in w hlt, (hki i hlt).1, if_neg hk9, Option.bind_some, if_neg i10, bPt w l1 (by omega), Option.bind_some, w1, if_pos rfl]
        obtain ⟨qu1, nsz1, w2, b1, b2, b3, b4⟩ := q_issue h.2.2.2.2.2.2.1 (3000 + nI i)
        have b1 : M_X2_issue qu nsz (3000 + nI i) = some (qu1, nsz1) := b1
        rw [b1, b2, Option.bind_some, Option.bind_some, show (15 * nI i + 1 : Int32) = nI (15 * i + 1) by rw [l15, l1, pk_mul, nI_add], gd_in (by omega) (by decide), gd_in hlt (by decide), cl (by omega)]
        obtain ⟨s, s1, s2⟩ := sO (nI i)
        have hsb : ∀ b, bit s b = decide (b = i) := fun b => by
          by_cases e : b = i
          · subst e; rw [(s2 b).mpr ⟨hlt, rfl⟩, decide_eq_true rfl]
          · rw [decide_eq_false e]
            exact bf fun hh => e ((nI_eq (by omega) (by have := ((s2 b).mp hh).1; omega)).mp ((s2 b).mp hh).2).symm
        have hfb : ∀ b, bit (f &&& (s ^^^ (-1))) b = if b = i then false else bit f b := fun b => by
          by_cases h32 : b < 32
          · rw [bit_diff f s h32, hsb b]
            by_cases e : b = i
            · rw [if_pos e, decide_eq_true e]; simp
            · rw [if_neg e, decide_eq_false e]; simp
          · rw [bit_big (by omega), if_neg (by omega), bit_big (by omega)]
        have hrs := (h.que b3 b4).fin hlt hk9 (b := false) hfb
        obtain ⟨qu', nsz', w', st', a1, a2, a3, a4, a5⟩ := ih (i + 1) qu1 nsz1 (f &&& (s ^^^ (-1))) _ (upd st i (vp_nar .boolean 1)) (by omega) (by omega) hrs (fun b => by
          rw [hfb b]
          by_cases e : b = i
          · subst e
            rw [if_pos rfl, decide_eq_true (Nat.lt_succ_self b), hb]; simp
          · rw [if_neg e, hf b]
            by_cases hbi : b < i
            · rw [decide_eq_true hbi, decide_eq_true (show b < i + 1 by omega)]
            · rw [decide_eq_false hbi, decide_eq_false (show ¬ b < i + 1 by omega)])
        refine ⟨qu', nsz', w', st', a1, a2, a3, fun j hj => by rw [a4 j hj, pk_un (by omega), b4 j (by omega)], fun x hx => (a5 x hx).trans ?_⟩
        by_cases e : x = i
        · subst e
          rw [pk_us]
          exact ⟨fun _ => Or.inr ⟨Nat.le_refl x, hb⟩, fun _ => Or.inl (by decide)⟩
        · rw [pk_un e]
          exact ⟨fun hh => hh.imp id fun ⟨a, b⟩ => ⟨by omega, b⟩, fun hh => hh.imp id fun ⟨a, b⟩ => ⟨by omega, b⟩⟩
      · rw [if_neg hb, if_pos rfl]
        obtain ⟨qu', nsz', w', st', a1, a2, a3, a4, a5⟩ := ih (i + 1) qu nsz f w st (by omega) (by omega) h (fun b => by
          rw [hf b]
          by_cases e : b = i
          · subst e
            rw [decide_eq_true (Nat.lt_succ_self b), decide_eq_false (Nat.lt_irrefl b), bf hb]; rfl
          · by_cases hbi : b < i
            · rw [decide_eq_true hbi, decide_eq_true (show b < i + 1 by omega)]
            · rw [decide_eq_false hbi, decide_eq_false (show ¬ b < i + 1 by omega)])
        refine ⟨qu', nsz', w', st', a1, ?_, a3, a4, fun x hx => (a5 x hx).trans ⟨fun hh => hh.imp id fun ⟨a, b⟩ => ⟨by omega, b⟩, fun hh => hh.imp id fun ⟨a, b⟩ => ⟨?_, b⟩⟩⟩
        · by_cases hm9 : mark i = -9
          · rw [if_pos hm9, bAl_in w hlt, (hki i hlt).1]
            by_cases hk9 : ki i = -9
            · rw [if_pos hk9, Option.bind_some, if_pos rfl]; exact a2
            · have hbf : bit f i = false := bf fun hh => hb ((hF i hlt).mpr ⟨hfi.symm.trans hh, bf fun h' => (hm i hlt).mp h' hm9⟩)
              have w1 := (hfn.1 i hlt).1
              rw [if_neg (by rw [hbf]; decide)] at w1
              rw [if_neg hk9, Option.bind_some, if_neg i10, bPt w l1 (by omega), Option.bind_some, w1, if_neg (by decide)]; exact a2
          · rw [if_neg hm9]; exact a2
        · by_cases e : x = i
          · subst e; exact absurd b hb
          · omega
