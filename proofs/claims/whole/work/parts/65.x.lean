/-! marking from the roots; the counting methods -/
theorem sr_loop {ro w : Nat → Int32} (h : RRo ro w) : ∀ (k i : Nat) (start : Nat → Int32), i ≤ 6 → 6 - i < k → ∃ st, M_X5_startAtRoots_L23 w k (nI i) start = some st ∧ ∀ x, x < 24 → (st x ≠ 0 ↔ start x ≠ 0 ∨ ∃ l, i ≤ l ∧ l < 6 ∧ ro l = nI x) := by
  intro k
  induction k with
  | zero => intro i start h1 h2; omega
  | succ k ih =>
    intro i start h1 h2
    rw [M_X5_startAtRoots_L23]
    by_cases hi : i = 6
    · subst hi
      rw [if_pos (show (6 : Int32) ≤ nI 6 from nI_le (Nat.le_refl _) (by decide))]
      exact ⟨start, rfl, fun x hx => ⟨Or.inl, fun hh => hh.elim id fun ⟨l, a, b, _⟩ => by omega⟩⟩
    · have hlt : i < 6 := by omega
      rw [if_neg (show ¬ (6 : Int32) ≤ nI i from nI_ge hlt (by decide)), l360, nI_add, gd_in (by omega) (by decide), cl (by omega), (h i hlt).2, nI_1]
      by_cases h9 : ro i = -9
      · rw [if_pos h9]
        obtain ⟨st, a1, a2⟩ := ih (i + 1) start (by omega) (by omega)
        refine ⟨st, a1, fun x hx => (a2 x hx).trans ⟨fun hh => hh.imp id fun ⟨l, b1, b2⟩ => ⟨l, by omega, b2⟩, fun hh => hh.imp id fun ⟨l, b1, b2, b3⟩ => ⟨l, ?_, b2, b3⟩⟩⟩
        by_cases e : l = i
        · subst e; exact absurd (b3.symm.trans h9) (n9 (by omega))
        · omega
      · rcases (h i hlt).1 with e9 | ⟨y, hy, ey⟩
        · exact absurd e9 h9
        · rw [if_neg h9, gd_in (by omega) (by decide), ey, gd_in hy (by decide), cl (by omega)]
          obtain ⟨st, a1, a2⟩ := ih (i + 1) (upd start y (vp_nar .boolean 1)) (by omega) (by omega)
          refine ⟨st, a1, fun x hx => (a2 x hx).trans ?_⟩
          by_cases e : x = y
          · subst e
            rw [pk_us]
            exact ⟨fun _ => Or.inr ⟨i, Nat.le_refl i, hlt, ey⟩, fun _ => Or.inl (by decide)⟩
          · rw [pk_un e]
            refine ⟨fun hh => hh.imp id fun ⟨l, b1, b2⟩ => ⟨l, by omega, b2⟩, fun hh => hh.imp id fun ⟨l, b1, b2, b3⟩ => ⟨l, ?_, b2, b3⟩⟩
            by_cases el : l = i
            · subst el; exact absurd ((nI_eq (by omega) (by omega)).mp (b3.symm.trans ey)) e
            · omega
theorem sr_two (w : Nat → Int32) : ∀ (k i : Nat) (start : Nat → Int32), i ≤ 24 → 24 - i < k → (∀ x, x < i → start x = 0) → ∃ s0, M_X5_startAtRoots_L2 400 w k (nI i) start = M_X5_startAtRoots_L23 w 400 0 s0 ∧ ∀ x, x < 24 → s0 x = 0 := by
  intro k
  induction k with
  | zero => intro i start h1 h2; omega
  | succ k ih =>
    intro i start h1 h2 h3
    rw [M_X5_startAtRoots_L2]
    by_cases hi : i = 24
    · subst hi
      rw [if_pos (show (24 : Int32) ≤ nI 24 from nI_le (Nat.le_refl _) (by decide))]
      exact ⟨start, rfl, h3⟩
    · have hlt : i < 24 := by omega
      rw [if_neg (show ¬ (24 : Int32) ≤ nI i from nI_ge hlt (by decide)), gd_in hlt (by decide), cl (by omega), nI_1]
      refine ih (i + 1) _ (by omega) (by omega) fun x hx => ?_
      by_cases e : x = i
      · subst e; rw [pk_us]; rfl
      · rw [pk_un e]; exact h3 x (by omega)
theorem sr_eq {ro w : Nat → Int32} (h : RRo ro w) (start : Nat → Int32) : ∃ st, M_X5_startAtRoots 400 w start = some st ∧ ∀ x, x < 24 → (st x ≠ 0 ↔ ∃ l, l < 6 ∧ ro l = nI x) := by
  obtain ⟨s0, a1, a2⟩ := sr_two w 400 0 start (by decide) (by decide) (fun x hx => by omega)
  obtain ⟨st, b1, b2⟩ := sr_loop h 400 0 s0 (by decide) (by decide)
  refine ⟨st, a1.trans b1, fun x hx => (b2 x hx).trans ⟨fun hh => hh.elim (fun hh => absurd (a2 x hx) hh) fun ⟨l, _, c⟩ => ⟨l, c⟩, fun ⟨l, c⟩ => Or.inr ⟨l, Nat.zero_le l, c⟩⟩⟩
/-- what a marking of the whole leaves -/
def MK (fi ke va : Nat → Int32) (un s : Int32) (rd : Nat → Int32) (mkd : Int32) (mark : Nat → Int32) : Prop := (∀ x, x < 24 → rd x = mark x) ∧ (∀ x, x < 24 → (bit mkd x = true ↔ mark x ≠ -9)) ∧ (∀ b, 24 ≤ b → bit mkd b = false) ∧ (∀ b, bit s b = true → bit un b = false → bit mkd b = true) ∧ ClF fi un (fun x => bit mkd x = true) ∧ ClE ke va un (fun x => bit mkd x = true) ∧ ∀ C : Nat → Prop, (∀ b, bit s b = true → bit un b = false → C b) → ClF fi un C → ClE ke va un C → ∀ b, bit mkd b = true → C b
theorem ma_both {ki fi ke va ta ro qu w : Nat → Int32} {nsz fin rnd : Int32} (h : RS (pkS ki fi ke va ta ro qu nsz fin rnd) w) (u un : Int32) (hU : ∀ y, y < 24 → (bit un y = true ↔ u = nI y)) (rd mark start : Nat → Int32) : ∃ q rd' mkd lr mark' st, M_X3_rootObjects 400 ro = some q ∧ M_X1_run 400 rd fi ke va q un = some (rd', mkd, lr, un) ∧ M_X5_markAll 400 w mark start u = some (lr, mark', st) ∧ MK fi ke va un q rd' mkd mark' ∧ (∀ x, x < 24 → (st x ≠ 0 ↔ bit q x = true)) ∧ ∀ b, 24 ≤ b → bit q b = false := by
  obtain ⟨q, q1, q2⟩ := ro_eq ro
  obtain ⟨st, s1, s2⟩ := sr_eq (ro := ro) h.2.2.2.2.2.1 start
  have hq24 : ∀ b, 24 ≤ b → bit q b = false := fun b hb => bf fun hh => by
    have := ((q2 b).mp hh).1; omega
  have hst : ∀ x, x < 24 → (st x ≠ 0 ↔ bit q x = true) := fun x hx => (s2 x hx).trans ⟨fun hh => (q2 x).mpr ⟨hx, hh⟩, fun hh => ((q2 x).mp hh).2⟩
  obtain ⟨rd', mkd, lr, mark', r1, r2, r3⟩ := mk_both (ki := ki) (fi := fi) (ke := ke) (va := va) h.1 h.2.2.1 h.2.2.2.1 u un hU hq24 hst rd mark
  refine ⟨q, rd', mkd, lr, mark', st, q1, r1, ?_, r3, hst, hq24⟩
  rw [M_X5_markAll, s1, Option.bind_some, r2, Option.bind_some]
theorem hU9 : ∀ y, y < 24 → (bit 0 y = true ↔ (-9 : Int32) = nI y) := fun y hy => ⟨fun h => (by rw [bit_0] at h; cases h), fun h => absurd h.symm (n9 (by omega))⟩
theorem mr_loop (mark : Nat → Int32) : ∀ (k i : Nat), i ≤ 24 → 24 - i < k → M_X5_marked_L4 mark k (nI (fb_ct (fun x => decide (mark x ≠ -9)) i)) (nI i) = some (nI (mct mark)) := by
  intro k
  induction k with
  | zero => intro i h1 h2; omega
  | succ k ih =>
    intro i h1 h2
    rw [M_X5_marked_L4]
    by_cases hi : i = 24
    · subst hi
      rw [if_pos (show (24 : Int32) ≤ nI 24 from nI_le (Nat.le_refl _) (by decide))]; rfl
    · have hlt : i < 24 := by omega
      have := ih (i + 1) (by omega) (by omega)
      rw [fb_ct_succ] at this
      rw [if_neg (show ¬ (24 : Int32) ≤ nI i from nI_ge hlt (by decide)), gd_in hlt (by decide), cl (by omega), nI_1]
      by_cases h9 : mark i = -9
      · rw [if_pos h9, l0, nI_add]; simpa [h9] using this
      · rw [if_neg h9, nI_1]; simpa [h9] using this
theorem mr_eq (mark : Nat → Int32) : M_X5_marked 400 mark = some (nI (mct mark)) := mr_loop mark 400 0 (by decide) (by decide)
theorem MK.ct {fi ke va : Nat → Int32} {un s : Int32} {rd : Nat → Int32} {mkd : Int32} {mark : Nat → Int32} (h : MK fi ke va un s rd mkd mark) : fb_ct (bit mkd) 24 = mct mark := fb_ct_cong fun x hx => by
  by_cases h9 : mark x = -9
  · rw [show decide (mark x ≠ -9) = false by simp [h9]]
    exact bf fun hh => (h.2.1 x hx).mp hh h9
  · rw [(h.2.1 x hx).mpr h9, decide_eq_true h9]
theorem we_both {ki fi ke va ta ro qu w : Nat → Int32} {nsz fin rnd : Int32} (h : RS (pkS ki fi ke va ta ro qu nsz fin rnd) w) {mkd : Int32} {mark : Nat → Int32} (hm : ∀ x, x < 24 → (bit mkd x = true ↔ mark x ≠ -9)) (st : Nat → Int32) {y : Nat} (hy : y < 24) (hy9 : mark y = -9) : ∀ (k i acc : Nat), i ≤ 24 → 24 - i < k → ∃ c, M_X3_tablesWithKey_L5 400 mkd (nI y) ke k (nI acc) (nI i) = some c ∧ M_X5_waitingEntries_L21 400 (nI y) w mark st k (nI acc) (nI i) = some (c, mark, st) := by
  have hki : RKi ki w := h.1
  have htb : RTb ki ke va w := h.2.2.2.1
  intro k
  induction k with
  | zero => intro i acc h1 h2; omega
  | succ k ih =>
    intro i acc h1 h2
    rw [M_X3_tablesWithKey_L5, M_X5_waitingEntries_L21]
    by_cases hi : i = 24
    · subst hi
      rw [if_pos (show (24 : Int32) ≤ nI 24 from nI_le (Nat.le_refl _) (by decide)), if_pos (show (24 : Int32) ≤ nI 24 from nI_le (Nat.le_refl _) (by decide))]
      exact ⟨_, rfl, rfl⟩
    · have hlt : i < 24 := by omega
      rw [if_neg (show ¬ (24 : Int32) ≤ nI i from nI_ge hlt (by decide)), if_neg (show ¬ (24 : Int32) ≤ nI i from nI_ge hlt (by decide)), gd_in hy (by decide), cl (by omega), if_pos hy9, gd_in hlt (by decide), cl (by omega), ctn_in mkd hlt, Option.bind_some, nI_1, nI_1, l0, nI_add]
      simp only [Nat.add_zero]
      by_cases h9 : mark i = -9
      · rw [if_pos h9, if_neg (fun hh => (hm i hlt).mp hh h9), if_pos rfl]
        exact ih (i + 1) acc (by omega) (by omega)
      · rw [if_neg h9, if_pos ((hm i hlt).mpr h9), if_neg (by decide), bPt w rfl (by omega), Option.bind_some, show w (15 * i + 0) = ki i from (hki i hlt).1]
        by_cases h1 : ki i = 1
        · obtain ⟨⟨n, hc, ht⟩, hu⟩ := (htb i hlt).2 h1
          have hn := ht.1
          rw [if_pos h1]
          rcases pl_both hlt hc ht hu hy with ⟨j, b1, b2, b3, b4, b5⟩ | ⟨b1, b2, b3⟩
          · rw [b4, b5, Option.bind_some, Option.bind_some, if_neg (n9 (by omega)), if_neg (n9 (by omega))]
            exact ih (i + 1) (acc + 1) (by omega) (by omega)
          · rw [b2, b3, Option.bind_some, Option.bind_some, if_pos rfl, if_pos rfl]
            exact ih (i + 1) acc (by omega) (by omega)
        · rw [if_neg h1]
          rcases pl_A ke hlt (nI y) with ⟨j, b1, b2, _⟩ | ⟨b1, b2⟩
          · exact absurd (b2.symm.trans ((htb i hlt).1 h1 j b1).1) (n9 (by omega))
          · rw [b2, Option.bind_some, if_pos rfl]
            exact ih (i + 1) acc (by omega) (by omega)
theorem step_reachableCount (ki : Nat → Int32) (fi : Nat → Int32) (ke : Nat → Int32) (va : Nat → Int32) (ta : Nat → Int32) (ro : Nat → Int32) (qu : Nat → Int32) (nsz : Int32) (fin : Int32) (rnd : Int32) (rd : Nat → Int32) (mkd : Int32) (lr : Int32) (un : Int32) (nx : Int32) (dp : Int32) (rv : Nat → Option SV) (w : Nat → Int32) (dep : Int32) (kept : Nat → Int32) (mark : Nat → Int32) (start : Nat → Int32) (h : Rel (pkS ki fi ke va ta ro qu nsz fin rnd) nx dp rv w dep kept) : ∃ (qa : Int32 × (Nat → Int32) × Int32 × Int32 × Int32) (qb : Int32 × (Nat → Int32) × (Nat → Int32)), M_X4_reachableCount 400 fi ke va ro rd = some qa ∧ M_X5_reachableCount 400 w mark start = some qb ∧ qa.1 = qb.1 ∧ Rel (pkS ki fi ke va ta ro qu nsz fin rnd) nx dp rv w dep kept := by
  obtain ⟨q, rd', mkd', lr', mark', st, a1, a2, a3, a4, a5, a6⟩ := ma_both h.rs (-9) 0 hU9 rd mark start
  rw [M_X4_reachableCount, M_X5_reachableCount, M_X4_markFromRoots, a1, Option.bind_some, a2, Option.bind_some, Option.bind_some, bc_ct mkd' a4.2.2.1, Option.bind_some, a3, Option.bind_some, mr_eq, Option.bind_some]
  refine ⟨_, _, rfl, rfl, ?_, h⟩
  show nI (fb_ct (bit mkd') 24) = nI (mct mark')
  rw [a4.ct]
theorem step_markRound (ki : Nat → Int32) (fi : Nat → Int32) (ke : Nat → Int32) (va : Nat → Int32) (ta : Nat → Int32) (ro : Nat → Int32) (qu : Nat → Int32) (nsz : Int32) (fin : Int32) (rnd : Int32) (rd : Nat → Int32) (mkd : Int32) (lr : Int32) (un : Int32) (nx : Int32) (dp : Int32) (rv : Nat → Option SV) (w : Nat → Int32) (dep : Int32) (kept : Nat → Int32) (mark : Nat → Int32) (start : Nat → Int32) (p1 : Int32) (h : Rel (pkS ki fi ke va ta ro qu nsz fin rnd) nx dp rv w dep kept) : ∃ (qa : Int32 × (Nat → Int32) × Int32 × Int32 × Int32) (qb : Int32 × (Nat → Int32) × (Nat → Int32)), M_X4_markRound 400 ki fi ke va ro rd mkd lr un p1 = some qa ∧ M_X5_markRound 400 w mark start p1 = some qb ∧ qa.1 = qb.1 ∧ Rel (pkS ki fi ke va ta ro qu nsz fin rnd) nx dp rv w dep kept := by
  have hki : RKi ki w := h.rs.1
  rw [M_X4_markRound, M_X5_markRound]
  rcases cls p1 (n := 24) (by decide) with ho | ⟨j, hj, rfl⟩
  · rw [aAl_out ki ho, bAl_out w ho]
    exact ⟨_, _, rfl, rfl, rfl, h⟩
  · rw [aAl_in ki hj, bAl_in w hj, (hki j hj).1, Option.bind_some, Option.bind_some]
    by_cases h9 : ki j = -9
    · rw [if_pos h9]
      exact ⟨_, _, rfl, rfl, rfl, h⟩
    · obtain ⟨q, rd', mkd', lr', mark', st, a1, a2, a3, a4, a5, a6⟩ := ma_both h.rs (-9) 0 hU9 rd mark start
      rw [if_neg h9, if_neg i10, if_neg i10, M_X4_markFromRoots, a1, Option.bind_some, a2, Option.bind_some, Option.bind_some, a3, Option.bind_some, gd_in hj (by decide), gd_in hj (by decide), cl (by omega)]
      exact ⟨_, _, rfl, rfl, a4.1 j hj, h⟩
theorem step_retainedSize (ki : Nat → Int32) (fi : Nat → Int32) (ke : Nat → Int32) (va : Nat → Int32) (ta : Nat → Int32) (ro : Nat → Int32) (qu : Nat → Int32) (nsz : Int32) (fin : Int32) (rnd : Int32) (rd : Nat → Int32) (mkd : Int32) (lr : Int32) (un : Int32) (nx : Int32) (dp : Int32) (rv : Nat → Option SV) (w : Nat → Int32) (dep : Int32) (kept : Nat → Int32) (mark : Nat → Int32) (start : Nat → Int32) (p1 : Int32) (h : Rel (pkS ki fi ke va ta ro qu nsz fin rnd) nx dp rv w dep kept) : ∃ (qa : Int32 × (Nat → Int32) × Int32 × Int32 × Int32) (qb : Int32 × (Nat → Int32) × (Nat → Int32)), M_X4_retainedSize 400 ki fi ke va ro rd mkd lr un p1 = some qa ∧ M_X5_retainedSize 400 w mark start p1 = some qb ∧ qa.1 = qb.1 ∧ Rel (pkS ki fi ke va ta ro qu nsz fin rnd) nx dp rv w dep kept := by
  have hki : RKi ki w := h.rs.1
  rw [M_X4_retainedSize, M_X5_retainedSize]
  rcases cls p1 (n := 24) (by decide) with ho | ⟨j, hj, rfl⟩
  · rw [aAl_out ki ho, bAl_out w ho]
    exact ⟨_, _, rfl, rfl, rfl, h⟩
  · rw [aAl_in ki hj, bAl_in w hj, (hki j hj).1, Option.bind_some, Option.bind_some]
    by_cases h9 : ki j = -9
    · rw [if_pos h9]
      exact ⟨_, _, rfl, rfl, rfl, h⟩
    · obtain ⟨q, rd', mkd', lr', mark', st, a1, a2, a3, a4, a5, a6⟩ := ma_both h.rs (-9) 0 hU9 rd mark start
      obtain ⟨s, s1, s2⟩ := sO (nI j)
      obtain ⟨q', rd2, mkd2, lr2, mark2, st2, b1, b2, b3, b4, b5, b6⟩ := ma_both h.rs (nI j) s (fun y hy => (s2 y).trans ⟨fun hh => hh.2, fun hh => ⟨hy, hh⟩⟩) rd' mark' st
      have hqq : q' = q := Option.some.inj (b1.symm.trans a1)
      subst hqq
      have hsub : ∀ b, bit mkd2 b = true → bit mkd' b = true := b4.2.2.2.2.2.2 (fun b => bit mkd' b = true) (fun b hb _ => a4.2.2.2.1 b hb (bit_0 b)) (fun x y hx hC he _ => a4.2.2.2.2.1 x y hx hC he (bit_0 y)) (fun t a x ht h1 h2 he _ => a4.2.2.2.2.2.1 t a x ht h1 h2 he (bit_0 x))
      have hdiff : ∀ b, bit (mkd' &&& (mkd2 ^^^ (-1))) b = (bit mkd' b && !bit mkd2 b) := fun b => by
        by_cases hb : b < 32
        · exact bit_diff mkd' mkd2 hb
        · rw [bit_big (by omega), a4.2.2.1 b (by omega)]; rfl
      have hct : fb_ct (bit (mkd' &&& (mkd2 ^^^ (-1)))) 24 + mct mark2 = mct mark' := by
        rw [← a4.ct, ← b4.ct]
        have := fb_ct_or (p := bit (mkd' &&& (mkd2 ^^^ (-1)))) (q := bit mkd2) (n := 24) (fun k _ hh => by
          rw [hdiff, hh.2] at hh
          simp at hh)
        rw [← this]
        refine fb_ct_cong fun k _ => ?_
        rw [hdiff]
        cases h2 : bit mkd2 k
        · simp
        · rw [hsub k h2]; rfl
      rw [if_neg h9, if_neg i10, if_neg i10, M_X4_markFromRoots, M_X5_reachableCount, a1, Option.bind_some, a2, Option.bind_some, Option.bind_some, Option.bind_some, s1, Option.bind_some, b2, Option.bind_some, a3, Option.bind_some, mr_eq, Option.bind_some, Option.bind_some, b3, Option.bind_some, mr_eq, Option.bind_some, bc_ct _ (fun b hb => by rw [hdiff, a4.2.2.1 b hb]; rfl), Option.bind_some]
      refine ⟨_, _, rfl, rfl, ?_, h⟩
      show nI (fb_ct (bit (mkd' &&& (mkd2 ^^^ (-1)))) 24) = nI (mct mark') - nI (mct mark2)
      rw [pk_sub (by omega)]
      congr 1
      omega
theorem step_waitingEntries (ki : Nat → Int32) (fi : Nat → Int32) (ke : Nat → Int32) (va : Nat → Int32) (ta : Nat → Int32) (ro : Nat → Int32) (qu : Nat → Int32) (nsz : Int32) (fin : Int32) (rnd : Int32) (rd : Nat → Int32) (mkd : Int32) (lr : Int32) (un : Int32) (nx : Int32) (dp : Int32) (rv : Nat → Option SV) (w : Nat → Int32) (dep : Int32) (kept : Nat → Int32) (mark : Nat → Int32) (start : Nat → Int32) (p1 : Int32) (h : Rel (pkS ki fi ke va ta ro qu nsz fin rnd) nx dp rv w dep kept) : ∃ (qa : Int32 × (Nat → Int32) × Int32 × Int32 × Int32) (qb : Int32 × (Nat → Int32) × (Nat → Int32)), M_X4_waitingEntries 400 ki fi ke va ro rd mkd lr un p1 = some qa ∧ M_X5_waitingEntries 400 w mark start p1 = some qb ∧ qa.1 = qb.1 ∧ Rel (pkS ki fi ke va ta ro qu nsz fin rnd) nx dp rv w dep kept := by
  have hki : RKi ki w := h.rs.1
  rw [M_X4_waitingEntries, M_X5_waitingEntries]
  rcases cls p1 (n := 24) (by decide) with ho | ⟨j, hj, rfl⟩
  · rw [aAl_out ki ho, bAl_out w ho]
    exact ⟨_, _, rfl, rfl, rfl, h⟩
  · rw [aAl_in ki hj, bAl_in w hj, (hki j hj).1, Option.bind_some, Option.bind_some]
    by_cases h9 : ki j = -9
    · rw [if_pos h9]
      exact ⟨_, _, rfl, rfl, rfl, h⟩
    · obtain ⟨q, rd', mkd', lr', mark', st, a1, a2, a3, a4, a5, a6⟩ := ma_both h.rs (-9) 0 hU9 rd mark start
      rw [if_neg h9, if_neg i10, if_neg i10, M_X4_markFromRoots, a1, Option.bind_some, a2, Option.bind_some, Option.bind_some, a3, Option.bind_some, ctn_in mkd' hj, Option.bind_some]
      by_cases hb : bit mkd' j = true
      · rw [if_pos hb, if_neg i10]
        have hm9 := (a4.2.1 j hj).mp hb
        refine ⟨_, (0, mark', st), rfl, ?_, rfl, h⟩
        show M_X5_waitingEntries_L21 400 (nI j) w mark' st (399 + 1) 0 0 = _
        rw [M_X5_waitingEntries_L21, if_neg (by decide), gd_in hj (by decide), cl (by omega), if_neg hm9]
      · have hm9 : mark' j = -9 := Classical.byContradiction fun hh => hb ((a4.2.1 j hj).mpr hh)
        rw [if_neg hb, if_pos rfl]
        obtain ⟨c, c1, c2⟩ := we_both h.rs a4.2.1 st hj hm9 400 0 0 (by decide) (by decide)
        rw [M_X3_tablesWithKey, l0, c1, Option.bind_some]
        exact ⟨_, _, rfl, c2, rfl, h⟩
