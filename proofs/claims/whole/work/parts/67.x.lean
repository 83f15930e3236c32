/-! dropping entries; freeing -/
theorem RS.tabq {ki fi ke va ta ro qu qu' w ke' va' w' : Nat → Int32} {nsz nsz' fin rnd : Int32} (h : RS (pkS ki fi ke va ta ro qu nsz fin rnd) w) {x n : Nat} (hx : x < 24) (h1 : ki x = 1) (ho : ∀ y j, y < 24 → y ≠ x → j < 6 → ke' (6 * y + j) = ke (6 * y + j) ∧ va' (6 * y + j) = va (6 * y + j)) (hw : ∀ j, (j < 15 * x + 2 ∨ 15 * x + 15 ≤ j) → (j < 366 ∨ 387 ≤ j) → w' j = w j) (hq : RQu qu' nsz' w') (hc : w' (15 * x + 2) = nI n) (ht : TB ke' va' x n) (hu : ∀ j, j < 6 → w' (15 * x + 3 + j) = ke' (6 * x + j) ∧ w' (15 * x + 9 + j) = va' (6 * x + j)) : RS (pkS ki fi ke' va' ta ro qu' nsz' fin rnd) w' := by
  refine RS.of (fun y hy => ?_) h.2.1.2 (h.2.2.2.2.2.1.cong fun j hj => hw _ (by omega) (by omega)) hq ((hw _ (by omega) (by omega)).trans h.2.2.2.2.2.2.2)
  by_cases e : y = x
  · subst e
    obtain ⟨a1, a2, a3, a4, a5⟩ := h.ro hy
    refine ⟨?_, ?_, ⟨a3.1, fun h0 => absurd (h1.symm.trans h0) (by decide)⟩, ⟨fun hh => absurd h1 hh, fun _ => ⟨⟨n, hc, ht⟩, hu⟩⟩, a5.1, a5.2.1, fun h2 => absurd (h1.symm.trans h2) (by decide)⟩
    · rw [hw (15 * y) (by omega) (by omega)]; exact a1
    · rw [hw (15 * y + 1) (by omega) (by omega)]; exact a2
  · exact (h.ro hy).cg rfl rfl (fun _ _ => rfl) (fun j hj => ho y j hy e hj) rfl (fun j hj => hw _ (by omega) (by omega))
/-- nothing to announce -/
theorem an_nil (mkd : Int32) (ke : Nat → Int32) {x : Nat} (hx : x < 24) (qu : Nat → Int32) (nsz : Int32) : ∀ (k i : Nat), i ≤ 6 → 6 - i < k → (∀ j, j < 6 - i → ke (6 * x + i + j) = -9) → M_X3_announceEntriesWithoutKey_L5 (nI x) mkd ke k (nI (6 * x + i)) qu nsz = some (qu, nsz) := by
  intro k
  induction k with
  | zero => intro i h1 h2; omega
  | succ k ih =>
    intro i h1 h2 h3
    have e6 : ((nI x + 1) * 6 : Int32) = nI (6 * x + 6) := by rw [nI_1, l6, pk_mul]; congr 1; omega
    rw [M_X3_announceEntriesWithoutKey_L5, e6]
    by_cases hi : i = 6
    · subst hi
      rw [if_pos (nI_le (Nat.le_refl _) (by omega))]
    · have h0 := h3 0 (by omega)
      rw [Nat.add_zero] at h0
      rw [if_neg (nI_ge (by omega) (by omega)), gd_in (by omega) (by decide), cl (by omega), if_pos h0, nI_1, Nat.add_assoc]
      exact ih (i + 1) (by omega) (by omega) fun j hj => by
        have := h3 (j + 1) (by omega)
        rwa [show 6 * x + i + (j + 1) = 6 * x + (i + 1) + j by omega] at this
theorem dr_list {mkd : Int32} {mark : Nat → Int32} (hm : ∀ x, x < 24 → (bit mkd x = true ↔ mark x ≠ -9)) (K : Int32 → (Nat → Int32) → Option (Nat → Int32)) (ke : Nat → Int32) {x : Nat} (hx : x < 24) : ∀ (r pre : List (Nat × Nat)) (k k2 i : Nat) (qu : Nat → Int32) (nsz : Int32) (w : Nat → Int32), i ≤ 6 → 6 - i < k → r.length < k2 → r.length ≤ 6 - i → pre.length ≤ i → (∀ p, p ∈ r → p.1 < 24) → (∀ j, j < 6 - i → ke (6 * x + i + j) = kAt r j) → WL w x (pre ++ r) → RQu qu nsz w → ∃ qu' nsz' v w', M_X3_announceEntriesWithoutKey_L5 (nI x) mkd ke k (nI (6 * x + i)) qu nsz = some (qu', nsz') ∧ M_X5_dropEntries_L31 K 400 mark (nI x) k2 (nI pre.length) w = K v w' ∧ WL w' x (pre ++ r.filter (fun p => bit mkd p.1)) ∧ RQu qu' nsz' w' ∧ ∀ j, (j < 15 * x + 2 ∨ 15 * x + 15 ≤ j) → (j < 366 ∨ 387 ≤ j) → w' j = w j := by
  intro r
  induction r with
  | nil =>
    intro pre k k2 i qu nsz w h1 h2 h3 h4 h5 h6 h7 hw hq
    obtain ⟨k2, rfl⟩ : ∃ k', k2 = k' + 1 := ⟨k2 - 1, by have : 0 < k2 := h3; omega⟩
    rw [List.append_nil] at hw
    refine ⟨qu, nsz, nI pre.length, w, an_nil mkd ke hx qu nsz k i h1 h2 (fun j hj => (h7 j hj).trans (kAt_ge (l := []) (Nat.zero_le _)).1), ?_, ?_, hq, fun _ _ _ => rfl⟩
    · rw [M_X5_dropEntries_L31, bPt w l2 (by omega), Option.bind_some, hw.1, if_pos (nI_le (Nat.le_refl _) (by omega))]
    · rw [List.filter_nil, List.append_nil]; exact hw
  | cons p r ih =>
    intro pre k k2 i qu nsz w h1 h2 h3 h4 h5 h6 h7 hw hq
    have hlen : (p :: r).length = r.length + 1 := rfl
    rw [hlen] at h3 h4
    obtain ⟨k2, rfl⟩ : ∃ k', k2 = k' + 1 := ⟨k2 - 1, by omega⟩
    obtain ⟨k, rfl⟩ : ∃ k', k = k' + 1 := ⟨k - 1, by omega⟩
    have e6 : ((nI x + 1) * 6 : Int32) = nI (6 * x + 6) := by rw [nI_1, l6, pk_mul]; congr 1; omega
    have hp := h6 p List.mem_cons_self
    have g2 : ∀ q, q ∈ r → q.1 < 24 := fun q hq => h6 q (List.mem_cons_of_mem _ hq)
    have h70 : ke (6 * x + i) = nI p.1 := h7 0 (by omega)
    have g3 : ∀ j, j < 6 - (i + 1) → ke (6 * x + (i + 1) + j) = kAt r j := fun j hj => by
      have := h7 (j + 1) (by omega)
      rwa [show 6 * x + i + (j + 1) = 6 * x + (i + 1) + j by omega, (kAt_cs p r j).1] at this
    have hl2 : (pre ++ p :: r).length = pre.length + (r.length + 1) := by rw [List.length_append]; rfl
    have hkey : w (15 * x + 3 + pre.length) = nI p.1 := by
      rw [(hw.2 pre.length (by omega)).1, kAt, List.getElem?_append_right (Nat.le_refl _), Nat.sub_self]; rfl
    rw [M_X3_announceEntriesWithoutKey_L5, M_X5_dropEntries_L31, e6, if_neg (nI_ge (by omega) (by omega)), gd_in (by omega) (by decide), cl (by omega), h70, if_neg (n9 (by omega)), gd_in (by omega) (by decide), ctn_in mkd hp, Option.bind_some, bPt w l2 (by omega), Option.bind_some, hw.1, hl2, if_neg (nI_ge (by omega) (by omega)), bPt w (k := 3 + nI pre.length) (n := 3 + pre.length) (by rw [l3, nI_add]) (by omega), Option.bind_some, ← Nat.add_assoc (15 * x) 3, hkey, gd_in hp (by decide), cl (by omega), nI_1, nI_1, Nat.add_assoc (6 * x) i 1]
    by_cases hb : bit mkd p.1 = true
    · rw [if_pos hb, if_neg i10, if_neg ((hm p.1 hp).mp hb), List.filter_cons_of_pos (by exact hb)]
      obtain ⟨qu', nsz', v, w', a1, a2, a3, a4, a5⟩ := ih (pre ++ [p]) k k2 (i + 1) qu nsz w (by omega) (by omega) (by omega) (by omega) (by rw [List.length_append]; show pre.length + 1 ≤ i + 1; omega) g2 g3 (by rw [List.append_assoc, List.singleton_append]; exact hw) hq
      have el : (pre ++ [p]).length = pre.length + 1 := by rw [List.length_append]; rfl
      rw [el] at a2
      rw [List.append_assoc, List.singleton_append] at a3
      exact ⟨qu', nsz', v, w', a1, a2, a3, a4, a5⟩
    · have hm9 : mark p.1 = -9 := Classical.byContradiction fun hh => hb ((hm p.1 hp).mpr hh)
      obtain ⟨qu1, nsz1, w1, b1, b2, b3, b4⟩ := q_issue hq (2000 + 32 * nI x + nI p.1)
      have hw1 : WL w1 x (pre ++ p :: r) := ⟨by rw [b4 _ (by omega)]; exact hw.1, fun j hj => by rw [b4 _ (by omega), b4 _ (by omega)]; exact hw.2 j hj⟩
      obtain ⟨w2, c1, c2, c3⟩ := rm_eq hx (by rw [hl2]; omega) hw1 (p := pre.length) (by rw [hl2]; omega)
      have her : (pre ++ p :: r).eraseIdx pre.length = pre ++ r := by
        rw [List.eraseIdx_append_of_length_le (Nat.le_refl _), Nat.sub_self, List.eraseIdx_cons_zero]
      rw [her] at c2
      rw [if_neg hb, if_pos rfl, if_pos hm9, gd_in (by omega) (by decide), b1, b2, Option.bind_some, Option.bind_some, c1, Option.bind_some, List.filter_cons_of_neg (by exact hb)]
      obtain ⟨qu', nsz', v, w', a1, a2, a3, a4, a5⟩ := ih pre k k2 (i + 1) qu1 nsz1 w2 (by omega) (by omega) (by omega) (by omega) (by omega) g2 g3 c2 (b3.cong fun j hj => c3 _ (by omega))
      exact ⟨qu', nsz', v, w', a1, a2, a3, a4, fun j h1 h2 => by rw [a5 j h1 h2, c3 j h1, b4 j h2]⟩
theorem dr_loop {ki fi ta ro : Nat → Int32} {fin rnd : Int32} {mkd : Int32} {mark : Nat → Int32} (hm : ∀ x, x < 24 → (bit mkd x = true ↔ mark x ≠ -9)) : ∀ (k i : Nat) (ke va qu : Nat → Int32) (nsz : Int32) (w : Nat → Int32), i ≤ 24 → 24 - i < k → RS (pkS ki fi ke va ta ro qu nsz fin rnd) w → ∃ ke' va' qu' nsz' w', M_X3_removeEntriesWithoutKey_L2 400 mkd k (nI i) ke va qu nsz = some (ke', va', qu', nsz') ∧ M_X5_dropEntries_L2 400 mark k (nI i) w = some w' ∧ RS (pkS ki fi ke' va' ta ro qu' nsz' fin rnd) w' ∧ ∀ j, 388 ≤ j → w' j = w j := by
  intro k
  induction k with
  | zero => intro i ke va qu nsz w h1 h2; omega
  | succ k ih =>
    intro i ke va qu nsz w h1 h2 h
    have hki : RKi ki w := h.1
    have htb : RTb ki ke va w := h.2.2.2.1
    rw [M_X3_removeEntriesWithoutKey_L2, M_X5_dropEntries_L2]
    by_cases hi : i = 24
    · subst hi
      rw [if_pos (show (24 : Int32) ≤ nI 24 from nI_le (Nat.le_refl _) (by decide)), if_pos (show (24 : Int32) ≤ nI 24 from nI_le (Nat.le_refl _) (by decide))]
      exact ⟨_, _, _, _, _, rfl, rfl, h, fun _ _ => rfl⟩
    · have hlt : i < 24 := by omega
      rw [if_neg (show ¬ (24 : Int32) ≤ nI i from nI_ge hlt (by decide)), if_neg (show ¬ (24 : Int32) ≤ nI i from nI_ge hlt (by decide)), ctn_in mkd hlt, Option.bind_some, gd_in hlt (by decide), cl (by omega), nI_1]
      by_cases hm9 : mark i = -9
      · rw [if_pos hm9, if_neg (fun hh => (hm i hlt).mp hh hm9), if_pos rfl]
        exact ih (i + 1) ke va qu nsz w (by omega) (by omega) h
      · rw [if_neg hm9, if_pos ((hm i hlt).mpr hm9), if_neg i10, M_X3_announceEntriesWithoutKey, bPt w l0 (by omega), Option.bind_some, show w (15 * i + 0) = ki i from (hki i hlt).1, show (nI i * 6 : Int32) = nI (6 * i + 0) by rw [l6, pk_mul, Nat.mul_comm]; rfl]
        by_cases k1 : ki i = 1
        · obtain ⟨⟨n, hc, ht⟩, hu⟩ := (htb i hlt).2 k1
          obtain ⟨l, hl, htl⟩ := ht.list
          subst hl
          have hn := htl.1
          rw [if_pos k1]
          obtain ⟨ke', va', c1, c2, c3⟩ := kp_eq mkd hlt htl
          obtain ⟨qu', nsz', v, w', a1, a2, a3, a4, a5⟩ := dr_list hm (fun k31_2 kw31 => M_X5_dropEntries_L2 400 mark k (nI (i + 1)) kw31) ke hlt l [] 400 400 0 qu nsz w (by decide) (by decide) (by omega) (by omega) (Nat.le_refl _) (fun p hp => (htl.2.1 p hp).1) (fun j hj => by rw [Nat.add_zero]; exact (htl.2.2.2 j hj).1) (htl.wl hc hu) h.2.2.2.2.2.2.1
          have a2 : M_X5_dropEntries_L31 (fun k31_2 kw31 => M_X5_dropEntries_L2 400 mark k (nI (i + 1)) kw31) 400 mark (nI i) 400 0 w = M_X5_dropEntries_L2 400 mark k (nI (i + 1)) w' := a2
          have a3 : WL w' i (l.filter (fun p => bit mkd p.1)) := a3
          rw [a1, Option.bind_some, c1, Option.bind_some, a2]
          have hrs : RS (pkS ki fi ke' va' ta ro qu' nsz' fin rnd) w' := h.tabq hlt k1 (fun y j hy hne hj => c3 _ (by omega)) a5 a4 a3.1 c2.tb (fun j hj => by rw [(a3.2 j hj).1, (a3.2 j hj).2, (c2.2.2.2 j hj).1, (c2.2.2.2 j hj).2]; exact ⟨rfl, rfl⟩)
          obtain ⟨ke2, va2, qu2, nsz2, w2, d1, d2, d3, d4⟩ := ih (i + 1) ke' va' qu' nsz' w' (by omega) (by omega) hrs
          exact ⟨ke2, va2, qu2, nsz2, w2, d1, d2, d3, fun j hj => by rw [d4 j hj, a5 j (by omega) (by omega)]⟩
        · have t9 := (htb i hlt).1 k1
          rw [if_neg k1, an_nil mkd ke hlt qu nsz 400 0 (by decide) (by decide) (fun j hj => by rw [Nat.add_zero]; exact (t9 j hj).1), Option.bind_some]
          have htl : TL ke va i [] := ⟨Nat.zero_le _, fun p hp => (by cases hp), List.Pairwise.nil, fun j hj => by rw [(t9 j hj).1, (t9 j hj).2, (kAt_ge (l := []) (Nat.zero_le j)).1, (kAt_ge (l := []) (Nat.zero_le j)).2]; exact ⟨rfl, rfl⟩⟩
          obtain ⟨ke', va', c1, c2, c3⟩ := kp_eq mkd hlt htl
          rw [c1, Option.bind_some]
          have same : ∀ j, j < 144 → ke' j = ke j ∧ va' j = va j := fun j hj => by
            by_cases hin : j < 6 * i ∨ 6 * i + 6 ≤ j
            · exact c3 j hin
            · have e1 := c2.2.2.2 (j - 6 * i) (by omega)
              have e2 := htl.2.2.2 (j - 6 * i) (by omega)
              rw [show 6 * i + (j - 6 * i) = j by omega] at e1 e2
              rw [e1.1, e1.2, e2.1, e2.2]; exact ⟨rfl, rfl⟩
          have hrs : RS (pkS ki fi ke' va' ta ro qu nsz fin rnd) w := RS.cong (c := pkS ki fi ke va ta ro qu nsz fin rnd) (u := w) ⟨fun _ _ => rfl, fun _ _ => rfl, fun j hj => (same j hj).1, fun j hj => (same j hj).2, fun _ _ => rfl, fun _ _ => rfl, fun _ _ => rfl, rfl, rfl, rfl⟩ (fun _ _ => rfl) h
          exact ih (i + 1) ke' va' qu nsz w (by omega) (by omega) hrs
theorem f3_loop (v : Int32) {n m : Nat} (hn : n ≤ m) (hm : m < 1000) {b : Nat} (hb : n ≤ b) (hbm : b ≤ m) : ∀ (k i : Nat) (f : Nat → Int32), i ≤ b → b - i < k → ∃ f', M_J7_fill_fda19_L10 m (nI b) v k (nI i) f = some f' ∧ ∀ j, f' j = if i ≤ j ∧ j < b then v else f j := by
  intro k
  induction k with
  | zero => intro i f h1 h2; omega
  | succ k ih =>
    intro i f h1 h2
    rw [M_J7_fill_fda19_L10]
    by_cases hi : i = b
    · subst hi
      rw [if_pos (nI_le (Nat.le_refl _) (by omega))]
      exact ⟨f, rfl, fun j => by rw [if_neg (by omega)]⟩
    · rw [if_neg (nI_ge (by omega) (by omega)), gd_in (by omega) (by omega), cl (by omega), nI_1]
      obtain ⟨f', a1, a2⟩ := ih (i + 1) (upd f i v) (by omega) (by omega)
      refine ⟨f', a1, fun j => ?_⟩
      rw [a2 j]
      by_cases e : j = i
      · subst e; rw [if_neg (show ¬ (j + 1 ≤ j ∧ j < b) by omega), pk_us, if_pos (by omega)]
      · rw [pk_un e]
        by_cases c : i ≤ j ∧ j < b
        · rw [if_pos c, if_pos (show i + 1 ≤ j ∧ j < b by omega)]
        · rw [if_neg c, if_neg (show ¬ (i + 1 ≤ j ∧ j < b) by omega)]
theorem f3_eq (f : Nat → Int32) {x : Nat} (hx : x < 24) : ∃ f', M_J7_fill_fda19 400 72 f (nI x * 3) ((nI x + 1) * 3) (-9) = some f' ∧ ∀ j, f' j = if 3 * x ≤ j ∧ j < 3 * x + 3 then -9 else f j := by
  have e1 : (nI x * 3 : Int32) = nI (3 * x) := by rw [l3, pk_mul, Nat.mul_comm]
  have e2 : ((nI x + 1) * 3 : Int32) = nI (3 * x + 3) := by rw [nI_1, l3, pk_mul]; congr 1; omega
  obtain ⟨f', a1, a2⟩ := f3_loop (-9) (n := 0) (m := 72) (Nat.zero_le _) (by decide) (b := 3 * x + 3) (Nat.zero_le _) (by omega) 400 (3 * x) f (by omega) (by omega)
  refine ⟨f', ?_, a2⟩
  rw [M_J7_fill_fda19, e1, e2, M_J7_rangeCheck_23922, if_pos (nI_le (by omega) (by omega)), if_pos (show (0 : Int32) ≤ nI (3 * x) from nI_le (a := 0) (Nat.zero_le _) (by omega)), if_pos (show nI (3 * x + 3) ≤ Int32.ofNat 72 from nI_le (b := 72) (by omega) (by decide)), Option.bind_some]
  exact a1
theorem RS.fre {ki fi ke va ta ro qu w fi' ke' va' : Nat → Int32} {nsz fin fin' rnd : Int32} (h : RS (pkS ki fi ke va ta ro qu nsz fin rnd) w) {x : Nat} (hx : x < 24) (hf : ∀ j, fi' j = if 3 * x ≤ j ∧ j < 3 * x + 3 then -9 else fi j) (hk : ∀ j, j < 6 → ke' (6 * x + j) = -9 ∧ va' (6 * x + j) = -9) (ho : ∀ j, (j < 6 * x ∨ 6 * x + 6 ≤ j) → ke' j = ke j ∧ va' j = va j) (hb : ∀ b, bit fin' b = if b = x then false else bit fin b) : RS (pkS (upd ki x (-9)) fi' ke' va' (upd ta x (-9)) ro qu nsz fin' rnd) (upd (upd w (15 * x) (-9)) (15 * x + 1) 0) := by
  refine RS.of (fun y hy => ?_) (fun y hy => ?_) (h.2.2.2.2.2.1.cong fun j hj => ?_) (h.2.2.2.2.2.2.1.cong fun j hj => ?_) ?_
  · by_cases e : y = x
    · subst e
      have k0 : upd ki y (-9) y = -9 := pk_us
      have v0 : upd ta y (-9) y = -9 := pk_us
      have f0 : ∀ j, j < 3 → fi' (3 * y + j) = -9 := fun j hj => by rw [hf, if_pos (by omega)]
      refine ⟨⟨?_, Or.inl k0⟩, ⟨?_, ?_⟩, ⟨fun j hj => ⟨Or.inl (f0 j hj), fun _ => f0 j hj⟩, fun hh => absurd (k0.symm.trans hh) (by decide)⟩, ⟨fun _ => hk, fun hh => absurd (k0.symm.trans hh) (by decide)⟩, Or.inl v0, fun _ => v0, fun hh => absurd (k0.symm.trans hh) (by decide)⟩
      · show upd (upd w (15 * y) (-9)) (15 * y + 1) 0 (15 * y) = upd ki y (-9) y
        rw [k0, pk_un (by omega), pk_us]
      · show upd (upd w (15 * y) (-9)) (15 * y + 1) 0 (15 * y + 1) = if bit fin' y = true then 1 else 0
        rw [pk_us, hb y, if_pos rfl]; rfl
      · show bit fin' y = true → _
        rw [hb y, if_pos rfl]; intro hh; cases hh
    · refine (h.ro hy).cg (pk_un e) ?_ (fun j hj => ?_) (fun j hj => ho _ (by omega)) (pk_un e) (fun j hj => ?_)
      · show bit fin' y = bit fin y
        rw [hb y, if_neg e]
      · show fi' (3 * y + j) = fi (3 * y + j)
        rw [hf, if_neg (by omega)]
      · rw [pk_un (by omega), pk_un (by omega)]
  · show bit fin' y = false
    rw [hb y, if_neg (by omega)]; exact h.2.1.2 y hy
  · rw [pk_un (by omega), pk_un (by omega)]
  · rw [pk_un (by omega), pk_un (by omega)]
  · show upd (upd w (15 * x) (-9)) (15 * x + 1) 0 387 = rnd
    rw [pk_un (by omega), pk_un (by omega)]; exact h.2.2.2.2.2.2.2
theorem tl_any {ki ke va w : Nat → Int32} (h : RTb ki ke va w) {x : Nat} (hx : x < 24) : ∃ l, TL ke va x l := by
  by_cases k1 : ki x = 1
  · obtain ⟨⟨n, _, ht⟩, _⟩ := (h x hx).2 k1
    obtain ⟨l, _, htl⟩ := ht.list
    exact ⟨l, htl⟩
  · have t9 := (h x hx).1 k1
    exact ⟨[], Nat.zero_le _, fun p hp => (by cases hp), List.Pairwise.nil, fun j hj => by rw [(t9 j hj).1, (t9 j hj).2, (kAt_ge (l := []) (Nat.zero_le j)).1, (kAt_ge (l := []) (Nat.zero_le j)).2]; exact ⟨rfl, rfl⟩⟩
theorem fr_loop {ro qu : Nat → Int32} {nsz rnd : Int32} {mkd : Int32} {mark : Nat → Int32} (hm : ∀ x, x < 24 → (bit mkd x = true ↔ mark x ≠ -9)) (ki0 : Nat → Int32) (fin F : Int32) (hF : ∀ x, x < 24 → (bit F x = true ↔ ki0 x ≠ -9 ∧ bit mkd x = false)) (hf24 : ∀ b, 24 ≤ b → bit fin b = false) : ∀ (k i : Nat) (ki fi ke va ta : Nat → Int32) (f : Int32) (w : Nat → Int32), i ≤ 24 → 24 - i < k → RS (pkS ki fi ke va ta ro qu nsz f rnd) w → (∀ x, i ≤ x → x < 24 → ki x = ki0 x) → (∀ b, bit f b = (bit fin b && !(decide (b < i) && bit F b))) → ∃ ki' fi' ke' va' ta' w', M_X3_free_L2 400 F fin k (nI i) ki fi ke va ta = some (ki', fi', ke', va', ta', fin &&& (F ^^^ (-1))) ∧ M_X5_free_L4 mark k (nI (fb_ct (bit F) i)) (nI i) w = some (nI (fb_ct (bit F) 24), w') ∧ RS (pkS ki' fi' ke' va' ta' ro qu nsz (fin &&& (F ^^^ (-1))) rnd) w' ∧ ∀ j, 388 ≤ j → w' j = w j := by
  intro k
  induction k with
  | zero => intro i ki fi ke va ta f w h1 h2; omega
  | succ k ih =>
    intro i ki fi ke va ta f w h1 h2 h hk0 hf
    have hki : RKi ki w := h.1
    rw [M_X3_free_L2, M_X5_free_L4]
    by_cases hi : i = 24
    · subst hi
      rw [if_pos (show (24 : Int32) ≤ nI 24 from nI_le (Nat.le_refl _) (by decide)), if_pos (show (24 : Int32) ≤ nI 24 from nI_le (Nat.le_refl _) (by decide))]
      have ef : f = fin &&& (F ^^^ (-1)) := by
        apply bit_ext
        intro b hb
        rw [hf b, bit_diff fin F hb]
        by_cases h24 : b < 24
        · rw [decide_eq_true h24]; rfl
        · rw [hf24 b (by omega)]; rfl
      rw [← ef]
      exact ⟨_, _, _, _, _, _, rfl, rfl, h, fun _ _ => rfl⟩
    · have hlt : i < 24 := by omega
      rw [if_neg (show ¬ (24 : Int32) ≤ nI i from nI_ge hlt (by decide)), if_neg (show ¬ (24 : Int32) ≤ nI i from nI_ge hlt (by decide)), ctn_in F hlt, Option.bind_some, bAl_in w hlt, (hki i hlt).1, Option.bind_some, nI_1]
      by_cases hb : bit F i = true
      · obtain ⟨hb1, hb2⟩ := (hF i hlt).mp hb
        have hm9 : mark i = -9 := Classical.byContradiction fun hh => by
          have := (hm i hlt).mpr hh
          rw [hb2] at this; cases this
        rw [← hk0 i (Nat.le_refl i) hlt] at hb1
        obtain ⟨fi1, f1, f2⟩ := f3_eq fi hlt
        rw [nI_1] at f1
        obtain ⟨l, htl⟩ := tl_any h.2.2.2.1 hlt
        have htl : TL ke va i l := htl
        obtain ⟨ke1, va1, c1, c2, c3⟩ := kp_eq 0 hlt htl
        have hnil : l.filter (fun p => bit 0 p.1) = [] := List.filter_eq_nil_iff.mpr fun p _ => by rw [bit_0]; decide
        rw [hnil] at c2
        rw [if_pos hb, if_neg i10, if_neg hb1, if_neg i10, gd_in hlt (by decide), gd_in hlt (by decide), gd_in hlt (by decide), cl (by omega), if_pos hm9, f1, Option.bind_some, c1, Option.bind_some, show (15 * nI i + 0 : Int32) = nI (15 * i) by rw [l15, l0, pk_mul, nI_add]; rfl, show (15 * nI i + 1 : Int32) = nI (15 * i + 1) by rw [l15, l1, pk_mul, nI_add], gd_in (by omega) (by decide), gd_in (by omega) (by decide), cl (by omega), cl (by omega), nI_1]
        obtain ⟨s, s1, s2⟩ := sO (nI i)
        have hsb : ∀ b, bit s b = decide (b = i) := fun b => by
          by_cases e : b = i
          · subst e; rw [(s2 b).mpr ⟨hlt, rfl⟩, decide_eq_true rfl]
          · rw [decide_eq_false e]
            exact bf fun hh => e ((nI_eq (by omega) (by have := ((s2 b).mp hh).1; omega)).mp ((s2 b).mp hh).2).symm
        have hfb : ∀ b, bit (f &&& (s ^^^ (-1))) b = if b = i then false else bit f b := fun b => by
          by_cases h32 : b < 32
          · rw [bit_diff f s h32, hsb b]
            by_cases e : b = i
            · rw [if_pos e, decide_eq_true e]; simp
            · rw [if_neg e, decide_eq_false e]; simp
          · rw [bit_big (by omega), if_neg (by omega), bit_big (by omega)]
        have hrs := h.fre hlt f2 (fun j hj => by rw [(c2.2.2.2 j hj).1, (c2.2.2.2 j hj).2]; exact kAt_ge (l := []) (Nat.zero_le j)) c3 hfb
        obtain ⟨ki', fi', ke', va', ta', w', a1, a2, a3, a4⟩ := ih (i + 1) _ _ _ _ _ _ _ (by omega) (by omega) hrs (fun x h1 h2 => by rw [pk_un (by omega)]; exact hk0 x (by omega) h2) (fun b => by
          rw [hfb b]
          by_cases e : b = i
          · subst e
            rw [if_pos rfl, decide_eq_true (Nat.lt_succ_self b), hb]; simp
          · rw [if_neg e, hf b]
            by_cases hbi : b < i
            · rw [decide_eq_true hbi, decide_eq_true (show b < i + 1 by omega)]
            · rw [decide_eq_false hbi, decide_eq_false (show ¬ b < i + 1 by omega)])
        rw [fb_ct_succ, if_pos hb] at a2
        exact ⟨ki', fi', ke', va', ta', w', a1, a2, a3, fun j hj => by rw [a4 j hj, pk_un (by omega), pk_un (by omega)]⟩
      · obtain ⟨ki', fi', ke', va', ta', w', a1, a2, a3, a4⟩ := ih (i + 1) ki fi ke va ta f w (by omega) (by omega) h (fun x h1 h2 => hk0 x (by omega) h2) (fun b => by
          rw [hf b]
          by_cases e : b = i
          · subst e
            rw [decide_eq_true (Nat.lt_succ_self b), decide_eq_false (Nat.lt_irrefl b), bf hb]; rfl
          · by_cases hbi : b < i
            · rw [decide_eq_true hbi, decide_eq_true (show b < i + 1 by omega)]
            · rw [decide_eq_false hbi, decide_eq_false (show ¬ b < i + 1 by omega)])
        rw [fb_ct_succ, if_neg hb, Nat.add_zero] at a2
        rw [if_neg hb, if_pos rfl]
        refine ⟨ki', fi', ke', va', ta', w', a1, ?_, a3, a4⟩
        by_cases hk9 : ki i = -9
        · rw [if_pos hk9, if_pos rfl]; exact a2
        · rw [if_neg hk9, if_neg i10, gd_in hlt (by decide), cl (by omega)]
          have hm9 : mark i ≠ -9 := fun hh => hb ((hF i hlt).mpr ⟨by rw [← hk0 i (Nat.le_refl i) hlt]; exact hk9, bf fun h' => (hm i hlt).mp h' hh⟩)
          rw [if_neg hm9]; exact a2
