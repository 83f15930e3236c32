/-! the reading methods answer alike -/
theorem aTK_in (ki : Nat → Int32) {x y : Nat} (hx : x < 24) (hy : y < 24) : M_X3_isTableAndKey ki (nI x) (nI y) = some (if ki x = 1 ∧ ki y ≠ -9 then 1 else 0) := by
  rw [M_X3_isTableAndKey, aKd_in ki hx, Option.bind_some]
  by_cases h1 : ki x = 1
  · rw [if_pos h1, if_neg i10, aAl_in ki hy, Option.bind_some]
    by_cases h9 : ki y = -9 <;> simp [h1, h9]
  · rw [if_neg h1, if_pos rfl, if_neg (fun h => h1 h.1)]
theorem aTK_o1 (ki : Nat → Int32) {p : Int32} (h : p < 0 ∨ nI 24 ≤ p) (k : Int32) : M_X3_isTableAndKey ki p k = some 0 := by
  rw [M_X3_isTableAndKey, aKd_out ki h, Option.bind_some, if_pos rfl]
theorem aTK_o2 (ki : Nat → Int32) {x : Nat} (hx : x < 24) {p : Int32} (h : p < 0 ∨ nI 24 ≤ p) : M_X3_isTableAndKey ki (nI x) p = some 0 := by
  rw [M_X3_isTableAndKey, aKd_in ki hx, Option.bind_some, aAl_out ki h]
  by_cases h1 : ki x = 1
  · rw [if_pos h1, if_neg i10, Option.bind_some, if_pos rfl]
  · rw [if_neg h1, if_pos rfl]
theorem q_kind {ki w : Nat → Int32} (h : RKi ki w) (p : Int32) : ∃ r, M_X4_kind ki p = some r ∧ M_X5_kind w p = some r := by
  rcases cls p (n := 24) (by decide) with ho | ⟨j, hj, rfl⟩
  · exact ⟨-9, by rw [M_X4_kind, wA_out l24 ho, Option.bind_some, if_pos rfl], by rw [M_X5_kind, bAl_out w ho, Option.bind_some, if_pos rfl]⟩
  · refine ⟨ki j, by rw [M_X4_kind, wA_in l24 hj (by decide), Option.bind_some, if_neg i10, gd_in hj (by decide), cl (by omega)], ?_⟩
    rw [M_X5_kind, bAl_in w hj, Option.bind_some, bPt w l0 (by omega), Nat.add_zero, (h j hj).1]
    by_cases h9 : ki j = -9 <;> simp [h9]
theorem q_field {ki fi w : Nat → Int32} (h : RKi ki w) (hf : RFd ki fi w) (p1 p2 : Int32) : ∃ r, M_X4_field ki fi p1 p2 = some r ∧ M_X5_field w p1 p2 = some r := by
  rw [M_X4_field, M_X5_field]
  rcases cls p1 (n := 24) (by decide) with ho | ⟨x, hx, rfl⟩
  · exact ⟨-1, by rw [aKd_out ki ho, Option.bind_some, if_pos rfl], by rw [bKd_out w ho, Option.bind_some, if_pos rfl]⟩
  · rw [aKd_in ki hx, bKd_in w hx (by decide), (h x hx).1, Option.bind_some, Option.bind_some]
    by_cases h0 : ki x = 0
    · rw [if_pos h0, if_neg i10, if_neg i10]
      rcases cls p2 (n := 3) (by decide) with ho | ⟨j, hj, rfl⟩
      · exact ⟨-1, by rw [wA_out l3 ho, Option.bind_some, if_pos rfl], by rw [wB_out l2 (by decide) ho, Option.bind_some, if_pos rfl]⟩
      · refine ⟨fi (3 * x + j), ?_, ?_⟩
        · rw [wA_in l3 hj (by decide), Option.bind_some, if_neg i10, l3, pk_mul, nI_add, gd_in (by omega) (by decide), cl (by omega), Nat.mul_comm x 3]
        · rw [wB_in l2 (by omega) (by decide), Option.bind_some, if_neg i10, bPt w (k := 3 + nI j) (n := 3 + j) (by rw [l3, nI_add]) (by omega), Option.bind_some, ← Nat.add_assoc, (hf x hx).2 h0 j (by omega), if_pos hj]
    · rw [if_neg h0]; exact ⟨-1, rfl, rfl⟩
theorem q_root {ro w : Nat → Int32} (h : RRo ro w) (p : Int32) : ∃ r, M_X4_root ro p = some r ∧ M_X5_root w p = some r := by
  rw [M_X4_root, M_X5_root]
  rcases cls p (n := 6) (by decide) with ho | ⟨j, hj, rfl⟩
  · exact ⟨-1, by rw [wA_out l6 ho, Option.bind_some, if_pos rfl], by rw [wB_out l5 (by decide) ho, Option.bind_some, if_pos rfl]⟩
  · exact ⟨ro j, by rw [wA_in l6 hj (by decide), Option.bind_some, if_neg i10, gd_in hj (by decide), cl (by omega)], by rw [wB_in l5 (by omega) (by decide), Option.bind_some, if_neg i10, l360, nI_add, gd_in (by omega) (by decide), cl (by omega), (h j hj).2]⟩
theorem q_target {ki ta w : Nat → Int32} (h : RKi ki w) (ht : RWk ki ta w) (p : Int32) : ∃ r, M_X4_target ki ta p = some r ∧ M_X5_target w p = some r := by
  rw [M_X4_target, M_X5_target]
  rcases cls p (n := 24) (by decide) with ho | ⟨x, hx, rfl⟩
  · exact ⟨-1, by rw [aKd_out ki ho, Option.bind_some, if_pos rfl], by rw [bKd_out w ho, Option.bind_some, if_pos rfl]⟩
  · rw [aKd_in ki hx, bKd_in w hx (by decide), (h x hx).1, Option.bind_some, Option.bind_some]
    by_cases h2 : ki x = 2
    · rw [if_pos h2, if_neg i10, if_neg i10]
      have := (ht x hx).2.2 h2 0 (by decide)
      rw [Nat.add_zero, if_pos rfl] at this
      exact ⟨ta x, by rw [gd_in hx (by decide), cl (by omega)], by rw [bPt w l3 (by omega), Option.bind_some, this]⟩
    · rw [if_neg h2]; exact ⟨-1, rfl, rfl⟩
/-- the place of a key, on either side -/
theorem plA (ke : Nat → Int32) {x : Nat} (hx : x < 24) (key : Int32) : ∀ (k i : Nat), i ≤ 6 → 6 - i < k → (∃ j, i ≤ j ∧ j < 6 ∧ ke (6 * x + j) = key ∧ (∀ l, i ≤ l → l < j → ke (6 * x + l) ≠ key) ∧ M_X3_placeOfKey_L17 (nI x) key ke k (nI (6 * x + i)) = some (nI (6 * x + j))) ∨ ((∀ l, i ≤ l → l < 6 → ke (6 * x + l) ≠ key) ∧ M_X3_placeOfKey_L17 (nI x) key ke k (nI (6 * x + i)) = some (-9)) := by
  intro k
  induction k with
  | zero => intro i h1 h2; omega
  | succ k ih =>
    intro i h1 h2
    have e6 : ((nI x + 1) * 6 : Int32) = nI (6 * x + 6) := by rw [nI_1, l6, pk_mul]; congr 1; omega
    rw [M_X3_placeOfKey_L17, e6]
    by_cases hi : i = 6
    · subst hi
      rw [if_pos (nI_le (Nat.le_refl _) (by omega))]
      exact Or.inr ⟨fun l h3 h4 => by omega, rfl⟩
    · rw [if_neg (nI_ge (by omega) (by omega)), gd_in (by omega) (by decide), cl (by omega)]
      by_cases hk : ke (6 * x + i) = key
      · rw [if_pos hk]
        exact Or.inl ⟨i, Nat.le_refl i, by omega, hk, fun l h3 h4 => by omega, rfl⟩
      · rw [if_neg hk, nI_1, Nat.add_assoc]
        rcases ih (i + 1) (by omega) (by omega) with ⟨j, a1, a2, a3, a4, a5⟩ | ⟨a1, a2⟩
        · refine Or.inl ⟨j, by omega, a2, a3, fun l h3 h4 => ?_, a5⟩
          by_cases hl : l = i
          · rw [hl]; exact hk
          · exact a4 l (by omega) h4
        · refine Or.inr ⟨fun l h3 h4 => ?_, a2⟩
          by_cases hl : l = i
          · rw [hl]; exact hk
          · exact a1 l (by omega) h4
theorem pl_A (ke : Nat → Int32) {x : Nat} (hx : x < 24) (key : Int32) : (∃ j, j < 6 ∧ ke (6 * x + j) = key ∧ (∀ l, l < j → ke (6 * x + l) ≠ key) ∧ M_X3_placeOfKey 400 ke (nI x) key = some (nI (6 * x + j))) ∨ ((∀ l, l < 6 → ke (6 * x + l) ≠ key) ∧ M_X3_placeOfKey 400 ke (nI x) key = some (-9)) := by
  have e : M_X3_placeOfKey 400 ke (nI x) key = M_X3_placeOfKey_L17 (nI x) key ke 400 (nI (6 * x + 0)) := by
    rw [M_X3_placeOfKey, wA_in l24 hx (by decide), Option.bind_some, if_neg i10, l6, pk_mul, Nat.mul_comm x 6, Nat.add_zero]
  rw [e]
  rcases plA ke hx key 400 0 (by omega) (by omega) with ⟨j, a1, a2, a3, a4, a5⟩ | ⟨a1, a2⟩
  · exact Or.inl ⟨j, a2, a3, fun l h => a4 l (Nat.zero_le l) h, a5⟩
  · exact Or.inr ⟨fun l h => a1 l (Nat.zero_le l) h, a2⟩
theorem plB (w : Nat → Int32) {x n : Nat} (hx : x < 24) (hn : n ≤ 6) (hc : w (15 * x + 2) = nI n) (key : Int32) : ∀ (k i : Nat), i ≤ n → n - i < k → (∃ j, i ≤ j ∧ j < n ∧ w (15 * x + 3 + j) = key ∧ (∀ l, i ≤ l → l < j → w (15 * x + 3 + l) ≠ key) ∧ M_X5_placeOf_L2 (nI x) key w k (nI i) = some (nI j)) ∨ ((∀ l, i ≤ l → l < n → w (15 * x + 3 + l) ≠ key) ∧ M_X5_placeOf_L2 (nI x) key w k (nI i) = some (-9)) := by
  intro k
  induction k with
  | zero => intro i h1 h2; omega
  | succ k ih =>
    intro i h1 h2
    rw [M_X5_placeOf_L2, bPt w l2 (by omega), Option.bind_some, hc]
    by_cases hi : i = n
    · subst hi
      rw [if_pos (nI_le (Nat.le_refl _) (by omega))]
      exact Or.inr ⟨fun l h3 h4 => by omega, rfl⟩
    · rw [if_neg (nI_ge (by omega) (by omega)), bPt w (k := 3 + nI i) (n := 3 + i) (by rw [l3, nI_add]) (by omega), Option.bind_some, ← Nat.add_assoc]
      by_cases hk : w (15 * x + 3 + i) = key
      · rw [if_pos hk]
        exact Or.inl ⟨i, Nat.le_refl i, by omega, hk, fun l h3 h4 => by omega, rfl⟩
      · rw [if_neg hk, nI_1]
        rcases ih (i + 1) (by omega) (by omega) with ⟨j, a1, a2, a3, a4, a5⟩ | ⟨a1, a2⟩
        · refine Or.inl ⟨j, by omega, a2, a3, fun l h3 h4 => ?_, a5⟩
          by_cases hl : l = i
          · rw [hl]; exact hk
          · exact a4 l (by omega) h4
        · refine Or.inr ⟨fun l h3 h4 => ?_, a2⟩
          by_cases hl : l = i
          · rw [hl]; exact hk
          · exact a1 l (by omega) h4
/-- a key that is an identifier: both sides find it at the same place, or both don't -/
theorem pl_both {ke va w : Nat → Int32} {x n y : Nat} (hx : x < 24) (hc : w (15 * x + 2) = nI n) (ht : TB ke va x n) (hu : ∀ j, j < 6 → w (15 * x + 3 + j) = ke (6 * x + j) ∧ w (15 * x + 9 + j) = va (6 * x + j)) (hy : y < 24) : (∃ j, j < n ∧ ke (6 * x + j) = nI y ∧ (∀ l, l < j → ke (6 * x + l) ≠ nI y) ∧ M_X3_placeOfKey 400 ke (nI x) (nI y) = some (nI (6 * x + j)) ∧ M_X5_placeOf 400 w (nI x) (nI y) = some (nI j)) ∨ ((∀ l, l < 6 → ke (6 * x + l) ≠ nI y) ∧ M_X3_placeOfKey 400 ke (nI x) (nI y) = some (-9) ∧ M_X5_placeOf 400 w (nI x) (nI y) = some (-9)) := by
  obtain ⟨hn, t1, t2, t3⟩ := ht
  have hB := plB w hx hn hc (nI y) 400 0 (Nat.zero_le n) (by omega)
  have e : M_X5_placeOf 400 w (nI x) (nI y) = M_X5_placeOf_L2 (nI x) (nI y) w 400 (nI 0) := by rw [M_X5_placeOf, l0]
  rw [e]
  rcases pl_A ke hx (nI y) with ⟨j, a1, a2, a3, a4⟩ | ⟨a1, a2⟩
  · have hjn : j < n := by
      by_cases h : j < n
      · exact h
      · exact absurd ((t2 j (by omega) a1).1.symm.trans a2).symm (n9 (by omega))
    rcases hB with ⟨i, b1, b2, b3, b4, b5⟩ | ⟨b1, b2⟩
    · have : i = j := t3 i j b2 hjn (by rw [← (hu i (by omega)).1, b3, a2])
      subst this
      exact Or.inl ⟨i, hjn, a2, a3, a4, b5⟩
    · exact absurd ((hu j (by omega)).1.trans a2) (b1 j (Nat.zero_le j) hjn)
  · rcases hB with ⟨i, b1, b2, b3, b4, b5⟩ | ⟨b1, b2⟩
    · exact absurd ((hu i (by omega)).1.symm.trans b3) (a1 i (by omega))
    · exact Or.inr ⟨a1, a2, b2⟩
theorem q_get {ki ke va w : Nat → Int32} (h : RKi ki w) (ht : RTb ki ke va w) (p1 p2 : Int32) : ∃ r, M_X4_get 400 ki ke va p1 p2 = some r ∧ M_X5_get 400 w p1 p2 = some r := by
  rw [M_X4_get, M_X5_get]
  rcases cls p1 (n := 24) (by decide) with ho | ⟨x, hx, rfl⟩
  · exact ⟨-1, by rw [aTK_o1 ki ho, Option.bind_some, if_pos rfl], by rw [bKd_out w ho, Option.bind_some, if_pos rfl]⟩
  · rw [bKd_in w hx (by decide), (h x hx).1, Option.bind_some]
    rcases cls p2 (n := 24) (by decide) with ho | ⟨y, hy, rfl⟩
    · rw [aTK_o2 ki hx ho, Option.bind_some, if_pos rfl, bAl_out w ho, Option.bind_some, if_pos rfl]
      exact ⟨-1, rfl, by by_cases h1 : ki x = 1 <;> simp [h1]⟩
    · rw [aTK_in ki hx hy, bAl_in w hy, (h y hy).1, Option.bind_some, Option.bind_some]
      by_cases h1 : ki x = 1
      · by_cases h9 : ki y = -9
        · exact ⟨-1, by simp [h9], by simp [h1, h9]⟩
        · rw [if_pos (show ki x = 1 ∧ ki y ≠ -9 from ⟨h1, h9⟩), if_neg i10, if_pos h1, if_neg i10, if_neg h9, if_neg i10]
          obtain ⟨⟨n, hc, htb⟩, hu⟩ := (ht x hx).2 h1
          have hn := htb.1
          rcases pl_both hx hc htb hu hy with ⟨j, a1, a2, a3, a4, a5⟩ | ⟨a1, a2, a3⟩
          · refine ⟨va (6 * x + j), ?_, ?_⟩
            · rw [a4, Option.bind_some, if_neg (n9 (by omega)), gd_in (by omega) (by decide), cl (by omega)]
            · rw [a5, Option.bind_some, if_neg (n9 (by omega)), bPt w (k := 9 + nI j) (n := 9 + j) (by rw [l9, nI_add]) (by omega), Option.bind_some, ← Nat.add_assoc, (hu j (by omega)).2]
          · exact ⟨-9, by rw [a2, Option.bind_some, if_pos rfl], by rw [a3, Option.bind_some, if_pos rfl]⟩
      · exact ⟨-1, by simp [h1], by simp [h1]⟩
theorem pl_9 {ke va : Nat → Int32} {x n : Nat} (hx : x < 24) (ht : TB ke va x n) : M_X3_placeOfKey 400 ke (nI x) (-9) = some (if n < 6 then nI (6 * x + n) else -9) := by
  obtain ⟨hn, t1, t2, t3⟩ := ht
  rcases pl_A ke hx (-9) with ⟨j, a1, a2, a3, a4⟩ | ⟨a1, a2⟩
  · have hjn : j = n := by
      rcases Nat.lt_trichotomy j n with h | h | h
      · obtain ⟨a, h24, ha⟩ := (t1 j h).1
        exact absurd (ha.symm.trans a2) (n9 (by omega))
      · exact h
      · exact absurd (t2 n (Nat.le_refl n) (by omega)).1 (a3 n h)
    subst hjn
    rw [a4, if_pos a1]
  · have : ¬ n < 6 := fun h => absurd (t2 n (Nat.le_refl n) h).1 (a1 n h)
    rw [a2, if_neg this]
theorem q_entryCount {ki ke va w : Nat → Int32} (h : RKi ki w) (ht : RTb ki ke va w) (p1 : Int32) : ∃ r, M_X4_entryCount 400 ki ke p1 = some r ∧ M_X5_entryCount w p1 = some r := by
  rw [M_X4_entryCount, M_X5_entryCount]
  rcases cls p1 (n := 24) (by decide) with ho | ⟨x, hx, rfl⟩
  · exact ⟨-1, by rw [aKd_out ki ho, Option.bind_some, if_pos rfl], by rw [bKd_out w ho, Option.bind_some, if_pos rfl]⟩
  · rw [aKd_in ki hx, bKd_in w hx (by decide), (h x hx).1, Option.bind_some, Option.bind_some]
    by_cases h1 : ki x = 1
    · rw [if_pos h1, if_neg i10, if_neg i10]
      obtain ⟨⟨n, hc, htb⟩, hu⟩ := (ht x hx).2 h1
      refine ⟨nI n, ?_, by rw [bPt w l2 (by omega), Option.bind_some, hc]⟩
      rw [pl_9 hx htb, Option.bind_some]
      have hn := htb.1
      by_cases h6 : n < 6
      · rw [if_pos h6, if_neg (n9 (by omega)), l6, pk_mul, pk_sub (by omega)]
        congr 2
        omega
      · rw [if_neg h6, if_pos rfl]
        have : n = 6 := by omega
        rw [this]; rfl
    · rw [if_neg h1]; exact ⟨-1, rfl, rfl⟩
theorem q_entryKey {ki ke va w : Nat → Int32} (h : RKi ki w) (ht : RTb ki ke va w) (p1 p2 : Int32) : ∃ r, M_X4_entryKey ki ke p1 p2 = some r ∧ M_X5_entryKey w p1 p2 = some r := by
  rw [M_X4_entryKey, M_X5_entryKey]
  rcases cls p1 (n := 24) (by decide) with ho | ⟨x, hx, rfl⟩
  · exact ⟨-1, by rw [aKd_out ki ho, Option.bind_some, if_pos rfl], by rw [bKd_out w ho, Option.bind_some, if_pos rfl]⟩
  · rw [aKd_in ki hx, bKd_in w hx (by decide), (h x hx).1, Option.bind_some, Option.bind_some]
    by_cases h1 : ki x = 1
    · rw [if_pos h1, if_neg i10, if_neg i10]
      obtain ⟨⟨n, hc, hn, t1, t2, t3⟩, hu⟩ := (ht x hx).2 h1
      by_cases h0 : 0 ≤ p2
      · rw [if_pos h0, if_pos h0, bPt w l2 (by omega), Option.bind_some, hc]
        obtain ⟨j, hj, rfl⟩ := nI_of (x := p2) (by rw [Int32.lt_iff_toInt_lt]; rw [Int32.le_iff_toInt_le] at h0; omega)
        by_cases h6 : j < 6
        · rw [if_neg (show ¬ (6 : Int32) ≤ nI j from nI_ge h6 (by decide)), l6, pk_mul, nI_add, gd_in (by omega) (by decide), cl (by omega), Nat.mul_comm x 6]
          by_cases hjn : j < n
          · rw [if_neg (nI_ge hjn (by omega)), bPt w (k := 3 + nI j) (n := 3 + j) (by rw [l3, nI_add]) (by omega), Option.bind_some, ← Nat.add_assoc, (hu j h6).1]
            exact ⟨_, rfl, rfl⟩
          · rw [if_pos (nI_le (by omega) hj), (t2 j (by omega) h6).1]
            exact ⟨_, rfl, rfl⟩
        · rw [if_pos (show (6 : Int32) ≤ nI j from nI_le (a := 6) (by omega) hj), if_pos (nI_le (by omega) hj)]
          exact ⟨_, rfl, rfl⟩
      · rw [if_neg h0, if_neg h0]; exact ⟨-1, rfl, rfl⟩
    · rw [if_neg h1]; exact ⟨-1, rfl, rfl⟩
theorem q_noticeCount {qu : Nat → Int32} {nsz : Int32} {w : Nat → Int32} (h : RQu qu nsz w) : M_X5_noticeCount w = some nsz := by
  obtain ⟨n, -, h1, h2, -⟩ := h
  rw [M_X5_noticeCount, l366, gd_in (by decide) (by decide), cl (by decide), h2, h1]
theorem q_lastRounds {rnd : Int32} {w : Nat → Int32} (h : w 387 = rnd) : M_X5_lastRounds w = some rnd := by
  rw [M_X5_lastRounds, show (387 : Int32) = nI 387 from rfl, gd_in (by decide) (by decide), cl (by decide), h]
