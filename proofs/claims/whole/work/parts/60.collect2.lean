/-! a table as a list of its entries -/
def kAt (l : List (Nat × Nat)) (j : Nat) : Int32 := (l[j]?).elim (-9) (fun p => nI p.1)
def vAt (l : List (Nat × Nat)) (j : Nat) : Int32 := (l[j]?).elim (-9) (fun p => nI p.2)
theorem kAt_ge {l : List (Nat × Nat)} {j : Nat} (h : l.length ≤ j) : kAt l j = -9 ∧ vAt l j = -9 := by
  rw [kAt, vAt, List.getElem?_eq_none h]; exact ⟨rfl, rfl⟩
theorem kAt_lt {l : List (Nat × Nat)} {j : Nat} (h : j < l.length) : kAt l j = nI (l[j]).1 ∧ vAt l j = nI (l[j]).2 := by
  rw [kAt, vAt, List.getElem?_eq_getElem h]; exact ⟨rfl, rfl⟩
theorem kAt_cs (p : Nat × Nat) (l : List (Nat × Nat)) (j : Nat) : kAt (p :: l) (j + 1) = kAt l j ∧ vAt (p :: l) (j + 1) = vAt l j := by
  rw [kAt, vAt, List.getElem?_cons_succ]; exact ⟨rfl, rfl⟩
theorem kAt_sn (l : List (Nat × Nat)) (p : Nat × Nat) (j : Nat) : kAt (l ++ [p]) j = (if j = l.length then nI p.1 else kAt l j) ∧ vAt (l ++ [p]) j = (if j = l.length then nI p.2 else vAt l j) := by
  by_cases h : j < l.length
  · rw [kAt, vAt, List.getElem?_append_left h, if_neg (by omega), if_neg (by omega)]; exact ⟨rfl, rfl⟩
  · by_cases e : j = l.length
    · subst e
      rw [kAt, vAt, List.getElem?_append_right (Nat.le_refl _), Nat.sub_self, if_pos rfl, if_pos rfl]; exact ⟨rfl, rfl⟩
    · have h1 := kAt_ge (l := l ++ [p]) (j := j) (by rw [List.length_append]; show l.length + 1 ≤ j; omega)
      have h2 := kAt_ge (l := l) (j := j) (by omega)
      rw [if_neg e, if_neg e, h1.1, h1.2, h2.1, h2.2]; exact ⟨rfl, rfl⟩
def TL (ke va : Nat → Int32) (x : Nat) (l : List (Nat × Nat)) : Prop := l.length ≤ 6 ∧ (∀ p, p ∈ l → p.1 < 24 ∧ p.2 < 24) ∧ l.Pairwise (fun a b => a.1 ≠ b.1) ∧ ∀ j, j < 6 → ke (6 * x + j) = kAt l j ∧ va (6 * x + j) = vAt l j
def WL (w : Nat → Int32) (x : Nat) (l : List (Nat × Nat)) : Prop := w (15 * x + 2) = nI l.length ∧ ∀ j, j < 6 → w (15 * x + 3 + j) = kAt l j ∧ w (15 * x + 9 + j) = vAt l j
theorem TB.list {ke va : Nat → Int32} {x n : Nat} (h : TB ke va x n) : ∃ l, l.length = n ∧ TL ke va x l := by
  obtain ⟨t0, t1, t2, t3⟩ := h
  refine ⟨(List.range n).map (fun j => ((ke (6 * x + j)).toNatClampNeg, (va (6 * x + j)).toNatClampNeg)), by simp, by simpa using t0, fun p hp => ?_, ?_, fun j hj => ?_⟩
  · obtain ⟨j, hj, rfl⟩ := List.mem_map.mp hp
    obtain ⟨⟨a, ha, ea⟩, ⟨b, hb, eb⟩⟩ := t1 j (List.mem_range.mp hj)
    rw [ea, eb, cl (by omega), cl (by omega)]; exact ⟨ha, hb⟩
  · rw [List.pairwise_map]
    refine List.Pairwise.imp_of_mem (fun {i j} hi hj hne e => hne ?_) (List.nodup_range (n := n))
    have hi := List.mem_range.mp hi
    have hj := List.mem_range.mp hj
    obtain ⟨⟨a, ha, ea⟩, -⟩ := t1 i hi
    obtain ⟨⟨b, hb, eb⟩, -⟩ := t1 j hj
    refine t3 i j hi hj ?_
    have e : (ke (6 * x + i)).toNatClampNeg = (ke (6 * x + j)).toNatClampNeg := e
    rw [ea, eb, cl (by omega), cl (by omega)] at e
    rw [ea, eb, e]
  · by_cases hjn : j < n
    · obtain ⟨⟨a, ha, ea⟩, ⟨b, hb, eb⟩⟩ := t1 j hjn
      have := kAt_lt (l := (List.range n).map (fun j => ((ke (6 * x + j)).toNatClampNeg, (va (6 * x + j)).toNatClampNeg))) (j := j) (by simpa using hjn)
      rw [this.1, this.2, List.getElem_map, List.getElem_range, ea, eb, cl (by omega), cl (by omega)]
      exact ⟨rfl, rfl⟩
    · have := kAt_ge (l := (List.range n).map (fun j => ((ke (6 * x + j)).toNatClampNeg, (va (6 * x + j)).toNatClampNeg))) (j := j) (by simp; omega)
      rw [this.1, this.2]; exact t2 j (by omega) hj
theorem TL.tb {ke va : Nat → Int32} {x : Nat} {l : List (Nat × Nat)} (h : TL ke va x l) : TB ke va x l.length := by
  obtain ⟨t0, t1, t2, t3⟩ := h
  refine ⟨t0, fun j hj => ?_, fun j hj hj6 => ?_, fun i j hi hj e => ?_⟩
  · rw [(t3 j (by omega)).1, (t3 j (by omega)).2, (kAt_lt hj).1, (kAt_lt hj).2]
    have := t1 _ (List.getElem_mem hj)
    exact ⟨⟨_, this.1, rfl⟩, ⟨_, this.2, rfl⟩⟩
  · rw [(t3 j hj6).1, (t3 j hj6).2]; exact kAt_ge hj
  · rw [(t3 i (by omega)).1, (t3 j (by omega)).1, (kAt_lt hi).1, (kAt_lt hj).1] at e
    have a1 := (t1 _ (List.getElem_mem hi)).1
    have a2 := (t1 _ (List.getElem_mem hj)).1
    have e := (nI_eq (by omega) (by omega)).mp e
    rw [List.pairwise_iff_getElem] at t2
    rcases Nat.lt_trichotomy i j with h1 | h1 | h1
    · exact absurd e (t2 i j hi hj h1)
    · exact h1
    · exact absurd e.symm (t2 j i hj hi h1)
theorem TL.wl {ke va w : Nat → Int32} {x : Nat} {l : List (Nat × Nat)} (h : TL ke va x l) (hc : w (15 * x + 2) = nI l.length) (hu : ∀ j, j < 6 → w (15 * x + 3 + j) = ke (6 * x + j) ∧ w (15 * x + 9 + j) = va (6 * x + j)) : WL w x l :=
  ⟨hc, fun j hj => ⟨(hu j hj).1.trans (h.2.2.2 j hj).1, (hu j hj).2.trans (h.2.2.2 j hj).2⟩⟩
/-- keepEntries keeps what the set holds, in its order -/
theorem kp_loop (K : Int32) {x : Nat} (hx : x < 24) : ∀ (k i : Nat) (pre r : List (Nat × Nat)) (ke va : Nat → Int32), i ≤ 6 → 6 - i < k → pre.length ≤ i → r.length ≤ 6 - i → (∀ p, p ∈ r → p.1 < 24) → (∀ j, j < i → ke (6 * x + j) = kAt pre j ∧ va (6 * x + j) = vAt pre j) → (∀ j, j < 6 - i → ke (6 * x + i + j) = kAt r j ∧ va (6 * x + i + j) = vAt r j) → ∃ ke' va', M_X3_keepEntries_L21 (nI x) K k (nI (6 * x + pre.length)) (nI (6 * x + i)) ke va = some (ke', va') ∧ (∀ j, j < 6 → ke' (6 * x + j) = kAt (pre ++ r.filter (fun p => bit K p.1)) j ∧ va' (6 * x + j) = vAt (pre ++ r.filter (fun p => bit K p.1)) j) ∧ ∀ j, (j < 6 * x ∨ 6 * x + 6 ≤ j) → ke' j = ke j ∧ va' j = va j := by
  intro k
  induction k with
  | zero => intro i pre r ke va h1 h2; omega
  | succ k ih =>
    intro i pre r ke va h1 h2 h3 h4 h5 h6 h7
    have e6 : ((nI x + 1) * 6 : Int32) = nI (6 * x + 6) := by rw [nI_1, l6, pk_mul]; congr 1; omega
    rw [M_X3_keepEntries_L21, e6]
    by_cases hi : i = 6
    · subst hi
      rw [if_pos (nI_le (Nat.le_refl _) (by omega))]
      have hr : r = [] := List.eq_nil_of_length_eq_zero (by omega)
      subst hr
      refine ⟨ke, va, rfl, fun j hj => ?_, fun j _ => ⟨rfl, rfl⟩⟩
      rw [List.filter_nil, List.append_nil]; exact h6 j hj
    · have hlt : i < 6 := by omega
      rw [if_neg (nI_ge (by omega) (by omega)), gd_in (by omega) (by decide), gd_in (by omega) (by decide), gd_in (by omega) (by decide), gd_in (by omega) (by decide), cl (by omega), nI_1, Nat.add_assoc]
      have h70 := h7 0 (by omega)
      rw [Nat.add_zero] at h70
      have drop : ∀ r', r'.length ≤ 6 - (i + 1) → (∀ p, p ∈ r' → p.1 < 24) → (∀ j, j < 6 - (i + 1) → ke (6 * x + (i + 1) + j) = kAt r' j ∧ va (6 * x + (i + 1) + j) = vAt r' j) → ∃ ke' va', M_X3_keepEntries_L21 (nI x) K k (nI (6 * x + pre.length)) (nI (6 * x + (i + 1))) (upd ke (6 * x + i) (-9)) (upd va (6 * x + i) (-9)) = some (ke', va') ∧ (∀ j, j < 6 → ke' (6 * x + j) = kAt (pre ++ r'.filter (fun p => bit K p.1)) j ∧ va' (6 * x + j) = vAt (pre ++ r'.filter (fun p => bit K p.1)) j) ∧ ∀ j, (j < 6 * x ∨ 6 * x + 6 ≤ j) → ke' j = ke j ∧ va' j = va j := by
        intro r' g1 g2 g3
        obtain ⟨ke', va', a1, a2, a3⟩ := ih (i + 1) pre r' (upd ke (6 * x + i) (-9)) (upd va (6 * x + i) (-9)) (by omega) (by omega) (by omega) g1 g2 (fun j hj => by
          by_cases e : j = i
          · subst e; rw [pk_us, pk_us, (kAt_ge h3).1, (kAt_ge h3).2]; exact ⟨rfl, rfl⟩
          · rw [pk_un (by omega), pk_un (by omega)]; exact h6 j (by omega)) (fun j hj => by
          rw [pk_un (by omega), pk_un (by omega)]; exact g3 j hj)
        refine ⟨ke', va', a1, a2, fun j hj => ?_⟩
        have := a3 j hj
        rw [pk_un (by omega), pk_un (by omega)] at this
        exact this
      cases r with
      | nil =>
        rw [h70.1, (kAt_ge (l := []) (Nat.zero_le 0)).1, ctn_9, Option.bind_some, if_pos rfl]
        refine drop [] (Nat.zero_le _) (fun p hp => by cases hp) fun j hj => ?_
        have := h7 (j + 1) (by omega)
        rw [show 6 * x + i + (j + 1) = 6 * x + (i + 1) + j by omega] at this
        rw [this.1, this.2, (kAt_ge (l := []) (Nat.zero_le _)).1, (kAt_ge (l := []) (Nat.zero_le _)).2, (kAt_ge (l := []) (Nat.zero_le _)).1, (kAt_ge (l := []) (Nat.zero_le _)).2]
        exact ⟨rfl, rfl⟩
      | cons p r' =>
        have hp := h5 p List.mem_cons_self
        have hl : r'.length + 1 ≤ 6 - i := h4
        have g3 : ∀ j, j < 6 - (i + 1) → ke (6 * x + (i + 1) + j) = kAt r' j ∧ va (6 * x + (i + 1) + j) = vAt r' j := fun j hj => by
          have := h7 (j + 1) (by omega)
          rwa [show 6 * x + i + (j + 1) = 6 * x + (i + 1) + j by omega, (kAt_cs p r' j).1, (kAt_cs p r' j).2] at this
        have g2 : ∀ q, q ∈ r' → q.1 < 24 := fun q hq => h5 q (List.mem_cons_of_mem _ hq)
        have hk0 : ke (6 * x + i) = nI p.1 := h70.1
        have hv0 : va (6 * x + i) = nI p.2 := h70.2
        rw [hk0, ctn_in K hp, Option.bind_some]
        by_cases hb : bit K p.1 = true
        · rw [if_pos hb, if_neg i10, gd_in (by omega) (by decide), gd_in (by omega) (by decide), cl (by omega), hv0, nI_1, List.filter_cons_of_pos (by exact hb)]
          obtain ⟨ke', va', a1, a2, a3⟩ := ih (i + 1) (pre ++ [p]) r' (upd (upd ke (6 * x + i) (-9)) (6 * x + pre.length) (nI p.1)) (upd (upd va (6 * x + i) (-9)) (6 * x + pre.length) (nI p.2)) (by omega) (by omega) (by rw [List.length_append]; show pre.length + 1 ≤ i + 1; omega) (by omega) g2 (fun j hj => by
            rw [(kAt_sn pre p j).1, (kAt_sn pre p j).2]
            by_cases e : j = pre.length
            · subst e; rw [pk_us, pk_us, if_pos rfl, if_pos rfl]; exact ⟨rfl, rfl⟩
            · rw [if_neg e, if_neg e]
              by_cases e2 : j = i
              · subst e2
                refine ⟨?_, ?_⟩
                · rw [pk_un (by omega), pk_us, (kAt_ge h3).1]
                · rw [pk_un (by omega), pk_us, (kAt_ge h3).2]
              · refine ⟨?_, ?_⟩
                · rw [pk_un (by omega), pk_un (by omega)]; exact (h6 j (by omega)).1
                · rw [pk_un (by omega), pk_un (by omega)]; exact (h6 j (by omega)).2) (fun j hj => by
            rw [pk_un (by omega), pk_un (by omega), pk_un (by omega), pk_un (by omega)]; exact g3 j hj)
          have el : 6 * x + (pre ++ [p]).length = 6 * x + pre.length + 1 := by rw [List.length_append]; rfl
          rw [el] at a1
          refine ⟨ke', va', a1, fun j hj => ?_, fun j hj => ?_⟩
          · have := a2 j hj
            rwa [List.append_assoc, List.singleton_append] at this
          · have := a3 j hj
            rwa [pk_un (by omega), pk_un (by omega), pk_un (by omega), pk_un (by omega)] at this
        · rw [if_neg hb, if_pos rfl, List.filter_cons_of_neg (by exact hb)]
          exact drop r' (by omega) g2 g3
theorem kp_eq (K : Int32) {ke va : Nat → Int32} {x : Nat} (hx : x < 24) {l : List (Nat × Nat)} (h : TL ke va x l) : ∃ ke' va', M_X3_keepEntries 400 ke va (nI x) K = some (ke', va') ∧ TL ke' va' x (l.filter (fun p => bit K p.1)) ∧ ∀ j, (j < 6 * x ∨ 6 * x + 6 ≤ j) → ke' j = ke j ∧ va' j = va j := by
  obtain ⟨t0, t1, t2, t3⟩ := h
  obtain ⟨ke', va', a1, a2, a3⟩ := kp_loop K hx 400 0 [] l ke va (by omega) (by omega) (Nat.zero_le _) t0 (fun p hp => (t1 p hp).1) (fun j hj => by omega) (fun j hj => by rw [Nat.add_zero]; exact t3 j hj)
  refine ⟨ke', va', ?_, ⟨Nat.le_trans (List.length_filter_le _ _) t0, fun p hp => t1 p (List.mem_filter.mp hp).1, t2.sublist List.filter_sublist, a2⟩, a3⟩
  rw [M_X3_keepEntries, wA_in l24 hx (by decide), Option.bind_some, if_neg i10, l6, pk_mul, Nat.mul_comm x 6]
  exact a1
/-- removeAt takes one entry out -/
theorem rm_loop {x n : Nat} (hx : x < 24) (hn : n ≤ 5) : ∀ (k i : Nat) (w : Nat → Int32), i ≤ n → n - i < k → ∃ w', M_X5_removeAt_L12 (nI x) (nI n) k (nI i) w = some w' ∧ w' (15 * x + 2) = nI n ∧ (∀ j, j < 6 → w' (15 * x + 3 + j) = (if j < i then w (15 * x + 3 + j) else if j < n then w (15 * x + 3 + (j + 1)) else if j = n then -9 else w (15 * x + 3 + j)) ∧ w' (15 * x + 9 + j) = (if j < i then w (15 * x + 9 + j) else if j < n then w (15 * x + 9 + (j + 1)) else if j = n then -9 else w (15 * x + 9 + j))) ∧ ∀ j, (j < 15 * x + 2 ∨ 15 * x + 15 ≤ j) → w' j = w j := by
  intro k
  induction k with
  | zero => intro i w h1 h2; omega
  | succ k ih =>
    intro i w h1 h2
    rw [M_X5_removeAt_L12]
    have e15 : (15 * nI x : Int32) = nI (15 * x) := by rw [l15, pk_mul]
    by_cases hi : i = n
    · subst hi
      have e2 : (15 * nI x + 2 : Int32) = nI (15 * x + 2) := by rw [l15, l2, pk_mul, nI_add]
      have e3 : (15 * nI x + 3 + nI i : Int32) = nI (15 * x + 3 + i) := by rw [l15, l3, pk_mul, nI_add, nI_add]
      have e9 : (15 * nI x + 9 + nI i : Int32) = nI (15 * x + 9 + i) := by rw [l15, l9, pk_mul, nI_add, nI_add]
      rw [if_pos (nI_le (Nat.le_refl _) (by omega)), e2, e3, e9, gd_in (by omega) (by decide), gd_in (by omega) (by decide), gd_in (by omega) (by decide), cl (by omega), cl (by omega), cl (by omega)]
      refine ⟨_, rfl, pk_us, fun j hj => ⟨?_, ?_⟩, fun j hj => ?_⟩
      · rw [pk_un (by omega), pk_un (by omega)]
        by_cases e : j = i
        · subst e
          rw [pk_us, if_neg (Nat.lt_irrefl j), if_neg (Nat.lt_irrefl j), if_pos rfl]
        · rw [pk_un (by omega)]
          by_cases hji : j < i
          · rw [if_pos hji]
          · rw [if_neg hji, if_neg hji, if_neg e]
      · rw [pk_un (by omega)]
        by_cases e : j = i
        · subst e
          rw [pk_us, if_neg (Nat.lt_irrefl j), if_neg (Nat.lt_irrefl j), if_pos rfl]
        · rw [pk_un (by omega), pk_un (by omega)]
          by_cases hji : j < i
          · rw [if_pos hji]
          · rw [if_neg hji, if_neg hji, if_neg e]
      · rw [pk_un (by omega), pk_un (by omega), pk_un (by omega)]
    · have hlt : i < n := by omega
      rw [if_neg (nI_ge hlt (by omega)), bPt w (k := 3 + nI i + 1) (n := 3 + i + 1) (by rw [l3, nI_add, nI_1]) (by omega), Option.bind_some]
      have e3 : (15 * nI x + 3 + nI i : Int32) = nI (15 * x + 3 + i) := by rw [l15, l3, pk_mul, nI_add, nI_add]
      have e9 : (15 * nI x + 9 + nI i : Int32) = nI (15 * x + 9 + i) := by rw [l15, l9, pk_mul, nI_add, nI_add]
      rw [e3, e9, gd_in (by omega) (by decide), cl (by omega), bPt _ (k := 9 + nI i + 1) (n := 9 + i + 1) (by rw [l9, nI_add, nI_1]) (by omega), Option.bind_some, gd_in (by omega) (by decide), cl (by omega), nI_1, pk_un (by omega)]
      obtain ⟨w', a1, a2, a3, a4⟩ := ih (i + 1) (upd (upd w (15 * x + 3 + i) (w (15 * x + (3 + i + 1)))) (15 * x + 9 + i) (w (15 * x + (9 + i + 1)))) (by omega) (by omega)
      refine ⟨w', a1, a2, fun j hj => ?_, fun j hj => ?_⟩
      · have := a3 j hj
        rw [this.1, this.2]
        by_cases c1 : j < i
        · rw [if_pos (show j < i + 1 by omega), if_pos c1, if_pos (show j < i + 1 by omega), if_pos c1, pk_un (by omega), pk_un (by omega), pk_un (by omega), pk_un (by omega)]; exact ⟨rfl, rfl⟩
        · by_cases c2 : j = i
          · subst c2
            rw [if_pos (show j < j + 1 by omega), if_neg c1, if_pos hlt, if_pos (show j < j + 1 by omega), if_neg c1, if_pos hlt, pk_un (by omega), pk_us, pk_us]
            exact ⟨by congr 1; omega, by congr 1; omega⟩
          · rw [if_neg (show ¬ j < i + 1 by omega), if_neg c1, if_neg (show ¬ j < i + 1 by omega), if_neg c1]
            by_cases c3 : j < n
            · rw [if_pos c3, if_pos c3, if_pos c3, if_pos c3]
              refine ⟨?_, ?_⟩
              · rw [pk_un (by omega), pk_un (by omega)]
              · rw [pk_un (by omega), pk_un (by omega)]
            · rw [if_neg c3, if_neg c3, if_neg c3, if_neg c3]
              by_cases c4 : j = n
              · rw [if_pos c4, if_pos c4, if_pos c4, if_pos c4]; exact ⟨rfl, rfl⟩
              · rw [if_neg c4, if_neg c4, if_neg c4, if_neg c4]
                refine ⟨?_, ?_⟩
                · rw [pk_un (by omega), pk_un (by omega)]
                · rw [pk_un (by omega), pk_un (by omega)]
      · have := a4 j hj
        rwa [pk_un (by omega), pk_un (by omega)] at this
theorem kAt_er (l : List (Nat × Nat)) (p j : Nat) : kAt (l.eraseIdx p) j = (if j < p then kAt l j else kAt l (j + 1)) ∧ vAt (l.eraseIdx p) j = (if j < p then vAt l j else vAt l (j + 1)) := by
  rw [kAt, vAt, List.getElem?_eraseIdx]
  by_cases h : j < p
  · rw [if_pos h, if_pos h, if_pos h]; exact ⟨rfl, rfl⟩
  · rw [if_neg h, if_neg h, if_neg h]; exact ⟨rfl, rfl⟩
theorem rm_eq {w : Nat → Int32} {x p : Nat} (hx : x < 24) {l : List (Nat × Nat)} (h6 : l.length ≤ 6) (h : WL w x l) (hp : p < l.length) : ∃ w', M_X5_removeAt 400 w (nI x) (nI p) = some w' ∧ WL w' x (l.eraseIdx p) ∧ ∀ j, (j < 15 * x + 2 ∨ 15 * x + 15 ≤ j) → w' j = w j := by
  obtain ⟨w', a1, a2, a3, a4⟩ := rm_loop (n := l.length - 1) hx (by omega) 400 p w (by omega) (by omega)
  have hl : (l.eraseIdx p).length = l.length - 1 := by rw [List.length_eraseIdx, if_pos hp]
  refine ⟨w', ?_, ⟨by rw [hl]; exact a2, fun j hj => ?_⟩, a4⟩
  · rw [M_X5_removeAt, bPt w l2 (by omega), Option.bind_some, h.1, l1, pk_sub (by omega)]
    exact a1
  · rw [(a3 j hj).1, (a3 j hj).2, (kAt_er l p j).1, (kAt_er l p j).2]
    by_cases c1 : j < p
    · rw [if_pos c1, if_pos c1, if_pos c1, if_pos c1]; exact h.2 j hj
    · rw [if_neg c1, if_neg c1, if_neg c1, if_neg c1]
      by_cases c2 : j < l.length - 1
      · rw [if_pos c2, if_pos c2]; exact h.2 (j + 1) (by omega)
      · rw [if_neg c2, if_neg c2, (kAt_ge (l := l) (j := j + 1) (by omega)).1, (kAt_ge (l := l) (j := j + 1) (by omega)).2]
        by_cases c3 : j = l.length - 1
        · rw [if_pos c3, if_pos c3]; exact ⟨rfl, rfl⟩
        · rw [if_neg c3, if_neg c3, (h.2 j hj).1, (h.2 j hj).2, (kAt_ge (l := l) (j := j) (by omega)).1, (kAt_ge (l := l) (j := j) (by omega)).2]; exact ⟨rfl, rfl⟩
theorem fl_er {q : Nat × Nat → Bool} {y : Nat} : ∀ {l : List (Nat × Nat)} {j : Nat} (hj : j < l.length), l.Pairwise (fun a b => a.1 ≠ b.1) → (l[j]).1 = y → (∀ p, p ∈ l → (q p = true ↔ p.1 ≠ y)) → l.filter q = l.eraseIdx j
  | [], j, hj, _, _, _ => absurd hj (Nat.not_lt_zero j)
  | a :: t, 0, _, hp, he, hq => by
    have hay : a.1 = y := he
    rw [List.filter_cons_of_neg (by rw [hq a List.mem_cons_self]; exact fun hh => hh hay), List.eraseIdx_cons_zero]
    apply List.filter_eq_self.mpr
    intro b hb
    rw [hq b (List.mem_cons_of_mem _ hb)]
    have := (List.pairwise_cons.mp hp).1 b hb
    rw [hay] at this
    exact fun hh => this hh.symm
  | a :: t, j + 1, hj, hp, he, hq => by
    have hj' : j < t.length := Nat.lt_of_succ_lt_succ hj
    have he' : (t[j]).1 = y := he
    have ha : a.1 ≠ y := fun hh => (List.pairwise_cons.mp hp).1 _ (List.getElem_mem hj') (hh.trans he'.symm)
    rw [List.filter_cons_of_pos (by rw [hq a List.mem_cons_self]; exact ha), List.eraseIdx_cons_succ, fl_er hj' (List.pairwise_cons.mp hp).2 he' fun p h => hq p (List.mem_cons_of_mem _ h)]
theorem step_removeEntry (ki : Nat → Int32) (fi : Nat → Int32) (ke : Nat → Int32) (va : Nat → Int32) (ta : Nat → Int32) (ro : Nat → Int32) (qu : Nat → Int32) (nsz : Int32) (fin : Int32) (rnd : Int32) (rd : Nat → Int32) (mkd : Int32) (lr : Int32) (un : Int32) (nx : Int32) (dp : Int32) (rv : Nat → Option SV) (w : Nat → Int32) (dep : Int32) (kept : Nat → Int32) (mark : Nat → Int32) (start : Nat → Int32) (p1 : Int32) (p2 : Int32) (h : Rel (pkS ki fi ke va ta ro qu nsz fin rnd) nx dp rv w dep kept) : ∃ (qa : Int32 × (Nat → Int32) × (Nat → Int32) × Int32 × Int32 × (Nat → Option SV)) (qb : Int32 × (Nat → Int32) × Int32), M_X4_removeEntry 400 ki fi ke va ta ro qu nsz fin rnd nx dp rv p1 p2 = some qa ∧ M_X5_removeEntry 400 w dep p1 p2 = some qb ∧ qa.1 = qb.1 ∧ Rel (pkS ki fi qa.2.1 qa.2.2.1 ta ro qu nsz fin rnd) qa.2.2.2.1 qa.2.2.2.2.1 qa.2.2.2.2.2 qb.2.1 qb.2.2 kept := by
  have hrs := h.rs
  have hki : RKi ki w := hrs.1
  have htb : RTb ki ke va w := hrs.2.2.2.1
  rw [M_X4_removeEntry, M_X5_removeEntry]
  rcases cls p1 (n := 24) (by decide) with ho | ⟨x, hx, rfl⟩
  · rw [aTK_o1 ki ho, bKd_out w ho]
    exact ⟨_, _, rfl, rfl, rfl, h⟩
  · rw [bKd_in w hx (by decide), (hki x hx).1, Option.bind_some]
    rcases cls p2 (n := 24) (by decide) with ho | ⟨y, hy, rfl⟩
    · rw [aTK_o2 ki hx ho, bAl_out w ho]
      by_cases h1 : ki x = 1
      · rw [if_pos h1, if_neg i10]
        exact ⟨_, _, rfl, rfl, rfl, h⟩
      · rw [if_neg h1]
        exact ⟨_, _, rfl, rfl, rfl, h⟩
    · rw [aTK_in ki hx hy, bAl_in w hy, (hki y hy).1, Option.bind_some, Option.bind_some]
      by_cases h1 : ki x = 1
      · by_cases hy9 : ki y = -9
        · rw [if_neg (show ¬ (ki x = 1 ∧ ki y ≠ -9) from fun hh => hh.2 hy9), if_pos h1, if_neg i10, if_pos hy9]
          exact ⟨_, _, rfl, rfl, rfl, h⟩
        · rw [if_pos (show ki x = 1 ∧ ki y ≠ -9 from ⟨h1, hy9⟩), if_neg i10, if_pos h1, if_neg i10, if_neg hy9, if_neg i10]
          obtain ⟨⟨n, hc, ht⟩, hu⟩ := (htb x hx).2 h1
          obtain ⟨l, hl, htl⟩ := ht.list
          subst hl
          have hn := ht.1
          obtain ⟨pa, pb, hpa, hpb, hh1, hh2, hrow⟩ := save_both h
          have hrs1 : RS (pkS ki fi ke va ta ro qu nsz fin rnd) pb.1 := hrs.cong (SVe.rfl' _) hrow
          have hc1 : pb.1 (15 * x + 2) = nI l.length := by rw [hrow _ (by omega)]; exact hc
          have hu1 : ∀ j, j < 6 → pb.1 (15 * x + 3 + j) = ke (6 * x + j) ∧ pb.1 (15 * x + 9 + j) = va (6 * x + j) := fun j hj => by rw [hrow _ (by omega), hrow _ (by omega)]; exact hu j hj
          rcases pl_both hx hc ht hu hy with ⟨j, b1, b2, b3, b4, b5⟩ | ⟨b1, b2, b3⟩
          · rw [b4, b5, Option.bind_some, Option.bind_some, if_neg (n9 (by omega)), if_neg (n9 (by omega)), hpa, hpb, Option.bind_some, Option.bind_some, gd_in (by omega) (by decide), cl (by omega), bPt pb.1 (k := 9 + nI j) (n := 9 + j) (by rw [l9, nI_add]) (by omega), Option.bind_some]
            obtain ⟨s, s1, s2⟩ := sO (nI y)
            obtain ⟨ke', va', k1, k2, k3⟩ := kp_eq (s ^^^ (-1)) hx htl
            obtain ⟨w', r1, r2, r3⟩ := rm_eq (w := pb.1) hx htl.1 (htl.wl hc1 hu1) b1
            have hkj : (l[j]).1 = y := by
              have := (htl.2.2.2 j (by omega)).1
              rw [b2, (kAt_lt b1).1] at this
              have h24 := (htl.2.1 _ (List.getElem_mem b1)).1
              exact ((nI_eq (by omega) (by omega)).mp this).symm
            have hfe : l.filter (fun p => bit (s ^^^ (-1)) p.1) = l.eraseIdx j := by
              refine fl_er b1 htl.2.2.1 hkj fun p hp => ?_
              have h24 := (htl.2.1 p hp).1
              rw [bit_not s (by omega)]
              cases hb : bit s p.1
              · refine ⟨fun _ e => ?_, fun _ => rfl⟩
                have := (s2 p.1).mpr ⟨h24, by rw [e]⟩
                rw [hb] at this; cases this
              · have := ((s2 p.1).mp hb).2
                have := (nI_eq (by omega) (by omega)).mp this
                refine ⟨fun hh => by simp at hh, fun hh => absurd this.symm hh⟩
            rw [hfe] at k2
            rw [s1, Option.bind_some, k1, Option.bind_some, r1, Option.bind_some]
            refine ⟨_, _, rfl, rfl, ?_, ?_⟩
            · show va (6 * x + j) = pb.1 (15 * x + (9 + j))
              rw [← Nat.add_assoc, (hu1 j (by omega)).2]
            · dsimp only
              refine fw hh1 hh2 (fun q h1 h2 => r3 q (by omega)) (hrs1.tab hx h1 (n := (l.eraseIdx j).length) (fun u q hu hne hq => k3 _ (by omega)) (fun q hq hr => r3 q hr) r2.1 k2.tb (fun q hq => ?_))
              rw [(r2.2 q hq).1, (r2.2 q hq).2, (k2.2.2.2 q hq).1, (k2.2.2.2 q hq).2]
              exact ⟨rfl, rfl⟩
          · rw [b2, b3, Option.bind_some, Option.bind_some, if_pos rfl, if_pos rfl]
            exact ⟨_, _, rfl, rfl, rfl, h⟩
      · rw [if_neg (show ¬ (ki x = 1 ∧ ki y ≠ -9) from fun hh => h1 hh.1), if_neg h1]
        exact ⟨_, _, rfl, rfl, rfl, h⟩
