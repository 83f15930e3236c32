/-! sets of objects as bits -/
theorem bit_or (x y : Int32) (i : Nat) : bit (x ||| y) i = (bit x i || bit y i) := by simp [bit]
theorem bit_and (x y : Int32) (i : Nat) : bit (x &&& y) i = (bit x i && bit y i) := by simp [bit]
theorem bit_xor (x y : Int32) (i : Nat) : bit (x ^^^ y) i = (bit x i ^^ bit y i) := by simp [bit]
theorem bit_0 (i : Nat) : bit 0 i = false := by simp [bit]
theorem bit_m1 : ∀ i, i < 32 → bit (-1) i = true := by decide +kernel
theorem bit_big {x : Int32} {i : Nat} (h : 32 ≤ i) : bit x i = false := by
  rw [bit]; exact BitVec.getLsbD_of_ge _ _ h
theorem bit_not (x : Int32) {i : Nat} (h : i < 32) : bit (x ^^^ (-1)) i = !bit x i := by
  rw [bit_xor, bit_m1 i h]; simp
theorem bit_ext {x y : Int32} (h : ∀ i, i < 32 → bit x i = bit y i) : x = y := by
  apply Int32.toBitVec_inj.mp
  apply BitVec.eq_of_getLsbD_eq
  exact h
theorem bit_one : ∀ l, l < 24 → ((1 : Int32) <<< (nI l &&& 31)).toBitVec = BitVec.twoPow 32 l := by decide +kernel
theorem bit_diff (x y : Int32) {i : Nat} (h : i < 32) : bit (x &&& (y ^^^ (-1))) i = (bit x i && !bit y i) := by rw [bit_and, bit_not y h]
theorem sO (v : Int32) : ∃ s, M_X4_setOf v = some s ∧ ∀ i, bit s i = true ↔ i < 24 ∧ v = nI i := by
  rcases cls v (n := 24) (by decide) with ho | ⟨j, hj, rfl⟩
  · refine ⟨0, ?_, fun i => ⟨fun h => (by rw [bit_0] at h; cases h), fun h => ?_⟩⟩
    · rw [M_X4_setOf]
      rcases ho with h | h
      · rw [if_pos h]
      · by_cases h0 : v < 0
        · rw [if_pos h0]
        · rw [if_neg h0, if_pos (show (24 : Int32) ≤ v from h)]
    · obtain ⟨hi, rfl⟩ := h
      rcases ho with h | h
      · exact absurd h (nI_pos (by omega))
      · exact absurd h (nI_ge hi (by decide))
  · refine ⟨1 <<< (nI j &&& 31), ?_, fun i => ?_⟩
    · rw [M_X4_setOf, if_neg (nI_pos (by omega)), if_neg (show ¬ (24 : Int32) ≤ nI j from nI_ge hj (by decide))]
    · rw [bit, bit_one j hj, BitVec.getLsbD_twoPow]
      constructor
      · intro h
        simp only [Bool.and_eq_true, decide_eq_true_eq] at h
        have : j = i := h.2
        subst this
        exact ⟨hj, rfl⟩
      · intro ⟨hi, e⟩
        have : j = i := (nI_eq (by omega) (by omega)).mp e
        subst this
        simp; omega
theorem ctn_in (S : Int32) {j : Nat} (h : j < 24) : M_X4_contains S (nI j) = some (if bit S j then 1 else 0) := by
  obtain ⟨s, h1, h2⟩ := sO (nI j)
  rw [M_X4_contains, h1, Option.bind_some]
  by_cases hb : bit S j = true
  · rw [if_neg, if_pos hb]
    intro e
    have : bit (S &&& s) j = true := by rw [bit_and, hb, (h2 j).mpr ⟨h, rfl⟩]; rfl
    rw [e, bit_0] at this
    cases this
  · rw [if_pos, if_neg hb]
    apply bit_ext
    intro i hi
    rw [bit_and, bit_0]
    by_cases hs : bit s i = true
    · obtain ⟨hi2, e⟩ := (h2 i).mp hs
      have : j = i := (nI_eq (by omega) (by omega)).mp e
      subst this
      simp at hb
      rw [hb]; rfl
    · simp at hs; rw [hs, Bool.and_false]
theorem ctn_out (S : Int32) {v : Int32} (h : ∀ j, j < 24 → v ≠ nI j) : M_X4_contains S v = some 0 := by
  obtain ⟨s, h1, h2⟩ := sO v
  rw [M_X4_contains, h1, Option.bind_some, if_pos]
  apply bit_ext
  intro i hi
  rw [bit_and, bit_0]
  have : bit s i = false := by
    cases hb : bit s i
    · rfl
    · obtain ⟨a, b⟩ := (h2 i).mp hb; exact absurd b (h i a)
  rw [this, Bool.and_false]
theorem ctn_9 (S : Int32) : M_X4_contains S (-9) = some 0 := ctn_out S fun j hj e => n9 (by omega) e.symm
theorem al_loop (ki : Nat → Int32) : ∀ (k i : Nat) (acc : Int32), i ≤ 24 → 24 - i < k → ∃ r, M_X3_allocated_L4 ki k acc (nI i) = some r ∧ ∀ b, bit r b = true ↔ bit acc b = true ∨ ∃ l, i ≤ l ∧ l < 24 ∧ ki l ≠ -9 ∧ b = l := by
  intro k
  induction k with
  | zero => intro i acc h1 h2; omega
  | succ k ih =>
    intro i acc h1 h2
    rw [M_X3_allocated_L4]
    by_cases hi : i = 24
    · subst hi
      rw [if_pos (show (24 : Int32) ≤ nI 24 from nI_le (Nat.le_refl _) (by decide))]
      exact ⟨acc, rfl, fun b => ⟨Or.inl, fun h => h.elim id (fun ⟨l, a, c, _⟩ => by omega)⟩⟩
    · have hlt : i < 24 := by omega
      rw [if_neg (show ¬ (24 : Int32) ≤ nI i from nI_ge hlt (by decide)), gd_in hlt (by decide), cl (by omega), nI_1]
      by_cases hk : ki i = -9
      · rw [if_pos hk]
        obtain ⟨r, e, hr⟩ := ih (i + 1) acc (by omega) (by omega)
        refine ⟨r, e, fun b => (hr b).trans ⟨fun h => h.imp id (fun ⟨l, a1, a2, a3, a4⟩ => ⟨l, by omega, a2, a3, a4⟩), fun h => h.imp id (fun ⟨l, a1, a2, a3, a4⟩ => ⟨l, ?_, a2, a3, a4⟩)⟩⟩
        by_cases hl : l = i
        · subst hl; exact absurd hk a3
        · omega
      · rw [if_neg hk]
        obtain ⟨s, s1, s2⟩ := sO (nI i)
        rw [s1, Option.bind_some]
        obtain ⟨r, e, hr⟩ := ih (i + 1) (acc ||| s) (by omega) (by omega)
        refine ⟨r, e, fun b => (hr b).trans ?_⟩
        rw [bit_or, Bool.or_eq_true, s2]
        constructor
        · rintro ((h | ⟨h, e⟩) | ⟨l, a1, a2, a3, a4⟩)
          · exact Or.inl h
          · exact Or.inr ⟨i, Nat.le_refl i, hlt, hk, ((nI_eq (by omega) (by omega)).mp e).symm⟩
          · exact Or.inr ⟨l, by omega, a2, a3, a4⟩
        · rintro (h | ⟨l, a1, a2, a3, a4⟩)
          · exact Or.inl (Or.inl h)
          · by_cases hl : l = i
            · subst hl; subst a4; exact Or.inl (Or.inr ⟨a2, rfl⟩)
            · exact Or.inr ⟨l, by omega, a2, a3, a4⟩
theorem al_eq (ki : Nat → Int32) : ∃ r, M_X3_allocated 400 ki = some r ∧ ∀ b, bit r b = true ↔ b < 24 ∧ ki b ≠ -9 := by
  obtain ⟨r, e, hr⟩ := al_loop ki 400 0 0 (by omega) (by omega)
  refine ⟨r, e, fun b => (hr b).trans ?_⟩
  rw [bit_0]
  constructor
  · rintro (h | ⟨l, a1, a2, a3, rfl⟩)
    · cases h
    · exact ⟨a2, a3⟩
  · intro ⟨h1, h2⟩
    exact Or.inr ⟨b, Nat.zero_le b, h1, h2, rfl⟩
theorem ro_loop (ro : Nat → Int32) : ∀ (k i : Nat) (acc : Int32), i ≤ 6 → 6 - i < k → ∃ r, M_X3_rootObjects_L4 ro k acc (nI i) = some r ∧ ∀ b, bit r b = true ↔ bit acc b = true ∨ ∃ l, i ≤ l ∧ l < 6 ∧ b < 24 ∧ ro l = nI b := by
  intro k
  induction k with
  | zero => intro i acc h1 h2; omega
  | succ k ih =>
    intro i acc h1 h2
    rw [M_X3_rootObjects_L4]
    by_cases hi : i = 6
    · subst hi
      rw [if_pos (show (6 : Int32) ≤ nI 6 from nI_le (Nat.le_refl _) (by decide))]
      exact ⟨acc, rfl, fun b => ⟨Or.inl, fun h => h.elim id (fun ⟨l, a, c, _⟩ => by omega)⟩⟩
    · have hlt : i < 6 := by omega
      rw [if_neg (show ¬ (6 : Int32) ≤ nI i from nI_ge hlt (by decide)), gd_in hlt (by decide), cl (by omega), nI_1]
      obtain ⟨s, s1, s2⟩ := sO (ro i)
      rw [s1, Option.bind_some]
      obtain ⟨r, e, hr⟩ := ih (i + 1) (acc ||| s) (by omega) (by omega)
      refine ⟨r, e, fun b => (hr b).trans ?_⟩
      rw [bit_or, Bool.or_eq_true, s2]
      constructor
      · rintro ((h | ⟨h, e⟩) | ⟨l, a1, a2, a3, a4⟩)
        · exact Or.inl h
        · exact Or.inr ⟨i, Nat.le_refl i, hlt, h, e⟩
        · exact Or.inr ⟨l, by omega, a2, a3, a4⟩
      · rintro (h | ⟨l, a1, a2, a3, a4⟩)
        · exact Or.inl (Or.inl h)
        · by_cases hl : l = i
          · subst hl; exact Or.inl (Or.inr ⟨a3, a4⟩)
          · exact Or.inr ⟨l, by omega, a2, a3, a4⟩
theorem ro_eq (ro : Nat → Int32) : ∃ r, M_X3_rootObjects 400 ro = some r ∧ ∀ b, bit r b = true ↔ b < 24 ∧ ∃ l, l < 6 ∧ ro l = nI b := by
  obtain ⟨r, e, hr⟩ := ro_loop ro 400 0 0 (by omega) (by omega)
  refine ⟨r, e, fun b => (hr b).trans ?_⟩
  rw [bit_0]
  constructor
  · rintro (h | ⟨l, a1, a2, a3, a4⟩)
    · cases h
    · exact ⟨a3, l, a2, a4⟩
  · intro ⟨h1, l, h2, h3⟩
    exact Or.inr ⟨l, Nat.zero_le l, h2, h1, h3⟩
theorem fo_loop (fi : Nat → Int32) {x : Nat} (hx : x < 24) : ∀ (k i : Nat) (acc : Int32), i ≤ 3 → 3 - i < k → ∃ r, M_X3_fieldTargetsOf_L6 (nI x) fi k acc (nI (3 * x + i)) = some r ∧ ∀ b, bit r b = true ↔ bit acc b = true ∨ ∃ l, i ≤ l ∧ l < 3 ∧ b < 24 ∧ fi (3 * x + l) = nI b := by
  intro k
  induction k with
  | zero => intro i acc h1 h2; omega
  | succ k ih =>
    intro i acc h1 h2
    have e3 : ((nI x + 1) * 3 : Int32) = nI (3 * x + 3) := by rw [nI_1, l3, pk_mul]; congr 1; omega
    rw [M_X3_fieldTargetsOf_L6, e3]
    by_cases hi : i = 3
    · subst hi
      rw [if_pos (nI_le (Nat.le_refl _) (by omega))]
      exact ⟨acc, rfl, fun b => ⟨Or.inl, fun h => h.elim id (fun ⟨l, a, c, _⟩ => by omega)⟩⟩
    · have hlt : i < 3 := by omega
      rw [if_neg (nI_ge (by omega) (by omega)), gd_in (by omega) (by decide), cl (by omega), nI_1]
      obtain ⟨s, s1, s2⟩ := sO (fi (3 * x + i))
      rw [s1, Option.bind_some]
      obtain ⟨r, e, hr⟩ := ih (i + 1) (acc ||| s) (by omega) (by omega)
      refine ⟨r, e, fun b => (hr b).trans ?_⟩
      rw [bit_or, Bool.or_eq_true, s2]
      constructor
      · rintro ((h | ⟨h, e⟩) | ⟨l, a1, a2, a3, a4⟩)
        · exact Or.inl h
        · exact Or.inr ⟨i, Nat.le_refl i, hlt, h, e⟩
        · exact Or.inr ⟨l, by omega, a2, a3, a4⟩
      · rintro (h | ⟨l, a1, a2, a3, a4⟩)
        · exact Or.inl (Or.inl h)
        · by_cases hl : l = i
          · subst hl; exact Or.inl (Or.inr ⟨a3, a4⟩)
          · exact Or.inr ⟨l, by omega, a2, a3, a4⟩
/-- x refers to y by a field -/
def Ed (fi : Nat → Int32) (x y : Nat) : Prop := y < 24 ∧ ∃ j, j < 3 ∧ fi (3 * x + j) = nI y
theorem fo_eq (fi : Nat → Int32) {x : Nat} (hx : x < 24) : ∃ r, M_X3_fieldTargetsOf 400 fi (nI x) = some r ∧ ∀ b, bit r b = true ↔ Ed fi x b := by
  obtain ⟨r, e, hr⟩ := fo_loop fi hx 400 0 0 (by omega) (by omega)
  refine ⟨r, ?_, fun b => (hr b).trans ?_⟩
  · rw [M_X3_fieldTargetsOf, l3, pk_mul, Nat.mul_comm x 3]; exact e
  · rw [bit_0]
    constructor
    · rintro (h | ⟨l, a1, a2, a3, a4⟩)
      · cases h
      · exact ⟨a3, l, a2, a4⟩
    · intro ⟨h1, l, h2, h3⟩
      exact Or.inr ⟨l, Nat.zero_le l, h2, h1, h3⟩
theorem ft_loop (fi : Nat → Int32) (S : Int32) : ∀ (k i : Nat) (acc : Int32), i ≤ 24 → 24 - i < k → ∃ r, M_X3_fieldTargets_L4 400 S fi k acc (nI i) = some r ∧ ∀ b, bit r b = true ↔ bit acc b = true ∨ ∃ l, i ≤ l ∧ l < 24 ∧ bit S l = true ∧ Ed fi l b := by
  intro k
  induction k with
  | zero => intro i acc h1 h2; omega
  | succ k ih =>
    intro i acc h1 h2
    rw [M_X3_fieldTargets_L4]
    by_cases hi : i = 24
    · subst hi
      rw [if_pos (show (24 : Int32) ≤ nI 24 from nI_le (Nat.le_refl _) (by decide))]
      exact ⟨acc, rfl, fun b => ⟨Or.inl, fun h => h.elim id (fun ⟨l, a, c, _⟩ => by omega)⟩⟩
    · have hlt : i < 24 := by omega
      rw [if_neg (show ¬ (24 : Int32) ≤ nI i from nI_ge hlt (by decide)), ctn_in S hlt, Option.bind_some, nI_1]
      by_cases hb : bit S i = true
      · rw [if_pos hb, if_neg i10]
        obtain ⟨s, s1, s2⟩ := fo_eq fi hlt
        rw [s1, Option.bind_some]
        obtain ⟨r, e, hr⟩ := ih (i + 1) (acc ||| s) (by omega) (by omega)
        refine ⟨r, e, fun b => (hr b).trans ?_⟩
        rw [bit_or, Bool.or_eq_true, s2]
        constructor
        · rintro ((h | h) | ⟨l, a1, a2, a3, a4⟩)
          · exact Or.inl h
          · exact Or.inr ⟨i, Nat.le_refl i, hlt, hb, h⟩
          · exact Or.inr ⟨l, by omega, a2, a3, a4⟩
        · rintro (h | ⟨l, a1, a2, a3, a4⟩)
          · exact Or.inl (Or.inl h)
          · by_cases hl : l = i
            · subst hl; exact Or.inl (Or.inr a4)
            · exact Or.inr ⟨l, by omega, a2, a3, a4⟩
      · rw [if_neg hb, if_pos rfl]
        obtain ⟨r, e, hr⟩ := ih (i + 1) acc (by omega) (by omega)
        refine ⟨r, e, fun b => (hr b).trans ⟨fun h => h.imp id (fun ⟨l, a1, a2, a3, a4⟩ => ⟨l, by omega, a2, a3, a4⟩), fun h => h.imp id (fun ⟨l, a1, a2, a3, a4⟩ => ⟨l, ?_, a2, a3, a4⟩)⟩⟩
        by_cases hl : l = i
        · subst hl; exact absurd a3 hb
        · omega
theorem ft_eq (fi : Nat → Int32) (S : Int32) : ∃ r, M_X3_fieldTargets 400 fi S = some r ∧ ∀ b, bit r b = true ↔ ∃ l, l < 24 ∧ bit S l = true ∧ Ed fi l b := by
  obtain ⟨r, e, hr⟩ := ft_loop fi S 400 0 0 (by omega) (by omega)
  refine ⟨r, e, fun b => (hr b).trans ?_⟩
  rw [bit_0]
  exact ⟨fun h => h.elim (fun h => by cases h) (fun ⟨l, a1, a2⟩ => ⟨l, a2⟩), fun ⟨l, a⟩ => Or.inr ⟨l, Nat.zero_le l, a⟩⟩
/-- a table's entry with key k and value v -/
def En (ke va : Nat → Int32) (t k v : Nat) : Prop := k < 24 ∧ v < 24 ∧ ∃ j, j < 6 ∧ ke (6 * t + j) = nI k ∧ va (6 * t + j) = nI v
theorem vo_loop (ke va : Nat → Int32) (K : Int32) {x : Nat} (hx : x < 24) : ∀ (k i : Nat) (acc : Int32), i ≤ 6 → 6 - i < k → ∃ r, M_X3_valuesOfEntriesOf_L8 (nI x) K ke va k acc (nI (6 * x + i)) = some r ∧ ∀ b, bit r b = true ↔ bit acc b = true ∨ ∃ l y, i ≤ l ∧ l < 6 ∧ y < 24 ∧ b < 24 ∧ bit K y = true ∧ ke (6 * x + l) = nI y ∧ va (6 * x + l) = nI b := by
  intro k
  induction k with
  | zero => intro i acc h1 h2; omega
  | succ k ih =>
    intro i acc h1 h2
    have e6 : ((nI x + 1) * 6 : Int32) = nI (6 * x + 6) := by rw [nI_1, l6, pk_mul]; congr 1; omega
    rw [M_X3_valuesOfEntriesOf_L8, e6]
    by_cases hi : i = 6
    · subst hi
      rw [if_pos (nI_le (Nat.le_refl _) (by omega))]
      exact ⟨acc, rfl, fun b => ⟨Or.inl, fun h => h.elim id (fun ⟨l, y, a, c, _⟩ => by omega)⟩⟩
    · have hlt : i < 6 := by omega
      rw [if_neg (nI_ge (by omega) (by omega)), gd_in (by omega) (by decide), cl (by omega), nI_1]
      have skip : (∀ y, y < 24 → bit K y = true → ke (6 * x + i) ≠ nI y) → ∃ r, M_X3_valuesOfEntriesOf_L8 (nI x) K ke va k acc (nI (6 * x + i + 1)) = some r ∧ ∀ b, bit r b = true ↔ bit acc b = true ∨ ∃ l y, i ≤ l ∧ l < 6 ∧ y < 24 ∧ b < 24 ∧ bit K y = true ∧ ke (6 * x + l) = nI y ∧ va (6 * x + l) = nI b := by
        intro hno
        obtain ⟨r, e, hr⟩ := ih (i + 1) acc (by omega) (by omega)
        refine ⟨r, e, fun b => (hr b).trans ⟨fun h => h.imp id (fun ⟨l, y, a1, a2, a3, a4, a5, a6, a7⟩ => ⟨l, y, by omega, a2, a3, a4, a5, a6, a7⟩), fun h => h.imp id (fun ⟨l, y, a1, a2, a3, a4, a5, a6, a7⟩ => ⟨l, y, ?_, a2, a3, a4, a5, a6, a7⟩)⟩⟩
        by_cases hl : l = i
        · subst hl; exact absurd a6 (hno y a3 a5)
        · omega
      rcases cls (ke (6 * x + i)) (n := 24) (by decide) with ho | ⟨y, hy, ey⟩
      · have hno : ∀ j, j < 24 → ke (6 * x + i) ≠ nI j := by
          intro j hj e
          rw [e] at ho
          rcases ho with h | h
          · exact absurd h (nI_pos (by omega))
          · exact absurd h (nI_ge hj (by decide))
        rw [ctn_out K hno, Option.bind_some, if_pos rfl]
        exact skip fun y hy _ => hno y hy
      · rw [ey, ctn_in K hy, Option.bind_some]
        by_cases hb : bit K y = true
        · rw [if_pos hb, if_neg i10, gd_in (by omega) (by decide)]
          obtain ⟨s, s1, s2⟩ := sO (va (6 * x + i))
          rw [s1, Option.bind_some]
          obtain ⟨r, e, hr⟩ := ih (i + 1) (acc ||| s) (by omega) (by omega)
          refine ⟨r, e, fun b => (hr b).trans ?_⟩
          rw [bit_or, Bool.or_eq_true, s2]
          constructor
          · rintro ((h | ⟨h, e⟩) | ⟨l, z, a1, a2⟩)
            · exact Or.inl h
            · exact Or.inr ⟨i, y, Nat.le_refl i, hlt, hy, h, hb, ey, e⟩
            · exact Or.inr ⟨l, z, by omega, a2⟩
          · rintro (h | ⟨l, z, a1, a2, a3, a4, a5, a6, a7⟩)
            · exact Or.inl (Or.inl h)
            · by_cases hl : l = i
              · subst hl; exact Or.inl (Or.inr ⟨a4, a7⟩)
              · exact Or.inr ⟨l, z, by omega, a2, a3, a4, a5, a6, a7⟩
        · rw [if_neg hb, if_pos rfl]
          refine skip fun z hz hbz e => ?_
          have : y = z := (nI_eq (by omega) (by omega)).mp (ey.symm.trans e)
          subst this
          exact hb hbz
theorem vo_eq (ke va : Nat → Int32) (K : Int32) {x : Nat} (hx : x < 24) : ∃ r, M_X3_valuesOfEntriesOf 400 ke va (nI x) K = some r ∧ ∀ b, bit r b = true ↔ ∃ y, bit K y = true ∧ En ke va x y b := by
  obtain ⟨r, e, hr⟩ := vo_loop ke va K hx 400 0 0 (by omega) (by omega)
  refine ⟨r, ?_, fun b => (hr b).trans ?_⟩
  · rw [M_X3_valuesOfEntriesOf, l6, pk_mul, Nat.mul_comm x 6]; exact e
  · rw [bit_0]
    constructor
    · rintro (h | ⟨l, y, a1, a2, a3, a4, a5, a6, a7⟩)
      · cases h
      · exact ⟨y, a5, a3, a4, l, a2, a6, a7⟩
    · intro ⟨y, h1, h2, h3, l, h4, h5, h6⟩
      exact Or.inr ⟨l, y, Nat.zero_le l, h4, h2, h3, h1, h5, h6⟩
theorem ve_loop (ke va : Nat → Int32) (T K : Int32) : ∀ (k i : Nat) (acc : Int32), i ≤ 24 → 24 - i < k → ∃ r, M_X3_valuesOfEntries_L5 400 T K ke va k acc (nI i) = some r ∧ ∀ b, bit r b = true ↔ bit acc b = true ∨ ∃ l y, i ≤ l ∧ l < 24 ∧ bit T l = true ∧ bit K y = true ∧ En ke va l y b := by
  intro k
  induction k with
  | zero => intro i acc h1 h2; omega
  | succ k ih =>
    intro i acc h1 h2
    rw [M_X3_valuesOfEntries_L5]
    by_cases hi : i = 24
    · subst hi
      rw [if_pos (show (24 : Int32) ≤ nI 24 from nI_le (Nat.le_refl _) (by decide))]
      exact ⟨acc, rfl, fun b => ⟨Or.inl, fun h => h.elim id (fun ⟨l, y, a, c, _⟩ => by omega)⟩⟩
    · have hlt : i < 24 := by omega
      rw [if_neg (show ¬ (24 : Int32) ≤ nI i from nI_ge hlt (by decide)), ctn_in T hlt, Option.bind_some, nI_1]
      by_cases hb : bit T i = true
      · rw [if_pos hb, if_neg i10]
        obtain ⟨s, s1, s2⟩ := vo_eq ke va K hlt
        rw [s1, Option.bind_some]
        obtain ⟨r, e, hr⟩ := ih (i + 1) (acc ||| s) (by omega) (by omega)
        refine ⟨r, e, fun b => (hr b).trans ?_⟩
        rw [bit_or, Bool.or_eq_true, s2]
        constructor
        · rintro ((h | ⟨y, h, h3⟩) | ⟨l, y, a1, a2⟩)
          · exact Or.inl h
          · exact Or.inr ⟨i, y, Nat.le_refl i, hlt, hb, h, h3⟩
          · exact Or.inr ⟨l, y, by omega, a2⟩
        · rintro (h | ⟨l, y, a1, a2, a3, a4, a5⟩)
          · exact Or.inl (Or.inl h)
          · by_cases hl : l = i
            · subst hl; exact Or.inl (Or.inr ⟨y, a4, a5⟩)
            · exact Or.inr ⟨l, y, by omega, a2, a3, a4, a5⟩
      · rw [if_neg hb, if_pos rfl]
        obtain ⟨r, e, hr⟩ := ih (i + 1) acc (by omega) (by omega)
        refine ⟨r, e, fun b => (hr b).trans ⟨fun h => h.imp id (fun ⟨l, y, a1, a2⟩ => ⟨l, y, by omega, a2⟩), fun h => h.imp id (fun ⟨l, y, a1, a2, a3, a4⟩ => ⟨l, y, ?_, a2, a3, a4⟩)⟩⟩
        by_cases hl : l = i
        · subst hl; exact absurd a3 hb
        · omega
theorem ve_eq (ke va : Nat → Int32) (T K : Int32) : ∃ r, M_X3_valuesOfEntries 400 ke va T K = some r ∧ ∀ b, bit r b = true ↔ ∃ l y, l < 24 ∧ bit T l = true ∧ bit K y = true ∧ En ke va l y b := by
  obtain ⟨r, e, hr⟩ := ve_loop ke va T K 400 0 0 (by omega) (by omega)
  refine ⟨r, e, fun b => (hr b).trans ?_⟩
  rw [bit_0]
  exact ⟨fun h => h.elim (fun h => by cases h) (fun ⟨l, y, a1, a2⟩ => ⟨l, y, a2⟩), fun ⟨l, y, a⟩ => Or.inr ⟨l, y, Nat.zero_le l, a⟩⟩
