/-! the states after construction -/
theorem in_65 : ∀ (k i : Nat) (w : Nat → Int32), i ≤ 6 → 6 - i < k → (∀ j, w j = if (j % 15 = 0 ∧ j < 360) ∨ (360 ≤ j ∧ j < 360 + i) then -9 else 0) → ∃ w', M_X5_init_L65 k (nI i) w = some w' ∧ ∀ j, w' j = if (j % 15 = 0 ∧ j < 360) ∨ (360 ≤ j ∧ j < 366) then -9 else 0 := by
  intro k
  induction k with
  | zero => intro i w h1 h2; omega
  | succ k ih =>
    intro i w h1 h2 h3
    rw [M_X5_init_L65]
    by_cases hi : i = 6
    · subst hi
      rw [if_pos (show (6 : Int32) ≤ nI 6 from nI_le (Nat.le_refl _) (by decide))]
      exact ⟨w, rfl, h3⟩
    · rw [if_neg (show ¬ (6 : Int32) ≤ nI i from nI_ge (b := 6) (by omega) (by decide)), l360, nI_add, gd_in (by omega) (by decide), cl (by omega), nI_1]
      refine ih (i + 1) _ (by omega) (by omega) fun j => ?_
      by_cases e : j = 360 + i
      · subst e; rw [pk_us, if_pos (by omega)]
      · rw [pk_un e, h3 j]
        by_cases c : (j % 15 = 0 ∧ j < 360) ∨ (360 ≤ j ∧ j < 360 + i)
        · rw [if_pos c, if_pos (by omega)]
        · rw [if_neg c, if_neg (by omega)]
theorem in_38 : ∀ (k i : Nat) (w : Nat → Int32), i ≤ 24 → 24 - i < k → (∀ j, w j = if j % 15 = 0 ∧ j < 15 * i then -9 else 0) → ∃ w', M_X5_init_L38 400 k (nI i) w = some w' ∧ ∀ j, w' j = if (j % 15 = 0 ∧ j < 360) ∨ (360 ≤ j ∧ j < 366) then -9 else 0 := by
  intro k
  induction k with
  | zero => intro i w h1 h2; omega
  | succ k ih =>
    intro i w h1 h2 h3
    rw [M_X5_init_L38]
    by_cases hi : i = 24
    · subst hi
      rw [if_pos (show (24 : Int32) ≤ nI 24 from nI_le (Nat.le_refl _) (by decide))]
      refine in_65 400 0 w (by decide) (by decide) fun j => ?_
      rw [h3 j]
      by_cases c : j % 15 = 0 ∧ j < 15 * 24
      · rw [if_pos c, if_pos (by omega)]
      · rw [if_neg c, if_neg (by omega)]
    · rw [if_neg (show ¬ (24 : Int32) ≤ nI i from nI_ge (b := 24) (by omega) (by decide)), show (15 * nI i + 0 : Int32) = nI (15 * i) by rw [l15, l0, pk_mul, nI_add]; rfl, gd_in (by omega) (by decide), cl (by omega), nI_1]
      refine ih (i + 1) _ (by omega) (by omega) fun j => ?_
      by_cases e : j = 15 * i
      · subst e; rw [pk_us, if_pos (by omega)]
      · rw [pk_un e, h3 j]
        by_cases c : j % 15 = 0 ∧ j < 15 * i
        · rw [if_pos c, if_pos (by omega)]
        · rw [if_neg c, if_neg (by omega)]
theorem emp_in {n j : Nat} (h : j < n) : emp n j = -9 := if_pos h
theorem rel_0 : ∃ w, M_X5_init 400 (fun _ => 0) = some w ∧ Rel (pkS (emp 24) (emp 72) (emp 144) (emp 144) (emp 24) (emp 6) (fun _ => 0) 0 0 0) 0 0 (vals (fun _ => none)) w 0 (fun _ => 0) := by
  obtain ⟨w, a1, a2⟩ := in_38 400 0 (fun _ => 0) (by decide) (by decide) (fun j => by rw [if_neg (by omega)])
  refine ⟨w, a1, Rel.mk (RS.of (fun x hx => ?_) (fun x _ => bit_0 x) (fun r hr => ?_) ⟨0, by decide, rfl, ?_, fun i hi => by omega⟩ ?_) ⟨0, 0, by decide, by decide, rfl, rfl, rfl, fun t ht => by omega⟩ (fun i hi => Or.inl ⟨rfl, rfl⟩)⟩
  · have k0 : emp 24 x = -9 := emp_in hx
    refine ⟨⟨?_, Or.inl k0⟩, ⟨?_, fun hh => ?_⟩, ⟨fun j hj => ⟨Or.inl (emp_in (by omega)), fun _ => emp_in (by omega)⟩, fun hh => absurd (k0.symm.trans hh) (by decide)⟩, ⟨fun _ j hj => ⟨emp_in (by omega), emp_in (by omega)⟩, fun hh => absurd (k0.symm.trans hh) (by decide)⟩, Or.inl k0, fun _ => k0, fun hh => absurd (k0.symm.trans hh) (by decide)⟩
    · show w (15 * x) = emp 24 x
      rw [k0, a2, if_pos (by omega)]
    · show w (15 * x + 1) = if bit 0 x = true then 1 else 0
      rw [a2, if_neg (by omega), bit_0]; rfl
    · have hh : bit 0 x = true := hh
      rw [bit_0] at hh; cases hh
  · show okv (emp 6 r) ∧ w (360 + r) = emp 6 r
    rw [emp_in hr, a2, if_pos (by omega)]
    exact ⟨Or.inl rfl, rfl⟩
  · rw [a2, if_neg (by decide)]; rfl
  · show w 387 = 0
    rw [a2, if_neg (by decide)]
