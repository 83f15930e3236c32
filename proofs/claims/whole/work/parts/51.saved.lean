/-! rows of the reference; what is saved -/
theorem Rel.rs {c : SV} {nx dp : Int32} {rv : Nat → Option SV} {w : Nat → Int32} {dep : Int32} {kept : Nat → Int32} (h : Rel c nx dp rv w dep kept) : RS c w := by
  have := h.1
  rwa [rwr0] at this
theorem Rel.mk {c : SV} {nx dp : Int32} {rv : Nat → Option SV} {w : Nat → Int32} {dep : Int32} {kept : Nat → Int32} (h : RS c w) (hh : RHi nx dp rv w dep) (hs : RSl rv w kept) : Rel c nx dp rv w dep kept := ⟨by rw [rwr0]; exact h, hh, hs⟩
/-- two contents that agree where it counts -/
def SVe (v c : SV) : Prop := (∀ j, j < 24 → v.1 0 j = c.1 0 j) ∧ (∀ j, j < 72 → v.1 1 j = c.1 1 j) ∧ (∀ j, j < 144 → v.1 2 j = c.1 2 j) ∧ (∀ j, j < 144 → v.1 3 j = c.1 3 j) ∧ (∀ j, j < 24 → v.1 4 j = c.1 4 j) ∧ (∀ j, j < 6 → v.1 5 j = c.1 5 j) ∧ (∀ j, j < 20 → v.1 6 j = c.1 6 j) ∧ v.2 0 = c.2 0 ∧ v.2 1 = c.2 1 ∧ v.2 2 = c.2 2
theorem SVe.rfl' (c : SV) : SVe c c := ⟨fun _ _ => rfl, fun _ _ => rfl, fun _ _ => rfl, fun _ _ => rfl, fun _ _ => rfl, fun _ _ => rfl, fun _ _ => rfl, rfl, rfl, rfl⟩
theorem RS.cong {v c : SV} {u u' : Nat → Int32} (he : SVe v c) (hu : ∀ j, j < 388 → u' j = u j) (h : RS c u) : RS v u' := by
  obtain ⟨e0, e1, e2, e3, e4, e5, e6, e7, e8, e9⟩ := he
  obtain ⟨hk, hf, hd, ht, hw, hr, hq, hn⟩ := h
  refine ⟨fun x hx => ?_, ⟨fun x hx => ?_, ?_⟩, fun x hx => ⟨fun j hj => ?_, fun h0 j hj => ?_⟩, fun x hx => ⟨fun h1 j hj => ?_, fun h1 => ⟨?_, fun j hj => ?_⟩⟩, fun x hx => ⟨?_, fun h2 => ?_, fun h2 j hj => ?_⟩, fun r hr' => ⟨?_, ?_⟩, ?_, ?_⟩
  · rw [e0 x hx, hu _ (by omega)]; exact hk x hx
  · rw [e0 x hx, e8, hu _ (by omega)]; exact hf.1 x hx
  · rw [e8]; exact hf.2
  · rw [e1 _ (by omega), e0 x hx]; exact (hd x hx).1 j hj
  · rw [e0 x hx] at h0
    rw [hu _ (by omega), (hd x hx).2 h0 j hj]
    by_cases h3 : j < 3
    · rw [if_pos h3, if_pos h3, e1 _ (by omega)]
    · rw [if_neg h3, if_neg h3]
  · rw [e0 x hx] at h1
    rw [e2 _ (by omega), e3 _ (by omega)]; exact (ht x hx).1 h1 j hj
  · rw [e0 x hx] at h1
    obtain ⟨n, hn1, b1, b2, b3, b4⟩ := ((ht x hx).2 h1).1
    refine ⟨n, by rw [hu _ (by omega)]; exact hn1, b1, fun j hj => ?_, fun j hj hj6 => ?_, fun i j hi hj => ?_⟩
    · rw [e2 _ (by omega), e3 _ (by omega)]; exact b2 j hj
    · rw [e2 _ (by omega), e3 _ (by omega)]; exact b3 j hj hj6
    · rw [e2 _ (by omega), e2 _ (by omega)]; exact b4 i j hi hj
  · rw [e0 x hx] at h1
    rw [hu _ (by omega), hu _ (by omega), e2 _ (by omega), e3 _ (by omega)]; exact ((ht x hx).2 h1).2 j hj
  · rw [e4 x hx]; exact (hw x hx).1
  · rw [e0 x hx] at h2
    rw [e4 x hx]; exact (hw x hx).2.1 h2
  · rw [e0 x hx] at h2
    rw [hu _ (by omega), e4 x hx]; exact (hw x hx).2.2 h2 j hj
  · rw [e5 r hr']; exact (hr r hr').1
  · rw [e5 r hr', hu _ (by omega)]; exact (hr r hr').2
  · obtain ⟨n, h1, h2, h3, h4⟩ := hq
    refine ⟨n, h1, by rw [e7]; exact h2, by rw [hu _ (by omega)]; exact h3, fun i hi => ?_⟩
    rw [hu _ (by omega), e6 _ (by omega)]; exact h4 i hi
  · rw [hu _ (by omega), e9]; exact hn
/-- copyState -/
def cps (w : Nat → Int32) (f t n : Nat) : Nat → Int32 := fun j => if 388 * t ≤ j ∧ j < 388 * t + n then w (388 * f + (j - 388 * t)) else w j
theorem cps_loop (w : Nat → Int32) {f t : Nat} (hf : f < 10) (ht : t < 10) (hft : f ≠ t) : ∀ (k i : Nat), i ≤ 388 → 388 - i < k → M_X5_copyState_L2 (nI f) (nI t) k (nI i) (cps w f t i) = some (cps w f t 388) := by
  intro k
  induction k with
  | zero => intro i h1 h2; omega
  | succ k ih =>
    intro i h1 h2
    rw [M_X5_copyState_L2]
    by_cases hi : i = 388
    · subst hi
      rw [if_pos (show (388 : Int32) ≤ nI 388 from nI_le (Nat.le_refl _) (by decide))]
    · have hlt : i < 388 := by omega
      rw [if_neg (show ¬ (388 : Int32) ≤ nI i from nI_ge hlt (by decide)), l388, pk_mul, pk_mul, nI_add, nI_add, gd_in (by omega) (by decide), gd_in (by omega) (by decide), cl (by omega), cl (by omega), nI_1]
      have e : upd (cps w f t i) (388 * t + i) (cps w f t i (388 * f + i)) = cps w f t (i + 1) := by
        funext j
        by_cases hj : j = 388 * t + i
        · subst hj
          rw [pk_us, cps, cps, if_neg (by omega), if_pos (by omega)]
          congr 1
          omega
        · rw [pk_un hj, cps, cps]
          by_cases h3 : 388 * t ≤ j ∧ j < 388 * t + i
          · rw [if_pos h3, if_pos (by omega)]
          · rw [if_neg h3, if_neg (by omega)]
      rw [e]
      exact ih (i + 1) (by omega) (by omega)
theorem cps_eq (w : Nat → Int32) {a b : Int32} {f t : Nat} (ha : a = nI f) (hb : b = nI t) (hf : f < 10) (ht : t < 10) (hft : f ≠ t) : M_X5_copyState 400 w a b = some (cps w f t 388) := by
  have h := cps_loop w hf ht hft 400 0 (by omega) (by omega)
  rw [M_X5_copyState, ha, hb, l0]
  have e : cps w f t 0 = w := by
    funext j
    rw [cps, if_neg (by omega)]
  rw [e] at h
  exact h
theorem cps_in {w : Nat → Int32} {f t j : Nat} (h : j < 388) : cps w f t 388 (388 * t + j) = w (388 * f + j) := by
  rw [cps, if_pos (by omega)]
  congr 1
  omega
theorem cps_out {w : Nat → Int32} {f t r j : Nat} (hr : r ≠ t) (h : j < 388) : cps w f t 388 (388 * r + j) = w (388 * r + j) := by
  rw [cps, if_neg]
  intro h2
  rcases Nat.lt_or_gt_of_ne hr with h3 | h3
  · have : 388 * (r + 1) ≤ 388 * t := Nat.mul_le_mul_left _ h3
    omega
  · have : 388 * (t + 1) ≤ 388 * r := Nat.mul_le_mul_left _ h3
    omega
/-- row r of w' is row r' of w -/
def rowE (w' w : Nat → Int32) (r r' : Nat) : Prop := ∀ j, j < 388 → w' (388 * r + j) = w (388 * r' + j)
theorem save_6 (w : Nat → Int32) : ∃ w', M_X5_saveState 400 w 6 = some (w', 6) ∧ rowE w' w 0 0 ∧ rowE w' w 2 3 ∧ rowE w' w 3 4 ∧ rowE w' w 4 5 ∧ rowE w' w 5 6 ∧ rowE w' w 6 7 ∧ rowE w' w 7 0 ∧ rowE w' w 8 8 ∧ rowE w' w 9 9 := by
  refine ⟨cps (cps (cps (cps (cps (cps w 3 2 388) 4 3 388) 5 4 388) 6 5 388) 7 6 388) 0 7 388, ?_, ?_⟩
  · rw [M_X5_saveState, if_pos rfl]
    rw [M_X5_saveState_L11, if_neg (by decide), cps_eq w (f := 3) (t := 2) (by decide) (by decide) (by decide) (by decide) (by decide), Option.bind_some]
    rw [M_X5_saveState_L11, if_neg (by decide), cps_eq _ (f := 4) (t := 3) (by decide) (by decide) (by decide) (by decide) (by decide), Option.bind_some]
    rw [M_X5_saveState_L11, if_neg (by decide), cps_eq _ (f := 5) (t := 4) (by decide) (by decide) (by decide) (by decide) (by decide), Option.bind_some]
    rw [M_X5_saveState_L11, if_neg (by decide), cps_eq _ (f := 6) (t := 5) (by decide) (by decide) (by decide) (by decide) (by decide), Option.bind_some]
    rw [M_X5_saveState_L11, if_neg (by decide), cps_eq _ (f := 7) (t := 6) (by decide) (by decide) (by decide) (by decide) (by decide), Option.bind_some]
    rw [M_X5_saveState_L11, if_pos (by decide), cps_eq _ (f := 0) (t := 7) (by decide) (by decide) (by decide) (by decide) (by decide), Option.bind_some]
    rfl
  · refine ⟨?_, ?_, ?_, ?_, ?_, ?_, ?_, ?_, ?_⟩ <;> intro j hj <;> first
      | (rw [cps_in hj, cps_out (by decide) hj, cps_out (by decide) hj, cps_out (by decide) hj, cps_out (by decide) hj, cps_out (by decide) hj]; done)
      | (rw [cps_out (by decide) hj, cps_in hj, cps_out (by decide) hj, cps_out (by decide) hj, cps_out (by decide) hj, cps_out (by decide) hj]; done)
      | (rw [cps_out (by decide) hj, cps_out (by decide) hj, cps_in hj, cps_out (by decide) hj, cps_out (by decide) hj, cps_out (by decide) hj]; done)
      | (rw [cps_out (by decide) hj, cps_out (by decide) hj, cps_out (by decide) hj, cps_in hj, cps_out (by decide) hj, cps_out (by decide) hj]; done)
      | (rw [cps_out (by decide) hj, cps_out (by decide) hj, cps_out (by decide) hj, cps_out (by decide) hj, cps_in hj, cps_out (by decide) hj]; done)
      | (rw [cps_out (by decide) hj, cps_out (by decide) hj, cps_out (by decide) hj, cps_out (by decide) hj, cps_out (by decide) hj, cps_in hj]; done)
      | (rw [cps_out (by decide) hj, cps_out (by decide) hj, cps_out (by decide) hj, cps_out (by decide) hj, cps_out (by decide) hj, cps_out (by decide) hj]; done)
theorem save_lt (w : Nat → Int32) {d : Nat} (h : d < 6) : M_X5_saveState 400 w (nI d) = some (cps w 0 (2 + d) 388, nI (d + 1)) := by
  have hne : ¬ nI d = 6 := by rw [l6, nI_eq (by omega) (by decide)]; omega
  rw [M_X5_saveState, if_neg hne, cps_eq w (a := 0) (b := 2 + nI d) (f := 0) (t := 2 + d) rfl (by rw [l2, nI_add]) (by omega) (by omega) (by omega), Option.bind_some, nI_1]
theorem cpr_eq (n : Nat) (hn : n < 2 ^ 31) (f g : Nat → Int32) : ∃ r, M_X4_copyRow n n f g = some r ∧ ∀ j, j < n → r j = f j := by
  refine ⟨va_cpy f g 0 0 n, ?_, fun j hj => by simp [va_cpy, hj]⟩
  rw [M_X4_copyRow]
  have e : (if Int32.ofNat n < Int32.ofNat n then Int32.ofNat n else Int32.ofNat n) = nI n := by
    by_cases h : Int32.ofNat n < Int32.ofNat n
    · rw [if_pos h]; rfl
    · rw [if_neg h]; rfl
  rw [e, cl hn, gc, if_pos]
  · rfl
  · refine ⟨by decide, by decide, nI_pos hn, ?_, ?_⟩
    · show 0 + n ≤ n; omega
    · show 0 + n ≤ n; omega
theorem cpy_ok (d c : SV) : ∃ t, M_cpy d c = some t ∧ SVe (pk t) c := by
  obtain ⟨r0, h0, e0⟩ := cpr_eq 24 (by decide) (c.1 0) (d.1 0)
  obtain ⟨r1, h1, e1⟩ := cpr_eq 72 (by decide) (c.1 1) (d.1 1)
  obtain ⟨r2, h2, e2⟩ := cpr_eq 144 (by decide) (c.1 2) (d.1 2)
  obtain ⟨r3, h3, e3⟩ := cpr_eq 144 (by decide) (c.1 3) (d.1 3)
  obtain ⟨r4, h4, e4⟩ := cpr_eq 24 (by decide) (c.1 4) (d.1 4)
  obtain ⟨r5, h5, e5⟩ := cpr_eq 6 (by decide) (c.1 5) (d.1 5)
  obtain ⟨r6, h6, e6⟩ := cpr_eq 20 (by decide) (c.1 6) (d.1 6)
  refine ⟨(r0, r1, r2, r3, r4, r5, r6, c.2 0, c.2 1, c.2 2), ?_, e0, e1, e2, e3, e4, e5, e6, rfl, rfl, rfl⟩
  rw [M_cpy, M_X3_copyFrom, h0, Option.bind_some, h1, Option.bind_some, h2, Option.bind_some, h3, Option.bind_some, h4, Option.bind_some, h5, Option.bind_some, M_X2_copyFrom, h6, Option.bind_some, Option.bind_some]
/-- a save on both sides: the history still agrees, and the rows of now are as they were -/
theorem save_both {c : SV} {nx dp : Int32} {rv : Nat → Option SV} {w : Nat → Int32} {dep : Int32} {kept : Nat → Int32} (h : Rel c nx dp rv w dep kept) : ∃ (qa : (Nat → Option SV) × Int32 × Int32) (qb : (Nat → Int32) × Int32), M_X0_push rv nx dp c = some qa ∧ M_X5_saveState 400 w dep = some qb ∧ RHi qa.2.1 qa.2.2 qa.1 qb.1 qb.2 ∧ RSl qa.1 qb.1 kept ∧ ∀ j, j < 388 → qb.1 j = w j := by
  have hrs := h.rs
  obtain ⟨-, ⟨n, d, hn, hd, rfl, rfl, rfl, hist⟩, hsl⟩ := h
  obtain ⟨t, ht, he⟩ := cpy_ok ((rv n).getD frsh) c
  have hnx : ((nI n + 1) - (nI n + 1) / 6 * 6 : Int32) = nI ((n + 1) % 6) := by
    rw [nI_1, l6]; exact pk_rem (by omega) (by decide) (by decide)
  have hdp : (if (6 : Int32) < nI d + 1 then 6 else nI d + 1) = nI (min (d + 1) 6) := by
    rw [nI_1, l6]
    by_cases h6 : d = 6
    · subst h6; rw [if_pos (nI_lt (by decide) (by decide))]; rfl
    · rw [if_neg (nI_nlt (by omega) (by decide)), Nat.min_eq_left (by omega)]
  have hpush : M_X0_push rv (nI n) (nI d) c = some (va_up rv n (some (pk t)), nI ((n + 1) % 6), nI (min (d + 1) 6)) := by
    rw [M_X0_push, gd_in hn (by decide), cl (by omega), ht, Option.bind_some, hnx, hdp]
  have slot : ∀ w', rowE w' w 8 8 → rowE w' w 9 9 → RSl (va_up rv n (some (pk t))) w' kept := by
    intro w' h8 h9 i hi
    rw [up_ne _ _ (by omega)]
    rcases hsl i hi with h1 | ⟨h1, v, h2, h3⟩
    · exact Or.inl h1
    · refine Or.inr ⟨h1, v, h2, h3.cong (SVe.rfl' v) fun j hj => ?_⟩
      rcases (show i = 0 ∨ i = 1 by omega) with rfl | rfl
      · exact h8 j hj
      · exact h9 j hj
  by_cases h6 : d = 6
  · subst h6
    obtain ⟨w', hw, r0, r2, r3, r4, r5, r6, r7, r8, r9⟩ := save_6 w
    refine ⟨_, (w', 6), hpush, hw, ⟨(n + 1) % 6, 6, Nat.mod_lt _ (by decide), by decide, rfl, rfl, rfl, fun s hs => ?_⟩, slot w' r8 r9, fun j hj => by have := r0 j hj; rwa [Nat.mul_zero, Nat.zero_add] at this⟩
    dsimp only
    by_cases hs0 : s = 0
    · subst hs0
      have e : ((n + 1) % 6 + 5 - 0) % 6 = n := by omega
      rw [e, up_self]
      refine ⟨_, rfl, hrs.cong he fun j hj => ?_⟩
      show w' (388 * 7 + j) = w j
      have := r7 j hj; rwa [Nat.mul_zero, Nat.zero_add] at this
    · have e : ((n + 1) % 6 + 5 - s) % 6 = (n + 5 - (s - 1)) % 6 := by omega
      have hne : (n + 5 - (s - 1)) % 6 ≠ n := by omega
      rw [e, up_ne _ _ hne]
      obtain ⟨v, h1, h2⟩ := hist (s - 1) (by omega)
      refine ⟨v, h1, h2.cong (SVe.rfl' v) fun j hj => ?_⟩
      show w' (388 * (2 + (6 - 1 - s)) + j) = w (388 * (2 + (6 - 1 - (s - 1))) + j)
      rcases (show s = 1 ∨ s = 2 ∨ s = 3 ∨ s = 4 ∨ s = 5 by omega) with rfl | rfl | rfl | rfl | rfl
      · exact r6 j hj
      · exact r5 j hj
      · exact r4 j hj
      · exact r3 j hj
      · exact r2 j hj
  · have hd6 : d < 6 := by omega
    refine ⟨_, _, hpush, save_lt w hd6, ⟨(n + 1) % 6, d + 1, Nat.mod_lt _ (by decide), by omega, rfl, by show nI (min (d + 1) 6) = nI (d + 1); rw [Nat.min_eq_left (by omega)], rfl, fun s hs => ?_⟩, slot _ (fun j hj => cps_out (by omega) hj) (fun j hj => cps_out (by omega) hj), fun j hj => ?_⟩
    · dsimp only
      by_cases hs0 : s = 0
      · subst hs0
        have e : ((n + 1) % 6 + 5 - 0) % 6 = n := by omega
        rw [e, up_self]
        refine ⟨_, rfl, hrs.cong he fun j hj => ?_⟩
        show cps w 0 (2 + d) 388 (388 * (2 + (d + 1 - 1 - 0)) + j) = w j
        rw [show 2 + (d + 1 - 1 - 0) = 2 + d by omega, cps_in hj, Nat.mul_zero, Nat.zero_add]
      · have e : ((n + 1) % 6 + 5 - s) % 6 = (n + 5 - (s - 1)) % 6 := by omega
        have hne : (n + 5 - (s - 1)) % 6 ≠ n := by omega
        rw [e, up_ne _ _ hne]
        obtain ⟨v, h1, h2⟩ := hist (s - 1) (by omega)
        refine ⟨v, h1, h2.cong (SVe.rfl' v) fun j hj => ?_⟩
        show cps w 0 (2 + d) 388 (388 * (2 + (d + 1 - 1 - s)) + j) = w (388 * (2 + (d - 1 - (s - 1))) + j)
        rw [cps_out (by omega) hj, show 2 + (d + 1 - 1 - s) = 2 + (d - 1 - (s - 1)) by omega]
    · show cps w 0 (2 + d) 388 j = w j
      have := cps_out (w := w) (f := 0) (t := 2 + d) (r := 0) (by omega) hj
      rwa [Nat.mul_zero, Nat.zero_add] at this
/-- the history looks at the rows from the second on -/
theorem RHi.cong {nx dp : Int32} {rv : Nat → Option SV} {w w' : Nat → Int32} {dep : Int32} (hw : ∀ j, 776 ≤ j → j < 3880 → w' j = w j) (h : RHi nx dp rv w dep) : RHi nx dp rv w' dep := by
  obtain ⟨n, d, hn, hd, h1, h2, h3, hist⟩ := h
  refine ⟨n, d, hn, hd, h1, h2, h3, fun t ht => ?_⟩
  obtain ⟨v, e1, e2⟩ := hist t ht
  refine ⟨v, e1, e2.cong (SVe.rfl' v) fun j hj => ?_⟩
  show w' (388 * (2 + (d - 1 - t)) + j) = w (388 * (2 + (d - 1 - t)) + j)
  exact hw _ (by omega) (by omega)
theorem RSl.cong {rv : Nat → Option SV} {w w' kept : Nat → Int32} (hw : ∀ j, 776 ≤ j → j < 3880 → w' j = w j) (h : RSl rv w kept) : RSl rv w' kept := by
  intro i hi
  rcases h i hi with h1 | ⟨h1, v, h2, h3⟩
  · exact Or.inl h1
  · refine Or.inr ⟨h1, v, h2, h3.cong (SVe.rfl' v) fun j hj => ?_⟩
    exact hw _ (by omega) (by omega)
