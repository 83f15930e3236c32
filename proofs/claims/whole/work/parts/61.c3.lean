/-! counting references -/
def sm (g : Nat → Nat) : Nat → Nat
  | 0 => 0
  | n + 1 => sm g n + g n
theorem sm_succ (g : Nat → Nat) (n : Nat) : sm g (n + 1) = sm g n + g n := rfl
theorem sm_add (f g : Nat → Nat) : ∀ n, sm f n + sm g n = sm (fun x => f x + g x) n
  | 0 => rfl
  | n + 1 => by
    have h := sm_add f g n
    rw [sm_succ, sm_succ, sm_succ]
    omega
theorem sm_cong {f g : Nat → Nat} : ∀ {n : Nat}, (∀ x, x < n → f x = g x) → sm f n = sm g n
  | 0, _ => rfl
  | n + 1, h => by rw [sm_succ, sm_succ, sm_cong (fun x hx => h x (by omega)), h n (by omega)]
theorem fb_blk (p : Nat → Bool) (m : Nat) : ∀ n, fb_ct p (m * n) = sm (fun x => fb_ct (fun j => p (m * x + j)) m) n
  | 0 => rfl
  | n + 1 => by
    rw [Nat.mul_succ, fb_ct_split, fb_blk p m n, sm_succ]
theorem oc_l {n : Nat} (hn : n < 200) (f : Nat → Int32) (p : Int32) : ∀ (k i : Nat), i ≤ n → n - i < k → M_X4_occurrences_L4 n p f k (nI (fb_ct (fun j => decide (f j = p)) i)) (nI i) = some (nI (fb_ct (fun j => decide (f j = p)) n)) := by
  intro k
  induction k with
  | zero => intro i h1 h2; omega
  | succ k ih =>
    intro i h1 h2
    rw [M_X4_occurrences_L4]
    by_cases hi : i = n
    · subst hi
      rw [if_pos (show Int32.ofNat i ≤ nI i from nI_le (Nat.le_refl _) (by omega))]
    · have hlt : i < n := by omega
      have := ih (i + 1) (by omega) (by omega)
      rw [fb_ct_succ] at this
      rw [if_neg (show ¬ Int32.ofNat n ≤ nI i from nI_ge hlt (by omega)), gd_in hlt (by omega), cl (by omega), nI_1, nI_1]
      by_cases hp : f i = p
      · rw [if_pos hp]; simpa [hp] using this
      · rw [if_neg hp]; simpa [hp] using this
theorem oc_f {n : Nat} (hn : n < 200) (f : Nat → Int32) (p : Int32) : M_X4_occurrences 400 n f p = some (nI (fb_ct (fun j => decide (f j = p)) n)) := oc_l hn f p 400 0 (Nat.zero_le n) (by omega)
theorem rc59 (K : Int32 → Int32 → Option Int32) {w : Nat → Int32} {x : Nat} (hx : x < 24) (h9 : w (15 * x) ≠ -9) (p : Int32) (a : Nat) : ∀ (k i : Nat), i ≤ 12 → 12 - i < k → M_X5_referenceCount_L59 K p w (nI x) k (nI (a + fb_ct (fun j => decide (w (15 * x + 3 + j) = p)) i)) (nI (3 + i)) = K (nI (a + fb_ct (fun j => decide (w (15 * x + 3 + j) = p)) 12)) (nI 15) := by
  intro k
  induction k with
  | zero => intro i h1 h2; omega
  | succ k ih =>
    intro i h1 h2
    rw [M_X5_referenceCount_L59]
    by_cases hi : i = 12
    · subst hi
      rw [if_pos (show (15 : Int32) ≤ nI (3 + 12) from nI_le (a := 15) (by decide) (by decide))]
    · have hlt : i < 12 := by omega
      have := ih (i + 1) (by omega) (by omega)
      rw [fb_ct_succ] at this
      rw [if_neg (show ¬ (15 : Int32) ≤ nI (3 + i) from nI_ge (b := 15) (by omega) (by decide)), bAl_in w hx, if_neg h9, Option.bind_some, if_neg i10, bPt w (n := 3 + i) rfl (by omega), Option.bind_some, ← Nat.add_assoc (15 * x) 3 i, nI_1, nI_1]
      by_cases hp : w (15 * x + 3 + i) = p
      · rw [if_pos (decide_eq_true hp)] at this
        rw [if_pos hp]; exact this
      · rw [if_neg (show ¬ decide (w (15 * x + 3 + i) = p) = true by simp [hp])] at this
        rw [if_neg hp, l0, nI_add]; exact this
def rcC (ki w : Nat → Int32) (p : Int32) (x : Nat) : Nat := if ki x = -9 then 0 else fb_ct (fun j => decide (w (15 * x + 3 + j) = p)) 12
theorem rc50 {ki w : Nat → Int32} (h : RKi ki w) (p : Int32) (a : Nat) : ∀ (k i : Nat), i ≤ 24 → 24 - i < k → M_X5_referenceCount_L50 400 p w k (nI (a + sm (rcC ki w p) i)) (nI i) = some (nI (a + sm (rcC ki w p) 24)) := by
  intro k
  induction k with
  | zero => intro i h1 h2; omega
  | succ k ih =>
    intro i h1 h2
    rw [M_X5_referenceCount_L50]
    by_cases hi : i = 24
    · subst hi
      rw [if_pos (show (24 : Int32) ≤ nI 24 from nI_le (Nat.le_refl _) (by decide))]
    · have hlt : i < 24 := by omega
      have := ih (i + 1) (by omega) (by omega)
      rw [sm_succ] at this
      rw [if_neg (show ¬ (24 : Int32) ≤ nI i from nI_ge hlt (by decide))]
      by_cases h9 : ki i = -9
      · rw [rcC, if_pos h9, Nat.add_zero] at this
        rw [M_X5_referenceCount_L59, if_neg (by decide), bAl_in w hlt, (h i hlt).1, if_pos h9, Option.bind_some, if_pos rfl, nI_1]
        exact this
      · rw [rcC, if_neg h9] at this
        have e := rc59 (fun k59_2 k59_4 => M_X5_referenceCount_L50 400 p w k k59_2 (nI i + 1)) (w := w) hlt (by rw [(h i hlt).1]; exact h9) p (a + sm (rcC ki w p) i) 400 0 (by decide) (by decide)
        rw [show fb_ct (fun j => decide (w (15 * i + 3 + j) = p)) 0 = 0 from rfl, Nat.add_zero, Nat.add_zero] at e
        rw [l3, e, nI_1, Nat.add_assoc]
        exact this
theorem rc14 {ki w : Nat → Int32} (h : RKi ki w) (p : Int32) : ∀ (k i : Nat), i ≤ 6 → 6 - i < k → M_X5_referenceCount_L14 400 p w k (nI (fb_ct (fun r => decide (w (360 + r) = p)) i)) (nI i) = some (nI (fb_ct (fun r => decide (w (360 + r) = p)) 6 + sm (rcC ki w p) 24)) := by
  intro k
  induction k with
  | zero => intro i h1 h2; omega
  | succ k ih =>
    intro i h1 h2
    rw [M_X5_referenceCount_L14]
    by_cases hi : i = 6
    · subst hi
      rw [if_pos (show (6 : Int32) ≤ nI 6 from nI_le (Nat.le_refl _) (by decide))]
      exact rc50 h p _ 400 0 (by decide) (by decide)
    · have hlt : i < 6 := by omega
      have := ih (i + 1) (by omega) (by omega)
      rw [fb_ct_succ] at this
      rw [if_neg (show ¬ (6 : Int32) ≤ nI i from nI_ge hlt (by decide)), l360, nI_add, gd_in (by omega) (by decide), cl (by omega), nI_1, nI_1]
      by_cases hp : w (360 + i) = p
      · rw [if_pos hp]; simpa [hp] using this
      · rw [if_neg hp, l0, nI_add]; simpa [hp] using this
theorem rcX {ki fi ke va ta ro qu w : Nat → Int32} {nsz fin rnd : Int32} (h : RS (pkS ki fi ke va ta ro qu nsz fin rnd) w) {y : Nat} (hy : y < 24) {x : Nat} (hx : x < 24) : fb_ct (fun j => decide (fi (3 * x + j) = nI y)) 3 + fb_ct (fun j => decide (ke (6 * x + j) = nI y)) 6 + fb_ct (fun j => decide (va (6 * x + j) = nI y)) 6 + fb_ct (fun j => decide (ta (1 * x + j) = nI y)) 1 = rcC ki w (nI y) x := by
  obtain ⟨a1, a2, a3, a4, a5⟩ := h.ro hx
  have a1 : w (15 * x) = ki x ∧ (ki x = -9 ∨ ki x = 0 ∨ ki x = 1 ∨ ki x = 2) := a1
  have n9y : ∀ v : Int32, v = -9 → decide (v = nI y) = false := fun v hv => by
    rw [hv]; exact decide_eq_false fun e => n9 (j := y) (by omega) e.symm
  have f0 : ki x ≠ 0 → fb_ct (fun j => decide (fi (3 * x + j) = nI y)) 3 = 0 := fun hk => fb_ct_zero.mpr fun j hj => n9y _ ((a3.1 j hj).2 hk)
  have k0 : ki x ≠ 1 → fb_ct (fun j => decide (ke (6 * x + j) = nI y)) 6 = 0 := fun hk => fb_ct_zero.mpr fun j hj => n9y _ (a4.1 hk j hj).1
  have v0 : ki x ≠ 1 → fb_ct (fun j => decide (va (6 * x + j) = nI y)) 6 = 0 := fun hk => fb_ct_zero.mpr fun j hj => n9y _ (a4.1 hk j hj).2
  have t0 : ki x ≠ 2 → fb_ct (fun j => decide (ta (1 * x + j) = nI y)) 1 = 0 := fun hk => fb_ct_zero.mpr fun j hj => n9y _ (by
    have e : 1 * x + j = x := by omega
    rw [e]; exact a5.2.1 hk)
  rw [rcC]
  rcases a1.2 with hk | hk | hk | hk
  · rw [f0 (by rw [hk]; decide), k0 (by rw [hk]; decide), v0 (by rw [hk]; decide), t0 (by rw [hk]; decide), if_pos hk]
  · rw [k0 (by rw [hk]; decide), v0 (by rw [hk]; decide), t0 (by rw [hk]; decide), if_neg (by rw [hk]; decide), show (12 : Nat) = 3 + 9 from rfl, fb_ct_split]
    have e1 : fb_ct (fun j => decide (w (15 * x + 3 + j) = nI y)) 3 = fb_ct (fun j => decide (fi (3 * x + j) = nI y)) 3 := fb_ct_cong fun j hj => by
      have := a3.2 hk j (by omega)
      rw [if_pos hj] at this
      rw [this]; rfl
    have e2 : fb_ct (fun k => decide (w (15 * x + 3 + (3 + k)) = nI y)) 9 = 0 := fb_ct_zero.mpr fun j hj => n9y _ (by
      have := a3.2 hk (3 + j) (by omega)
      rw [if_neg (by omega)] at this
      exact this)
    rw [e1, e2]
  · rw [f0 (by rw [hk]; decide), t0 (by rw [hk]; decide), if_neg (by rw [hk]; decide), show (12 : Nat) = 6 + 6 from rfl, fb_ct_split]
    have e1 : fb_ct (fun j => decide (w (15 * x + 3 + j) = nI y)) 6 = fb_ct (fun j => decide (ke (6 * x + j) = nI y)) 6 := fb_ct_cong fun j hj => by
      rw [((a4.2 hk).2 j hj).1]; rfl
    have e2 : fb_ct (fun k => decide (w (15 * x + 3 + (6 + k)) = nI y)) 6 = fb_ct (fun j => decide (va (6 * x + j) = nI y)) 6 := fb_ct_cong fun j hj => by
      have := ((a4.2 hk).2 j hj).2
      rw [show 15 * x + 3 + (6 + j) = 15 * x + 9 + j by omega, this]; rfl
    rw [e1, e2]
    omega
  · rw [f0 (by rw [hk]; decide), k0 (by rw [hk]; decide), v0 (by rw [hk]; decide), if_neg (by rw [hk]; decide), show (12 : Nat) = 1 + 11 from rfl, fb_ct_split]
    have e1 : fb_ct (fun j => decide (w (15 * x + 3 + j) = nI y)) 1 = fb_ct (fun j => decide (ta (1 * x + j) = nI y)) 1 := fb_ct_cong fun j hj => by
      have := a5.2.2 hk j (by omega)
      rw [if_pos (by omega)] at this
      have e : 1 * x + j = x := by omega
      rw [this, e]; rfl
    have e2 : fb_ct (fun k => decide (w (15 * x + 3 + (1 + k)) = nI y)) 11 = 0 := fb_ct_zero.mpr fun j hj => n9y _ (by
      have := a5.2.2 hk (1 + j) (by omega)
      rw [if_neg (by omega)] at this
      exact this)
    rw [e1, e2]
    omega
theorem step_referenceCount (ki : Nat → Int32) (fi : Nat → Int32) (ke : Nat → Int32) (va : Nat → Int32) (ta : Nat → Int32) (ro : Nat → Int32) (qu : Nat → Int32) (nsz : Int32) (fin : Int32) (rnd : Int32) (rd : Nat → Int32) (mkd : Int32) (lr : Int32) (un : Int32) (nx : Int32) (dp : Int32) (rv : Nat → Option SV) (w : Nat → Int32) (dep : Int32) (kept : Nat → Int32) (mark : Nat → Int32) (start : Nat → Int32) (p1 : Int32) (h : Rel (pkS ki fi ke va ta ro qu nsz fin rnd) nx dp rv w dep kept) : ∃ (qa : Int32) (qb : Int32), M_X4_referenceCount 400 ki fi ke va ta ro p1 = some qa ∧ M_X5_referenceCount 400 w p1 = some qb ∧ qa = qb ∧ Rel (pkS ki fi ke va ta ro qu nsz fin rnd) nx dp rv w dep kept := by
  have hrs := h.rs
  have hki : RKi ki w := hrs.1
  have hro : RRo ro w := hrs.2.2.2.2.2.1
  rw [M_X4_referenceCount, M_X5_referenceCount]
  rcases cls p1 (n := 24) (by decide) with ho | ⟨y, hy, rfl⟩
  · rw [aAl_out ki ho, bAl_out w ho]
    exact ⟨_, _, rfl, rfl, rfl, h⟩
  · rw [aAl_in ki hy, bAl_in w hy, (hki y hy).1, Option.bind_some, Option.bind_some]
    by_cases h9 : ki y = -9
    · rw [if_pos h9]
      exact ⟨_, _, rfl, rfl, rfl, h⟩
    · rw [if_neg h9, if_neg i10, if_neg i10, oc_f (by decide), oc_f (by decide), oc_f (by decide), oc_f (by decide), oc_f (by decide), Option.bind_some, Option.bind_some, Option.bind_some, Option.bind_some, Option.bind_some, nI_add, nI_add, nI_add, nI_add]
      refine ⟨_, _, rfl, rc14 hki (nI y) 400 0 (by decide) (by decide), ?_, h⟩
      congr 1
      have e0 : fb_ct (fun r => decide (w (360 + r) = nI y)) 6 = fb_ct (fun j => decide (ro j = nI y)) 6 := fb_ct_cong fun r hr => by rw [(hro r hr).2]
      have e1 := fb_blk (fun j => decide (fi j = nI y)) 3 24
      have e2 := fb_blk (fun j => decide (ke j = nI y)) 6 24
      have e3 := fb_blk (fun j => decide (va j = nI y)) 6 24
      have e4 := fb_blk (fun j => decide (ta j = nI y)) 1 24
      have e5 := sm_add (fun x => fb_ct (fun j => decide (fi (3 * x + j) = nI y)) 3) (fun x => fb_ct (fun j => decide (ke (6 * x + j) = nI y)) 6) 24
      have e6 := sm_add (fun x => fb_ct (fun j => decide (fi (3 * x + j) = nI y)) 3 + fb_ct (fun j => decide (ke (6 * x + j) = nI y)) 6) (fun x => fb_ct (fun j => decide (va (6 * x + j) = nI y)) 6) 24
      have e7 := sm_add (fun x => fb_ct (fun j => decide (fi (3 * x + j) = nI y)) 3 + fb_ct (fun j => decide (ke (6 * x + j) = nI y)) 6 + fb_ct (fun j => decide (va (6 * x + j) = nI y)) 6) (fun x => fb_ct (fun j => decide (ta (1 * x + j) = nI y)) 1) 24
      have e8 := sm_cong (n := 24) (f := fun x => fb_ct (fun j => decide (fi (3 * x + j) = nI y)) 3 + fb_ct (fun j => decide (ke (6 * x + j) = nI y)) 6 + fb_ct (fun j => decide (va (6 * x + j) = nI y)) 6 + fb_ct (fun j => decide (ta (1 * x + j) = nI y)) 1) (g := rcC ki w (nI y)) (fun x hx => rcX hrs hy hx)
      rw [show 3 * 24 = 72 from rfl] at e1
      rw [show 6 * 24 = 144 from rfl] at e2 e3
      rw [show 1 * 24 = 24 from rfl] at e4
      rw [e0, ← e8, e1, e2, e3, e4]
      omega
