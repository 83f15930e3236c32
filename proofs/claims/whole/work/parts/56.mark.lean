/-- an object's table is another one now -/
theorem RS.tab {ki fi ke va ta ro qu w ke' va' w' : Nat → Int32} {nsz fin rnd : Int32} (h : RS (pkS ki fi ke va ta ro qu nsz fin rnd) w) {x n : Nat} (hx : x < 24) (h1 : ki x = 1) (ho : ∀ y j, y < 24 → y ≠ x → j < 6 → ke' (6 * y + j) = ke (6 * y + j) ∧ va' (6 * y + j) = va (6 * y + j)) (hw : ∀ j, j < 388 → (j < 15 * x + 2 ∨ 15 * x + 15 ≤ j) → w' j = w j) (hc : w' (15 * x + 2) = nI n) (ht : TB ke' va' x n) (hu : ∀ j, j < 6 → w' (15 * x + 3 + j) = ke' (6 * x + j) ∧ w' (15 * x + 9 + j) = va' (6 * x + j)) : RS (pkS ki fi ke' va' ta ro qu nsz fin rnd) w' := by
  refine RS.of (fun y hy => ?_) h.2.1.2 (h.2.2.2.2.2.1.cong fun j hj => hw _ (by omega) (by omega)) (h.2.2.2.2.2.2.1.cong fun j hj => hw _ (by omega) (by omega)) ((hw _ (by omega) (by omega)).trans h.2.2.2.2.2.2.2)
  by_cases e : y = x
  · subst e
    obtain ⟨a1, a2, a3, a4, a5⟩ := h.ro hy
    refine ⟨?_, ?_, ⟨a3.1, fun h0 => absurd (h1.symm.trans h0) (by decide)⟩, ⟨fun hh => absurd h1 hh, fun _ => ⟨⟨n, hc, ht⟩, hu⟩⟩, a5.1, a5.2.1, fun h2 => absurd (h1.symm.trans h2) (by decide)⟩
    · rw [hw (15 * y) (by omega) (by omega)]; exact a1
    · rw [hw (15 * y + 1) (by omega) (by omega)]; exact a2
  · exact (h.ro hy).cg rfl rfl (fun _ _ => rfl) (fun j hj => ho y j hy e hj) rfl (fun j hj => hw _ (by omega) (by omega))
theorem RS.fin {ki fi ke va ta ro qu w : Nat → Int32} {nsz fin fin' rnd : Int32} (h : RS (pkS ki fi ke va ta ro qu nsz fin rnd) w) {x : Nat} (hx : x < 24) (h9 : ki x ≠ -9) {b : Bool} (hb : ∀ i, bit fin' i = if i = x then b else bit fin i) : RS (pkS ki fi ke va ta ro qu nsz fin' rnd) (upd w (15 * x + 1) (if b then 1 else 0)) := by
  refine RS.of (fun y hy => ?_) (fun y hy => ?_) (h.2.2.2.2.2.1.cong fun j hj => pk_un (by omega)) (h.2.2.2.2.2.2.1.cong fun j hj => pk_un (by omega)) ((pk_un (by omega)).trans h.2.2.2.2.2.2.2)
  · by_cases e : y = x
    · subst e
      obtain ⟨a1, a2, a3, a4, a5⟩ := h.ro hy
      have hby : bit fin' y = b := by rw [hb, if_pos rfl]
      refine ⟨?_, ⟨?_, fun _ => h9⟩, ⟨a3.1, fun h0 j hj => ?_⟩, ⟨a4.1, fun h1 => ⟨?_, fun j hj => ?_⟩⟩, a5.1, a5.2.1, fun h2 j hj => ?_⟩
      · rw [pk_un (by omega)]; exact a1
      · show upd w (15 * y + 1) (if b then 1 else 0) (15 * y + 1) = if bit fin' y = true then 1 else 0
        rw [pk_us, hby]
      · rw [pk_un (by omega)]; exact a3.2 h0 j hj
      · rw [pk_un (by omega)]; exact (a4.2 h1).1
      · rw [pk_un (by omega), pk_un (by omega)]; exact (a4.2 h1).2 j hj
      · rw [pk_un (by omega)]; exact a5.2.2 h2 j hj
    · refine (h.ro hy).cg rfl ?_ (fun _ _ => rfl) (fun _ _ => ⟨rfl, rfl⟩) rfl (fun j hj => pk_un (by omega))
      show bit fin' y = bit fin y
      rw [hb, if_neg e]
  · show bit fin' y = false
    rw [hb, if_neg (by omega)]; exact h.2.1.2 y hy
/-- a free identifier is taken -/
theorem RS.occ {ki fi ke va ta ro qu w w' : Nat → Int32} {nsz fin rnd : Int32} (h : RS (pkS ki fi ke va ta ro qu nsz fin rnd) w) {x : Nat} (hx : x < 24) (h9 : ki x = -9) {k v : Int32} (hk : (k = 0 ∨ k = 1) ∧ v = -9 ∨ k = 2 ∧ okv v) (hw : ∀ j, j < 388 → (j < 15 * x ∨ 15 * x + 15 ≤ j) → w' j = w j) (h0 : w' (15 * x) = k) (h1 : w' (15 * x + 1) = 0) (h2 : w' (15 * x + 2) = 0) (h3 : ∀ j, j < 12 → w' (15 * x + 3 + j) = if j = 0 then v else -9) : RS (pkS (upd ki x k) fi ke va (upd ta x v) ro qu nsz fin rnd) w' := by
  refine RS.of (fun y hy => ?_) h.2.1.2 (h.2.2.2.2.2.1.cong fun j hj => hw _ (by omega) (by omega)) (h.2.2.2.2.2.2.1.cong fun j hj => hw _ (by omega) (by omega)) ((hw _ (by omega) (by omega)).trans h.2.2.2.2.2.2.2)
  by_cases e : y = x
  · subst e
    obtain ⟨a1, a2, a3, a4, a5⟩ := h.ro hy
    have hbf : bit fin y = false := by
      cases hb : bit fin y
      · rfl
      · exact absurd h9 (a2.2 hb)
    have f9 : ∀ j, j < 3 → fi (3 * y + j) = -9 := fun j hj => (a3.1 j hj).2 (by show ki y ≠ 0; rw [h9]; decide)
    have t9 : ∀ j, j < 6 → ke (6 * y + j) = -9 ∧ va (6 * y + j) = -9 := a4.1 (by show ki y ≠ 1; rw [h9]; decide)
    have k0 : upd ki y k y = k := pk_us
    have v0 : upd ta y v y = v := pk_us
    refine ⟨⟨?_, ?_⟩, ⟨?_, ?_⟩, ⟨fun j hj => ⟨Or.inl (f9 j hj), fun _ => f9 j hj⟩, fun hk0 j hj => ?_⟩, ⟨fun _ => t9, fun hk1 => ⟨⟨0, h2, by omega, fun j hj => by omega, fun j _ hj => t9 j hj, fun i j hi => by omega⟩, fun j hj => ?_⟩⟩, ?_, fun hk2 => ?_, fun hk2 j hj => ?_⟩
    · show w' (15 * y) = upd ki y k y
      rw [k0, h0]
    · show upd ki y k y = -9 ∨ upd ki y k y = 0 ∨ upd ki y k y = 1 ∨ upd ki y k y = 2
      rw [k0]
      rcases hk with ⟨hk | hk, -⟩ | ⟨hk, -⟩
      · exact Or.inr (Or.inl hk)
      · exact Or.inr (Or.inr (Or.inl hk))
      · exact Or.inr (Or.inr (Or.inr hk))
    · show w' (15 * y + 1) = if bit fin y = true then 1 else 0
      rw [h1, hbf]; rfl
    · show bit fin y = true → _
      rw [hbf]; intro hh; cases hh
    · have hk0 : k = 0 := k0.symm.trans hk0
      show w' (15 * y + 3 + j) = if j < 3 then fi (3 * y + j) else -9
      rw [h3 j hj]
      have hv : v = -9 := by
        rcases hk with ⟨-, hv⟩ | ⟨hk2, -⟩
        · exact hv
        · exact absurd (hk0.symm.trans hk2) (by decide)
      by_cases hj3 : j < 3
      · rw [if_pos hj3, f9 j hj3, hv]; exact ite_self _
      · rw [if_neg hj3, hv]; exact ite_self _
    · have hk1 : k = 1 := k0.symm.trans hk1
      have hv : v = -9 := by
        rcases hk with ⟨-, hv⟩ | ⟨hk2, -⟩
        · exact hv
        · exact absurd (hk1.symm.trans hk2) (by decide)
      show w' (15 * y + 3 + j) = ke (6 * y + j) ∧ w' (15 * y + 9 + j) = va (6 * y + j)
      rw [(t9 j hj).1, (t9 j hj).2, h3 j (by omega), show 15 * y + 9 + j = 15 * y + 3 + (6 + j) by omega, h3 (6 + j) (by omega), hv]
      exact ⟨ite_self _, ite_self _⟩
    · show okv (upd ta y v y)
      rw [v0]
      rcases hk with ⟨-, hv⟩ | ⟨-, hv⟩
      · exact Or.inl hv
      · exact hv
    · show upd ta y v y = -9
      have hk2 : k ≠ 2 := fun e => hk2 (k0.trans e)
      rw [v0]
      rcases hk with ⟨-, hv⟩ | ⟨h22, -⟩
      · exact hv
      · exact absurd h22 hk2
    · show w' (15 * y + 3 + j) = if j = 0 then upd ta y v y else -9
      rw [v0, h3 j hj]
  · exact (h.ro hy).cg (pk_un e) rfl (fun _ _ => rfl) (fun _ _ => ⟨rfl, rfl⟩) (pk_un e) (fun j hj => hw _ (by omega) (by omega))
/-- the smallest free identifier, on both sides -/
theorem sf_loop (ki : Nat → Int32) : ∀ (k i : Nat), i ≤ 24 → 24 - i < k → (∃ x, i ≤ x ∧ x < 24 ∧ ki x = -9 ∧ (∀ l, i ≤ l → l < x → ki l ≠ -9) ∧ M_X3_smallestFree_L2 ki k (nI i) = some (nI x)) ∨ ((∀ l, i ≤ l → l < 24 → ki l ≠ -9) ∧ M_X3_smallestFree_L2 ki k (nI i) = some (-9)) := by
  intro k
  induction k with
  | zero => intro i h1 h2; omega
  | succ k ih =>
    intro i h1 h2
    rw [M_X3_smallestFree_L2]
    by_cases hi : i = 24
    · subst hi
      rw [if_pos (show (24 : Int32) ≤ nI 24 from nI_le (Nat.le_refl _) (by decide))]
      exact Or.inr ⟨fun l a b => by omega, rfl⟩
    · have hlt : i < 24 := by omega
      rw [if_neg (show ¬ (24 : Int32) ≤ nI i from nI_ge hlt (by decide)), gd_in hlt (by decide), cl (by omega), nI_1]
      by_cases hk : ki i = -9
      · rw [if_pos hk]; exact Or.inl ⟨i, Nat.le_refl i, hlt, hk, fun l a b => by omega, rfl⟩
      · rw [if_neg hk]
        rcases ih (i + 1) (by omega) (by omega) with ⟨x, a1, a2, a3, a4, a5⟩ | ⟨a1, a2⟩
        · refine Or.inl ⟨x, by omega, a2, a3, fun l b1 b2 => ?_, a5⟩
          by_cases hl : l = i
          · rw [hl]; exact hk
          · exact a4 l (by omega) b2
        · refine Or.inr ⟨fun l b1 b2 => ?_, a2⟩
          by_cases hl : l = i
          · rw [hl]; exact hk
          · exact a1 l (by omega) b2
theorem mk_find {ki w : Nat → Int32} (h : RKi ki w) (dep u v : Int32) : ∀ (k i : Nat), i ≤ 24 → 24 - i < k → (∃ x, i ≤ x ∧ x < 24 ∧ ki x = -9 ∧ (∀ l, i ≤ l → l < x → ki l ≠ -9) ∧ M_X5_make_L2 400 u v w dep k (nI i) = (M_X5_saveState 400 w dep).bind fun q => M_X5_make_L38 u v (nI x) q.2 400 0 q.1) ∨ ((∀ l, i ≤ l → l < 24 → ki l ≠ -9) ∧ M_X5_make_L2 400 u v w dep k (nI i) = some (-3, w, dep)) := by
  intro k
  induction k with
  | zero => intro i h1 h2; omega
  | succ k ih =>
    intro i h1 h2
    rw [M_X5_make_L2]
    by_cases hi : i = 24
    · subst hi
      rw [if_pos (show (24 : Int32) ≤ nI 24 from nI_le (Nat.le_refl _) (by decide)), if_pos (show nI 24 = 24 from rfl)]
      exact Or.inr ⟨fun l a b => by omega, rfl⟩
    · have hlt : i < 24 := by omega
      rw [if_neg (show ¬ (24 : Int32) ≤ nI i from nI_ge hlt (by decide)), bAl_in w hlt, (h i hlt).1, Option.bind_some, nI_1]
      by_cases hk : ki i = -9
      · rw [if_pos hk, if_pos rfl, if_neg (show ¬ nI i = 24 from fun e => by have := (nI_eq (b := 24) (by omega) (by decide)).mp e; omega)]
        exact Or.inl ⟨i, Nat.le_refl i, hlt, hk, fun l a b => by omega, rfl⟩
      · rw [if_neg hk, if_neg i10]
        rcases ih (i + 1) (by omega) (by omega) with ⟨x, a1, a2, a3, a4, a5⟩ | ⟨a1, a2⟩
        · refine Or.inl ⟨x, by omega, a2, a3, fun l b1 b2 => ?_, a5⟩
          by_cases hl : l = i
          · rw [hl]; exact hk
          · exact a4 l (by omega) b2
        · refine Or.inr ⟨fun l b1 b2 => ?_, a2⟩
          by_cases hl : l = i
          · rw [hl]; exact hk
          · exact a1 l (by omega) b2
/-- the places of a new object in the reference -/
def blk (w : Nat → Int32) (x n : Nat) : Nat → Int32 := fun j => if 15 * x ≤ j ∧ j < 15 * x + n then (if j < 15 * x + 3 then 0 else -9) else w j
theorem blk_loop (w : Nat → Int32) {x : Nat} (hx : x < 24) (u v dep : Int32) : ∀ (k i : Nat), i ≤ 15 → 15 - i < k → M_X5_make_L38 u v (nI x) dep k (nI i) (blk w x i) = some (nI x, upd (upd (blk w x 15) (15 * x) u) (15 * x + 3) v, dep) := by
  intro k
  induction k with
  | zero => intro i h1 h2; omega
  | succ k ih =>
    intro i h1 h2
    rw [M_X5_make_L38]
    by_cases hi : i = 15
    · subst hi
      rw [if_pos (show (15 : Int32) ≤ nI 15 from nI_le (Nat.le_refl _) (by decide)), l15, pk_mul, l0, l3, nI_add, nI_add, gd_in (by omega) (by decide), gd_in (by omega) (by decide), cl (by omega), cl (by omega), Nat.add_zero]
    · have hlt : i < 15 := by omega
      have step : ∀ a : Int32, a = (if i < 3 then 0 else -9) → upd (blk w x i) (15 * x + i) a = blk w x (i + 1) := by
        intro a ha
        funext j
        by_cases hj : j = 15 * x + i
        · subst hj
          rw [pk_us, blk, if_pos (by omega), ha]
          by_cases h3 : i < 3
          · rw [if_pos h3, if_pos (by omega)]
          · rw [if_neg h3, if_neg (by omega)]
        · rw [pk_un hj, blk, blk]
          by_cases h4 : 15 * x ≤ j ∧ j < 15 * x + i
          · rw [if_pos h4, if_pos (show 15 * x ≤ j ∧ j < 15 * x + (i + 1) from by omega)]
          · rw [if_neg h4, if_neg (show ¬ (15 * x ≤ j ∧ j < 15 * x + (i + 1)) from by omega)]
      rw [if_neg (show ¬ (15 : Int32) ≤ nI i from nI_ge hlt (by decide)), l15, pk_mul, nI_add, gd_in (by omega) (by decide), cl (by omega), nI_1, gd_in (by omega) (by decide)]
      by_cases h3 : i < 3
      · rw [if_neg (show ¬ (3 : Int32) ≤ nI i from nI_ge h3 (by decide)), step 0 (by rw [if_pos h3])]
        exact ih (i + 1) (by omega) (by omega)
      · rw [if_pos (show (3 : Int32) ≤ nI i from nI_le (a := 3) (by omega) (by omega)), step (-9) (by rw [if_neg h3])]
        exact ih (i + 1) (by omega) (by omega)
theorem blk_eq (w : Nat → Int32) {x : Nat} (hx : x < 24) (u v dep : Int32) : M_X5_make_L38 u v (nI x) dep 400 0 w = some (nI x, upd (upd (blk w x 15) (15 * x) u) (15 * x + 3) v, dep) := by
  have h := blk_loop w hx u v dep 400 0 (by omega) (by omega)
  have e : blk w x 0 = w := by funext j; rw [blk, if_neg (by omega)]
  rw [e] at h
  exact h
/-- allocation of a kind with a target -/
theorem m_make {ki fi ke va ta ro qu : Nat → Int32} {nsz fin rnd nx dp : Int32} {rv : Nat → Option SV} {w : Nat → Int32} {dep : Int32} {kept : Nat → Int32} (h : Rel (pkS ki fi ke va ta ro qu nsz fin rnd) nx dp rv w dep kept) {k v : Int32} (hk : (k = 0 ∨ k = 1) ∧ v = -9 ∨ k = 2 ∧ okv v) : ∃ (qa : Int32 × (Nat → Int32) × (Nat → Int32) × Int32 × Int32 × (Nat → Option SV)) (qb : Int32 × (Nat → Int32) × Int32), M_X4_occupyNext 400 ki fi ke va ta ro qu nsz fin rnd nx dp rv k v = some qa ∧ M_X5_make 400 w dep k v = some qb ∧ qa.1 = qb.1 ∧ Rel (pkS qa.2.1 fi ke va qa.2.2.1 ro qu nsz fin rnd) qa.2.2.2.1 qa.2.2.2.2.1 qa.2.2.2.2.2 qb.2.1 qb.2.2 kept := by
  have hrs := h.rs
  have hki : RKi ki w := hrs.1
  rw [M_X4_occupyNext, M_X5_make, M_X3_smallestFree]
  rcases sf_loop ki 400 0 (by omega) (by omega) with ⟨x, a1, a2, a3, a4, a5⟩ | ⟨a1, a2⟩
  · rcases mk_find hki dep k v 400 0 (by omega) (by omega) with ⟨y, b1, b2, b3, b4, b5⟩ | ⟨b1, b2⟩
    · have : x = y := by
        rcases Nat.lt_trichotomy x y with hh | hh | hh
        · exact absurd a3 (b4 x (Nat.zero_le x) hh)
        · exact hh
        · exact absurd b3 (a4 y (Nat.zero_le y) hh)
      subst this
      obtain ⟨pa, pb, hpa, hpb, hh1, hh2, hrow⟩ := save_both h
      rw [l0, a5, b5, Option.bind_some, if_neg (n9 (by omega)), hpa, hpb, Option.bind_some, Option.bind_some, blk_eq _ a2, M_X3_occupy, wA_in l24 a2 (by decide), Option.bind_some, if_neg i10, gd_in a2 (by decide), gd_in a2 (by decide), cl (by omega), Option.bind_some]
      refine ⟨_, _, rfl, rfl, rfl, ?_⟩
      dsimp only
      have hrs1 : RS (pkS ki fi ke va ta ro qu nsz fin rnd) pb.1 := hrs.cong (SVe.rfl' _) hrow
      refine fin_w (c := pkS ki fi ke va ta ro qu nsz fin rnd) (nx := nx) (dp := dp) (rv := rv) (w := w) (dep := dep) hh1 hh2 (fun j h1 h2 => ?_) (hrs1.occ a2 a3 hk (fun j h1 h2 => ?_) ?_ ?_ ?_ (fun j hj => ?_))
      · rw [pk_un (by omega), pk_un (by omega), blk, if_neg (by omega)]
      · rw [pk_un (by omega), pk_un (by omega), blk, if_neg (by omega)]
      · rw [pk_un (by omega), pk_us]
      · rw [pk_un (by omega), pk_un (by omega), blk, if_pos (by omega), if_pos (by omega)]
      · rw [pk_un (by omega), pk_un (by omega), blk, if_pos (by omega), if_pos (by omega)]
      · by_cases hj0 : j = 0
        · subst hj0; rw [if_pos rfl, Nat.add_zero, pk_us]
        · rw [if_neg hj0, pk_un (by omega), pk_un (by omega), blk, if_pos (by omega), if_neg (by omega)]
    · exact absurd a3 (b1 x (Nat.zero_le x) a2)
  · rcases mk_find hki dep k v 400 0 (by omega) (by omega) with ⟨y, b1, b2, b3, b4, b5⟩ | ⟨b1, b2⟩
    · exact absurd b3 (a1 y (Nat.zero_le y) b2)
    · rw [l0, a2, b2, Option.bind_some, if_pos rfl]
      exact ⟨_, _, rfl, rfl, rfl, h⟩
