/-! marking: the reference -/
theorem ff_loop (K : Int32 → Int32 → (Nat → Int32) → Option (Nat → Int32)) {ki fi w : Nat → Int32} (hK : RKi ki w) (hF : RFd ki fi w) {r : Nat} (hr : r < 1000) (u un : Int32) (hU : ∀ y, y < 24 → (bit un y = true ↔ u = nI y)) : ∀ (k i : Nat) (v : Int32) (mark : Nat → Int32), i ≤ 72 → 72 - i < k → ∃ f mark', M_X5_followFields_L11 K (nI r) u w k v (nI i) mark = K f (nI 72) mark' ∧ (∀ x, x < 24 → mark x ≠ -9 → mark' x = mark x) ∧ (∀ x, x < 24 → mark x = -9 → mark' x = -9 ∨ mark' x = nI r) ∧ (∀ C : Nat → Prop, (∀ x, x < 24 → mark x ≠ -9 → C x) → (∀ x y, x < 24 → C x → Ed fi x y → bit un y = false → C y) → ∀ x, x < 24 → mark' x ≠ -9 → C x) ∧ ((f = v ∧ (∀ x, x < 24 → mark' x = mark x) ∧ ∀ x j, x < 24 → j < 3 → i ≤ 3 * x + j → mark x ≠ -9 → ∀ y, y < 24 → fi (3 * x + j) = nI y → bit un y = false → mark y ≠ -9) ∨ (f = 1 ∧ ∃ x, x < 24 ∧ mark x = -9 ∧ mark' x ≠ -9)) := by
  intro k
  induction k with
  | zero => intro i v mark h1 h2; omega
  | succ k ih =>
    intro i v mark h1 h2
    rw [M_X5_followFields_L11]
    by_cases hi : i = 72
    · subst hi
      rw [if_pos (show (72 : Int32) ≤ nI 72 from nI_le (a := 72) (Nat.le_refl _) (by decide))]
      exact ⟨v, mark, rfl, fun _ _ _ => rfl, fun _ _ h => Or.inl h, fun C c1 _ => c1, Or.inl ⟨rfl, fun _ _ => rfl, fun x j hx hj hi => by omega⟩⟩
    · have hlt : i < 72 := by omega
      have er : (nI i - nI i / 3 * 3 : Int32) = nI (i % 3) := by rw [l3]; exact pk_rem (by omega) (by decide) (by decide)
      have ed : (nI i / 3 : Int32) = nI (i / 3) := by rw [l3]; exact pk_div (by omega) (by decide) (by decide)
      have hx : i / 3 < 24 := by omega
      have hj : i % 3 < 3 := Nat.mod_lt _ (by decide)
      have hij : i = 3 * (i / 3) + i % 3 := by omega
      rw [if_neg (show ¬ (72 : Int32) ≤ nI i from nI_ge (b := 72) hlt (by decide)), er, ed, nI_1]
      generalize hxe : i / 3 = x at *
      generalize hje : i % 3 = j at *
      rw [gd_in hx (by decide), cl (by omega)]
      have skip : (mark x ≠ -9 → ∀ y, y < 24 → fi (3 * x + j) = nI y → bit un y = false → mark y ≠ -9) → ∃ f mark', M_X5_followFields_L11 K (nI r) u w k v (nI (i + 1)) mark = K f (nI 72) mark' ∧ (∀ x, x < 24 → mark x ≠ -9 → mark' x = mark x) ∧ (∀ x, x < 24 → mark x = -9 → mark' x = -9 ∨ mark' x = nI r) ∧ (∀ C : Nat → Prop, (∀ x, x < 24 → mark x ≠ -9 → C x) → (∀ x y, x < 24 → C x → Ed fi x y → bit un y = false → C y) → ∀ x, x < 24 → mark' x ≠ -9 → C x) ∧ ((f = v ∧ (∀ x, x < 24 → mark' x = mark x) ∧ ∀ x j, x < 24 → j < 3 → i ≤ 3 * x + j → mark x ≠ -9 → ∀ y, y < 24 → fi (3 * x + j) = nI y → bit un y = false → mark y ≠ -9) ∨ (f = 1 ∧ ∃ x, x < 24 ∧ mark x = -9 ∧ mark' x ≠ -9)) := by
        intro hc
        obtain ⟨f, mark', a1, a2, a3, a4, a5⟩ := ih (i + 1) v mark (by omega) (by omega)
        refine ⟨f, mark', a1, a2, a3, a4, ?_⟩
        rcases a5 with ⟨b1, b2, b3⟩ | b
        · refine Or.inl ⟨b1, b2, fun x' j' hx' hj' hi' => ?_⟩
          by_cases e : i = 3 * x' + j'
          · have e1 : x' = x := by omega
            have e2 : j' = j := by omega
            rw [e1, e2]; exact hc
          · exact b3 x' j' hx' hj' (by omega)
        · exact Or.inr b
      by_cases hm : mark x = -9
      · rw [if_pos hm]; exact skip fun h => absurd hm h
      · rw [if_neg hm, bPt w l0 (by omega), Option.bind_some, Nat.add_zero, (hK x hx).1]
        by_cases h0 : ki x = 0
        · rw [if_pos h0, bPt w (k := 3 + nI j) (n := 3 + j) (by rw [l3, nI_add]) (by omega), Option.bind_some, ← Nat.add_assoc, (hF x hx).2 h0 j (by omega), if_pos hj]
          by_cases h9 : fi (3 * x + j) = -9
          · rw [if_pos h9]
            exact skip fun _ y hy e => absurd (e.symm.trans h9) (n9 (by omega))
          · rw [if_neg h9]
            rcases ((hF x hx).1 j hj).1 with e9 | ⟨y, hy, ey⟩
            · exact absurd e9 h9
            · rw [ey]
              by_cases hu : nI y = u
              · rw [if_pos hu]
                refine skip fun _ y' hy' e hun => ?_
                have : y = y' := (nI_eq (by omega) (by omega)).mp (ey.symm.trans e)
                subst this
                rw [(hU y hy).mpr hu.symm] at hun
                cases hun
              · have hun : bit un y = false := bf fun h => hu ((hU y hy).mp h).symm
                rw [if_neg hu, gd_in hy (by decide), cl (by omega)]
                by_cases hmy : mark y = -9
                · rw [if_pos hmy, gd_in hy (by decide)]
                  obtain ⟨f, mark', a1, a2, a3, a4, a5⟩ := ih (i + 1) 1 (upd mark y (nI r)) (by omega) (by omega)
                  have hy' : mark' y = nI r := by
                    have := a2 y hy (by rw [pk_us]; exact n9 (by omega))
                    rwa [pk_us] at this
                  refine ⟨f, mark', a1, fun z hz hz9 => ?_, fun z hz hz9 => ?_, fun C c1 c2 => a4 C (fun z hz hz9 => ?_) c2, Or.inr ⟨?_, y, hy, hmy, by rw [hy']; exact n9 (by omega)⟩⟩
                  · have hne : z ≠ y := fun e => hz9 (e ▸ hmy)
                    have := a2 z hz (by rw [pk_un hne]; exact hz9)
                    rwa [pk_un hne] at this
                  · by_cases e : z = y
                    · rw [e]; exact Or.inr hy'
                    · exact a3 z hz (by rw [pk_un e]; exact hz9)
                  · by_cases e : z = y
                    · rw [e]; exact c2 x y hx (c1 x hx hm) ⟨hy, j, hj, ey⟩ hun
                    · rw [pk_un e] at hz9; exact c1 z hz hz9
                  · rcases a5 with ⟨b1, _⟩ | ⟨b1, _⟩
                    · exact b1
                    · exact b1
                · rw [if_neg hmy]
                  refine skip fun _ y' hy' e _ => ?_
                  have : y = y' := (nI_eq (by omega) (by omega)).mp (ey.symm.trans e)
                  rw [← this]; exact hmy
        · rw [if_neg h0]
          exact skip fun _ y hy e => absurd (e.symm.trans (((hF x hx).1 j hj).2 h0)) (n9 (by omega))
def mct (mark : Nat → Int32) : Nat := fb_ct (fun x => decide (mark x ≠ -9)) 24
theorem fl_loop {ki fi w : Nat → Int32} (hK : RKi ki w) (hF : RFd ki fi w) {r : Nat} (hr : r < 1000) (u un : Int32) (hU : ∀ y, y < 24 → (bit un y = true ↔ u = nI y)) : ∀ (k : Nat) (mark : Nat → Int32), 24 - mct mark + 1 < k → ∃ mark', M_X5_followFields_L2 400 (nI r) u w k 1 mark = some mark' ∧ (∀ x, x < 24 → mark x ≠ -9 → mark' x = mark x) ∧ (∀ x, x < 24 → mark x = -9 → mark' x = -9 ∨ mark' x = nI r) ∧ (∀ C : Nat → Prop, (∀ x, x < 24 → mark x ≠ -9 → C x) → (∀ x y, x < 24 → C x → Ed fi x y → bit un y = false → C y) → ∀ x, x < 24 → mark' x ≠ -9 → C x) ∧ ∀ x y, x < 24 → mark' x ≠ -9 → Ed fi x y → bit un y = false → mark' y ≠ -9 := by
  intro k
  induction k with
  | zero => intro mark h; omega
  | succ k ih =>
    intro mark h
    rw [M_X5_followFields_L2, if_neg i10]
    obtain ⟨f, m1, a1, a2, a3, a4, a5⟩ := ff_loop (fun k11_3 k11_4 kmark11 => M_X5_followFields_L2 400 (nI r) u w k k11_3 kmark11) hK hF hr u un hU 400 0 0 mark (by decide) (by decide)
    rw [show nI 0 = 0 from rfl] at a1
    rw [a1]
    rcases a5 with ⟨b1, b2, b3⟩ | ⟨b1, x0, hx0, c1, c2⟩
    · subst b1
      obtain ⟨k', rfl⟩ : ∃ k', k = k' + 1 := ⟨k - 1, by omega⟩
      refine ⟨m1, by rw [M_X5_followFields_L2, if_pos rfl], a2, a3, a4, fun x y hx hx9 he hu => ?_⟩
      obtain ⟨hy, j, hj, e⟩ := he
      rw [b2 x hx] at hx9
      rw [b2 y hy]
      exact b3 x j hx hj (Nat.zero_le _) hx9 y hy e hu
    · subst b1
      have hct : mct mark < mct m1 := by
        refine fb_lt (x := x0) (fun z hz hp => ?_) hx0 ?_ ?_
        · have hp := of_decide_eq_true hp
          exact decide_eq_true (by rw [a2 z hz hp]; exact hp)
        · exact decide_eq_false (fun hh => hh c1)
        · exact decide_eq_true c2
      have hle : mct m1 ≤ 24 := fb_ct_le _ 24
      obtain ⟨mark', d1, d2, d3, d4, d5⟩ := ih m1 (by omega)
      refine ⟨mark', d1, fun x hx h9 => ?_, fun x hx h9 => ?_, fun C e1 e2 => d4 C (a4 C e1 e2) e2, d5⟩
      · have := a2 x hx h9
        rw [d2 x hx (by rw [this]; exact h9), this]
      · by_cases h1 : m1 x = -9
        · exact d3 x hx h1
        · right
          rw [d2 x hx h1]
          rcases a3 x hx h9 with h | h
          · exact absurd h h1
          · exact h
theorem fl_eq {ki fi w : Nat → Int32} (hK : RKi ki w) (hF : RFd ki fi w) {r : Nat} (hr : r < 1000) (u un : Int32) (hU : ∀ y, y < 24 → (bit un y = true ↔ u = nI y)) (mark : Nat → Int32) : ∃ mark', M_X5_followFields 400 w mark (nI r) u = some mark' ∧ (∀ x, x < 24 → mark x ≠ -9 → mark' x = mark x) ∧ (∀ x, x < 24 → mark x = -9 → mark' x = -9 ∨ mark' x = nI r) ∧ (∀ C : Nat → Prop, (∀ x, x < 24 → mark x ≠ -9 → C x) → (∀ x y, x < 24 → C x → Ed fi x y → bit un y = false → C y) → ∀ x, x < 24 → mark' x ≠ -9 → C x) ∧ ∀ x y, x < 24 → mark' x ≠ -9 → Ed fi x y → bit un y = false → mark' y ≠ -9 :=
  fl_loop hK hF hr u un hU 400 mark (by omega)
/-- values whose table and key were marked before this round -/
def VV (ke va : Nat → Int32) (un : Int32) (m0 : Nat → Int32) (x : Nat) : Prop := bit un x = false ∧ ∃ t a, t < 24 ∧ m0 t ≠ -9 ∧ m0 a ≠ -9 ∧ En ke va t a x
theorem fe_loop {ki ke va w : Nat → Int32} (hK : RKi ki w) (hT : RTb ki ke va w) {r : Nat} (hr : r < 1000) (u un : Int32) (hU : ∀ y, y < 24 → (bit un y = true ↔ u = nI y)) (m0 : Nat → Int32) (hm0 : ∀ x, x < 24 → m0 x = -9 ∨ ∃ a, a < r ∧ m0 x = nI a) : ∀ (k i : Nat) (v : Int32) (mark : Nat → Int32), i ≤ 144 → 144 - i < k → (v = 0 ∧ (∀ x, x < 24 → mark x = m0 x) ∨ v = 1 ∧ ∃ x, x < 24 ∧ m0 x = -9 ∧ mark x = nI r) → (∀ x, x < 24 → mark x = m0 x ∨ (m0 x = -9 ∧ mark x = nI r ∧ VV ke va un m0 x)) → ∃ f mark', M_X5_followEntries_L5 (nI r) u w k v (nI i) mark = some (f, mark') ∧ (f = 0 ∧ (∀ x, x < 24 → mark' x = m0 x) ∨ f = 1 ∧ ∃ x, x < 24 ∧ m0 x = -9 ∧ mark' x = nI r) ∧ (∀ x, x < 24 → mark' x = m0 x ∨ (m0 x = -9 ∧ mark' x = nI r ∧ VV ke va un m0 x)) ∧ (∀ x, x < 24 → mark x ≠ -9 → mark' x = mark x) ∧ ∀ t j, t < 24 → j < 6 → i ≤ 6 * t + j → m0 t ≠ -9 → ∀ a, a < 24 → ke (6 * t + j) = nI a → m0 a ≠ -9 → ∀ b, b < 24 → va (6 * t + j) = nI b → bit un b = false → mark' b ≠ -9 := by
  intro k
  induction k with
  | zero => intro i v mark h1 h2; omega
  | succ k ih =>
    intro i v mark h1 h2 hv hm
    rw [M_X5_followEntries_L5]
    by_cases hi : i = 144
    · subst hi
      rw [if_pos (show (144 : Int32) ≤ nI 144 from nI_le (a := 144) (Nat.le_refl _) (by decide)), gc_t (by rcases hv with ⟨h, _⟩ | ⟨h, _⟩; exact Or.inl h; exact Or.inr h)]
      exact ⟨v, mark, rfl, hv, hm, fun _ _ _ => rfl, fun t j ht hj hi => by omega⟩
    · have hlt : i < 144 := by omega
      have er : (nI i - nI i / 6 * 6 : Int32) = nI (i % 6) := by rw [l6]; exact pk_rem (by omega) (by decide) (by decide)
      have ed : (nI i / 6 : Int32) = nI (i / 6) := by rw [l6]; exact pk_div (by omega) (by decide) (by decide)
      have hx : i / 6 < 24 := by omega
      have hj : i % 6 < 6 := Nat.mod_lt _ (by decide)
      have hij : i = 6 * (i / 6) + i % 6 := by omega
      rw [if_neg (show ¬ (144 : Int32) ≤ nI i from nI_ge (b := 144) hlt (by decide)), er, ed, nI_1]
      generalize hxe : i / 6 = t at *
      generalize hje : i % 6 = j at *
      rw [gd_in hx (by decide), cl (by omega)]
      have skip : (m0 t ≠ -9 → ∀ a, a < 24 → ke (6 * t + j) = nI a → m0 a ≠ -9 → ∀ b, b < 24 → va (6 * t + j) = nI b → bit un b = false → mark b ≠ -9) → ∃ f mark', M_X5_followEntries_L5 (nI r) u w k v (nI (i + 1)) mark = some (f, mark') ∧ (f = 0 ∧ (∀ x, x < 24 → mark' x = m0 x) ∨ f = 1 ∧ ∃ x, x < 24 ∧ m0 x = -9 ∧ mark' x = nI r) ∧ (∀ x, x < 24 → mark' x = m0 x ∨ (m0 x = -9 ∧ mark' x = nI r ∧ VV ke va un m0 x)) ∧ (∀ x, x < 24 → mark x ≠ -9 → mark' x = mark x) ∧ ∀ t j, t < 24 → j < 6 → i ≤ 6 * t + j → m0 t ≠ -9 → ∀ a, a < 24 → ke (6 * t + j) = nI a → m0 a ≠ -9 → ∀ b, b < 24 → va (6 * t + j) = nI b → bit un b = false → mark' b ≠ -9 := by
        intro hc
        obtain ⟨f, mark', a1, a2, a3, a4, a5⟩ := ih (i + 1) v mark (by omega) (by omega) hv hm
        refine ⟨f, mark', a1, a2, a3, a4, fun t' j' ht' hj' hi' => ?_⟩
        by_cases e : i = 6 * t' + j'
        · have e1 : t' = t := by omega
          have e2 : j' = j := by omega
          rw [e1, e2]
          intro h0 a ha hk ha9 b hb hvb hun
          have := hc h0 a ha hk ha9 b hb hvb hun
          rw [a4 b hb this]; exact this
        · exact a5 t' j' ht' hj' (by omega)
      have old : ∀ x, x < 24 → (mark x = -9 → m0 x = -9) ∧ (mark x ≠ -9 → nI r ≤ mark x → m0 x = -9) ∧ (mark x ≠ -9 → ¬ nI r ≤ mark x → m0 x ≠ -9) := by
        intro x hx
        rcases hm x hx with e | ⟨e0, e1, _⟩
        · refine ⟨fun h => e ▸ h, fun h hle => ?_, fun h _ => e ▸ h⟩
          rcases hm0 x hx with h' | ⟨a, ha, h'⟩
          · exact h'
          · rw [e, h'] at hle
            exact absurd hle (nI_ge ha (by omega))
        · refine ⟨fun _ => e0, fun _ _ => e0, fun _ hle => ?_⟩
          rw [e1] at hle
          exact absurd (nI_le (Nat.le_refl r) (by omega)) hle
      by_cases hmt : mark t = -9
      · rw [if_pos hmt]; exact skip fun h => absurd ((old t hx).1 hmt) h
      · rw [if_neg hmt, gd_in hx (by decide)]
        by_cases hrt : nI r ≤ mark t
        · rw [if_pos hrt]; exact skip fun h => absurd ((old t hx).2.1 hmt hrt) h
        · have ht0 := (old t hx).2.2 hmt hrt
          rw [if_neg hrt, bPt w l0 (by omega), Option.bind_some, Nat.add_zero, (hK t hx).1]
          by_cases h1 : ki t = 1
          · obtain ⟨⟨n, hc, hn, t1, t2, t3⟩, hu⟩ := (hT t hx).2 h1
            rw [if_pos h1, bPt w l2 (by omega), Option.bind_some, hc]
            by_cases hnj : n ≤ j
            · rw [if_pos (nI_le hnj (by omega))]
              exact skip fun _ a ha hk => absurd (hk.symm.trans (t2 j hnj hj).1) (n9 (by omega))
            · rw [if_neg (nI_ge (by omega) (by omega)), bPt w (k := 3 + nI j) (n := 3 + j) (by rw [l3, nI_add]) (by omega), Option.bind_some, bPt w (k := 9 + nI j) (n := 9 + j) (by rw [l9, nI_add]) (by omega), Option.bind_some, ← Nat.add_assoc, ← Nat.add_assoc, (hu j hj).1, (hu j hj).2]
              obtain ⟨⟨a, ha, ea⟩, ⟨b, hb, eb⟩⟩ := t1 j (by omega)
              have ua : ∀ a', a' < 24 → ke (6 * t + j) = nI a' → a' = a := fun a' ha' h => ((nI_eq (by omega) (by omega)).mp (ea.symm.trans h)).symm
              have ub : ∀ b', b' < 24 → va (6 * t + j) = nI b' → b' = b := fun b' hb' h => ((nI_eq (by omega) (by omega)).mp (eb.symm.trans h)).symm
              rw [ea, eb, gd_in ha (by decide), cl (by omega)]
              by_cases hma : mark a = -9
              · rw [if_pos hma]
                exact skip fun _ a' ha' hk h => absurd ((old a ha).1 hma) (ua a' ha' hk ▸ h)
              · rw [if_neg hma, gd_in ha (by decide)]
                by_cases hra : nI r ≤ mark a
                · rw [if_pos hra]
                  exact skip fun _ a' ha' hk h => absurd ((old a ha).2.1 hma hra) (ua a' ha' hk ▸ h)
                · have ha0 := (old a ha).2.2 hma hra
                  rw [if_neg hra, gd_in hb (by decide), cl (by omega)]
                  by_cases hmb : mark b = -9
                  · rw [if_pos hmb]
                    by_cases hub : nI b = u
                    · rw [if_pos hub]
                      refine skip fun _ a' ha' hk h b' hb' hvb hun => ?_
                      rw [ub b' hb' hvb, (hU b hb).mpr hub.symm] at hun
                      cases hun
                    · have hun : bit un b = false := bf fun h => hub ((hU b hb).mp h).symm
                      rw [if_neg hub, gd_in hb (by decide)]
                      have hb0 := (old b hb).1 hmb
                      obtain ⟨f, mark', a1, a2, a3, a4, a5⟩ := ih (i + 1) 1 (upd mark b (nI r)) (by omega) (by omega) (Or.inr ⟨rfl, b, hb, hb0, pk_us⟩) (fun x hx' => by
                        by_cases e : x = b
                        · subst e; rw [pk_us]; exact Or.inr ⟨hb0, rfl, hun, t, a, hx, ht0, ha0, ha, hb, j, hj, ea, eb⟩
                        · rw [pk_un e]; exact hm x hx')
                      have hb' : mark' b = nI r := by
                        have := a4 b hb (by rw [pk_us]; exact n9 (by omega))
                        rwa [pk_us] at this
                      refine ⟨f, mark', a1, a2, a3, fun z hz hz9 => ?_, fun t' j' ht' hj' hi' => ?_⟩
                      · have hne : z ≠ b := fun e => hz9 (e ▸ hmb)
                        have := a4 z hz (by rw [pk_un hne]; exact hz9)
                        rwa [pk_un hne] at this
                      · by_cases e : i = 6 * t' + j'
                        · have e1 : t' = t := by omega
                          have e2 : j' = j := by omega
                          rw [e1, e2]
                          intro _ a' _ _ _ b' hb'' hvb _
                          rw [ub b' hb'' hvb, hb']; exact n9 (by omega)
                        · exact a5 t' j' ht' hj' (by omega)
                  · rw [if_neg hmb]
                    refine skip fun _ a' ha' hk h b' hb' hvb hun => ?_
                    rw [ub b' hb' hvb]; exact hmb
          · rw [if_neg h1]
            exact skip fun _ a ha hk => absurd (hk.symm.trans ((hT t hx).1 h1 j hj).1) (n9 (by omega))
theorem fe_eq {ki ke va w : Nat → Int32} (hK : RKi ki w) (hT : RTb ki ke va w) {r : Nat} (hr : r < 1000) (u un : Int32) (hU : ∀ y, y < 24 → (bit un y = true ↔ u = nI y)) (m0 : Nat → Int32) (hm0 : ∀ x, x < 24 → m0 x = -9 ∨ ∃ a, a < r ∧ m0 x = nI a) : ∃ f mark', M_X5_followEntries 400 w m0 (nI r) u = some (f, mark') ∧ (f = 0 ∧ (∀ x, x < 24 → mark' x = m0 x) ∨ f = 1 ∧ ∃ x, x < 24 ∧ m0 x = -9 ∧ mark' x = nI r) ∧ (∀ x, x < 24 → mark' x = m0 x ∨ (m0 x = -9 ∧ mark' x = nI r ∧ VV ke va un m0 x)) ∧ ∀ x, x < 24 → VV ke va un m0 x → mark' x ≠ -9 := by
  obtain ⟨f, mark', a1, a2, a3, a4, a5⟩ := fe_loop hK hT hr u un hU m0 hm0 400 0 0 m0 (by decide) (by decide) (Or.inl ⟨rfl, fun _ _ => rfl⟩) (fun _ _ => Or.inl rfl)
  refine ⟨f, mark', a1, a2, a3, fun x hx hV => ?_⟩
  obtain ⟨hun, t, a, ht, ht9, ha9, ha, _, j, hj, ea, eb⟩ := hV
  exact a5 t j ht hj (Nat.zero_le _) ht9 a ha ea ha9 x hx eb hun
