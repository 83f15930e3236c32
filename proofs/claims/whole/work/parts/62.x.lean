/-! marking: the class -/
theorem fb_lt {p q : Nat → Bool} {n x : Nat} (h : ∀ k, k < n → p k = true → q k = true) (hx : x < n) (h1 : p x = false) (h2 : q x = true) : fb_ct p n < fb_ct q n := by
  have e := fb_ct_upd p true (n := n) hx
  have s : fb_ct (fun k => if k = x then true else p k) n ≤ fb_ct q n := fb_ct_sub fun k hk hp => by
    by_cases ek : k = x
    · rw [ek]; exact h2
    · rw [if_neg ek] at hp; exact h k hk hp
  have e1 : (if p x = true then 1 else 0) = 0 := by rw [h1]; rfl
  rw [e1, if_pos rfl] at e
  omega
theorem nm_loop (S lr : Int32) : ∀ (k i : Nat) (rd : Nat → Int32), i ≤ 24 → 24 - i < k → ∃ rd', M_X1_number_L2 S lr k (nI i) rd = some rd' ∧ ∀ x, x < 24 → rd' x = if i ≤ x ∧ bit S x = true then lr else rd x := by
  intro k
  induction k with
  | zero => intro i rd h1 h2; omega
  | succ k ih =>
    intro i rd h1 h2
    rw [M_X1_number_L2]
    by_cases hi : i = 24
    · subst hi
      rw [if_pos (show (24 : Int32) ≤ nI 24 from nI_le (Nat.le_refl _) (by decide))]
      exact ⟨rd, rfl, fun x hx => by rw [if_neg (by omega)]⟩
    · have hlt : i < 24 := by omega
      rw [if_neg (show ¬ (24 : Int32) ≤ nI i from nI_ge hlt (by decide)), ctn_in S hlt, Option.bind_some, nI_1]
      by_cases hb : bit S i = true
      · rw [if_pos hb, if_neg i10, gd_in hlt (by decide), cl (by omega)]
        obtain ⟨rd', a1, a2⟩ := ih (i + 1) (upd rd i lr) (by omega) (by omega)
        refine ⟨rd', a1, fun x hx => ?_⟩
        rw [a2 x hx]
        by_cases e : x = i
        · subst e
          rw [if_neg (show ¬ (x + 1 ≤ x ∧ bit S x = true) by omega), pk_us, if_pos ⟨Nat.le_refl x, hb⟩]
        · rw [pk_un e]
          by_cases c : i ≤ x ∧ bit S x = true
          · rw [if_pos c, if_pos ⟨by omega, c.2⟩]
          · rw [if_neg c, if_neg (fun hh => c ⟨by omega, hh.2⟩)]
      · rw [if_neg hb, if_pos rfl]
        obtain ⟨rd', a1, a2⟩ := ih (i + 1) rd (by omega) (by omega)
        refine ⟨rd', a1, fun x hx => ?_⟩
        rw [a2 x hx]
        by_cases c : i ≤ x ∧ bit S x = true
        · have : x ≠ i := fun e => hb (e ▸ c.2)
          rw [if_pos c, if_pos ⟨by omega, c.2⟩]
        · rw [if_neg c, if_neg (fun hh => c ⟨by omega, hh.2⟩)]
theorem nm_eq (S lr : Int32) (rd : Nat → Int32) : ∃ rd', M_X1_number 400 rd lr S = some rd' ∧ ∀ x, x < 24 → rd' x = if bit S x = true then lr else rd x := by
  obtain ⟨rd', a1, a2⟩ := nm_loop S lr 400 0 rd (by decide) (by decide)
  refine ⟨rd', a1, fun x hx => ?_⟩
  rw [a2 x hx]
  by_cases c : bit S x = true
  · rw [if_pos ⟨Nat.zero_le x, c⟩, if_pos c]
  · rw [if_neg (fun hh => c hh.2), if_neg c]
theorem bf {b : Bool} (h : ¬ b = true) : b = false := by cases b <;> simp_all
/-- markable, bit by bit -/
theorem mb_eq (mkd un p : Int32) (hp : ∀ b, 24 ≤ b → bit p b = false) : ∃ r, M_X1_markable mkd un p = some r ∧ ∀ b, bit r b = true ↔ bit p b = true ∧ bit mkd b = false ∧ bit un b = false := by
  refine ⟨_, rfl, fun b => ?_⟩
  by_cases hb : b < 24
  · rw [bit_and, bit_and, bit_not mkd (by omega), bit_not un (by omega)]
    cases bit p b <;> cases bit mkd b <;> cases bit un b <;> simp
  · rw [bit_and, bit_and, hp b (by omega)]
    simp
theorem mw_loop (fi : Nat → Int32) (un lr : Int32) : ∀ (k i : Nat) (v : Int32) (rd : Nat → Int32) (mkd : Int32), i ≤ 24 → 24 - i < k → (∀ b, 24 ≤ b → bit v b = false) → (∀ b, 24 ≤ b → bit mkd b = false) → (∀ b, bit v b = true → bit mkd b = false ∧ bit un b = false) → i ≤ fb_ct (bit mkd) 24 → (∀ x y, bit mkd x = true → Ed fi x y → bit un y = false → bit mkd y = true ∨ bit v y = true) → ∃ rd' mkd', M_X1_markWithFields_L9 400 lr un fi k v (nI i) rd mkd = some (rd', mkd') ∧ (∀ b, 24 ≤ b → bit mkd' b = false) ∧ (∀ b, bit mkd b = true → bit mkd' b = true) ∧ (∀ b, bit v b = true → bit mkd' b = true) ∧ (∀ x y, bit mkd' x = true → Ed fi x y → bit un y = false → bit mkd' y = true) ∧ (∀ x, x < 24 → rd' x = if bit mkd' x = true ∧ bit mkd x = false then lr else rd x) ∧ ∀ C : Nat → Prop, (∀ b, bit mkd b = true → C b) → (∀ b, bit v b = true → C b) → (∀ x y, x < 24 → C x → Ed fi x y → bit un y = false → C y) → ∀ b, bit mkd' b = true → C b := by
  intro k
  induction k with
  | zero => intro i v rd mkd h1 h2; omega
  | succ k ih =>
    intro i v rd mkd h1 h2 hv hm hvm hc hcl
    rw [M_X1_markWithFields_L9]
    have stop : (∀ b, bit v b = false) → ∃ rd' mkd', some (rd, mkd) = some (rd', mkd') ∧ (∀ b, 24 ≤ b → bit mkd' b = false) ∧ (∀ b, bit mkd b = true → bit mkd' b = true) ∧ (∀ b, bit v b = true → bit mkd' b = true) ∧ (∀ x y, bit mkd' x = true → Ed fi x y → bit un y = false → bit mkd' y = true) ∧ (∀ x, x < 24 → rd' x = if bit mkd' x = true ∧ bit mkd x = false then lr else rd x) ∧ ∀ C : Nat → Prop, (∀ b, bit mkd b = true → C b) → (∀ b, bit v b = true → C b) → (∀ x y, x < 24 → C x → Ed fi x y → bit un y = false → C y) → ∀ b, bit mkd' b = true → C b := by
      intro hv0
      refine ⟨rd, mkd, rfl, hm, fun b h => h, fun b h => ?_, fun x y hx he hu => ?_, fun x hx => ?_, fun C c1 _ _ => c1⟩
      · rw [hv0 b] at h; cases h
      · rcases hcl x y hx he hu with h | h
        · exact h
        · rw [hv0 y] at h; cases h
      · rw [if_neg]
        intro hh
        rw [hh.1] at hh
        cases hh.2
    by_cases hi : i = 24
    · subst hi
      rw [if_pos (show (24 : Int32) ≤ nI 24 from nI_le (Nat.le_refl _) (by decide))]
      refine stop fun b => ?_
      by_cases hb : b < 24
      · have hall := fb_ct_all.mp (Nat.le_antisymm (fb_ct_le (bit mkd) 24) hc) b hb
        apply bf
        intro h
        rw [(hvm b h).1] at hall
        cases hall
      · exact hv b (by omega)
    · have hlt : i < 24 := by omega
      rw [if_neg (show ¬ (24 : Int32) ≤ nI i from nI_ge hlt (by decide))]
      by_cases v0 : v = 0
      · rw [if_pos v0]
        exact stop fun b => by rw [v0]; exact bit_0 b
      · have hex : ∃ b, b < 24 ∧ bit v b = true := by
          refine Classical.byContradiction fun hx => v0 (bit_ext fun b _ => ?_)
          rw [bit_0]
          apply bf
          intro h
          by_cases hb : b < 24
          · exact hx ⟨b, hb, h⟩
          · rw [hv b (by omega)] at h; cases h
        obtain ⟨b0, hb0, hvb0⟩ := hex
        obtain ⟨rd1, n1, n2⟩ := nm_eq v lr rd
        obtain ⟨q, q1, q2⟩ := ft_eq fi v
        obtain ⟨v', m1, m2⟩ := mb_eq (mkd ||| v) un q (fun b hb => bf fun h => by
          obtain ⟨l, _, _, he⟩ := (q2 b).mp h
          have := he.1; omega)
        rw [if_neg v0, n1, Option.bind_some, q1, Option.bind_some, m1, Option.bind_some, nI_1]
        have hor : ∀ b, bit (mkd ||| v) b = true ↔ bit mkd b = true ∨ bit v b = true := fun b => by rw [bit_or, Bool.or_eq_true]
        obtain ⟨rd', mkd', a1, a2, a3, a4, a5, a6, a7⟩ := ih (i + 1) v' rd1 (mkd ||| v) (by omega) (by omega) (fun b hb => bf fun h => by
            obtain ⟨l, _, _, he⟩ := (q2 b).mp ((m2 b).mp h).1
            have := he.1; omega) (fun b hb => by rw [bit_or, hm b hb, hv b hb]; rfl) (fun b h => ((m2 b).mp h).2) (by
            have := fb_lt (p := bit mkd) (q := bit (mkd ||| v)) (n := 24) (fun k _ h => (hor k).mpr (Or.inl h)) hb0 (hvm b0 hvb0).1 ((hor b0).mpr (Or.inr hvb0))
            omega) (fun x y hx he hu => by
            by_cases hy : bit (mkd ||| v) y = true
            · exact Or.inl hy
            · right
              rcases (hor x).mp hx with h | h
              · exact absurd ((hor y).mpr (hcl x y h he hu)) hy
              · have hx24 : x < 24 := by
                  by_cases hx : x < 24
                  · exact hx
                  · rw [hv x (by omega)] at h; cases h
                exact (m2 y).mpr ⟨(q2 y).mpr ⟨x, hx24, h, he⟩, bf hy, hu⟩)
        refine ⟨rd', mkd', a1, a2, fun b h => a3 b ((hor b).mpr (Or.inl h)), fun b h => a3 b ((hor b).mpr (Or.inr h)), a5, fun x hx => ?_, fun C c1 c2 c3 => a7 C (fun b h => ?_) (fun b h => ?_) c3⟩
        · rw [a6 x hx, n2 x hx]
          by_cases hvx : bit v x = true
          · rw [if_pos hvx, ite_self, if_pos ⟨a3 x ((hor x).mpr (Or.inr hvx)), (hvm x hvx).1⟩]
          · rw [if_neg hvx]
            have e : bit (mkd ||| v) x = bit mkd x := by rw [bit_or, bf hvx, Bool.or_false]
            rw [e]
        · rcases (hor b).mp h with h | h
          · exact c1 b h
          · exact c2 b h
        · obtain ⟨l, hl, hvl, he⟩ := (q2 b).mp ((m2 b).mp h).1
          exact c3 l b hl (c2 l hvl) he ((m2 b).mp h).2.2
theorem mw_eq (fi : Nat → Int32) (un lr p mkd : Int32) (rd : Nat → Int32) (hp : ∀ b, 24 ≤ b → bit p b = false) (hm : ∀ b, 24 ≤ b → bit mkd b = false) (hcl : ∀ x y, bit mkd x = true → Ed fi x y → bit un y = false → bit mkd y = true) : ∃ rd' mkd', M_X1_markWithFields 400 rd mkd lr un fi p = some (rd', mkd') ∧ (∀ b, 24 ≤ b → bit mkd' b = false) ∧ (∀ b, bit mkd b = true → bit mkd' b = true) ∧ (∀ b, bit p b = true → bit un b = false → bit mkd' b = true) ∧ (∀ x y, bit mkd' x = true → Ed fi x y → bit un y = false → bit mkd' y = true) ∧ (∀ x, x < 24 → rd' x = if bit mkd' x = true ∧ bit mkd x = false then lr else rd x) ∧ ∀ C : Nat → Prop, (∀ b, bit mkd b = true → C b) → (∀ b, bit p b = true → bit un b = false → C b) → (∀ x y, x < 24 → C x → Ed fi x y → bit un y = false → C y) → ∀ b, bit mkd' b = true → C b := by
  obtain ⟨v, m1, m2⟩ := mb_eq mkd un p hp
  obtain ⟨rd', mkd', a1, a2, a3, a4, a5, a6, a7⟩ := mw_loop fi un lr 400 0 v rd mkd (by decide) (by decide) (fun b hb => bf fun h => by
    have := ((m2 b).mp h).1
    rw [hp b hb] at this; cases this) hm (fun b h => ((m2 b).mp h).2) (Nat.zero_le _) (fun x y hx he hu => Or.inl (hcl x y hx he hu))
  refine ⟨rd', mkd', ?_, a2, a3, fun b h1 h2 => ?_, a5, a6, fun C c1 c2 c3 => a7 C c1 (fun b h => c2 b ((m2 b).mp h).1 ((m2 b).mp h).2.2) c3⟩
  · rw [M_X1_markWithFields, m1, Option.bind_some]; exact a1
  · by_cases hb : bit mkd b = true
    · exact a3 b hb
    · exact a4 b ((m2 b).mpr ⟨h1, bf hb, h2⟩)
