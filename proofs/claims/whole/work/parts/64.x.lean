/-! marking: both -/
theorem rnd_both {ki fi w : Nat → Int32} (hK : RKi ki w) (hF : RFd ki fi w) {r : Nat} (hr : r < 1000) (u un : Int32) (hU : ∀ y, y < 24 → (bit un y = true ↔ u = nI y)) {rd mark1 : Nat → Int32} {mkd p : Int32} (hp : ∀ b, 24 ≤ b → bit p b = false) (hm : ∀ b, 24 ≤ b → bit mkd b = false) (hcl : ∀ x y, bit mkd x = true → Ed fi x y → bit un y = false → bit mkd y = true) (h1 : ∀ x, x < 24 → (mark1 x ≠ -9 ↔ bit mkd x = true ∨ (bit p x = true ∧ bit un x = false))) (h2 : ∀ x, x < 24 → bit mkd x = true → mark1 x = rd x) (h3 : ∀ x, x < 24 → bit mkd x = false → mark1 x ≠ -9 → mark1 x = nI r) (h4 : ∀ x, x < 24 → bit mkd x = false → rd x = -9) : ∃ rd' mkd' mark', M_X1_markWithFields 400 rd mkd (nI r) un fi p = some (rd', mkd') ∧ M_X5_followFields 400 w mark1 (nI r) u = some mark' ∧ (∀ x, x < 24 → rd' x = mark' x) ∧ (∀ x, x < 24 → (bit mkd' x = true ↔ mark' x ≠ -9)) ∧ (∀ b, 24 ≤ b → bit mkd' b = false) ∧ (∀ b, bit mkd b = true → bit mkd' b = true) ∧ (∀ b, bit p b = true → bit un b = false → bit mkd' b = true) ∧ (∀ x y, bit mkd' x = true → Ed fi x y → bit un y = false → bit mkd' y = true) ∧ (∀ C : Nat → Prop, (∀ b, bit mkd b = true → C b) → (∀ b, bit p b = true → bit un b = false → C b) → (∀ x y, x < 24 → C x → Ed fi x y → bit un y = false → C y) → ∀ b, bit mkd' b = true → C b) ∧ ∀ x, x < 24 → mark' x = -9 ∨ (bit mkd x = true ∧ mark' x = rd x) ∨ mark' x = nI r := by
  obtain ⟨rd', mkd', a1, a2, a3, a4, a5, a6, a7⟩ := mw_eq fi un (nI r) p mkd rd hp hm hcl
  obtain ⟨mark', b1, b2, b3, b4, b5⟩ := fl_eq hK hF hr u un hU mark1
  have lt : ∀ b, bit mkd' b = true → b < 24 := fun b h => by
    by_cases hb : b < 24
    · exact hb
    · rw [a2 b (by omega)] at h; cases h
  have iff : ∀ x, x < 24 → (bit mkd' x = true ↔ mark' x ≠ -9) := by
    intro x hx
    constructor
    · intro h
      refine a7 (fun x => x < 24 → mark' x ≠ -9) (fun b hb hb24 => ?_) (fun b hb hu hb24 => ?_) (fun x y hx hC he hu hy => b5 x y hx (hC hx) he hu) x h hx
      · have := (h1 b hb24).mpr (Or.inl hb)
        rw [b2 b hb24 this]; exact this
      · have := (h1 b hb24).mpr (Or.inr ⟨hb, hu⟩)
        rw [b2 b hb24 this]; exact this
    · intro h
      refine b4 (fun x => bit mkd' x = true) (fun x hx hx9 => ?_) (fun x y _ hC he hu => a5 x y hC he hu) x hx h
      rcases (h1 x hx).mp hx9 with h | ⟨h, hu⟩
      · exact a3 x h
      · exact a4 x h hu
  have val : ∀ x, x < 24 → mark' x = -9 ∨ (bit mkd x = true ∧ mark' x = rd x) ∨ (bit mkd x = false ∧ mark' x = nI r) := by
    intro x hx
    by_cases hmx : bit mkd x = true
    · have := (h1 x hx).mpr (Or.inl hmx)
      right; left
      exact ⟨hmx, by rw [b2 x hx this]; exact h2 x hx hmx⟩
    · by_cases h9 : mark1 x = -9
      · rcases b3 x hx h9 with h | h
        · exact Or.inl h
        · exact Or.inr (Or.inr ⟨bf hmx, h⟩)
      · right; right
        exact ⟨bf hmx, by rw [b2 x hx h9]; exact h3 x hx (bf hmx) h9⟩
  refine ⟨rd', mkd', mark', a1, b1, fun x hx => ?_, iff, a2, a3, a4, a5, a7, fun x hx => ?_⟩
  · rw [a6 x hx]
    rcases val x hx with h | ⟨h, e⟩ | ⟨h, e⟩
    · have hn : ¬ bit mkd' x = true := fun hh => (iff x hx).mp hh h
      have hn2 : bit mkd x = false := bf fun hh => hn (a3 x hh)
      rw [if_neg (fun hh => hn hh.1), h, h4 x hx hn2]
    · rw [if_neg (fun hh => by rw [h] at hh; cases hh.2), e]
    · rw [e, if_pos ⟨(iff x hx).mpr (by rw [e]; exact n9 (by omega)), h⟩]
  · rcases val x hx with h | h | ⟨_, h⟩
    · exact Or.inl h
    · exact Or.inr (Or.inl h)
    · exact Or.inr (Or.inr h)
def ClF (fi : Nat → Int32) (un : Int32) (C : Nat → Prop) : Prop := ∀ x y, x < 24 → C x → Ed fi x y → bit un y = false → C y
def ClE (ke va : Nat → Int32) (un : Int32) (C : Nat → Prop) : Prop := ∀ t a x, t < 24 → C t → C a → En ke va t a x → bit un x = false → C x
theorem run_loop {ki fi ke va w : Nat → Int32} (hK : RKi ki w) (hF : RFd ki fi w) (hT : RTb ki ke va w) (u un : Int32) (hU : ∀ y, y < 24 → (bit un y = true ↔ u = nI y)) : ∀ (k v : Nat) (rd : Nat → Int32) (mkd : Int32) (mark : Nat → Int32), 1 ≤ v → v ≤ 25 → 25 - v < k → (∀ x, x < 24 → rd x = mark x) → (∀ x, x < 24 → (bit mkd x = true ↔ mark x ≠ -9)) → (∀ b, 24 ≤ b → bit mkd b = false) → (∀ x, x < 24 → mark x = -9 ∨ ∃ a, a < v ∧ mark x = nI a) → (∀ x y, bit mkd x = true → Ed fi x y → bit un y = false → bit mkd y = true) → v - 1 ≤ fb_ct (bit mkd) 24 → ∃ rd' mkd' lr mark', M_X1_run_L33 400 un fi ke va k (nI v) rd mkd (nI (v - 1)) = some (rd', mkd', lr, un) ∧ M_X5_marks_L48 400 u w k (nI v) mark = some (lr, mark') ∧ (∀ x, x < 24 → rd' x = mark' x) ∧ (∀ x, x < 24 → (bit mkd' x = true ↔ mark' x ≠ -9)) ∧ (∀ b, 24 ≤ b → bit mkd' b = false) ∧ (∀ b, bit mkd b = true → bit mkd' b = true) ∧ ClF fi un (fun x => bit mkd' x = true) ∧ ClE ke va un (fun x => bit mkd' x = true) ∧ ∀ C : Nat → Prop, (∀ b, bit mkd b = true → C b) → ClF fi un C → ClE ke va un C → ∀ b, bit mkd' b = true → C b := by
  intro k
  induction k with
  | zero => intro v rd mkd mark h1 h2 h3; omega
  | succ k ih =>
    intro v rd mkd mark hv1 hv2 hk hrd hmk hm hlt hcl hct
    obtain ⟨f, m1, e1, e2, e3, e4⟩ := fe_eq hK hT (r := v) (by omega) u un hU mark hlt
    rw [M_X1_run_L33, M_X5_marks_L48, e1, Option.bind_some]
    have lt : ∀ b, bit mkd b = true → b < 24 := fun b h => by
      by_cases hb : b < 24
      · exact hb
      · rw [hm b (by omega)] at h; cases h
    have stop : f = 0 → ClE ke va un (fun x => bit mkd x = true) → ∃ rd' mkd' lr mark', some (rd, mkd, nI (v - 1), un) = some (rd', mkd', lr, un) ∧ (if (f, m1).1 = 0 then some (nI v - 1, (f, m1).2) else (M_X5_followFields 400 w (f, m1).2 (nI v) u).bind fun q4804 => M_X5_marks_L48 400 u w k (nI v + 1) q4804) = some (lr, mark') ∧ (∀ x, x < 24 → rd' x = mark' x) ∧ (∀ x, x < 24 → (bit mkd' x = true ↔ mark' x ≠ -9)) ∧ (∀ b, 24 ≤ b → bit mkd' b = false) ∧ (∀ b, bit mkd b = true → bit mkd' b = true) ∧ ClF fi un (fun x => bit mkd' x = true) ∧ ClE ke va un (fun x => bit mkd' x = true) ∧ ∀ C : Nat → Prop, (∀ b, bit mkd b = true → C b) → ClF fi un C → ClE ke va un C → ∀ b, bit mkd' b = true → C b := by
      intro f0 hce
      have hsame : ∀ x, x < 24 → m1 x = mark x := by
        rcases e2 with ⟨_, h⟩ | ⟨h, _⟩
        · exact h
        · rw [f0] at h; exact absurd h.symm i10
      refine ⟨rd, mkd, nI (v - 1), m1, rfl, ?_, fun x hx => by rw [hsame x hx]; exact hrd x hx, fun x hx => by rw [hsame x hx]; exact hmk x hx, hm, fun b h => h, fun x y _ hx => hcl x y hx, hce, fun C c1 _ _ => c1⟩
      rw [if_pos f0, l1, pk_sub hv1]
    by_cases hv : v = 25
    · subst hv
      rw [if_pos (show (24 : Int32) < nI 25 from nI_lt (a := 24) (by decide) (by decide))]
      have hall : ∀ x, x < 24 → bit mkd x = true := fb_ct_all.mp (Nat.le_antisymm (fb_ct_le _ 24) hct)
      refine stop ?_ (fun t a x _ _ _ he _ => hall x he.2.1)
      rcases e2 with ⟨h, _⟩ | ⟨_, x, hx, h9, _⟩
      · exact h
      · exact absurd h9 ((hmk x hx).mp (hall x hx))
    · rw [if_neg (show ¬ (24 : Int32) < nI v from nI_nlt (a := 24) (by omega) (by decide))]
      obtain ⟨q, q1, q2⟩ := ve_eq ke va mkd mkd
      have hq24 : ∀ b, 24 ≤ b → bit q b = false := fun b hb => bf fun h => by
        obtain ⟨l, y, _, _, _, he⟩ := (q2 b).mp h
        have := he.2.1; omega
      obtain ⟨p, p1, p2⟩ := mb_eq mkd un q hq24
      have hVq : ∀ x, x < 24 → (VV ke va un mark x ↔ bit q x = true ∧ bit un x = false) := by
        intro x hx
        constructor
        · rintro ⟨hu, t, a, ht, ht9, ha9, he⟩
          exact ⟨(q2 x).mpr ⟨t, a, ht, (hmk t ht).mpr ht9, (hmk a he.1).mpr ha9, he⟩, hu⟩
        · rintro ⟨hq, hu⟩
          obtain ⟨t, a, ht, h1, h2, he⟩ := (q2 x).mp hq
          exact ⟨hu, t, a, ht, (hmk t ht).mp h1, (hmk a he.1).mp h2, he⟩
      rw [q1, Option.bind_some, p1, Option.bind_some]
      by_cases p0 : p = 0
      · rw [if_pos p0]
        have pn : ∀ b, ¬ bit p b = true := fun b h => by rw [p0, bit_0] at h; cases h
        refine stop ?_ (fun t a x ht h1 h2 he hu => ?_)
        · rcases e2 with ⟨h, _⟩ | ⟨_, x, hx, h9, hr⟩
          · exact h
          · rcases e3 x hx with h | ⟨_, _, hV⟩
            · rw [h9, hr] at h; exact absurd h (n9 (by omega))
            · obtain ⟨hq, hu⟩ := (hVq x hx).mp hV
              exact absurd ((p2 x).mpr ⟨hq, bf fun hh => (hmk x hx).mp hh h9, hu⟩) (pn x)
        · refine Classical.byContradiction fun hn => ?_
          exact pn x ((p2 x).mpr ⟨(q2 x).mpr ⟨t, a, ht, h1, h2, he⟩, bf hn, hu⟩)
      · rw [if_neg p0]
        have hex : ∃ b, b < 24 ∧ bit p b = true := by
          refine Classical.byContradiction fun hx => p0 (bit_ext fun b _ => ?_)
          rw [bit_0]
          apply bf
          intro h
          by_cases hb : b < 24
          · exact hx ⟨b, hb, h⟩
          · have := ((p2 b).mp h).1
            rw [hq24 b (by omega)] at this; cases this
        obtain ⟨b0, hb0, hpb0⟩ := hex
        have hp24 : ∀ b, 24 ≤ b → bit p b = false := fun b hb => bf fun h => by
          have := ((p2 b).mp h).1
          rw [hq24 b hb] at this; cases this
        have hVp : ∀ x, x < 24 → bit p x = true → m1 x ≠ -9 := fun x hx h => e4 x hx ((hVq x hx).mpr ⟨((p2 x).mp h).1, ((p2 x).mp h).2.2⟩)
        have f1 : ¬ f = 0 := by
          intro f0
          rcases e2 with ⟨_, h⟩ | ⟨h, _⟩
          · have := hVp b0 hb0 hpb0
            rw [h b0 hb0] at this
            have hm0 := (hmk b0 hb0).mpr this
            rw [((p2 b0).mp hpb0).2.1] at hm0; cases hm0
          · rw [f0] at h; exact absurd h.symm i10
        obtain ⟨rd1, mkd1, mk1, r1, r2, r3, r4, r5, r6, r7, r8, r9, r10⟩ := rnd_both hK hF (r := v) (by omega) u un hU (rd := rd) (mark1 := m1) (mkd := mkd) (p := p) hp24 hm hcl (fun x hx => by
            constructor
            · intro h9
              rcases e3 x hx with h | ⟨h0, _, hV⟩
              · rw [h] at h9; exact Or.inl ((hmk x hx).mpr h9)
              · obtain ⟨hq, hu⟩ := (hVq x hx).mp hV
                exact Or.inr ⟨(p2 x).mpr ⟨hq, bf fun hh => (hmk x hx).mp hh h0, hu⟩, hu⟩
            · rintro (h | ⟨h, _⟩)
              · have h9 := (hmk x hx).mp h
                rcases e3 x hx with h' | ⟨h0, _⟩
                · rw [h']; exact h9
                · exact absurd h0 h9
              · exact hVp x hx h) (fun x hx h => by
            have h9 := (hmk x hx).mp h
            rcases e3 x hx with h' | ⟨h0, _⟩
            · rw [h', hrd x hx]
            · exact absurd h0 h9) (fun x hx h h9 => by
            rcases e3 x hx with h' | ⟨_, h', _⟩
            · rw [h'] at h9
              have := (hmk x hx).mpr h9
              rw [h] at this; cases this
            · exact h') (fun x hx h => by
            rw [hrd x hx]
            refine Classical.byContradiction fun hn => ?_
            have := (hmk x hx).mpr hn
            rw [h] at this; cases this)
        rw [r1, Option.bind_some, if_neg f1, r2, Option.bind_some, nI_1]
        have hcnt := fb_lt (p := bit mkd) (q := bit mkd1) (n := 24) (fun z _ h => r6 z h) hb0 ((p2 b0).mp hpb0).2.1 (r7 b0 hpb0 ((p2 b0).mp hpb0).2.2)
        obtain ⟨rd', mkd', lr, mark', s1, s2, s3, s4, s5, s6, s7, s8, s9⟩ := ih (v + 1) rd1 mkd1 mk1 (by omega) (by omega) (by omega) r3 r4 r5 (fun x hx => by
          rcases r10 x hx with h | ⟨h, h'⟩ | h
          · exact Or.inl h
          · rw [hrd x hx] at h'
            rcases hlt x hx with h'' | ⟨a, ha, h''⟩
            · exact Or.inl (h'.trans h'')
            · exact Or.inr ⟨a, by omega, h'.trans h''⟩
          · exact Or.inr ⟨v, by omega, h⟩) r8 (by omega)
        refine ⟨rd', mkd', lr, mark', s1, s2, s3, s4, s5, fun b h => s6 b (r6 b h), s7, s8, fun C c1 c2 c3 => s9 C (r9 C c1 (fun b h hu => ?_) c2) c2 c3⟩
        obtain ⟨t, a, ht, h1, h2, he⟩ := (q2 b).mp ((p2 b).mp h).1
        exact c3 t a b ht (c1 t h1) (c1 a h2) he hu
theorem fill_l (v : Int32) : ∀ (k i : Nat) (f : Nat → Int32), i ≤ 24 → 24 - i < k → ∃ f', M_J7_fill_53178_L5 24 v (nI 24) k (nI i) f = some f' ∧ (∀ x, i ≤ x → x < 24 → f' x = v) ∧ ∀ x, x < i → f' x = f x := by
  intro k
  induction k with
  | zero => intro i f h1 h2; omega
  | succ k ih =>
    intro i f h1 h2
    rw [M_J7_fill_53178_L5]
    by_cases hi : i = 24
    · subst hi
      rw [if_pos (nI_le (Nat.le_refl _) (by decide))]
      exact ⟨f, rfl, fun x a b => by omega, fun _ _ => rfl⟩
    · have hlt : i < 24 := by omega
      rw [if_neg (nI_ge hlt (by decide)), gd_in hlt (by decide), cl (by omega), nI_1]
      obtain ⟨f', a1, a2, a3⟩ := ih (i + 1) (upd f i v) (by omega) (by omega)
      refine ⟨f', a1, fun x h1 h2 => ?_, fun x hx => ?_⟩
      · by_cases e : x = i
        · rw [e, a3 i (by omega), pk_us]
        · exact a2 x (by omega) h2
      · rw [a3 x (by omega), pk_un (by omega)]
theorem fil_eq (f : Nat → Int32) (v : Int32) : ∃ f', M_J7_fill_53178 400 24 f v = some f' ∧ ∀ x, x < 24 → f' x = v := by
  obtain ⟨f', a1, a2, _⟩ := fill_l v 400 0 f (by decide) (by decide)
  exact ⟨f', a1, fun x hx => a2 x (Nat.zero_le x) hx⟩
theorem ms_loop (w start : Nat → Int32) (u : Int32) : ∀ (k i : Nat) (mark : Nat → Int32), i ≤ 24 → 24 - i < k → (∀ x, x < i → mark x = if start x = 0 ∨ nI x = u then -9 else 0) → ∃ m, M_X5_marks_L2 400 u w start k (nI i) mark = ((M_X5_followFields 400 w m 0 u).bind fun q202 => M_X5_marks_L48 400 u w 400 1 q202) ∧ ∀ x, x < 24 → m x = if start x = 0 ∨ nI x = u then -9 else 0 := by
  intro k
  induction k with
  | zero => intro i mark h1 h2; omega
  | succ k ih =>
    intro i mark h1 h2 h3
    rw [M_X5_marks_L2]
    by_cases hi : i = 24
    · subst hi
      rw [if_pos (show (24 : Int32) ≤ nI 24 from nI_le (Nat.le_refl _) (by decide))]
      exact ⟨mark, rfl, h3⟩
    · have hlt : i < 24 := by omega
      rw [if_neg (show ¬ (24 : Int32) ≤ nI i from nI_ge hlt (by decide)), gd_in hlt (by decide), cl (by omega), gd_in hlt (by decide), gd_in hlt (by decide), nI_1]
      have go : ∀ a : Int32, a = (if start i = 0 ∨ nI i = u then -9 else 0) → ∃ m, M_X5_marks_L2 400 u w start k (nI (i + 1)) (upd mark i a) = ((M_X5_followFields 400 w m 0 u).bind fun q202 => M_X5_marks_L48 400 u w 400 1 q202) ∧ ∀ x, x < 24 → m x = if start x = 0 ∨ nI x = u then -9 else 0 := by
        intro a ha
        refine ih (i + 1) (upd mark i a) (by omega) (by omega) fun x hx => ?_
        by_cases e : x = i
        · subst e; rw [pk_us, ha]
        · rw [pk_un e]; exact h3 x (by omega)
      by_cases hs : start i = 0
      · rw [if_pos hs]; exact go (-9) (by rw [if_pos (Or.inl hs)])
      · rw [if_neg hs]
        by_cases hu : nI i = u
        · rw [if_pos hu]; exact go (-9) (by rw [if_pos (Or.inr hu)])
        · rw [if_neg hu]; exact go 0 (by rw [if_neg (fun h => h.elim hs hu)])
/-- the whole marking, on both sides -/
theorem mk_both {ki fi ke va w : Nat → Int32} (hK : RKi ki w) (hF : RFd ki fi w) (hT : RTb ki ke va w) (u un : Int32) (hU : ∀ y, y < 24 → (bit un y = true ↔ u = nI y)) {s : Int32} {start : Nat → Int32} (hs24 : ∀ b, 24 ≤ b → bit s b = false) (hs : ∀ x, x < 24 → (start x ≠ 0 ↔ bit s x = true)) (rd mark : Nat → Int32) : ∃ rd' mkd' lr mark', M_X1_run 400 rd fi ke va s un = some (rd', mkd', lr, un) ∧ M_X5_marks 400 w mark start u = some (lr, mark') ∧ (∀ x, x < 24 → rd' x = mark' x) ∧ (∀ x, x < 24 → (bit mkd' x = true ↔ mark' x ≠ -9)) ∧ (∀ b, 24 ≤ b → bit mkd' b = false) ∧ (∀ b, bit s b = true → bit un b = false → bit mkd' b = true) ∧ ClF fi un (fun x => bit mkd' x = true) ∧ ClE ke va un (fun x => bit mkd' x = true) ∧ ∀ C : Nat → Prop, (∀ b, bit s b = true → bit un b = false → C b) → ClF fi un C → ClE ke va un C → ∀ b, bit mkd' b = true → C b := by
  obtain ⟨rd0, f1, f2⟩ := fil_eq rd (-9)
  obtain ⟨m, m1, m2⟩ := ms_loop w start u 400 0 mark (by decide) (by decide) (fun x hx => by omega)
  have hnu : ∀ x, x < 24 → (bit un x = false ↔ ¬ nI x = u) := fun x hx => by
    constructor
    · intro h e
      rw [(hU x hx).mpr e.symm] at h; cases h
    · exact fun h => bf fun hh => h ((hU x hx).mp hh).symm
  have hm9 : ∀ x, x < 24 → (m x ≠ -9 ↔ bit s x = true ∧ bit un x = false) := by
    intro x hx
    rw [m2 x hx, hnu x hx, ← hs x hx]
    by_cases h : start x = 0 ∨ nI x = u
    · rw [if_pos h]
      refine ⟨fun hh => absurd rfl hh, fun hh => ?_⟩
      rcases h with h | h
      · exact absurd h hh.1
      · exact absurd h hh.2
    · rw [if_neg h]
      exact ⟨fun _ => ⟨fun e => h (Or.inl e), fun e => h (Or.inr e)⟩, fun _ => by decide⟩
  have z0 : ∀ b, bit 0 b = true → False := fun b h => by rw [bit_0] at h; cases h
  obtain ⟨rd1, mkd1, mk1, r1, r2, r3, r4, r5, r6, r7, r8, r9, r10⟩ := rnd_both hK hF (r := 0) (by decide) u un hU (rd := rd0) (mark1 := m) (mkd := 0) (p := s) hs24 (fun b _ => bit_0 b) (fun x y h => (z0 x h).elim) (fun x hx => (hm9 x hx).trans ⟨Or.inr, fun h => h.elim (fun h => (z0 x h).elim) id⟩) (fun x hx h => (z0 x h).elim) (fun x hx _ h9 => by
    rw [m2 x hx] at h9 ⊢
    by_cases h : start x = 0 ∨ nI x = u
    · rw [if_pos h] at h9; exact absurd rfl h9
    · rw [if_neg h]; rfl) (fun x hx _ => f2 x hx)
  obtain ⟨rd', mkd', lr, mark', s1, s2, s3, s4, s5, s6, s7, s8, s9⟩ := run_loop hK hF hT u un hU 400 1 rd1 mkd1 mk1 (by decide) (by decide) (by decide) r3 r4 r5 (fun x hx => by
    rcases r10 x hx with h | ⟨h, _⟩ | h
    · exact Or.inl h
    · exact (z0 x h).elim
    · exact Or.inr ⟨0, by decide, h⟩) r8 (Nat.zero_le _)
  refine ⟨rd', mkd', lr, mark', ?_, ?_, s3, s4, s5, fun b h1 h2 => s6 b (r7 b h1 h2), s7, s8, fun C c1 c2 c3 => s9 C (r9 C (fun b h => (z0 b h).elim) c1 c2) c2 c3⟩
  · rw [M_X1_run, f1, Option.bind_some, show (0 : Int32) = nI 0 from rfl]
    have r1' : M_X1_markWithFields 400 rd0 (nI 0) (nI 0) un fi s = some (rd1, mkd1) := r1
    rw [r1', Option.bind_some]
    exact s1
  · rw [M_X5_marks, l0, m1, l0, r2, Option.bind_some]
    exact s2
