/-! numbers, and the small tests -/
theorem l0 : (0 : Int32) = nI 0 := rfl
theorem l1 : (1 : Int32) = nI 1 := rfl
theorem l2 : (2 : Int32) = nI 2 := rfl
theorem l3 : (3 : Int32) = nI 3 := rfl
theorem l6 : (6 : Int32) = nI 6 := rfl
theorem l9 : (9 : Int32) = nI 9 := rfl
theorem l15 : (15 : Int32) = nI 15 := rfl
theorem l20 : (20 : Int32) = nI 20 := rfl
theorem l24 : (24 : Int32) = nI 24 := rfl
theorem l23 : (23 : Int32) = nI 23 := rfl
theorem l5 : (5 : Int32) = nI 5 := rfl
theorem l388 : (388 : Int32) = nI 388 := rfl
theorem l360 : (360 : Int32) = nI 360 := rfl
theorem l366 : (366 : Int32) = nI 366 := rfl
theorem l367 : (367 : Int32) = nI 367 := rfl
theorem i10 : ¬ (1 : Int32) = 0 := by decide
theorem n9 {j : Nat} (h : j < 2 ^ 31) : nI j ≠ -9 := by
  intro e
  have := congrArg Int32.toInt e
  rw [nI_toInt h] at this
  have h9 : (-9 : Int32).toInt = -9 := by decide
  omega
theorem cls (p : Int32) {n : Nat} (hn : n < 2 ^ 31) : (p < 0 ∨ nI n ≤ p) ∨ ∃ j : Nat, j < n ∧ p = nI j := by
  rcases pk_ix p hn with h | h | h
  · exact Or.inl (Or.inl h)
  · exact Or.inl (Or.inr h)
  · exact Or.inr h
theorem gd_in {α : Type} {j n : Nat} {k : Option α} (h : j < n) (hn : n < 2 ^ 31) : gd (nI j) n k = k := by
  rw [gd, if_neg (vp_in_nI h hn)]
theorem gd_e {α : Type} {i : Int32} (j : Nat) {n : Nat} {k : Option α} (e : i = nI j) (h : j < n) (hn : n < 2 ^ 31) : gd i n k = k := by
  rw [e]; exact gd_in h hn
theorem cl {j : Nat} (h : j < 2 ^ 31) : (nI j).toNatClampNeg = j := nI_clamp h
theorem wA_in {m : Int32} {j n : Nat} (hm : m = nI n) (h : j < n) (hn : n < 2 ^ 31) : M_X4_within (nI j) m = some 1 := by
  rw [M_X4_within, hm, if_neg (nI_pos (by omega)), if_neg (nI_ge h hn)]
theorem wA_out {p m : Int32} {n : Nat} (hm : m = nI n) (h : p < 0 ∨ nI n ≤ p) : M_X4_within p m = some 0 := by
  rw [M_X4_within, hm]
  rcases h with h | h
  · rw [if_pos h]
  · by_cases h0 : p < 0
    · rw [if_pos h0]
    · rw [if_neg h0, if_pos h]
theorem wB_in {m : Int32} {j n : Nat} (hm : m = nI n) (h : j ≤ n) (hn : n < 2 ^ 31) : M_X5_within (nI j) 0 m = some 1 := by
  rw [M_X5_within, hm, if_neg (nI_pos (by omega)), if_neg (nI_nlt h hn)]
theorem wB_out {p m : Int32} {n : Nat} (hm : m = nI n) (hn : n + 1 < 2 ^ 31) (h : p < 0 ∨ nI (n + 1) ≤ p) : M_X5_within p 0 m = some 0 := by
  rw [M_X5_within, hm]
  rcases h with h | h
  · rw [if_pos h]
  · by_cases h0 : p < 0
    · rw [if_pos h0]
    · rw [if_neg h0, if_pos]
      rw [Int32.le_iff_toInt_le, nI_toInt hn] at h
      rw [Int32.lt_iff_toInt_lt, nI_toInt (by omega)]
      omega
theorem aAl_in (ki : Nat → Int32) {j : Nat} (h : j < 24) : M_X3_isAllocated ki (nI j) = some (if ki j = -9 then 0 else 1) := by
  rw [M_X3_isAllocated, wA_in l24 h (by decide), Option.bind_some, if_neg (by decide), gd_in h (by decide), cl (by omega)]
  by_cases hk : ki j = -9 <;> simp [hk]
theorem aAl_out (ki : Nat → Int32) {p : Int32} (h : p < 0 ∨ nI 24 ≤ p) : M_X3_isAllocated ki p = some 0 := by
  rw [M_X3_isAllocated, wA_out l24 h, Option.bind_some, if_pos rfl]
theorem aKd_in (ki : Nat → Int32) {j : Nat} (h : j < 24) (k : Int32) : M_X3_hasKind ki (nI j) k = some (if ki j = k then 1 else 0) := by
  rw [M_X3_hasKind, wA_in l24 h (by decide), Option.bind_some, if_neg (by decide), gd_in h (by decide), cl (by omega)]
  by_cases hk : ki j = k <;> simp [hk]
theorem aKd_out (ki : Nat → Int32) {p : Int32} (h : p < 0 ∨ nI 24 ≤ p) (k : Int32) : M_X3_hasKind ki p k = some 0 := by
  rw [M_X3_hasKind, wA_out l24 h, Option.bind_some, if_pos rfl]
theorem aCt_9 (ki : Nat → Int32) : M_X3_isContent ki (-9) = some 1 := by rw [M_X3_isContent, if_pos rfl]
theorem aCt_in (ki : Nat → Int32) {j : Nat} (h : j < 24) : M_X3_isContent ki (nI j) = some (if ki j = -9 then 0 else 1) := by
  rw [M_X3_isContent, if_neg (n9 (by omega)), aAl_in ki h, Option.bind_some]
  by_cases hk : ki j = -9 <;> simp [hk]
theorem aCt_out (ki : Nat → Int32) {p : Int32} (h9 : p ≠ -9) (h : p < 0 ∨ nI 24 ≤ p) : M_X3_isContent ki p = some 0 := by
  rw [M_X3_isContent, if_neg h9, aAl_out ki h, Option.bind_some, if_pos rfl]
theorem bPt (w : Nat → Int32) {k : Int32} {x n : Nat} (hk : k = nI n) (h : 15 * x + n < 3880) : M_X5_part w (nI x) k = some (w (15 * x + n)) := by
  rw [M_X5_part, hk, l15, pk_mul, nI_add, gd_in h (by decide), cl (by omega)]
theorem bAl_in (w : Nat → Int32) {j : Nat} (h : j < 24) : M_X5_isAllocated w (nI j) = some (if w (15 * j) = -9 then 0 else 1) := by
  rw [M_X5_isAllocated, wB_in l23 (by omega) (by decide), Option.bind_some, if_neg (by decide), bPt w l0 (by omega), Option.bind_some, Nat.add_zero]
  by_cases hk : w (15 * j) = -9 <;> simp [hk]
theorem bAl_out (w : Nat → Int32) {p : Int32} (h : p < 0 ∨ nI 24 ≤ p) : M_X5_isAllocated w p = some 0 := by
  rw [M_X5_isAllocated, wB_out l23 (by decide) h, Option.bind_some, if_pos rfl]
theorem bKd_in (w : Nat → Int32) {j : Nat} (h : j < 24) {k : Int32} (hk : k ≠ -9) : M_X5_isKind w (nI j) k = some (if w (15 * j) = k then 1 else 0) := by
  rw [M_X5_isKind, bAl_in w h, Option.bind_some]
  by_cases h9 : w (15 * j) = -9
  · rw [if_pos h9, if_pos rfl, if_neg (by rw [h9]; exact Ne.symm hk)]
  · rw [if_neg h9, if_neg (by decide), bPt w l0 (by omega), Option.bind_some, Nat.add_zero]
    by_cases hw : w (15 * j) = k <;> simp [hw]
theorem bKd_out (w : Nat → Int32) {p : Int32} (h : p < 0 ∨ nI 24 ≤ p) (k : Int32) : M_X5_isKind w p k = some 0 := by
  rw [M_X5_isKind, bAl_out w h, Option.bind_some, if_pos rfl]
theorem rwr0 (w : Nat → Int32) : rwr w 0 = w := by
  funext j
  rw [rwr, Nat.mul_zero, Nat.zero_add]
def fb_ct (p : Nat → Bool) : Nat → Nat
  | 0 => 0
  | n + 1 => fb_ct p n + (if p n then 1 else 0)
theorem fb_ct_succ (p : Nat → Bool) (n : Nat) : fb_ct p (n + 1) = fb_ct p n + (if p n then 1 else 0) := rfl
theorem fb_ct_le (p : Nat → Bool) : ∀ n, fb_ct p n ≤ n
  | 0 => Nat.le_refl _
  | n + 1 => by
    have h := fb_ct_le p n
    rw [fb_ct_succ]
    split <;> omega
theorem fb_ct_step (p : Nat → Bool) (m : Nat) : ∀ n, fb_ct p m ≤ fb_ct p (m + n)
  | 0 => Nat.le_refl _
  | n + 1 => by
    have h := fb_ct_step p m n
    show fb_ct p m ≤ fb_ct p (m + n + 1)
    rw [fb_ct_succ]
    omega
theorem fb_ct_mono (p : Nat → Bool) {m n : Nat} (h : m ≤ n) : fb_ct p m ≤ fb_ct p n := by
  have := fb_ct_step p m (n - m)
  rwa [Nat.add_sub_cancel' h] at this
theorem fb_ct_cong {p q : Nat → Bool} : ∀ {n : Nat}, (∀ k, k < n → p k = q k) → fb_ct p n = fb_ct q n
  | 0, _ => rfl
  | n + 1, h => by
    rw [fb_ct_succ, fb_ct_succ, fb_ct_cong (fun k hk => h k (by omega)), h n (by omega)]
/-- one place changed -/
theorem fb_ct_out (p : Nat → Bool) (b : Bool) {i n : Nat} (h : n ≤ i) : fb_ct (fun k => if k = i then b else p k) n = fb_ct p n :=
  fb_ct_cong fun k hk => if_neg (by omega)
theorem fb_ct_upd (p : Nat → Bool) (b : Bool) {i : Nat} : ∀ {n : Nat}, i < n → fb_ct (fun k => if k = i then b else p k) n + (if p i then 1 else 0) = fb_ct p n + (if b then 1 else 0)
  | 0, h => absurd h (Nat.not_lt_zero i)
  | n + 1, h => by
    rw [fb_ct_succ, fb_ct_succ]
    rcases Nat.lt_or_ge i n with q | q
    · have := fb_ct_upd p b q
      have e : (if n = i then b else p n) = p n := if_neg (by omega)
      rw [e]
      omega
    · have e : i = n := by omega
      subst e
      rw [fb_ct_out p b (Nat.le_refl _)]
      simp only [if_true]
      omega
theorem fb_ct_sub {p q : Nat → Bool} : ∀ {n : Nat}, (∀ k, k < n → p k = true → q k = true) → fb_ct p n ≤ fb_ct q n
  | 0, _ => Nat.le_refl _
  | n + 1, h => by
    have h1 := fb_ct_sub (n := n) (p := p) (q := q) (fun k hk => h k (by omega))
    have h2 := h n (by omega)
    rw [fb_ct_succ, fb_ct_succ]
    cases hp : p n <;> cases hq : q n <;> simp_all <;> omega
theorem fb_ct_or {p q : Nat → Bool} : ∀ {n : Nat}, (∀ k, k < n → ¬ (p k = true ∧ q k = true)) → fb_ct (fun k => p k || q k) n = fb_ct p n + fb_ct q n
  | 0, _ => rfl
  | n + 1, h => by
    have h1 := fb_ct_or (n := n) (p := p) (q := q) (fun k hk => h k (by omega))
    have h2 := h n (by omega)
    rw [fb_ct_succ, fb_ct_succ, fb_ct_succ, h1]
    cases hp : p n <;> cases hq : q n <;> simp_all <;> omega
theorem fb_ct_not (p : Nat → Bool) : ∀ n, fb_ct p n + fb_ct (fun k => !p k) n = n
  | 0 => rfl
  | n + 1 => by
    have h := fb_ct_not p n
    rw [fb_ct_succ, fb_ct_succ]
    cases p n <;> simp <;> omega
theorem fb_ct_split (p : Nat → Bool) (m : Nat) : ∀ n, fb_ct p (m + n) = fb_ct p m + fb_ct (fun k => p (m + k)) n
  | 0 => rfl
  | n + 1 => by
    have h := fb_ct_split p m n
    show fb_ct p (m + n + 1) = _
    rw [fb_ct_succ, fb_ct_succ, h, Nat.add_assoc]
theorem fb_ct_zero {p : Nat → Bool} : ∀ {n : Nat}, fb_ct p n = 0 ↔ ∀ k, k < n → p k = false
  | 0 => ⟨fun _ k hk => absurd hk (Nat.not_lt_zero k), fun _ => rfl⟩
  | n + 1 => by
    have h := fb_ct_zero (p := p) (n := n)
    rw [fb_ct_succ]
    constructor
    · intro e k hk
      have e1 : fb_ct p n = 0 := by omega
      rcases Nat.lt_or_ge k n with q | q
      · exact h.mp e1 k q
      · have ek : k = n := by omega
        subst ek
        cases hp : p k
        · rfl
        · simp [hp] at e
    · intro a
      rw [h.mpr (fun k hk => a k (by omega)), a n (by omega)]
      rfl
theorem fb_ct_pos {p : Nat → Bool} {n : Nat} : 0 < fb_ct p n ↔ ∃ k, k < n ∧ p k = true := by
  constructor
  · intro h
    refine Classical.byContradiction fun hx => ?_
    have := fb_ct_zero.mpr (fun k hk => by
      cases hp : p k
      · rfl
      · exact absurd ⟨k, hk, hp⟩ hx : ∀ k, k < n → p k = false)
    omega
  · rintro ⟨k, hk, hp⟩
    rcases Nat.eq_zero_or_pos (fb_ct p n) with e | e
    · have := fb_ct_zero.mp e k hk
      rw [this] at hp
      cases hp
    · exact e
theorem fb_ct_all {p : Nat → Bool} {n : Nat} : fb_ct p n = n ↔ ∀ k, k < n → p k = true := by
  have h := fb_ct_not p n
  constructor
  · intro e k hk
    have z : fb_ct (fun k => !p k) n = 0 := by omega
    have := fb_ct_zero.mp z k hk
    cases hp : p k
    · simp [hp] at this
    · rfl
  · intro a
    have z : fb_ct (fun k => !p k) n = 0 := fb_ct_zero.mpr (fun k hk => by simp [a k hk])
    omega
