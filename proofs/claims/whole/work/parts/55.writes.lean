/-! one object's part of the relation -/
def RO (c : SV) (u : Nat → Int32) (x : Nat) : Prop :=
  (u (15 * x) = c.1 0 x ∧ (c.1 0 x = -9 ∨ c.1 0 x = 0 ∨ c.1 0 x = 1 ∨ c.1 0 x = 2)) ∧
  (u (15 * x + 1) = (if bit (c.2 1) x then 1 else 0) ∧ (bit (c.2 1) x = true → c.1 0 x ≠ -9)) ∧
  ((∀ j, j < 3 → okv (c.1 1 (3 * x + j)) ∧ (c.1 0 x ≠ 0 → c.1 1 (3 * x + j) = -9)) ∧ (c.1 0 x = 0 → ∀ j, j < 12 → u (15 * x + 3 + j) = if j < 3 then c.1 1 (3 * x + j) else -9)) ∧
  ((c.1 0 x ≠ 1 → ∀ j, j < 6 → c.1 2 (6 * x + j) = -9 ∧ c.1 3 (6 * x + j) = -9) ∧ (c.1 0 x = 1 → (∃ n : Nat, u (15 * x + 2) = nI n ∧ TB (c.1 2) (c.1 3) x n) ∧ ∀ j, j < 6 → u (15 * x + 3 + j) = c.1 2 (6 * x + j) ∧ u (15 * x + 9 + j) = c.1 3 (6 * x + j))) ∧
  (okv (c.1 4 x) ∧ (c.1 0 x ≠ 2 → c.1 4 x = -9) ∧ (c.1 0 x = 2 → ∀ j, j < 12 → u (15 * x + 3 + j) = if j = 0 then c.1 4 x else -9))
theorem RS.ro {c : SV} {u : Nat → Int32} (h : RS c u) {x : Nat} (hx : x < 24) : RO c u x := ⟨h.1 x hx, h.2.1.1 x hx, h.2.2.1 x hx, h.2.2.2.1 x hx, h.2.2.2.2.1 x hx⟩
theorem RS.of {c : SV} {u : Nat → Int32} (h : ∀ x, x < 24 → RO c u x) (h2 : ∀ x, 24 ≤ x → bit (c.2 1) x = false) (h3 : RRo (c.1 5) u) (h4 : RQu (c.1 6) (c.2 0) u) (h5 : u 387 = c.2 2) : RS c u :=
  ⟨fun x hx => (h x hx).1, ⟨fun x hx => (h x hx).2.1, h2⟩, fun x hx => (h x hx).2.2.1, fun x hx => (h x hx).2.2.2.1, fun x hx => (h x hx).2.2.2.2, h3, h4, h5⟩
theorem TB.cong {ke va ke' va' : Nat → Int32} {x n : Nat} (e : ∀ j, j < 6 → ke' (6 * x + j) = ke (6 * x + j) ∧ va' (6 * x + j) = va (6 * x + j)) (h : TB ke va x n) : TB ke' va' x n := by
  obtain ⟨b1, b2, b3, b4⟩ := h
  refine ⟨b1, fun j hj => ?_, fun j hj hj6 => ?_, fun i j hi hj => ?_⟩
  · rw [(e j (by omega)).1, (e j (by omega)).2]; exact b2 j hj
  · rw [(e j hj6).1, (e j hj6).2]; exact b3 j hj hj6
  · rw [(e i (by omega)).1, (e j (by omega)).1]; exact b4 i j hi hj
theorem RO.cong {c c' : SV} {u u' : Nat → Int32} {x : Nat} (e0 : c'.1 0 x = c.1 0 x) (ef : bit (c'.2 1) x = bit (c.2 1) x) (e1 : ∀ j, j < 3 → c'.1 1 (3 * x + j) = c.1 1 (3 * x + j)) (e2 : ∀ j, j < 6 → c'.1 2 (6 * x + j) = c.1 2 (6 * x + j) ∧ c'.1 3 (6 * x + j) = c.1 3 (6 * x + j)) (e4 : c'.1 4 x = c.1 4 x) (eu : ∀ j, j < 15 → u' (15 * x + j) = u (15 * x + j)) (h : RO c u x) : RO c' u' x := by
  obtain ⟨h1, h2, h3, h4, h5⟩ := h
  have eu0 : u' (15 * x) = u (15 * x) := eu 0 (by decide)
  refine ⟨?_, ?_, ⟨fun j hj => ?_, fun h0 j hj => ?_⟩, ⟨fun h0 j hj => ?_, fun h0 => ⟨?_, fun j hj => ?_⟩⟩, ?_, fun h0 => ?_, fun h0 j hj => ?_⟩
  · rw [eu0, e0]; exact h1
  · rw [eu 1 (by decide), ef, e0]; exact h2
  · rw [e1 j hj, e0]; exact h3.1 j hj
  · rw [e0] at h0
    rw [Nat.add_assoc, eu _ (by omega), ← Nat.add_assoc, h3.2 h0 j hj]
    by_cases h : j < 3
    · rw [if_pos h, if_pos h, e1 j h]
    · rw [if_neg h, if_neg h]
  · rw [e0] at h0
    rw [(e2 j hj).1, (e2 j hj).2]; exact h4.1 h0 j hj
  · rw [e0] at h0
    obtain ⟨n, a1, a2⟩ := (h4.2 h0).1
    exact ⟨n, by rw [eu 2 (by decide)]; exact a1, a2.cong e2⟩
  · rw [e0] at h0
    rw [(e2 j hj).1, (e2 j hj).2, Nat.add_assoc, eu _ (by omega), Nat.add_assoc, eu _ (by omega), ← Nat.add_assoc, ← Nat.add_assoc]; exact (h4.2 h0).2 j hj
  · rw [e4]; exact h5.1
  · rw [e0] at h0; rw [e4]; exact h5.2.1 h0
  · rw [e0] at h0; rw [e4, Nat.add_assoc, eu _ (by omega), ← Nat.add_assoc]; exact h5.2.2 h0 j hj
theorem RO.cg {c c' : SV} {u u' : Nat → Int32} {x : Nat} (h : RO c u x) (e0 : c'.1 0 x = c.1 0 x) (ef : bit (c'.2 1) x = bit (c.2 1) x) (e1 : ∀ j, j < 3 → c'.1 1 (3 * x + j) = c.1 1 (3 * x + j)) (e2 : ∀ j, j < 6 → c'.1 2 (6 * x + j) = c.1 2 (6 * x + j) ∧ c'.1 3 (6 * x + j) = c.1 3 (6 * x + j)) (e4 : c'.1 4 x = c.1 4 x) (eu : ∀ j, j < 15 → u' (15 * x + j) = u (15 * x + j)) : RO c' u' x := RO.cong e0 ef e1 e2 e4 eu h
theorem RRo.cong {ro u u' : Nat → Int32} (e : ∀ j, j < 6 → u' (360 + j) = u (360 + j)) (h : RRo ro u) : RRo ro u' := fun r hr => ⟨(h r hr).1, by rw [e r hr]; exact (h r hr).2⟩
theorem RQu.cong {qu : Nat → Int32} {nsz : Int32} {u u' : Nat → Int32} (e : ∀ j, j < 21 → u' (366 + j) = u (366 + j)) (h : RQu qu nsz u) : RQu qu nsz u' := by
  obtain ⟨n, a1, a2, a3, a4⟩ := h
  refine ⟨n, a1, a2, by rw [e 0 (by decide)]; exact a3, fun i hi => ?_⟩
  have := e (1 + i) (by omega)
  rw [show 366 + (1 + i) = 367 + i by omega] at this
  rw [this]; exact a4 i hi
/-- what a successful write does on both sides: saved, and then the rows of now are changed below 388 -/
theorem fin_w {c c' : SV} {nx dp nx' dp' : Int32} {rv rv' : Nat → Option SV} {w w1 w2 : Nat → Int32} {dep dep' : Int32} {kept : Nat → Int32} (h1 : RHi nx' dp' rv' w1 dep') (h2 : RSl rv' w1 kept) (h3 : ∀ j, 776 ≤ j → j < 3880 → w2 j = w1 j) (h4 : RS c' w2) : Rel c' nx' dp' rv' w2 dep' kept :=
  Rel.mk h4 (h1.cong h3) (h2.cong h3)
theorem okv_in {v : Int32} {j : Nat} (h : j < 24) (e : v = nI j) : okv v := Or.inr ⟨j, h, e⟩
/-- a content: empty, allocated, or neither: on both sides -/
theorem content (ki w : Nat → Int32) (h : RKi ki w) (p : Int32) : (p = -9 ∧ M_X3_isContent ki p = some 1) ∨ (∃ j, j < 24 ∧ p = nI j ∧ p ≠ -9 ∧ M_X3_isContent ki p = some (if ki j = -9 then 0 else 1) ∧ M_X5_isAllocated w p = some (if ki j = -9 then 0 else 1)) ∨ (p ≠ -9 ∧ M_X3_isContent ki p = some 0 ∧ M_X5_isAllocated w p = some 0) := by
  by_cases h9 : p = -9
  · subst h9; exact Or.inl ⟨rfl, aCt_9 ki⟩
  · rcases cls p (n := 24) (by decide) with ho | ⟨j, hj, rfl⟩
    · exact Or.inr (Or.inr ⟨h9, aCt_out ki h9 ho, bAl_out w ho⟩)
    · exact Or.inr (Or.inl ⟨j, hj, rfl, h9, aCt_in ki hj, by rw [bAl_in w hj, (h j hj).1]⟩)
theorem chg (w : Nat → Int32) (dep v : Int32) {p : Int32} {n : Nat} (hp : p = nI n) (hn : n < 3880) {qb : (Nat → Int32) × Int32} (hs : M_X5_saveState 400 w dep = some qb) : M_X5_change 400 w dep p v = if w n = v then some (-2, w, dep) else some (w n, upd qb.1 n v, qb.2) := by
  rw [M_X5_change, hp, gd_in hn (by decide), cl (by omega), hs, Option.bind_some, gd_in hn (by decide)]
theorem RS.setRoot {ki fi ke va ta ro qu w : Nat → Int32} {nsz fin rnd : Int32} (h : RS (pkS ki fi ke va ta ro qu nsz fin rnd) w) {r : Nat} (hr : r < 6) {v : Int32} (hv : okv v) : RS (pkS ki fi ke va ta (upd ro r v) qu nsz fin rnd) (upd w (360 + r) v) := by
  refine RS.of (fun x hx => (h.ro hx).cong rfl rfl (fun _ _ => rfl) (fun _ _ => ⟨rfl, rfl⟩) rfl (fun j hj => pk_un (by omega))) h.2.1.2 (fun k hk => ?_) (h.2.2.2.2.2.2.1.cong fun j hj => pk_un (by omega)) ?_
  · show okv (upd ro r v k) ∧ upd w (360 + r) v (360 + k) = upd ro r v k
    by_cases e : k = r
    · subst e; rw [pk_us, pk_us]; exact ⟨hv, rfl⟩
    · rw [pk_un e, pk_un (by omega)]; exact h.2.2.2.2.2.1 k hk
  · show upd w (360 + r) v 387 = rnd
    rw [pk_un (by omega)]; exact h.2.2.2.2.2.2.2
theorem RS.setField {ki fi ke va ta ro qu w : Nat → Int32} {nsz fin rnd : Int32} (h : RS (pkS ki fi ke va ta ro qu nsz fin rnd) w) {x f : Nat} (hx : x < 24) (hf : f < 3) (h0 : ki x = 0) {v : Int32} (hv : okv v) : RS (pkS ki (upd fi (3 * x + f) v) ke va ta ro qu nsz fin rnd) (upd w (15 * x + 3 + f) v) := by
  refine RS.of (fun y hy => ?_) h.2.1.2 (h.2.2.2.2.2.1.cong fun j hj => pk_un (by omega)) (h.2.2.2.2.2.2.1.cong fun j hj => pk_un (by omega)) (by show upd w (15 * x + 3 + f) v 387 = rnd; rw [pk_un (by omega)]; exact h.2.2.2.2.2.2.2)
  by_cases e : y = x
  · subst e
    obtain ⟨a1, a2, a3, a4, a5⟩ := h.ro hy
    refine ⟨?_, ?_, ⟨fun j hj => ?_, fun _ j hj => ?_⟩, ⟨a4.1, fun h1 => ?_⟩, a5.1, a5.2.1, fun h2 => ?_⟩
    · show upd w (15 * y + 3 + f) v (15 * y) = ki y ∧ _
      rw [pk_un (by omega)]; exact a1
    · show upd w (15 * y + 3 + f) v (15 * y + 1) = _ ∧ _
      rw [pk_un (by omega)]; exact a2
    · show okv (upd fi (3 * y + f) v (3 * y + j)) ∧ (ki y ≠ 0 → upd fi (3 * y + f) v (3 * y + j) = -9)
      by_cases ej : j = f
      · subst ej; rw [pk_us]; exact ⟨hv, fun hh => absurd h0 hh⟩
      · rw [pk_un (by omega)]; exact a3.1 j hj
    · show upd w (15 * y + 3 + f) v (15 * y + 3 + j) = if j < 3 then upd fi (3 * y + f) v (3 * y + j) else -9
      by_cases ej : j = f
      · subst ej; rw [pk_us, if_pos hf, pk_us]
      · rw [pk_un (by omega), pk_un (by omega)]; exact a3.2 h0 j hj
    · exact absurd (h0.symm.trans h1) (by decide)
    · exact absurd (h0.symm.trans h2) (by decide)
  · refine (h.ro hy).cg rfl rfl (fun j hj => ?_) (fun _ _ => ⟨rfl, rfl⟩) rfl (fun j hj => pk_un (by omega))
    show upd fi (3 * x + f) v (3 * y + j) = fi (3 * y + j)
    exact pk_un (by omega)
