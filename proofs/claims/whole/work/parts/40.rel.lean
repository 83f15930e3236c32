/-! what ties the class's state to the reference's -/
/-- row r of the reference's rows of numbers -/
def rwr (w : Nat → Int32) (r : Nat) : Nat → Int32 := fun j => w (388 * r + j)
/-- empty, or an identifier -/
def okv (v : Int32) : Prop := v = -9 ∨ ∃ j : Nat, j < 24 ∧ v = nI j
def bit (s : Int32) (i : Nat) : Bool := s.toBitVec.getLsbD i
def RKi (ki u : Nat → Int32) : Prop := ∀ x, x < 24 → u (15 * x) = ki x ∧ (ki x = -9 ∨ ki x = 0 ∨ ki x = 1 ∨ ki x = 2)
def RFn (ki : Nat → Int32) (fin : Int32) (u : Nat → Int32) : Prop := (∀ x, x < 24 → u (15 * x + 1) = (if bit fin x then 1 else 0) ∧ (bit fin x = true → ki x ≠ -9)) ∧ ∀ x, 24 ≤ x → bit fin x = false
def RFd (ki fi u : Nat → Int32) : Prop := ∀ x, x < 24 → (∀ j, j < 3 → okv (fi (3 * x + j)) ∧ (ki x ≠ 0 → fi (3 * x + j) = -9)) ∧ (ki x = 0 → ∀ j, j < 12 → u (15 * x + 3 + j) = if j < 3 then fi (3 * x + j) else -9)
/-- a table's n entries: keys and values are identifiers, the keys differ, the places behind are empty -/
def TB (ke va : Nat → Int32) (x n : Nat) : Prop := n ≤ 6 ∧ (∀ j, j < n → (∃ a : Nat, a < 24 ∧ ke (6 * x + j) = nI a) ∧ ∃ b : Nat, b < 24 ∧ va (6 * x + j) = nI b) ∧ (∀ j, n ≤ j → j < 6 → ke (6 * x + j) = -9 ∧ va (6 * x + j) = -9) ∧ ∀ i j, i < n → j < n → ke (6 * x + i) = ke (6 * x + j) → i = j
def RTb (ki ke va u : Nat → Int32) : Prop := ∀ x, x < 24 → (ki x ≠ 1 → ∀ j, j < 6 → ke (6 * x + j) = -9 ∧ va (6 * x + j) = -9) ∧ (ki x = 1 → (∃ n : Nat, u (15 * x + 2) = nI n ∧ TB ke va x n) ∧ ∀ j, j < 6 → u (15 * x + 3 + j) = ke (6 * x + j) ∧ u (15 * x + 9 + j) = va (6 * x + j))
def RWk (ki ta u : Nat → Int32) : Prop := ∀ x, x < 24 → okv (ta x) ∧ (ki x ≠ 2 → ta x = -9) ∧ (ki x = 2 → ∀ j, j < 12 → u (15 * x + 3 + j) = if j = 0 then ta x else -9)
def RRo (ro u : Nat → Int32) : Prop := ∀ r, r < 6 → okv (ro r) ∧ u (360 + r) = ro r
def RQu (qu : Nat → Int32) (nsz : Int32) (u : Nat → Int32) : Prop := ∃ n : Nat, n ≤ 20 ∧ nsz = nI n ∧ u 366 = nI n ∧ ∀ i, i < n → u (367 + i) = qu i
/-- a state of the class and a row of the reference are one state -/
def RS (c : SV) (u : Nat → Int32) : Prop := RKi (c.1 0) u ∧ RFn (c.1 0) (c.2 1) u ∧ RFd (c.1 0) (c.1 1) u ∧ RTb (c.1 0) (c.1 2) (c.1 3) u ∧ RWk (c.1 0) (c.1 4) u ∧ RRo (c.1 5) u ∧ RQu (c.1 6) (c.2 0) u ∧ u 387 = c.2 2
/-- the saved states: the ring's youngest is the reference's last row -/
def RHi (nx dp : Int32) (rv : Nat → Option SV) (w : Nat → Int32) (dep : Int32) : Prop := ∃ n d : Nat, n < 6 ∧ d ≤ 6 ∧ nx = nI n ∧ dp = nI d ∧ dep = nI d ∧ ∀ t, t < d → ∃ v, rv ((n + 5 - t) % 6) = some v ∧ RS v (rwr w (2 + (d - 1 - t)))
def RSl (rv : Nat → Option SV) (w kept : Nat → Int32) : Prop := ∀ i, i < 2 → (kept i = 0 ∧ rv (6 + i) = none) ∨ (kept i = 1 ∧ ∃ v, rv (6 + i) = some v ∧ RS v (rwr w (8 + i)))
def Rel (c : SV) (nx dp : Int32) (rv : Nat → Option SV) (w : Nat → Int32) (dep : Int32) (kept : Nat → Int32) : Prop := RS c (rwr w 0) ∧ RHi nx dp rv w dep ∧ RSl rv w kept
