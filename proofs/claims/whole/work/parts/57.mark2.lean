/-! writes of roots, fields, counts -/
theorem fw {c' : SV} {nx' dp' : Int32} {rv' : Nat → Option SV} {w1 w2 : Nat → Int32} {dep' : Int32} {kept : Nat → Int32} (h1 : RHi nx' dp' rv' w1 dep') (h2 : RSl rv' w1 kept) (h3 : ∀ j, 776 ≤ j → j < 3880 → w2 j = w1 j) (h4 : RS c' w2) : Rel c' nx' dp' rv' w2 dep' kept :=
  Rel.mk h4 (h1.cong h3) (h2.cong h3)
theorem w_root {ki fi ke va ta ro qu : Nat → Int32} {nsz fin rnd nx dp : Int32} {rv : Nat → Option SV} {w : Nat → Int32} {dep : Int32} {kept : Nat → Int32} (h : Rel (pkS ki fi ke va ta ro qu nsz fin rnd) nx dp rv w dep kept) {r : Nat} (hr : r < 6) {v : Int32} (hv : okv v) : ∃ (qa : Int32 × (Nat → Int32) × Int32 × Int32 × (Nat → Option SV)) (qb : Int32 × (Nat → Int32) × Int32), (gd (nI r) 6 (if (ro (nI r).toNatClampNeg) = v then (some ((-2), ro, nx, dp, rv)) else ((M_X0_push rv nx dp (pkS ki fi ke va ta ro qu nsz fin rnd)).bind fun q9 => gd (nI r) 6 (some ((ro (nI r).toNatClampNeg), (upd ro (nI r).toNatClampNeg v), q9.2.1, q9.2.2, q9.1))))) = some qa ∧ ((M_X5_change 400 w dep (360 + nI r) v).bind fun q5 => some (q5.1, q5.2.1, q5.2.2)) = some qb ∧ qa.1 = qb.1 ∧ Rel (pkS ki fi ke va ta qa.2.1 qu nsz fin rnd) qa.2.2.1 qa.2.2.2.1 qa.2.2.2.2 qb.2.1 qb.2.2 kept := by
  obtain ⟨pa, pb, hpa, hpb, hh1, hh2, hrow⟩ := save_both h
  have hrs := h.rs
  have hw : w (360 + r) = ro r := (hrs.2.2.2.2.2.1 r hr).2
  rw [chg w dep v (p := 360 + nI r) (n := 360 + r) (by rw [l360, nI_add]) (by omega) hpb, hw, gd_in hr (by decide), cl (by omega), hpa, Option.bind_some, gd_in hr (by decide)]
  by_cases e : ro r = v
  · rw [if_pos e, if_pos e]
    exact ⟨_, _, rfl, rfl, rfl, h⟩
  · rw [if_neg e, if_neg e]
    refine ⟨_, _, rfl, rfl, rfl, ?_⟩
    dsimp only
    have hrs1 := hrs.cong (SVe.rfl' _) hrow
    exact fw hh1 hh2 (fun j h1 h2 => pk_un (by omega)) (hrs1.setRoot hr hv)
theorem w_field {ki fi ke va ta ro qu : Nat → Int32} {nsz fin rnd nx dp : Int32} {rv : Nat → Option SV} {w : Nat → Int32} {dep : Int32} {kept : Nat → Int32} (h : Rel (pkS ki fi ke va ta ro qu nsz fin rnd) nx dp rv w dep kept) {x f : Nat} (hx : x < 24) (hf : f < 3) (h0 : ki x = 0) {v : Int32} (hv : okv v) : ∃ (qa : Int32 × (Nat → Int32) × Int32 × Int32 × (Nat → Option SV)) (qb : Int32 × (Nat → Int32) × Int32), (gd ((nI x * 3) + nI f) 72 (if (fi ((nI x * 3) + nI f).toNatClampNeg) = v then (some ((-2), fi, nx, dp, rv)) else ((M_X0_push rv nx dp (pkS ki fi ke va ta ro qu nsz fin rnd)).bind fun q12 => gd ((nI x * 3) + nI f) 72 (some ((fi ((nI x * 3) + nI f).toNatClampNeg), (upd fi ((nI x * 3) + nI f).toNatClampNeg v), q12.2.1, q12.2.2, q12.1))))) = some qa ∧ ((M_X5_change 400 w dep (((15 * nI x) + 3) + nI f) v).bind fun q8 => some (q8.1, q8.2.1, q8.2.2)) = some qb ∧ qa.1 = qb.1 ∧ Rel (pkS ki qa.2.1 ke va ta ro qu nsz fin rnd) qa.2.2.1 qa.2.2.2.1 qa.2.2.2.2 qb.2.1 qb.2.2 kept := by
  obtain ⟨pa, pb, hpa, hpb, hh1, hh2, hrow⟩ := save_both h
  have hrs := h.rs
  have hw : w (15 * x + 3 + f) = fi (3 * x + f) := by
    have := (hrs.2.2.1 x hx).2 h0 f (by omega)
    rwa [if_pos hf] at this
  have e1 : (nI x * 3 + nI f : Int32) = nI (3 * x + f) := by rw [l3, pk_mul, nI_add, Nat.mul_comm]
  rw [chg w dep v (p := 15 * nI x + 3 + nI f) (n := 15 * x + 3 + f) (by rw [l15, l3, pk_mul, nI_add, nI_add]) (by omega) hpb, hw, e1, gd_in (by omega) (by decide), cl (by omega), hpa, Option.bind_some, gd_in (by omega) (by decide)]
  by_cases e : fi (3 * x + f) = v
  · rw [if_pos e, if_pos e]
    exact ⟨_, _, rfl, rfl, rfl, h⟩
  · rw [if_neg e, if_neg e]
    refine ⟨_, _, rfl, rfl, rfl, ?_⟩
    dsimp only
    have hrs1 := hrs.cong (SVe.rfl' _) hrow
    exact fw hh1 hh2 (fun j h1 h2 => pk_un (by omega)) (hrs1.setField hx hf h0 hv)
theorem oc_loop {ki w : Nat → Int32} (h : RKi ki w) : ∀ (k i : Nat), i ≤ 24 → 24 - i < k → M_X5_objectCount_L4 w k (nI (fb_ct (fun x => decide (ki x ≠ -9)) i)) (nI i) = some (nI (fb_ct (fun x => decide (ki x ≠ -9)) 24)) := by
  intro k
  induction k with
  | zero => intro i h1 h2; omega
  | succ k ih =>
    intro i h1 h2
    rw [M_X5_objectCount_L4]
    by_cases hi : i = 24
    · subst hi
      rw [if_pos (show (24 : Int32) ≤ nI 24 from nI_le (Nat.le_refl _) (by decide))]
    · have hlt : i < 24 := by omega
      have := ih (i + 1) (by omega) (by omega)
      rw [fb_ct_succ] at this
      rw [if_neg (show ¬ (24 : Int32) ≤ nI i from nI_ge hlt (by decide)), bAl_in w hlt, (h i hlt).1, Option.bind_some, nI_1]
      by_cases h9 : ki i = -9
      · rw [if_pos h9, if_pos rfl, l0, nI_add]
        simpa [h9] using this
      · rw [if_neg h9, if_neg i10, nI_1]
        simpa [h9] using this
theorem oc_eq {ki w : Nat → Int32} (h : RKi ki w) : M_X5_objectCount 400 w = some (nI (fb_ct (fun x => decide (ki x ≠ -9)) 24)) := oc_loop h 400 0 (by omega) (by omega)
theorem oc_both {ki w : Nat → Int32} (h : RKi ki w) : ∃ q r, M_X3_allocated 400 ki = some q ∧ M_J6_bitCount_0f7a4 q = some r ∧ M_X5_objectCount 400 w = some r := by
  obtain ⟨q, h1, h2⟩ := al_eq ki
  refine ⟨q, _, h1, bc_ct q fun i hi => ?_, ?_⟩
  · cases hb : bit q i
    · rfl
    · have := ((h2 i).mp hb).1; omega
  · rw [oc_eq h]
    congr 2
    apply fb_ct_cong
    intro i hi
    by_cases h9 : ki i = -9
    · rw [show decide (ki i ≠ -9) = false by simp [h9]]
      cases hb : bit q i
      · rfl
      · exact absurd h9 ((h2 i).mp hb).2
    · rw [(h2 i).mpr ⟨hi, h9⟩]; simp [h9]
theorem step_kind (ki : Nat → Int32) (fi : Nat → Int32) (ke : Nat → Int32) (va : Nat → Int32) (ta : Nat → Int32) (ro : Nat → Int32) (qu : Nat → Int32) (nsz : Int32) (fin : Int32) (rnd : Int32) (rd : Nat → Int32) (mkd : Int32) (lr : Int32) (un : Int32) (nx : Int32) (dp : Int32) (rv : Nat → Option SV) (w : Nat → Int32) (dep : Int32) (kept : Nat → Int32) (mark : Nat → Int32) (start : Nat → Int32) (p1 : Int32) (h : Rel (pkS ki fi ke va ta ro qu nsz fin rnd) nx dp rv w dep kept) : ∃ (qa : Int32) (qb : Int32), M_X4_kind ki p1 = some qa ∧ M_X5_kind w p1 = some qb ∧ qa = qb ∧ Rel (pkS ki fi ke va ta ro qu nsz fin rnd) nx dp rv w dep kept := by
  obtain ⟨r, h1, h2⟩ := q_kind h.rs.1 p1
  exact ⟨r, r, h1, h2, rfl, h⟩
theorem step_field (ki : Nat → Int32) (fi : Nat → Int32) (ke : Nat → Int32) (va : Nat → Int32) (ta : Nat → Int32) (ro : Nat → Int32) (qu : Nat → Int32) (nsz : Int32) (fin : Int32) (rnd : Int32) (rd : Nat → Int32) (mkd : Int32) (lr : Int32) (un : Int32) (nx : Int32) (dp : Int32) (rv : Nat → Option SV) (w : Nat → Int32) (dep : Int32) (kept : Nat → Int32) (mark : Nat → Int32) (start : Nat → Int32) (p1 : Int32) (p2 : Int32) (h : Rel (pkS ki fi ke va ta ro qu nsz fin rnd) nx dp rv w dep kept) : ∃ (qa : Int32) (qb : Int32), M_X4_field ki fi p1 p2 = some qa ∧ M_X5_field w p1 p2 = some qb ∧ qa = qb ∧ Rel (pkS ki fi ke va ta ro qu nsz fin rnd) nx dp rv w dep kept := by
  obtain ⟨r, h1, h2⟩ := q_field h.rs.1 h.rs.2.2.1 p1 p2
  exact ⟨r, r, h1, h2, rfl, h⟩
theorem step_root (ki : Nat → Int32) (fi : Nat → Int32) (ke : Nat → Int32) (va : Nat → Int32) (ta : Nat → Int32) (ro : Nat → Int32) (qu : Nat → Int32) (nsz : Int32) (fin : Int32) (rnd : Int32) (rd : Nat → Int32) (mkd : Int32) (lr : Int32) (un : Int32) (nx : Int32) (dp : Int32) (rv : Nat → Option SV) (w : Nat → Int32) (dep : Int32) (kept : Nat → Int32) (mark : Nat → Int32) (start : Nat → Int32) (p1 : Int32) (h : Rel (pkS ki fi ke va ta ro qu nsz fin rnd) nx dp rv w dep kept) : ∃ (qa : Int32) (qb : Int32), M_X4_root ro p1 = some qa ∧ M_X5_root w p1 = some qb ∧ qa = qb ∧ Rel (pkS ki fi ke va ta ro qu nsz fin rnd) nx dp rv w dep kept := by
  obtain ⟨r, h1, h2⟩ := q_root h.rs.2.2.2.2.2.1 p1
  exact ⟨r, r, h1, h2, rfl, h⟩
theorem step_target (ki : Nat → Int32) (fi : Nat → Int32) (ke : Nat → Int32) (va : Nat → Int32) (ta : Nat → Int32) (ro : Nat → Int32) (qu : Nat → Int32) (nsz : Int32) (fin : Int32) (rnd : Int32) (rd : Nat → Int32) (mkd : Int32) (lr : Int32) (un : Int32) (nx : Int32) (dp : Int32) (rv : Nat → Option SV) (w : Nat → Int32) (dep : Int32) (kept : Nat → Int32) (mark : Nat → Int32) (start : Nat → Int32) (p1 : Int32) (h : Rel (pkS ki fi ke va ta ro qu nsz fin rnd) nx dp rv w dep kept) : ∃ (qa : Int32) (qb : Int32), M_X4_target ki ta p1 = some qa ∧ M_X5_target w p1 = some qb ∧ qa = qb ∧ Rel (pkS ki fi ke va ta ro qu nsz fin rnd) nx dp rv w dep kept := by
  obtain ⟨r, h1, h2⟩ := q_target h.rs.1 h.rs.2.2.2.2.1 p1
  exact ⟨r, r, h1, h2, rfl, h⟩
theorem step_get (ki : Nat → Int32) (fi : Nat → Int32) (ke : Nat → Int32) (va : Nat → Int32) (ta : Nat → Int32) (ro : Nat → Int32) (qu : Nat → Int32) (nsz : Int32) (fin : Int32) (rnd : Int32) (rd : Nat → Int32) (mkd : Int32) (lr : Int32) (un : Int32) (nx : Int32) (dp : Int32) (rv : Nat → Option SV) (w : Nat → Int32) (dep : Int32) (kept : Nat → Int32) (mark : Nat → Int32) (start : Nat → Int32) (p1 : Int32) (p2 : Int32) (h : Rel (pkS ki fi ke va ta ro qu nsz fin rnd) nx dp rv w dep kept) : ∃ (qa : Int32) (qb : Int32), M_X4_get 400 ki ke va p1 p2 = some qa ∧ M_X5_get 400 w p1 p2 = some qb ∧ qa = qb ∧ Rel (pkS ki fi ke va ta ro qu nsz fin rnd) nx dp rv w dep kept := by
  obtain ⟨r, h1, h2⟩ := q_get h.rs.1 h.rs.2.2.2.1 p1 p2
  exact ⟨r, r, h1, h2, rfl, h⟩
theorem step_entryCount (ki : Nat → Int32) (fi : Nat → Int32) (ke : Nat → Int32) (va : Nat → Int32) (ta : Nat → Int32) (ro : Nat → Int32) (qu : Nat → Int32) (nsz : Int32) (fin : Int32) (rnd : Int32) (rd : Nat → Int32) (mkd : Int32) (lr : Int32) (un : Int32) (nx : Int32) (dp : Int32) (rv : Nat → Option SV) (w : Nat → Int32) (dep : Int32) (kept : Nat → Int32) (mark : Nat → Int32) (start : Nat → Int32) (p1 : Int32) (h : Rel (pkS ki fi ke va ta ro qu nsz fin rnd) nx dp rv w dep kept) : ∃ (qa : Int32) (qb : Int32), M_X4_entryCount 400 ki ke p1 = some qa ∧ M_X5_entryCount w p1 = some qb ∧ qa = qb ∧ Rel (pkS ki fi ke va ta ro qu nsz fin rnd) nx dp rv w dep kept := by
  obtain ⟨r, h1, h2⟩ := q_entryCount h.rs.1 h.rs.2.2.2.1 p1
  exact ⟨r, r, h1, h2, rfl, h⟩
theorem step_entryKey (ki : Nat → Int32) (fi : Nat → Int32) (ke : Nat → Int32) (va : Nat → Int32) (ta : Nat → Int32) (ro : Nat → Int32) (qu : Nat → Int32) (nsz : Int32) (fin : Int32) (rnd : Int32) (rd : Nat → Int32) (mkd : Int32) (lr : Int32) (un : Int32) (nx : Int32) (dp : Int32) (rv : Nat → Option SV) (w : Nat → Int32) (dep : Int32) (kept : Nat → Int32) (mark : Nat → Int32) (start : Nat → Int32) (p1 : Int32) (p2 : Int32) (h : Rel (pkS ki fi ke va ta ro qu nsz fin rnd) nx dp rv w dep kept) : ∃ (qa : Int32) (qb : Int32), M_X4_entryKey ki ke p1 p2 = some qa ∧ M_X5_entryKey w p1 p2 = some qb ∧ qa = qb ∧ Rel (pkS ki fi ke va ta ro qu nsz fin rnd) nx dp rv w dep kept := by
  obtain ⟨r, h1, h2⟩ := q_entryKey h.rs.1 h.rs.2.2.2.1 p1 p2
  exact ⟨r, r, h1, h2, rfl, h⟩
theorem step_lastRounds (ki : Nat → Int32) (fi : Nat → Int32) (ke : Nat → Int32) (va : Nat → Int32) (ta : Nat → Int32) (ro : Nat → Int32) (qu : Nat → Int32) (nsz : Int32) (fin : Int32) (rnd : Int32) (rd : Nat → Int32) (mkd : Int32) (lr : Int32) (un : Int32) (nx : Int32) (dp : Int32) (rv : Nat → Option SV) (w : Nat → Int32) (dep : Int32) (kept : Nat → Int32) (mark : Nat → Int32) (start : Nat → Int32) (h : Rel (pkS ki fi ke va ta ro qu nsz fin rnd) nx dp rv w dep kept) : ∃ (qa : Int32) (qb : Int32), M_X4_lastRounds rnd = some qa ∧ M_X5_lastRounds w = some qb ∧ qa = qb ∧ Rel (pkS ki fi ke va ta ro qu nsz fin rnd) nx dp rv w dep kept := by
  exact ⟨rnd, rnd, rfl, q_lastRounds h.rs.2.2.2.2.2.2.2, rfl, h⟩
theorem step_noticeCount (ki : Nat → Int32) (fi : Nat → Int32) (ke : Nat → Int32) (va : Nat → Int32) (ta : Nat → Int32) (ro : Nat → Int32) (qu : Nat → Int32) (nsz : Int32) (fin : Int32) (rnd : Int32) (rd : Nat → Int32) (mkd : Int32) (lr : Int32) (un : Int32) (nx : Int32) (dp : Int32) (rv : Nat → Option SV) (w : Nat → Int32) (dep : Int32) (kept : Nat → Int32) (mark : Nat → Int32) (start : Nat → Int32) (h : Rel (pkS ki fi ke va ta ro qu nsz fin rnd) nx dp rv w dep kept) : ∃ (qa : Int32) (qb : Int32), M_X4_noticeCount nsz = some qa ∧ M_X5_noticeCount w = some qb ∧ qa = qb ∧ Rel (pkS ki fi ke va ta ro qu nsz fin rnd) nx dp rv w dep kept := by
  exact ⟨nsz, nsz, rfl, q_noticeCount h.rs.2.2.2.2.2.2.1, rfl, h⟩
theorem step_undoDepth (ki : Nat → Int32) (fi : Nat → Int32) (ke : Nat → Int32) (va : Nat → Int32) (ta : Nat → Int32) (ro : Nat → Int32) (qu : Nat → Int32) (nsz : Int32) (fin : Int32) (rnd : Int32) (rd : Nat → Int32) (mkd : Int32) (lr : Int32) (un : Int32) (nx : Int32) (dp : Int32) (rv : Nat → Option SV) (w : Nat → Int32) (dep : Int32) (kept : Nat → Int32) (mark : Nat → Int32) (start : Nat → Int32) (h : Rel (pkS ki fi ke va ta ro qu nsz fin rnd) nx dp rv w dep kept) : ∃ (qa : Int32) (qb : Int32), M_X4_undoDepth dp = some qa ∧ M_X5_undoDepth dep = some qb ∧ qa = qb ∧ Rel (pkS ki fi ke va ta ro qu nsz fin rnd) nx dp rv w dep kept := by
  obtain ⟨n, d, _, _, _, e1, e2, _⟩ := h.2.1
  exact ⟨dp, dep, rfl, rfl, e1.trans e2.symm, h⟩
theorem step_allocate (ki : Nat → Int32) (fi : Nat → Int32) (ke : Nat → Int32) (va : Nat → Int32) (ta : Nat → Int32) (ro : Nat → Int32) (qu : Nat → Int32) (nsz : Int32) (fin : Int32) (rnd : Int32) (rd : Nat → Int32) (mkd : Int32) (lr : Int32) (un : Int32) (nx : Int32) (dp : Int32) (rv : Nat → Option SV) (w : Nat → Int32) (dep : Int32) (kept : Nat → Int32) (mark : Nat → Int32) (start : Nat → Int32) (h : Rel (pkS ki fi ke va ta ro qu nsz fin rnd) nx dp rv w dep kept) : ∃ (qa : Int32 × (Nat → Int32) × (Nat → Int32) × Int32 × Int32 × (Nat → Option SV)) (qb : Int32 × (Nat → Int32) × Int32), M_X4_allocate 400 ki fi ke va ta ro qu nsz fin rnd nx dp rv = some qa ∧ M_X5_allocate 400 w dep = some qb ∧ qa.1 = qb.1 ∧ Rel (pkS qa.2.1 fi ke va qa.2.2.1 ro qu nsz fin rnd) qa.2.2.2.1 qa.2.2.2.2.1 qa.2.2.2.2.2 qb.2.1 qb.2.2 kept := by
  obtain ⟨qa, qb, h1, h2, h3, h4⟩ := m_make h (k := 0) (v := -9) (Or.inl ⟨Or.inl rfl, rfl⟩)
  exact ⟨qa, qb, by rw [M_X4_allocate, h1]; rfl, by rw [M_X5_allocate, h2]; rfl, h3, h4⟩
theorem step_allocateTable (ki : Nat → Int32) (fi : Nat → Int32) (ke : Nat → Int32) (va : Nat → Int32) (ta : Nat → Int32) (ro : Nat → Int32) (qu : Nat → Int32) (nsz : Int32) (fin : Int32) (rnd : Int32) (rd : Nat → Int32) (mkd : Int32) (lr : Int32) (un : Int32) (nx : Int32) (dp : Int32) (rv : Nat → Option SV) (w : Nat → Int32) (dep : Int32) (kept : Nat → Int32) (mark : Nat → Int32) (start : Nat → Int32) (h : Rel (pkS ki fi ke va ta ro qu nsz fin rnd) nx dp rv w dep kept) : ∃ (qa : Int32 × (Nat → Int32) × (Nat → Int32) × Int32 × Int32 × (Nat → Option SV)) (qb : Int32 × (Nat → Int32) × Int32), M_X4_allocateTable 400 ki fi ke va ta ro qu nsz fin rnd nx dp rv = some qa ∧ M_X5_allocateTable 400 w dep = some qb ∧ qa.1 = qb.1 ∧ Rel (pkS qa.2.1 fi ke va qa.2.2.1 ro qu nsz fin rnd) qa.2.2.2.1 qa.2.2.2.2.1 qa.2.2.2.2.2 qb.2.1 qb.2.2 kept := by
  obtain ⟨qa, qb, h1, h2, h3, h4⟩ := m_make h (k := 1) (v := -9) (Or.inl ⟨Or.inr rfl, rfl⟩)
  exact ⟨qa, qb, by rw [M_X4_allocateTable, h1]; rfl, by rw [M_X5_allocateTable, h2]; rfl, h3, h4⟩
theorem step_allocateWeak (ki : Nat → Int32) (fi : Nat → Int32) (ke : Nat → Int32) (va : Nat → Int32) (ta : Nat → Int32) (ro : Nat → Int32) (qu : Nat → Int32) (nsz : Int32) (fin : Int32) (rnd : Int32) (rd : Nat → Int32) (mkd : Int32) (lr : Int32) (un : Int32) (nx : Int32) (dp : Int32) (rv : Nat → Option SV) (w : Nat → Int32) (dep : Int32) (kept : Nat → Int32) (mark : Nat → Int32) (start : Nat → Int32) (p1 : Int32) (h : Rel (pkS ki fi ke va ta ro qu nsz fin rnd) nx dp rv w dep kept) : ∃ (qa : Int32 × (Nat → Int32) × (Nat → Int32) × Int32 × Int32 × (Nat → Option SV)) (qb : Int32 × (Nat → Int32) × Int32), M_X4_allocateWeak 400 ki fi ke va ta ro qu nsz fin rnd nx dp rv p1 = some qa ∧ M_X5_allocateWeak 400 w dep p1 = some qb ∧ qa.1 = qb.1 ∧ Rel (pkS qa.2.1 fi ke va qa.2.2.1 ro qu nsz fin rnd) qa.2.2.2.1 qa.2.2.2.2.1 qa.2.2.2.2.2 qb.2.1 qb.2.2 kept := by
  have hki : RKi ki w := h.rs.1
  rw [M_X4_allocateWeak, M_X5_allocateWeak]
  rcases cls p1 (n := 24) (by decide) with ho | ⟨j, hj, rfl⟩
  · rw [aAl_out ki ho, bAl_out w ho]
    exact ⟨_, _, rfl, rfl, rfl, h⟩
  · rw [aAl_in ki hj, bAl_in w hj, (hki j hj).1, Option.bind_some, Option.bind_some]
    by_cases h9 : ki j = -9
    · rw [if_pos h9]
      exact ⟨_, _, rfl, rfl, rfl, h⟩
    · rw [if_neg h9, if_neg i10, if_neg i10]
      obtain ⟨qa, qb, h1, h2, h3, h4⟩ := m_make h (k := 2) (v := nI j) (Or.inr ⟨rfl, okv_in hj rfl⟩)
      exact ⟨qa, qb, by rw [h1]; rfl, by rw [h2]; rfl, h3, h4⟩
theorem step_setRoot (ki : Nat → Int32) (fi : Nat → Int32) (ke : Nat → Int32) (va : Nat → Int32) (ta : Nat → Int32) (ro : Nat → Int32) (qu : Nat → Int32) (nsz : Int32) (fin : Int32) (rnd : Int32) (rd : Nat → Int32) (mkd : Int32) (lr : Int32) (un : Int32) (nx : Int32) (dp : Int32) (rv : Nat → Option SV) (w : Nat → Int32) (dep : Int32) (kept : Nat → Int32) (mark : Nat → Int32) (start : Nat → Int32) (p1 : Int32) (p2 : Int32) (h : Rel (pkS ki fi ke va ta ro qu nsz fin rnd) nx dp rv w dep kept) : ∃ (qa : Int32 × (Nat → Int32) × Int32 × Int32 × (Nat → Option SV)) (qb : Int32 × (Nat → Int32) × Int32), M_X4_setRoot ki fi ke va ta ro qu nsz fin rnd nx dp rv p1 p2 = some qa ∧ M_X5_setRoot 400 w dep p1 p2 = some qb ∧ qa.1 = qb.1 ∧ Rel (pkS ki fi ke va ta qa.2.1 qu nsz fin rnd) qa.2.2.1 qa.2.2.2.1 qa.2.2.2.2 qb.2.1 qb.2.2 kept := by
  have hki : RKi ki w := h.rs.1
  rw [M_X4_setRoot, M_X5_setRoot]
  rcases cls p1 (n := 6) (by decide) with ho | ⟨r, hr, rfl⟩
  · rw [wA_out l6 ho, wB_out l5 (by decide) ho]
    exact ⟨_, _, rfl, rfl, rfl, h⟩
  · rw [wA_in l6 hr (by decide), wB_in l5 (by omega) (by decide), Option.bind_some, Option.bind_some, if_neg i10, if_neg i10]
    rcases content ki w hki p2 with ⟨e, c1⟩ | ⟨j, hj, e, e9, c1, c2⟩ | ⟨e9, c1, c2⟩
    · rw [c1, Option.bind_some, if_neg i10, if_pos e]
      exact w_root h hr (Or.inl e)
    · rw [c1, c2, Option.bind_some, Option.bind_some, if_neg e9]
      by_cases h9 : ki j = -9
      · rw [if_pos h9]
        exact ⟨_, _, rfl, rfl, rfl, h⟩
      · rw [if_neg h9, if_neg i10, if_neg i10]
        exact w_root h hr (okv_in hj e)
    · rw [c1, c2, if_neg e9]
      exact ⟨_, _, rfl, rfl, rfl, h⟩
theorem step_setField (ki : Nat → Int32) (fi : Nat → Int32) (ke : Nat → Int32) (va : Nat → Int32) (ta : Nat → Int32) (ro : Nat → Int32) (qu : Nat → Int32) (nsz : Int32) (fin : Int32) (rnd : Int32) (rd : Nat → Int32) (mkd : Int32) (lr : Int32) (un : Int32) (nx : Int32) (dp : Int32) (rv : Nat → Option SV) (w : Nat → Int32) (dep : Int32) (kept : Nat → Int32) (mark : Nat → Int32) (start : Nat → Int32) (p1 : Int32) (p2 : Int32) (p3 : Int32) (h : Rel (pkS ki fi ke va ta ro qu nsz fin rnd) nx dp rv w dep kept) : ∃ (qa : Int32 × (Nat → Int32) × Int32 × Int32 × (Nat → Option SV)) (qb : Int32 × (Nat → Int32) × Int32), M_X4_setField ki fi ke va ta ro qu nsz fin rnd nx dp rv p1 p2 p3 = some qa ∧ M_X5_setField 400 w dep p1 p2 p3 = some qb ∧ qa.1 = qb.1 ∧ Rel (pkS ki qa.2.1 ke va ta ro qu nsz fin rnd) qa.2.2.1 qa.2.2.2.1 qa.2.2.2.2 qb.2.1 qb.2.2 kept := by
  have hki : RKi ki w := h.rs.1
  rw [M_X4_setField, M_X5_setField]
  rcases cls p1 (n := 24) (by decide) with ho | ⟨x, hx, rfl⟩
  · rw [aKd_out ki ho, bKd_out w ho]
    exact ⟨_, _, rfl, rfl, rfl, h⟩
  · rw [aKd_in ki hx, bKd_in w hx (by decide), (hki x hx).1, Option.bind_some, Option.bind_some]
    by_cases h0 : ki x = 0
    · rw [if_pos h0, if_neg i10, if_neg i10]
      rcases cls p2 (n := 3) (by decide) with ho | ⟨f, hf, rfl⟩
      · rw [wA_out l3 ho, wB_out l2 (by decide) ho]
        exact ⟨_, _, rfl, rfl, rfl, h⟩
      · rw [wA_in l3 hf (by decide), wB_in l2 (by omega) (by decide), Option.bind_some, Option.bind_some, if_neg i10, if_neg i10]
        rcases content ki w hki p3 with ⟨e, c1⟩ | ⟨j, hj, e, e9, c1, c2⟩ | ⟨e9, c1, c2⟩
        · rw [c1, Option.bind_some, if_neg i10, if_pos e]
          exact w_field h hx hf h0 (Or.inl e)
        · rw [c1, c2, Option.bind_some, Option.bind_some, if_neg e9]
          by_cases h9 : ki j = -9
          · rw [if_pos h9]
            exact ⟨_, _, rfl, rfl, rfl, h⟩
          · rw [if_neg h9, if_neg i10, if_neg i10]
            exact w_field h hx hf h0 (okv_in hj e)
        · rw [c1, c2, if_neg e9]
          exact ⟨_, _, rfl, rfl, rfl, h⟩
    · rw [if_neg h0]
      exact ⟨_, _, rfl, rfl, rfl, h⟩
theorem step_objectCount (ki : Nat → Int32) (fi : Nat → Int32) (ke : Nat → Int32) (va : Nat → Int32) (ta : Nat → Int32) (ro : Nat → Int32) (qu : Nat → Int32) (nsz : Int32) (fin : Int32) (rnd : Int32) (rd : Nat → Int32) (mkd : Int32) (lr : Int32) (un : Int32) (nx : Int32) (dp : Int32) (rv : Nat → Option SV) (w : Nat → Int32) (dep : Int32) (kept : Nat → Int32) (mark : Nat → Int32) (start : Nat → Int32) (h : Rel (pkS ki fi ke va ta ro qu nsz fin rnd) nx dp rv w dep kept) : ∃ (qa : Int32) (qb : Int32), M_X4_objectCount 400 ki = some qa ∧ M_X5_objectCount 400 w = some qb ∧ qa = qb ∧ Rel (pkS ki fi ke va ta ro qu nsz fin rnd) nx dp rv w dep kept := by
  obtain ⟨q, r, h1, h2, h3⟩ := oc_both (ki := ki) h.rs.1
  exact ⟨r, r, by rw [M_X4_objectCount, h1, Option.bind_some, h2]; rfl, h3, rfl, h⟩
