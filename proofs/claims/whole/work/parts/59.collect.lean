/-! notices -/
theorem gc_t {α : Type} {c : Prop} [Decidable c] {k : Option α} (h : c) : gc c k = k := if_pos h
def q1 (qu : Nat → Int32) : Nat → Int32 := va_cpy qu qu 1 0 19
theorem q1_eq (qu : Nat → Int32) {j : Nat} (h : j < 19) : q1 qu j = qu (j + 1) := by
  rw [q1, va_cpy, if_pos (by omega)]
  congr 1
  omega
theorem old_eq (qu : Nat → Int32) {n : Nat} (h1 : 1 ≤ n) (hn : n ≤ 20) : M_X2_removeOldest qu (nI n) = some (qu 0, q1 qu, nI (n - 1)) := by
  have e3 : (nI n - 1 : Int32) = nI (n - 1) := by rw [l1, pk_sub h1]
  rw [M_X2_removeOldest, gd_e (i := 0) 0 rfl (by decide) (by decide), gc_t (by decide), e3, if_neg (nI_pos (by omega))]
  rfl
def sh (w : Nat → Int32) (i : Nat) : Nat → Int32 := fun j => if 367 ≤ j ∧ j < 367 + i then w (j + 1) else w j
theorem tk_loop (w : Nat → Int32) {m : Nat} (hm : m ≤ 19) (hw : w 366 = nI m) (u : Int32) : ∀ (k i : Nat), i ≤ m → m - i < k → M_X5_takeNotice_L23 u k (nI i) (sh w i) = some (u, upd (sh w m) (367 + m) 0) := by
  intro k
  induction k with
  | zero => intro i h1 h2; omega
  | succ k ih =>
    intro i h1 h2
    have e : sh w i 366 = nI m := by rw [sh, if_neg (by omega)]; exact hw
    rw [M_X5_takeNotice_L23, l366, gd_in (by decide) (by decide), cl (by decide), e]
    by_cases hi : i = m
    · subst hi
      rw [if_pos (nI_le (Nat.le_refl _) (by omega)), gd_in (by decide) (by decide), l367, nI_add, gd_in (by omega) (by decide), cl (by omega)]
    · have hlt : i < m := by omega
      rw [if_neg (nI_ge hlt (by omega)), l367, nI_add, nI_1, nI_1, gd_in (by omega) (by decide), gd_in (by omega) (by decide), cl (by omega), cl (by omega)]
      have e2 : upd (sh w i) (367 + i) (sh w i (367 + i + 1)) = sh w (i + 1) := by
        funext j
        by_cases hj : j = 367 + i
        · subst hj
          rw [pk_us, sh, sh, if_neg (by omega), if_pos (by omega)]
        · rw [pk_un hj, sh, sh]
          by_cases h3 : 367 ≤ j ∧ j < 367 + i
          · rw [if_pos h3, if_pos (show 367 ≤ j ∧ j < 367 + (i + 1) by omega)]
          · rw [if_neg h3, if_neg (show ¬ (367 ≤ j ∧ j < 367 + (i + 1)) by omega)]
      rw [e2]
      exact ih (i + 1) (by omega) (by omega)
theorem tk_eq (w : Nat → Int32) {m : Nat} (hm : m ≤ 19) (hw : w 366 = nI (m + 1)) : M_X5_takeNotice 400 w = some (w 367, upd (sh (upd w 366 (nI m)) m) (367 + m) 0) := by
  have h := tk_loop (upd w 366 (nI m)) hm pk_us (w 367) 400 0 (by omega) (by omega)
  have e : sh (upd w 366 (nI m)) 0 = upd w 366 (nI m) := by funext j; rw [sh, if_neg (by omega)]
  rw [e] at h
  rw [M_X5_takeNotice, l367, l366, gd_in (by decide) (by decide), gd_in (by decide) (by decide), gd_in (by decide) (by decide), cl (by decide), cl (by decide), hw, l1, pk_sub (by omega), Nat.add_sub_cancel]
  exact h
theorem q_take {qu w : Nat → Int32} {n : Nat} (h1 : 1 ≤ n) (hn : n ≤ 20) (h2 : w 366 = nI n) (h3 : ∀ i, i < n → w (367 + i) = qu i) : ∃ w', M_X5_takeNotice 400 w = some (qu 0, w') ∧ RQu (q1 qu) (nI (n - 1)) w' ∧ ∀ j, (j < 366 ∨ 387 ≤ j) → w' j = w j := by
  have e := tk_eq w (m := n - 1) (by omega) (by rw [h2]; congr 1; omega)
  have e0 : w 367 = qu 0 := h3 0 (by omega)
  rw [e0] at e
  refine ⟨_, e, ⟨n - 1, by omega, rfl, ?_, fun i hi => ?_⟩, fun j hj => ?_⟩
  · rw [pk_un (by omega), sh, if_neg (by omega), pk_us]
  · rw [pk_un (by omega), sh, if_pos (by omega), pk_un (by omega), q1_eq qu (by omega), ← h3 (i + 1) (by omega)]
    rfl
  · rw [pk_un (by omega), sh, if_neg (by omega), pk_un (by omega)]
theorem nt_in {w : Nat → Int32} {n : Nat} (hn : n < 20) (h : w 366 = nI n) (v : Int32) : gd 366 3880 (gd (367 + (w (366 : Int32).toNatClampNeg)) 3880 (gd 366 3880 (gd 366 3880 (some (upd (upd w (367 + (w (366 : Int32).toNatClampNeg)).toNatClampNeg v) (366 : Int32).toNatClampNeg (((upd w (367 + (w (366 : Int32).toNatClampNeg)).toNatClampNeg v) (366 : Int32).toNatClampNeg) + 1)))))) = some (upd (upd w (367 + n) v) 366 (nI (n + 1))) := by
  rw [l366, l367, cl (by decide), h, nI_add, gd_in (by decide) (by decide), gd_in (by omega) (by decide), gd_in (by decide) (by decide), gd_in (by decide) (by decide), cl (by omega), pk_un (by omega), h, nI_1]
theorem q_issue {qu w : Nat → Int32} {nsz : Int32} (h : RQu qu nsz w) (v : Int32) : ∃ qu' nsz' w', M_X2_issue qu nsz v = some (qu', nsz') ∧ M_X5_notice 400 w v = some w' ∧ RQu qu' nsz' w' ∧ ∀ j, (j < 366 ∨ 387 ≤ j) → w' j = w j := by
  obtain ⟨n, hn, rfl, h2, h3⟩ := h
  have put : ∀ (qu w : Nat → Int32) (n : Nat), n < 20 → w 366 = nI n → (∀ i, i < n → w (367 + i) = qu i) → RQu (upd qu n v) (nI (n + 1)) (upd (upd w (367 + n) v) 366 (nI (n + 1))) := by
    intro qu w n hn h2 h3
    refine ⟨n + 1, by omega, rfl, pk_us, fun i hi => ?_⟩
    rw [pk_un (by omega)]
    by_cases e : i = n
    · subst e; rw [pk_us, pk_us]
    · rw [pk_un (by omega), pk_un e]; exact h3 i (by omega)
  by_cases h20 : n < 20
  · refine ⟨upd qu n v, nI (n + 1), upd (upd w (367 + n) v) 366 (nI (n + 1)), ?_, ?_, put qu w n h20 h2 h3, fun j hj => ?_⟩
    · rw [M_X2_issue, if_pos (show nI n < 20 from nI_lt (b := 20) h20 (by decide)), wA_in l20 h20 (by decide), Option.bind_some, if_neg i10, gd_in h20 (by decide), cl (by omega), nI_1]
    · rw [M_X5_notice, gd_e (i := 366) 366 rfl (by decide) (by decide), if_neg (show ¬ w (366 : Int32).toNatClampNeg = 20 from fun e => ?_)]
      · exact nt_in h20 h2 v
      · have e2 : nI n = 20 := h2.symm.trans e
        have := (nI_eq (b := 20) (by omega) (by decide)).mp e2
        omega
    · rw [pk_un (by omega), pk_un (by omega)]
  · have e20 : n = 20 := by omega
    subst e20
    obtain ⟨w1, t1, ⟨m, m0, m1, m2, m3⟩, t3⟩ := q_take (by decide) (by decide) h2 h3
    have em : 19 = m := (nI_eq (by decide) (by omega)).mp m1
    subst em
    refine ⟨upd (q1 qu) 19 v, nI (19 + 1), upd (upd w1 (367 + 19) v) 366 (nI (19 + 1)), ?_, ?_, put (q1 qu) w1 19 (by decide) m2 m3, fun j hj => ?_⟩
    · rw [M_X2_issue, if_neg (show ¬ nI 20 < 20 from nI_nlt (a := 20) (by decide) (by decide)), old_eq qu (by decide) (by decide), Option.bind_some]
      show (M_X4_within (nI 19) 20).bind _ = _
      rw [wA_in l20 (by decide) (by decide), Option.bind_some, if_neg i10]
      show gd (nI 19) 20 _ = _
      rw [gd_in (by decide) (by decide)]
      rfl
    · rw [M_X5_notice, gd_e (i := 366) 366 rfl (by decide) (by decide), if_pos (show w (366 : Int32).toNatClampNeg = 20 from h2), t1, Option.bind_some]
      exact nt_in (by decide) m2 v
    · rw [pk_un (by omega), pk_un (by omega)]; exact t3 j hj
theorem RS.que {ki fi ke va ta ro qu qu' w w' : Nat → Int32} {nsz nsz' fin rnd : Int32} (h : RS (pkS ki fi ke va ta ro qu nsz fin rnd) w) (hq : RQu qu' nsz' w') (hw : ∀ j, (j < 366 ∨ 387 ≤ j) → w' j = w j) : RS (pkS ki fi ke va ta ro qu' nsz' fin rnd) w' :=
  RS.of (fun y hy => (h.ro hy).cg rfl rfl (fun _ _ => rfl) (fun _ _ => ⟨rfl, rfl⟩) rfl (fun j hj => hw _ (by omega))) h.2.1.2 (h.2.2.2.2.2.1.cong fun j hj => hw _ (by omega)) hq ((hw _ (by omega)).trans h.2.2.2.2.2.2.2)
theorem step_pollNotice (ki : Nat → Int32) (fi : Nat → Int32) (ke : Nat → Int32) (va : Nat → Int32) (ta : Nat → Int32) (ro : Nat → Int32) (qu : Nat → Int32) (nsz : Int32) (fin : Int32) (rnd : Int32) (rd : Nat → Int32) (mkd : Int32) (lr : Int32) (un : Int32) (nx : Int32) (dp : Int32) (rv : Nat → Option SV) (w : Nat → Int32) (dep : Int32) (kept : Nat → Int32) (mark : Nat → Int32) (start : Nat → Int32) (h : Rel (pkS ki fi ke va ta ro qu nsz fin rnd) nx dp rv w dep kept) : ∃ (qa : Int32 × (Nat → Int32) × Int32 × Int32 × Int32 × (Nat → Option SV)) (qb : Int32 × (Nat → Int32) × Int32), M_X4_pollNotice ki fi ke va ta ro qu nsz fin rnd nx dp rv = some qa ∧ M_X5_pollNotice 400 w dep = some qb ∧ qa.1 = qb.1 ∧ Rel (pkS ki fi ke va ta ro qa.2.1 qa.2.2.1 fin rnd) qa.2.2.2.1 qa.2.2.2.2.1 qa.2.2.2.2.2 qb.2.1 qb.2.2 kept := by
  have hrs := h.rs
  obtain ⟨n, hn, hn1, hn2, hn3⟩ := hrs.2.2.2.2.2.2.1
  have hn1 : nsz = nI n := hn1
  subst hn1
  rw [M_X4_pollNotice, M_X5_pollNotice, gd_e (i := 366) 366 rfl (by decide) (by decide), show w (366 : Int32).toNatClampNeg = nI n from hn2]
  by_cases h0 : n = 0
  · subst h0
    rw [if_pos (show nI 0 = 0 from rfl), if_pos (show nI 0 = 0 from rfl)]
    exact ⟨_, _, rfl, rfl, rfl, h⟩
  · have e0 : ¬ nI n = 0 := fun e => by have := (nI_eq (b := 0) (by omega) (by decide)).mp e; omega
    obtain ⟨pa, pb, hpa, hpb, hh1, hh2, hrow⟩ := save_both h
    have hrs1 : RS (pkS ki fi ke va ta ro qu (nI n) fin rnd) pb.1 := hrs.cong (SVe.rfl' _) hrow
    obtain ⟨w', t1, t2, t3⟩ := q_take (qu := qu) (w := pb.1) (n := n) (by omega) hn (by rw [hrow _ (by decide)]; exact hn2) (fun i hi => by rw [hrow _ (by omega)]; exact hn3 i hi)
    rw [if_neg e0, if_neg e0, hpa, hpb, Option.bind_some, Option.bind_some, t1, Option.bind_some, old_eq qu (by omega) hn, Option.bind_some]
    refine ⟨_, _, rfl, rfl, rfl, ?_⟩
    dsimp only
    exact fw hh1 hh2 (fun j h1 h2 => t3 j (by omega)) (hrs1.que t2 t3)
