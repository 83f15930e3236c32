/-! saved states: the pool. R i: where the i-th saved state lies and what it holds (0 to 5: the ring, 6 and 7: the slots) -/
abbrev SV : Type := (Nat → Nat → Int32) × (Nat → Int32)
abbrev SP : Type := Nat → Option ((Nat → Nat) × SV)
abbrev wSV (c : ClassId) (a : Nat → Nat) (v : SV) : va_W := wST c a (v.1 0) (v.1 1) (v.1 2) (v.1 3) (v.1 4) (v.1 5) (v.1 6) (v.2 0) (v.2 1) (v.2 2)
def o2l (c : ClassId) (z : Option ((Nat → Nat) × SV)) : va_W := match z with
  | none => []
  | some z => wSV c z.1 z.2
def fl (c : ClassId) (R : SP) : Nat → va_W
  | 0 => []
  | n + 1 => o2l c (R n) ++ fl c R n
def vals (R : SP) : Nat → Option SV := fun i => (R i).map Prod.snd
def rg (R : SP) : Nat → Option Nat := fun i => (R i).map (fun z => z.1 0)
def sg (R : SP) : Nat → Option Nat := fun i => (R (6 + i)).map (fun z => z.1 0)
theorem fl_out {c : ClassId} {R R' : SP} : ∀ n, (∀ i, i < n → R i = R' i) → fl c R n = fl c R' n
  | 0, _ => rfl
  | n + 1, h => by
    show o2l c (R n) ++ fl c R n = o2l c (R' n) ++ fl c R' n
    rw [h n (Nat.lt_succ_self n), fl_out n (fun i hi => h i (Nat.lt_succ_of_lt hi))]
theorem up_self {α : Type} (f : Nat → α) (k : Nat) (v : α) : va_up f k v k = v := if_pos rfl
theorem up_ne {α : Type} (f : Nat → α) {k j : Nat} (v : α) (h : j ≠ k) : va_up f k v j = f j := if_neg h
theorem fl_perm {c : ClassId} {R : SP} {i : Nat} : ∀ n, i < n → (fl c R n).Perm (o2l c (R i) ++ fl c (va_up R i none) n)
  | 0, h => absurd h (Nat.not_lt_zero i)
  | n + 1, h => by
    show (o2l c (R n) ++ fl c R n).Perm (o2l c (R i) ++ (o2l c (va_up R i none n) ++ fl c (va_up R i none) n))
    by_cases hi : i = n
    · subst hi
      rw [up_self, fl_out (R := va_up R i none) (R' := R) i (fun j hj => up_ne R none (Nat.ne_of_lt hj))]
      exact List.Perm.refl _
    · have hlt : i < n := by omega
      rw [up_ne R none (Ne.symm hi)]
      have h1 := List.Perm.append_left (o2l c (R n)) (fl_perm (c := c) (R := R) n hlt)
      refine h1.trans ?_
      rw [← List.append_assoc, ← List.append_assoc]
      exact List.Perm.append_right _ List.perm_append_comm
theorem vP_mem {D : va_G} {cl : List vw_C} {ws : va_W} {H : Heap} : va_P D cl ws H ↔ ∀ q ∈ ws, va_at D cl q H := by
  constructor
  · intro h q hq
    obtain ⟨i, hi⟩ := List.getElem?_of_mem hq
    exact h i q hi
  · intro h k q hk
    exact h q (List.mem_of_getElem? hk)
theorem vP_perm {D : va_G} {cl : List vw_C} {ws ws' : va_W} {H : Heap} (hp : ws.Perm ws') (h : va_P D cl ws H) : va_P D cl ws' H :=
  vP_mem.mpr fun q hq => vP_mem.mp h q (hp.mem_iff.mpr hq)
theorem vD_iff {A : Nat → Prop} {ws : va_W} : va_D A ws ↔ (ws.map (fun q => q.1)).Nodup ∧ ∀ q ∈ ws, A q.1 := by
  constructor
  · intro h
    refine ⟨?_, fun q hq => ?_⟩
    · rw [List.Nodup, List.pairwise_iff_getElem]
      intro i j hi hj hij e
      simp only [List.length_map] at hi hj
      simp only [List.getElem_map] at e
      have := h.1 i j ws[i] ws[j] (List.getElem?_eq_getElem hi) (List.getElem?_eq_getElem hj) e
      omega
    · obtain ⟨i, hi⟩ := List.getElem?_of_mem hq
      exact h.2 i q hi
  · intro h
    refine ⟨fun i j p q hi hj e => ?_, fun k q hk => h.2 q (List.mem_of_getElem? hk)⟩
    obtain ⟨li, ei⟩ := List.getElem?_eq_some_iff.mp hi
    obtain ⟨lj, ej⟩ := List.getElem?_eq_some_iff.mp hj
    have hn := h.1
    rw [List.Nodup, List.pairwise_iff_getElem] at hn
    rcases Nat.lt_trichotomy i j with hlt | heq | hgt
    · have := hn i j (by simpa using li) (by simpa using lj) hlt
      simp only [List.getElem_map, ei, ej] at this
      exact absurd e this
    · exact heq
    · have := hn j i (by simpa using lj) (by simpa using li) hgt
      simp only [List.getElem_map, ei, ej] at this
      exact absurd e.symm this
theorem vD_perm {A : Nat → Prop} {ws ws' : va_W} (hp : ws.Perm ws') (h : va_D A ws) : va_D A ws' := by
  rw [vD_iff] at h ⊢
  exact ⟨(hp.map _).nodup_iff.mp h.1, fun q hq => h.2 q (hp.mem_iff.mpr hq)⟩
section KQ
variable {p : Program} {l : Launch} {e : Env} {R : Room} {s : State} {m : MethodId} {args : Array Value} {below : List Frame} {meth : Method} {c : Code} {H : Heap} {locs : List Loc} {cells slots : Nat} {Q : State → Prop}
variable {cc : ByteArray} {pc nL : Nat} {ls : Array Slot} {rest st : List Value} {G : GG} {A : Nat → Prop} {H0 : Heap} {mc ms : Nat} {X X' cx wo wr pl pl1 : va_W}
theorem kq_F (hD : va_D A (X ++ pl)) (hS : va_S A H0 H locs) (hA : ∀ q, H0.size ≤ q → A q) (isC : List Nat) (hC : isC.map (fun i => X[i]?) = cx.map some) : ∀ q, va_A cx H.size q → A q := by
  intro q h
  rcases h with ⟨k, e, h⟩ | h
  · obtain ⟨i, h1, h2⟩ := va_in_of isC hC h
    exact hD.2 i (q, e) (by rw [List.getElem?_append_left (List.getElem?_eq_some_iff.mp h2).1]; exact h2)
  · exact hA q (Nat.le_trans hS.1 h)
/-- the callee gets some of the fixed cells, none of the pool -/
theorem kq_i {r : Int32} {a : Array Value} (hr : va_Run p l e R s m args below meth c H locs cells slots mc ms (F0 m pc ls st) rest (QI G (va_A cx H.size) r wo a) (va_A cx H.size)) (hP : va_P G.1 vwCl (X ++ pl) H) (hD : va_D A (X ++ pl)) (hS : va_S A H0 H locs) (hA : ∀ q, H0.size ≤ q → A q)
    (isC isR isN : List Nat) (hC : isC.map (fun i => X[i]?) = cx.map some) (hR : isR.map (fun i => X[i]?) = wr.map some) (hn : va_nd isR = true) (hdis : ∀ i ∈ isR, i ∉ isC) (hN : isN.map (fun i => (wr ++ wo)[i]?) = X'.map some) (hnN : va_nd isN = true)
    (kk : ∀ (H1 : Heap) (locs1 : List Loc), va_P G.1 vwCl (X' ++ pl) H1 → va_D A (X' ++ pl) → va_S A H0 H1 locs1 → W p l e R s m args below meth c H1 locs1 (cells + mc) (slots + ms) Q (F0 m (pc + 3) ls (.int r :: rest))) : W p l e R s m args below meth c H locs cells slots Q (F0 m pc ls st) := by
  have hF := kq_F hD hS hA isC hC
  refine va_calli hr hS (fun q _ h => hF q h) hF (fun r1 u t H1 locs1 ht hvm hw hB hz1 hk1 hS1 => ?_)
  obtain ⟨h1, h2⟩ := hB
  rw [ht] at h1
  obtain ⟨a1, a2⟩ := va_joinQ hP hD isC isR hC hR hn hdis hk1 hF h1 h2
  subst hw
  exact kk H1 locs1 (a1.part isN hN) (a2.part isN hnN hN) hS1
theorem kq_v {a : Array Value} (hr : va_Run p l e R s m args below meth c H locs cells slots mc ms (F0 m pc ls st) rest (QV G (va_A cx H.size) wo a) (va_A cx H.size)) (hP : va_P G.1 vwCl (X ++ pl) H) (hD : va_D A (X ++ pl)) (hS : va_S A H0 H locs) (hA : ∀ q, H0.size ≤ q → A q)
    (isC isR isN : List Nat) (hC : isC.map (fun i => X[i]?) = cx.map some) (hR : isR.map (fun i => X[i]?) = wr.map some) (hn : va_nd isR = true) (hdis : ∀ i ∈ isR, i ∉ isC) (hN : isN.map (fun i => (wr ++ wo)[i]?) = X'.map some) (hnN : va_nd isN = true)
    (kk : ∀ (H1 : Heap) (locs1 : List Loc), va_P G.1 vwCl (X' ++ pl) H1 → va_D A (X' ++ pl) → va_S A H0 H1 locs1 → W p l e R s m args below meth c H1 locs1 (cells + mc) (slots + ms) Q (F0 m (pc + 3) ls rest)) : W p l e R s m args below meth c H locs cells slots Q (F0 m pc ls st) := by
  have hF := kq_F hD hS hA isC hC
  refine va_callv hr hS (fun q _ h => hF q h) hF (fun u t H1 locs1 ht hvm hw hB hz1 hk1 hS1 => ?_)
  obtain ⟨h1, h2⟩ := hB
  rw [ht] at h1
  obtain ⟨a1, a2⟩ := va_joinQ hP hD isC isR hC hR hn hdis hk1 hF h1 h2
  exact kk H1 locs1 (a1.part isN hN) (a2.part isN hnN hN) hS1
/-- the callee makes cells (a constructor): they come behind the rest -/
theorem kq_n {S : Type} {ok : S → Prop} {wo : S → va_W} {a : Array Value} (hr : va_Run p l e R s m args below meth c H locs cells slots mc ms (F0 m pc ls st) rest (QN G (va_A cx H.size) ok wo a) (va_A cx H.size)) (hP : va_P G.1 vwCl (X ++ pl) H) (hD : va_D A (X ++ pl)) (hS : va_S A H0 H locs) (hA : ∀ q, H0.size ≤ q → A q)
    (isC isR : List Nat) (hC : isC.map (fun i => X[i]?) = cx.map some) (hR : isR.map (fun i => X[i]?) = wr.map some) (hn : va_nd isR = true) (hdis : ∀ i ∈ isR, i ∉ isC)
    (kk : ∀ (u : S) (H1 : Heap) (locs1 : List Loc), ok u → va_P G.1 vwCl ((wr ++ wo u) ++ pl) H1 → va_D A ((wr ++ wo u) ++ pl) → va_S A H0 H1 locs1 → W p l e R s m args below meth c H1 locs1 (cells + mc) (slots + ms) Q (F0 m (pc + 3) ls rest)) : W p l e R s m args below meth c H locs cells slots Q (F0 m pc ls st) := by
  have hF := kq_F hD hS hA isC hC
  refine va_callv hr hS (fun q _ h => hF q h) hF (fun u t H1 locs1 ht hvm hw hB hz1 hk1 hS1 => ?_)
  obtain ⟨h1, h2⟩ := hB
  rw [ht] at h1
  obtain ⟨a1, a2⟩ := va_joinQ hP hD isC isR hC hR hn hdis hk1 hF h1 h2
  exact kk u H1 locs1 hw a1 a2 hS1
/-- the callee gets the pool -/
theorem kp_n {S : Type} {ok : S → Prop} {rx X' : S → va_W} {pl1 : S → va_W} {a : Array Value} (hr : va_Run p l e R s m args below meth c H locs cells slots mc ms (F0 m pc ls st) rest (QN G (va_A (cx ++ pl) H.size) ok (fun u => rx u ++ pl1 u) a) (va_A (cx ++ pl) H.size)) (hP : va_P G.1 vwCl (X ++ pl) H) (hD : va_D A (X ++ pl)) (hS : va_S A H0 H locs) (hA : ∀ q, H0.size ≤ q → A q)
    (isC isR isN : List Nat) (hC : isC.map (fun i => X[i]?) = cx.map some) (hR : isR.map (fun i => X[i]?) = wr.map some) (hn : va_nd isR = true) (hdis : ∀ i ∈ isR, i ∉ isC) (hN : ∀ u, isN.map (fun i => (wr ++ rx u)[i]?) = (X' u).map some) (hnN : va_nd isN = true)
    (kk : ∀ (u : S) (H1 : Heap) (locs1 : List Loc), ok u → va_P G.1 vwCl (X' u ++ pl1 u) H1 → va_D A (X' u ++ pl1 u) → va_S A H0 H1 locs1 → W p l e R s m args below meth c H1 locs1 (cells + mc) (slots + ms) Q (F0 m (pc + 3) ls rest)) : W p l e R s m args below meth c H locs cells slots Q (F0 m pc ls st) := by
  have hF := va_freeP hD hS hA isC hC
  refine va_callv hr hS (fun q _ h => hF q h) hF (fun u t H1 locs1 ht hvm hw hB hz1 hk1 hS1 => ?_)
  obtain ⟨h1, h2⟩ := hB
  rw [ht] at h1
  obtain ⟨a1, a2⟩ := va_joinP hP hD isC isR hC hR hn hdis hk1 hF h1 h2
  exact kk u H1 locs1 hw (a1.part isN (hN u)) (a2.part isN hnN (hN u)) hS1
theorem kp_j {S : Type} {r : Int32} {ok : S → Prop} {rx X' : S → va_W} {pl1 : S → va_W} {a : Array Value} (hr : va_Run p l e R s m args below meth c H locs cells slots mc ms (F0 m pc ls st) rest (QJ G (va_A (cx ++ pl) H.size) r ok (fun u => rx u ++ pl1 u) a) (va_A (cx ++ pl) H.size)) (hP : va_P G.1 vwCl (X ++ pl) H) (hD : va_D A (X ++ pl)) (hS : va_S A H0 H locs) (hA : ∀ q, H0.size ≤ q → A q)
    (isC isR isN : List Nat) (hC : isC.map (fun i => X[i]?) = cx.map some) (hR : isR.map (fun i => X[i]?) = wr.map some) (hn : va_nd isR = true) (hdis : ∀ i ∈ isR, i ∉ isC) (hN : ∀ u, isN.map (fun i => (wr ++ rx u)[i]?) = (X' u).map some) (hnN : va_nd isN = true)
    (kk : ∀ (u : S) (H1 : Heap) (locs1 : List Loc), ok u → va_P G.1 vwCl (X' u ++ pl1 u) H1 → va_D A (X' u ++ pl1 u) → va_S A H0 H1 locs1 → W p l e R s m args below meth c H1 locs1 (cells + mc) (slots + ms) Q (F0 m (pc + 3) ls (.int r :: rest))) : W p l e R s m args below meth c H locs cells slots Q (F0 m pc ls st) := by
  have hF := va_freeP hD hS hA isC hC
  refine va_calli hr hS (fun q _ h => hF q h) hF (fun r1 u t H1 locs1 ht hvm hw hB hz1 hk1 hS1 => ?_)
  obtain ⟨h1, h2⟩ := hB
  rw [ht] at h1
  obtain ⟨a1, a2⟩ := va_joinP hP hD isC isR hC hR hn hdis hk1 hF h1 h2
  obtain ⟨rfl, hok⟩ := hw
  exact kk u H1 locs1 hok (a1.part isN (hN u)) (a2.part isN hnN (hN u)) hS1
/-- a call with one's whole world, pool and all -/
theorem ks_j {S : Type} {r : Int32} {ok : S → Prop} {ws : va_W} {wo : S → va_W} {a : Array Value} (hr : va_Run p l e R s m args below meth c H locs cells slots mc ms (F0 m pc ls st) rest (QJ G (va_A ws H.size) r ok wo a) (va_A ws H.size)) (hD : va_D A ws) (hS : va_S A H0 H locs) (hA : ∀ q, H0.size ≤ q → A q)
    (kk : ∀ (u : S) (H1 : Heap) (locs1 : List Loc), ok u → va_P G.1 vwCl (wo u) H1 → va_D A (wo u) → va_S A H0 H1 locs1 → W p l e R s m args below meth c H1 locs1 (cells + mc) (slots + ms) Q (F0 m (pc + 3) ls (.int r :: rest))) : W p l e R s m args below meth c H locs cells slots Q (F0 m pc ls st) := by
  have hF := ks_F hD hS hA
  refine va_calli hr hS (fun q _ h => hF q h) hF (fun r1 u t H1 locs1 ht hvm hw hB hz1 hk1 hS1 => ?_)
  obtain ⟨h1, h2⟩ := hB
  rw [ht] at h1
  obtain ⟨rfl, hok⟩ := hw
  exact kk u H1 locs1 hok h1 (h2.weaken (fun k q _ h => hF q.1 h)) hS1
/-- a call that answers a new array -/
theorem k0_a {ws : va_W} {wo : Nat → va_W} {a : Array Value} (hr : va_Run p l e R s m args below meth c H locs cells slots mc ms (F0 m pc ls st) rest (QA G (va_A [] H.size) wo a) (va_A [] H.size)) (hP : va_P G.1 vwCl ws H) (hD : va_D A ws) (hS : va_S A H0 H locs) (hA : ∀ q, H0.size ≤ q → A q)
    (kk : ∀ (u : Nat) (H1 : Heap) (locs1 : List Loc), va_P G.1 vwCl (ws ++ wo u) H1 → va_D A (ws ++ wo u) → va_S A H0 H1 locs1 → W p l e R s m args below meth c H1 locs1 (cells + mc) (slots + ms) Q (F0 m (pc + 3) ls (.ref u :: rest))) : W p l e R s m args below meth c H locs cells slots Q (F0 m pc ls st) := by
  have hN : ∀ q, va_A [] H.size q → H.size ≤ q := by
    intro q h
    rcases h with ⟨k, e, h⟩ | h
    · cases h
    · exact h
  have hF : ∀ q, va_A [] H.size q → A q := fun q h => hA q (Nat.le_trans hS.1 (hN q h))
  refine va_callr hr hS (fun q _ h => hF q h) hF (fun u1 u t H1 locs1 ht hvm hw hB hz1 hk1 hS1 => ?_)
  obtain ⟨h1, h2⟩ := hB
  rw [ht] at h1
  refine kk u H1 locs1 ((hP.kept fun k q hk => hk1 q.1 (hP k q hk).lt fun h => absurd (hP k q hk).lt (Nat.not_lt.mpr (hN _ h))).app h1) (hD.app (h2.weaken (fun k q _ h => hF q.1 h)) fun i j x y hx hy hxy => ?_) hS1
  have h3 := hN _ (h2.2 j y hy)
  have h4 := (hP i x hx).lt
  rw [hxy] at h4
  omega
/-- new arrays -/
theorem cI_eq {cA : ClassId} (hK : KK G s) (h : va_K G.1 vwCl (tyG G ++ [(cA, .int)]) s) : cA = G.2.1 := by
  have h1 : s.vm.findClass ("[" ++ FieldType.int.toString) = some cA := (h.2 3 (cA, .int) rfl).2
  have h2 : s.vm.findClass ("[" ++ FieldType.int.toString) = some G.2.1 := (hK.1.2 0 (G.2.1, .int) rfl).2
  exact Option.some.inj (h1.symm.trans h2)
theorem cZ_eq {cA : ClassId} (hK : KK G s) (h : va_K G.1 vwCl (tyG G ++ [(cA, .boolean)]) s) : cA = G.2.2.1 := by
  have h1 : s.vm.findClass ("[" ++ FieldType.boolean.toString) = some cA := (h.2 3 (cA, .boolean) rfl).2
  have h2 : s.vm.findClass ("[" ++ FieldType.boolean.toString) = some G.2.2.1 := (hK.1.2 1 (G.2.2.1, .boolean) rfl).2
  exact Option.some.inj (h1.symm.trans h2)
theorem cS_eq {cA : ClassId} (hK : KK G s) (h : va_K G.1 vwCl (tyG G ++ [(cA, .object RX3)]) s) : cA = G.2.2.2 := by
  obtain ⟨k1, c1, -, -, -, h1⟩ := (h.2 3 (cA, .object RX3) rfl).2
  obtain ⟨k2, c2, -, -, -, h2⟩ := (hK.1.2 2 (G.2.2.2, .object RX3) rfl).2
  exact Option.some.inj (h1.symm.trans h2)
theorem nw_I {ws : va_W} (hx : p.tables.exec = Jvm.exec) (hb : c.code = cc) (harr : (Cond.arrayClass .int).before args s = true) (hK : KK G s) (hP : va_P G.1 vwCl ws H) (hD : va_D A ws) (hS : va_S A H0 H locs) (hA : ∀ q, H0.size ≤ q → A q) {n : Int32} {N' : Nat} (hn : ¬ n < 0) (hN : n.toNatClampNeg = N') (hbytes : N' * 4 ≤ 536870912) (hcells : cells + 1 ≤ R.cells) (hslots : slots + N' ≤ R.slots) (hdg : decode cc pc = .ok (.newarray .int, 2))
    (kk : ∀ (q : Nat) (H1 : Heap), va_P G.1 vwCl (ws ++ [(q, .inl (G.2.1, N', .inl (fun _ => 0)))]) H1 → va_D A (ws ++ [(q, .inl (G.2.1, N', .inl (fun _ => 0)))]) → va_S A H0 H1 locs → W p l e R s m args below meth c H1 locs (cells + 1) (slots + N') Q (F0 m (pc + 2) ls (.ref q :: rest))) : W p l e R s m args below meth c H locs cells slots Q (F0 m pc ls (.int n :: rest)) :=
  va_newa (atype := .int) (ty := .int) hx hb harr rfl hK.1 hP hD hS hA (a0 := (N', .inl (fun _ => 0))) (fun _ => rfl) hn hN hbytes hcells hslots hdg (fun q cA H1 hK1 hP1 hD1 hS1 => by
    have e := cI_eq hK hK1
    subst e
    exact kk q H1 hP1 hD1 hS1)
theorem nw_Z {ws : va_W} (hx : p.tables.exec = Jvm.exec) (hb : c.code = cc) (harr : (Cond.arrayClass .boolean).before args s = true) (hK : KK G s) (hP : va_P G.1 vwCl ws H) (hD : va_D A ws) (hS : va_S A H0 H locs) (hA : ∀ q, H0.size ≤ q → A q) {n : Int32} {N' : Nat} (hn : ¬ n < 0) (hN : n.toNatClampNeg = N') (hbytes : N' * componentBytes .boolean ≤ 536870912) (hcells : cells + 1 ≤ R.cells) (hslots : slots + N' ≤ R.slots) (hdg : decode cc pc = .ok (.newarray .boolean, 2))
    (kk : ∀ (q : Nat) (H1 : Heap), va_P G.1 vwCl (ws ++ [(q, .inl (G.2.2.1, N', .inl (fun _ => 0)))]) H1 → va_D A (ws ++ [(q, .inl (G.2.2.1, N', .inl (fun _ => 0)))]) → va_S A H0 H1 locs → W p l e R s m args below meth c H1 locs (cells + 1) (slots + N') Q (F0 m (pc + 2) ls (.ref q :: rest))) : W p l e R s m args below meth c H locs cells slots Q (F0 m pc ls (.int n :: rest)) :=
  va_newa (atype := .boolean) (ty := .boolean) hx hb harr rfl hK.1 hP hD hS hA (a0 := (N', .inl (fun _ => 0))) (fun _ => rfl) hn hN hbytes hcells hslots hdg (fun q cA H1 hK1 hP1 hD1 hS1 => by
    have e := cZ_eq hK hK1
    subst e
    exact kk q H1 hP1 hD1 hS1)
theorem nw_S {ws : va_W} (hx : p.tables.exec = Jvm.exec) (hb : c.code = cc) {own : String} {index : Nat} (hown : s.vm.findClass own = some m.cls) (hcl : (Cond.classLink own index RX3).before args s = true) (hK : KK G s) (hP : va_P G.1 vwCl ws H) (hD : va_D A ws) (hS : va_S A H0 H locs) (hA : ∀ q, H0.size ≤ q → A q) {n : Int32} {N' : Nat} (hn : ¬ n < 0) (hN : n.toNatClampNeg = N') (hbytes : N' * 4 ≤ 536870912) (hcells : cells + 1 ≤ R.cells) (hslots : slots + N' ≤ R.slots) (hdg : decode cc pc = .ok (.anewarray index, 3))
    (kk : ∀ (q : Nat) (H1 : Heap), va_P G.1 vwCl (ws ++ [(q, .inl (G.2.2.2, N', .inr (.inr (.inr (.inr (fun _ => none))))))]) H1 → va_D A (ws ++ [(q, .inl (G.2.2.2, N', .inr (.inr (.inr (.inr (fun _ => none))))))]) → va_S A H0 H1 locs → W p l e R s m args below meth c H1 locs (cells + 1) (slots + N') Q (F0 m (pc + 3) ls (.ref q :: rest))) : W p l e R s m args below meth c H locs cells slots Q (F0 m pc ls (.int n :: rest)) :=
  va_newq hx hb hown hcl hK.2.2 hK.1 hP hD hS hA hn hN hbytes hcells hslots hdg (fun q cA H1 hK1 hP1 hD1 hS1 => by
    have e := cS_eq hK hK1
    subst e
    exact kk q H1 hP1 hD1 hS1)
end KQ
