/-! how many bits -/
theorem fa_and (a b : Nat) : nI a &&& nI b = nI (a &&& b) := by
  apply Int32.toBitVec_inj.1
  show BitVec.ofNat 32 a &&& BitVec.ofNat 32 b = BitVec.ofNat 32 (a &&& b)
  apply BitVec.eq_of_getLsbD_eq
  intro i hi
  simp [hi]
theorem nand (a b : Nat) : nI a &&& nI b = nI (a &&& b) := fa_and a b
theorem and_split {a b c d : Nat} (hb : b < 256) (hd : d < 256) : (256 * a + b) &&& (256 * c + d) = 256 * (a &&& c) + (b &&& d) := by
  apply Nat.eq_of_testBit_eq
  intro i
  have h1 : (b &&& d) < 2 ^ 8 := Nat.and_lt_two_pow _ hd
  rw [Nat.testBit_and, Nat.testBit_two_pow_mul_add a (i := 8) hb, Nat.testBit_two_pow_mul_add c (i := 8) hd, Nat.testBit_two_pow_mul_add (a &&& c) (i := 8) h1]
  by_cases h : i < 8
  · rw [if_pos h, if_pos h, if_pos h, Nat.testBit_and]
  · rw [if_neg h, if_neg h, if_neg h, Nat.testBit_and]
def pc1 (x : Nat) : Nat := x - ((x / 2) &&& 1431655765)
def pc2 (x : Nat) : Nat := (x &&& 858993459) + ((x / 4) &&& 858993459)
def pc3 (x : Nat) : Nat := (x + x / 16) &&& 252645135
def pc4 (x : Nat) : Nat := x + x / 256
def pc5 (x : Nat) : Nat := x + x / 65536
theorem bc_nat {x : Nat} (hx : x < 2 ^ 24) (h1 : (x / 2) &&& 1431655765 ≤ x) (h2 : pc1 x < 2 ^ 30) (h3 : pc2 (pc1 x) < 2 ^ 30) (h4 : pc3 (pc2 (pc1 x)) < 2 ^ 30) (h5 : pc4 (pc3 (pc2 (pc1 x))) < 2 ^ 30) : M_J6_bitCount_0f7a4 (nI x) = some (nI (pc5 (pc4 (pc3 (pc2 (pc1 x)))) &&& 63)) := by
  have e1 : (nI x - (((nI x).toUInt32 >>> ((1 : Int32).toUInt32 &&& Int32.toUInt32 31)).toInt32 &&& 1431655765)) = nI (pc1 x) := by
    rw [pk_ushrN (by omega) 1 1 (by decide), show (1431655765 : Int32) = nI 1431655765 from rfl, nand, pk_sub h1]; rfl
  have e2 : ((nI (pc1 x) &&& 858993459) + (((nI (pc1 x)).toUInt32 >>> ((2 : Int32).toUInt32 &&& Int32.toUInt32 31)).toInt32 &&& 858993459)) = nI (pc2 (pc1 x)) := by
    rw [pk_ushrN (by omega) 2 2 (by decide), show (858993459 : Int32) = nI 858993459 from rfl, nand, nand, nI_add]; rfl
  have e3 : ((nI (pc2 (pc1 x)) + ((nI (pc2 (pc1 x))).toUInt32 >>> ((4 : Int32).toUInt32 &&& Int32.toUInt32 31)).toInt32) &&& 252645135) = nI (pc3 (pc2 (pc1 x))) := by
    rw [pk_ushrN (by omega) 4 4 (by decide), show (252645135 : Int32) = nI 252645135 from rfl, nI_add, nand]; rfl
  have e4 : (nI (pc3 (pc2 (pc1 x))) + ((nI (pc3 (pc2 (pc1 x)))).toUInt32 >>> ((8 : Int32).toUInt32 &&& Int32.toUInt32 31)).toInt32) = nI (pc4 (pc3 (pc2 (pc1 x)))) := by
    rw [pk_ushrN (by omega) 8 8 (by decide), nI_add]; rfl
  have e5 : (nI (pc4 (pc3 (pc2 (pc1 x)))) + ((nI (pc4 (pc3 (pc2 (pc1 x))))).toUInt32 >>> ((16 : Int32).toUInt32 &&& Int32.toUInt32 31)).toInt32) = nI (pc5 (pc4 (pc3 (pc2 (pc1 x))))) := by
    rw [pk_ushrN (by omega) 16 16 (by decide), nI_add]; rfl
  rw [M_J6_bitCount_0f7a4, e1, e2, e3, e4, e5, show (63 : Int32) = nI 63 from rfl, nand]
/-- a byte's steps, all of them looked at -/
def by1 (b : Nat) : Nat := b - ((b / 2) &&& 85)
def by2 (b : Nat) : Nat := (b &&& 51) + ((b / 4) &&& 51)
def by3 (b : Nat) : Nat := (b + b / 16) &&& 15
theorem by_all : ∀ b, b < 256 → ((b / 2) &&& 85) ≤ b ∧ by1 b < 171 ∧ by2 (by1 b) < 69 ∧ by2 (by1 b) % 16 ≤ 4 ∧ by3 (by2 (by1 b)) = fb_ct (fun i => b.testBit i) 8 := by decide +kernel
theorem dr1 : ∀ r, r < 2 → ∀ c, c < 128 → (128 * r + c) &&& 85 = c &&& 85 := by decide +kernel
theorem dr2 : ∀ r, r < 4 → ∀ c, c < 64 → (64 * r + c) &&& 51 = c &&& 51 := by decide +kernel
theorem dr3 : ∀ r, r < 5 → ∀ c, c < 69 → (c + (16 * r + c / 16)) &&& 15 = (c + c / 16) &&& 15 := by decide +kernel
theorem and3 {a b c m : Nat} (ha : a < 256) (hb : b < 256) (hc : c < 256) (hm : m < 256) : (65536 * c + 256 * b + a) &&& (256 * (256 * (256 * m + m) + m) + m) = 65536 * (c &&& m) + 256 * (b &&& m) + (a &&& m) := by
  have e1 : 65536 * c + 256 * b + a = 256 * (256 * c + b) + a := by omega
  have e2 : c = 256 * 0 + c := by omega
  have h3 : c &&& (256 * m + m) = c &&& m := by
    have := and_split (a := 0) (b := c) (c := m) (d := m) hc hm
    rw [Nat.zero_and, Nat.mul_zero, Nat.zero_add, Nat.zero_add] at this
    exact this
  rw [e1, and_split ha hm, and_split hb hm, h3]
  omega
theorem fin5 {x y z : Nat} (hx : x ≤ 8) (hy : y ≤ 8) (hz : z ≤ 8) : pc5 (pc4 (65536 * z + 256 * y + x)) &&& 63 = x + y + z := by
  have e4 : pc4 (65536 * z + 256 * y + x) = 65536 * z + 256 * (y + z) + (x + y) := by rw [pc4]; omega
  have e5 : pc5 (65536 * z + 256 * (y + z) + (x + y)) = 65536 * z + 256 * (y + z) + (x + y + z) := by rw [pc5]; omega
  rw [e4, e5, show (63 : Nat) = 2 ^ 6 - 1 from rfl, Nat.and_two_pow_sub_one_eq_mod]
  omega
theorem bc_eq {a b c : Nat} (ha : a < 256) (hb : b < 256) (hc : c < 256) : M_J6_bitCount_0f7a4 (nI (65536 * c + 256 * b + a)) = some (nI (fb_ct (fun i => a.testBit i) 8 + fb_ct (fun i => b.testBit i) 8 + fb_ct (fun i => c.testBit i) 8)) := by
  obtain ⟨a1, a2, a3, a4, a5⟩ := by_all a ha
  obtain ⟨b1, b2, b3, b4, b5⟩ := by_all b hb
  obtain ⟨c1, c2, c3, c4, c5⟩ := by_all c hc
  have m1 : ((65536 * c + 256 * b + a) / 2) &&& 1431655765 = 65536 * ((c / 2) &&& 85) + 256 * ((b / 2) &&& 85) + ((a / 2) &&& 85) := by
    have e : (65536 * c + 256 * b + a) / 2 = 65536 * (c / 2) + 256 * (128 * (c % 2) + b / 2) + (128 * (b % 2) + a / 2) := by omega
    rw [e, show (1431655765 : Nat) = 256 * (256 * (256 * 85 + 85) + 85) + 85 from rfl, and3 (by omega) (by omega) (by omega) (by decide), dr1 _ (by omega) _ (by omega), dr1 _ (by omega) _ (by omega)]
  have p1 : pc1 (65536 * c + 256 * b + a) = 65536 * by1 c + 256 * by1 b + by1 a := by
    rw [pc1, m1, by1, by1, by1]; omega
  have p2 : pc2 (65536 * by1 c + 256 * by1 b + by1 a) = 65536 * by2 (by1 c) + 256 * by2 (by1 b) + by2 (by1 a) := by
    have e : (65536 * by1 c + 256 * by1 b + by1 a) / 4 = 65536 * (by1 c / 4) + 256 * (64 * (by1 c % 4) + by1 b / 4) + (64 * (by1 b % 4) + by1 a / 4) := by omega
    rw [pc2, e, show (858993459 : Nat) = 256 * (256 * (256 * 51 + 51) + 51) + 51 from rfl, and3 (by omega) (by omega) (by omega) (by decide), and3 (by omega) (by omega) (by omega) (by decide), dr2 _ (by omega) _ (by omega), dr2 _ (by omega) _ (by omega)]
    show _ = 65536 * ((by1 c &&& 51) + ((by1 c / 4) &&& 51)) + 256 * ((by1 b &&& 51) + ((by1 b / 4) &&& 51)) + ((by1 a &&& 51) + ((by1 a / 4) &&& 51))
    omega
  have p3 : pc3 (65536 * by2 (by1 c) + 256 * by2 (by1 b) + by2 (by1 a)) = 65536 * by3 (by2 (by1 c)) + 256 * by3 (by2 (by1 b)) + by3 (by2 (by1 a)) := by
    generalize by2 (by1 a) = x at *
    generalize by2 (by1 b) = y at *
    generalize by2 (by1 c) = z at *
    have e : 65536 * z + 256 * y + x + (65536 * z + 256 * y + x) / 16 = 65536 * (z + z / 16) + 256 * (y + (16 * (z % 16) + y / 16)) + (x + (16 * (y % 16) + x / 16)) := by omega
    rw [pc3, e, show (252645135 : Nat) = 256 * (256 * (256 * 15 + 15) + 15) + 15 from rfl, and3 (by omega) (by omega) (by omega) (by decide), dr3 _ (by omega) _ (by omega), dr3 _ (by omega) _ (by omega)]
    rfl
  rw [← a5, ← b5, ← c5]
  have ha8 : by3 (by2 (by1 a)) ≤ 8 := by rw [a5]; exact fb_ct_le _ 8
  have hb8 : by3 (by2 (by1 b)) ≤ 8 := by rw [b5]; exact fb_ct_le _ 8
  have hc8 : by3 (by2 (by1 c)) ≤ 8 := by rw [c5]; exact fb_ct_le _ 8
  rw [bc_nat (by omega) (by rw [m1]; omega) (by rw [p1]; omega) (by rw [p1, p2]; omega) (by rw [p1, p2, p3]; omega) (by rw [p1, p2, p3, pc4]; omega), p1, p2, p3]
  rw [fin5 ha8 hb8 hc8]
theorem bit_nI {x : Nat} (hx : x < 2 ^ 32) (i : Nat) : bit (nI x) i = x.testBit i := by
  rw [bit, BitVec.getLsbD, pk_tn hx]
theorem bc_ct (s : Int32) (h : ∀ i, 24 ≤ i → bit s i = false) : M_J6_bitCount_0f7a4 s = some (nI (fb_ct (bit s) 24)) := by
  have hs : s = nI s.toBitVec.toNat := by
    apply Int32.toBitVec_inj.mp
    apply BitVec.eq_of_toNat_eq
    rw [pk_tn s.toBitVec.isLt]
  have hlt : s.toBitVec.toNat < 2 ^ 24 := by
    apply Nat.lt_pow_two_of_testBit
    intro i hi
    have := h i hi
    rw [hs, bit_nI s.toBitVec.isLt] at this
    exact this
  generalize s.toBitVec.toNat = x at hs hlt
  subst hs
  have e : x = 65536 * (x / 65536) + 256 * (x / 256 % 256) + x % 256 := by omega
  have hb : ∀ i, bit (nI x) i = x.testBit i := bit_nI (by omega)
  rw [show (fb_ct (bit (nI x)) 24) = fb_ct (fun i => x.testBit i) 24 from fb_ct_cong fun i _ => hb i]
  have e2 : x = 2 ^ 8 * (2 ^ 8 * (x / 65536) + x / 256 % 256) + x % 256 := by omega
  have e3 : fb_ct (fun i => x.testBit i) 24 = fb_ct (fun i => (x % 256).testBit i) 8 + fb_ct (fun i => (x / 256 % 256).testBit i) 8 + fb_ct (fun i => (x / 65536).testBit i) 8 := by
    rw [show (24 : Nat) = 8 + (8 + 8) from rfl, fb_ct_split, fb_ct_split]
    rw [← Nat.add_assoc]
    congr 1
    · congr 1
      · apply fb_ct_cong
        intro k hk
        rw [Nat.testBit_mod_two_pow x 8 k]
        simp [hk]
      · apply fb_ct_cong
        intro k hk
        rw [Nat.testBit_mod_two_pow (x / 256) 8 k, show x / 256 = x / 2 ^ 8 from rfl, Nat.testBit_div_two_pow]
        simp [hk, Nat.add_comm]
    · apply fb_ct_cong
      intro k hk
      rw [show x / 65536 = x / 2 ^ 16 from rfl, Nat.testBit_div_two_pow]
      congr 1
      omega
  rw [e3]
  have := bc_eq (a := x % 256) (b := x / 256 % 256) (c := x / 65536) (by omega) (by omega) (by omega)
  rw [← e] at this
  exact this
