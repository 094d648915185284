/-! 32-bit words as integers -/
def zI (z : Int) : Int32 := Int32.ofInt z
theorem z_nI (n : Nat) : nI n = zI (n : Int) := by
  unfold nI zI
  rw [← Int32.ofInt_eq_ofNat]
theorem z_lit (k : Nat) : (@OfNat.ofNat Int32 k Int32.instOfNat) = zI (@OfNat.ofNat Int k instOfNat) := by
  exact z_nI k
theorem z_neg (a : Int) : - zI a = zI (-a) := by
  unfold zI
  rw [Int32.ofInt_neg]
theorem z_add (a b : Int) : zI a + zI b = zI (a + b) := by
  unfold zI
  rw [Int32.ofInt_add]
theorem z_sub (a b : Int) : zI a - zI b = zI (a - b) := by
  unfold zI
  rw [Int32.ofInt_sub]
theorem z_mul (a b : Int) : zI a * zI b = zI (a * b) := by
  unfold zI
  rw [Int32.ofInt_mul]
theorem z_toInt {a : Int} (h : -2147483648 ≤ a ∧ a < 2147483648) : (zI a).toInt = a := by
  unfold zI
  rw [Int32.toInt_ofInt, show Int32.size = 4294967296 from rfl, Int.bmod_eq_of_le (by omega) (by omega)]
theorem z_lt {a b : Int} (ha : -2147483648 ≤ a ∧ a < 2147483648) (hb : -2147483648 ≤ b ∧ b < 2147483648) : (zI a < zI b) = (a < b) := by
  rw [Int32.lt_iff_toInt_lt, z_toInt ha, z_toInt hb]
theorem z_le {a b : Int} (ha : -2147483648 ≤ a ∧ a < 2147483648) (hb : -2147483648 ≤ b ∧ b < 2147483648) : (zI a ≤ zI b) = (a ≤ b) := by
  rw [Int32.le_iff_toInt_le, z_toInt ha, z_toInt hb]
theorem z_eq {a b : Int} (ha : -2147483648 ≤ a ∧ a < 2147483648) (hb : -2147483648 ≤ b ∧ b < 2147483648) : (zI a = zI b) = (a = b) := by
  rw [← Int32.toInt_inj, z_toInt ha, z_toInt hb]
theorem z_cl {a : Int} (h : -2147483648 ≤ a ∧ a < 2147483648) : (zI a).toNatClampNeg = a.toNat := by
  show (zI a).toInt.toNat = _
  rw [z_toInt h]
theorem z_in {a : Int} {n : Nat} (h : -2147483648 ≤ a ∧ a < 2147483648) : vp_in (zI a) n = (0 ≤ a ∧ a < n) := by
  rw [vp_in_iff, z_toInt h]
theorem z_of (x : Int32) : ∃ a : Int, -2147483648 ≤ a ∧ a < 2147483648 ∧ x = zI a := by
  refine ⟨x.toInt, Int32.le_toInt x, Int32.toInt_lt x, ?_⟩
  unfold zI
  rw [Int32.ofInt_toInt]
theorem z_test1 {a : Nat} (h : a ≤ 10) : (nI a + 2 < 13) = (a < 11) := by
  simp (disch := omega) only [z_nI, z_lit, z_neg, z_add, z_sub, z_mul, z_lt, z_le, z_eq, z_in, z_cl]
  exact propext ⟨fun _ => by omega, fun _ => by omega⟩
theorem z_test2 {a b : Nat} (h : a ≤ 10) (hb : b ≤ 7) : vp_in (30 * nI b + nI a) 240 := by
  simp (disch := omega) only [z_nI, z_lit, z_neg, z_add, z_sub, z_mul, z_lt, z_le, z_eq, z_in, z_cl]
  omega
