/-! bits: shifts and masks of naturals -/
theorem xsh31 : ∀ k, k < 32 → ((Int32.ofInt ((k : Nat) : Int) &&& 31).toBitVec.smod 32).toNat = k := by decide
theorem xshr_eq {a : Int} {k : Nat} (h1 : -2147483648 ≤ a) (h2 : a ≤ 2147483647) (hk : k < 32) : xshr a (k : Int) = a >>> k := by
  unfold xshr
  rw [pk_shr _ _ k (xsh31 k hk), xI32 h1 h2]
theorem xshr_div {a : Int} {k : Nat} (h1 : -2147483648 ≤ a) (h2 : a ≤ 2147483647) (hk : k < 32) : xshr a (k : Int) = a / (2 ^ k : Nat) := by
  rw [xshr_eq h1 h2 hk, Int.shiftRight_eq_div_pow]
theorem xofn (n : Nat) : Int32.ofInt (n : Int) = Int32.ofNat n := Int32.ofInt_eq_ofNat
theorem xton {n : Nat} (h : n < 2 ^ 31) : (Int32.ofNat n).toInt = (n : Int) := nI_toInt h
theorem xand_nat {a b : Nat} (ha : a < 2 ^ 31) : xand (a : Int) (b : Int) = ((a &&& b : Nat) : Int) := by
  unfold xand
  rw [xofn, xofn]
  have : Int32.ofNat a &&& Int32.ofNat b = Int32.ofNat (a &&& b) := by
    apply Int32.toBitVec.inj
    simp [Int32.toBitVec_ofNat, BitVec.ofNat_and]
  rw [this]
  exact xton (Nat.lt_of_le_of_lt Nat.and_le_left ha)
theorem xor_nat {a b : Nat} (ha : a < 2 ^ 31) (hb : b < 2 ^ 31) : xor' (a : Int) (b : Int) = ((a ||| b : Nat) : Int) := by
  unfold xor'
  rw [xofn, xofn]
  have : Int32.ofNat a ||| Int32.ofNat b = Int32.ofNat (a ||| b) := by
    apply Int32.toBitVec.inj
    simp [Int32.toBitVec_ofNat, BitVec.ofNat_or]
  rw [this]
  exact xton (Nat.or_lt_two_pow ha hb)
theorem xxor_nat {a b : Nat} (ha : a < 2 ^ 31) (hb : b < 2 ^ 31) : xxor (a : Int) (b : Int) = ((a ^^^ b : Nat) : Int) := by
  unfold xxor
  rw [xofn, xofn]
  have : Int32.ofNat a ^^^ Int32.ofNat b = Int32.ofNat (a ^^^ b) := by
    apply Int32.toBitVec.inj
    simp [Int32.toBitVec_ofNat, BitVec.ofNat_xor]
  rw [this]
  exact xton (Nat.xor_lt_two_pow ha hb)
/-- a byte is a byte -/
theorem byt_rg (v s : Int) : 0 ≤ byt v s ∧ byt v s ≤ 255 := by
  unfold byt xand
  generalize Int32.ofInt (xshr v s) = z
  have e : Int32.ofInt 255 = 255 := by decide
  rw [e]
  obtain ⟨j, hj, h⟩ := pk_andE z (m := 255) 8 (by decide)
  rw [h, nI_toInt (by omega)]
  omega
