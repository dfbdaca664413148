/-! every entry of the table is what the bytes and the tables' words say -/
def xchk (mi N : Nat) : Bool := (List.range N).all (fun pc => match tb mi pc with
  | none => true
  | some q => xval mi pc q)
def xchkR (mi lo n : Nat) : Bool := (List.range' lo n).all (fun pc => match tb mi pc with
  | none => true
  | some q => xval mi pc q)
theorem xchkR_of {mi lo n : Nat} (h : xchkR mi lo n = true) (pc : Nat) (q : xI) (ht : tb mi pc = some q) (h1 : lo ≤ pc) (h2 : pc < lo + n) : xval mi pc q = true := by
  have := List.all_eq_true.mp h pc (List.mem_range'_1.mpr ⟨h1, h2⟩)
  rw [ht] at this
  exact this
theorem xchk_of {mi N : Nat} (h : xchk mi N = true) (hN : ∀ pc, N ≤ pc → tb mi pc = none) (pc : Nat) (q : xI) (ht : tb mi pc = some q) : xval mi pc q = true := by
  by_cases hp : pc < N
  · have := List.all_eq_true.mp h pc (List.mem_range.mpr hp)
    rw [ht] at this
    exact this
  · rw [hN pc (by omega)] at ht
    cases ht
theorem ck_0_0 : xchkR 0 0 50 = true := by decide +kernel
theorem ck_0_50 : xchkR 0 50 50 = true := by decide +kernel
theorem ck_0_100 : xchkR 0 100 50 = true := by decide +kernel
theorem ck_0_150 : xchkR 0 150 50 = true := by decide +kernel
theorem ck_0_200 : xchkR 0 200 50 = true := by decide +kernel
theorem ck_0_250 : xchkR 0 250 50 = true := by decide +kernel
theorem ck_0_300 : xchkR 0 300 50 = true := by decide +kernel
theorem ck_0_350 : xchkR 0 350 50 = true := by decide +kernel
theorem ck_0_400 : xchkR 0 400 50 = true := by decide +kernel
theorem ck_0_450 : xchkR 0 450 50 = true := by decide +kernel
theorem ck_0_500 : xchkR 0 500 50 = true := by decide +kernel
theorem ck_0_550 : xchkR 0 550 50 = true := by decide +kernel
theorem ck_0_600 : xchkR 0 600 50 = true := by decide +kernel
theorem ck_0_650 : xchkR 0 650 50 = true := by decide +kernel
theorem ck_0_700 : xchkR 0 700 50 = true := by decide +kernel
theorem ck_0_750 : xchkR 0 750 50 = true := by decide +kernel
theorem ck_0_800 : xchkR 0 800 50 = true := by decide +kernel
theorem ck_0_850 : xchkR 0 850 50 = true := by decide +kernel
theorem ck_0_900 : xchkR 0 900 50 = true := by decide +kernel
theorem ck_0_950 : xchkR 0 950 50 = true := by decide +kernel
theorem ck_0_1000 : xchkR 0 1000 50 = true := by decide +kernel
theorem ck_0_1050 : xchkR 0 1050 50 = true := by decide +kernel
theorem ck_0_1100 : xchkR 0 1100 50 = true := by decide +kernel
theorem ck_0_1150 : xchkR 0 1150 50 = true := by decide +kernel
theorem ck_0_1200 : xchkR 0 1200 50 = true := by decide +kernel
theorem ck_0_1250 : xchkR 0 1250 50 = true := by decide +kernel
theorem ck_0_1300 : xchkR 0 1300 50 = true := by decide +kernel
theorem ck_0 : ∀ (pc : Nat) (q : xI), tb 0 pc = some q → xval 0 pc q = true := by
  intro pc q ht
  by_cases hN : 1350 ≤ pc
  · have h : tb 0 pc = none := by
      show tb_0 pc = none
      unfold tb_0
      rw [show Nat.ble 1350 pc = true from Nat.ble_eq_true_of_le hN]
      rfl
    rw [h] at ht
    cases ht
  · by_cases h0 : pc < 50
    · exact xchkR_of ck_0_0 pc q ht (by omega) (by omega)
    by_cases h50 : pc < 100
    · exact xchkR_of ck_0_50 pc q ht (by omega) (by omega)
    by_cases h100 : pc < 150
    · exact xchkR_of ck_0_100 pc q ht (by omega) (by omega)
    by_cases h150 : pc < 200
    · exact xchkR_of ck_0_150 pc q ht (by omega) (by omega)
    by_cases h200 : pc < 250
    · exact xchkR_of ck_0_200 pc q ht (by omega) (by omega)
    by_cases h250 : pc < 300
    · exact xchkR_of ck_0_250 pc q ht (by omega) (by omega)
    by_cases h300 : pc < 350
    · exact xchkR_of ck_0_300 pc q ht (by omega) (by omega)
    by_cases h350 : pc < 400
    · exact xchkR_of ck_0_350 pc q ht (by omega) (by omega)
    by_cases h400 : pc < 450
    · exact xchkR_of ck_0_400 pc q ht (by omega) (by omega)
    by_cases h450 : pc < 500
    · exact xchkR_of ck_0_450 pc q ht (by omega) (by omega)
    by_cases h500 : pc < 550
    · exact xchkR_of ck_0_500 pc q ht (by omega) (by omega)
    by_cases h550 : pc < 600
    · exact xchkR_of ck_0_550 pc q ht (by omega) (by omega)
    by_cases h600 : pc < 650
    · exact xchkR_of ck_0_600 pc q ht (by omega) (by omega)
    by_cases h650 : pc < 700
    · exact xchkR_of ck_0_650 pc q ht (by omega) (by omega)
    by_cases h700 : pc < 750
    · exact xchkR_of ck_0_700 pc q ht (by omega) (by omega)
    by_cases h750 : pc < 800
    · exact xchkR_of ck_0_750 pc q ht (by omega) (by omega)
    by_cases h800 : pc < 850
    · exact xchkR_of ck_0_800 pc q ht (by omega) (by omega)
    by_cases h850 : pc < 900
    · exact xchkR_of ck_0_850 pc q ht (by omega) (by omega)
    by_cases h900 : pc < 950
    · exact xchkR_of ck_0_900 pc q ht (by omega) (by omega)
    by_cases h950 : pc < 1000
    · exact xchkR_of ck_0_950 pc q ht (by omega) (by omega)
    by_cases h1000 : pc < 1050
    · exact xchkR_of ck_0_1000 pc q ht (by omega) (by omega)
    by_cases h1050 : pc < 1100
    · exact xchkR_of ck_0_1050 pc q ht (by omega) (by omega)
    by_cases h1100 : pc < 1150
    · exact xchkR_of ck_0_1100 pc q ht (by omega) (by omega)
    by_cases h1150 : pc < 1200
    · exact xchkR_of ck_0_1150 pc q ht (by omega) (by omega)
    by_cases h1200 : pc < 1250
    · exact xchkR_of ck_0_1200 pc q ht (by omega) (by omega)
    by_cases h1250 : pc < 1300
    · exact xchkR_of ck_0_1250 pc q ht (by omega) (by omega)
    exact xchkR_of ck_0_1300 pc q ht (by omega) (by omega)
