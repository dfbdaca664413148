/-! the constants of the start: statics, strings, the script -/
def xtm (i : Nat) : Term := match i with
  | 0 => .string "StickSums$Tape" 19
  | 1 => .string "StickSums$Forms" 37
  | 2 => .string "StickSums$Forms" 63
  | 3 => .string "StickSums$Forms" 81
  | 4 => .string "StickSums$Forms" 87
  | 5 => .string "StickSums$Reading" 56
  | 6 => .string "StickSums$Law" 33
  | 7 => .string "StickSums$Law" 81
  | 8 => .string "StickSums$Law" 106
  | 9 => .string "StickSums$Law" 108
  | 10 => .string "StickSums$Law" 110
  | 11 => .string "StickSums$Law" 112
  | 12 => .string "StickSums$Law" 79
  | _ => .string "" 0
def xsl (i : Nat) : Nat := ([0, 1, 5, 2, 2, 5, 8, 3, 4, 5, 6, 7, 3] : List Nat).getD i 0
def xsb (i j : Nat) : Int := ([[], [59], [100, 105, 103, 105, 116], [97, 115], [111, 114], [43, 45, 61, 42, 47], [40, 41, 60, 62, 61, 43, 45, 42], [110, 111, 116], [108, 101, 102, 116], [114, 105, 103, 104, 116], [115, 116, 105, 99, 107, 115], [102, 105, 103, 117, 114, 101, 115], [97, 110, 100]] : List (List Int)).getD i [] |>.getD j 0
def xst6 (i : Nat) : Term := .static (xsf i).1 (xsf i).2.1 (xsf i).2.2
def xsn (i : Nat) : Nat := ([10, 5, 21, 15, 5, 4] : List Nat).getD i 0
def xsv (i j : Nat) : Int := ([[63, 6, 91, 79, 102, 109, 125, 7, 127, 111], [3, 1, 5, 24, 16], [3, 4, 5, 0, 1, 2, 6, 0, 5, 4, 3, 2, 1, 6, 3, 2, 1, 0, 5, 4, 6], [0, 1, 2, 3, 4, 0, 1, 2, 4, 3, 0, 1, 2, 4, 3], [1, 10, 100, 1000, 10000], [65535, 30583, 13107, 4369]] : List (List Int)).getD i [] |>.getD j 0
abbrev xPre : Cond := Jvm.Cond.and given_1 narrow_1
theorem xk_arr : ∀ i, i < 6 → (Cond.arrayOf (xst6 i) .int ∈ flatC xPre ∧ Cond.eq (.length (xst6 i)) (.int (Int32.ofNat (xsn i))) ∈ flatC xPre) := by decide +kernel
theorem xk_elm : ∀ i, i < 6 → ∀ j, j < xsn i → Cond.eq (.elem (xst6 i) (.int (Int32.ofNat j))) (.int (Int32.ofInt (xsv i j))) ∈ flatC xPre := by decide +kernel
theorem xk_str : ∀ i, i < 13 → (Cond.exactly (xtm i) "java/lang/String" ∈ flatC xPre ∧ Cond.eq (.field (xtm i) "java/lang/String" "coder" "B") (.int 0) ∈ flatC xPre ∧ Cond.arrayOf (.field (xtm i) "java/lang/String" "value" "[B") .byte ∈ flatC xPre ∧ Cond.eq (.length (.field (xtm i) "java/lang/String" "value" "[B")) (.int (Int32.ofNat (xsl i))) ∈ flatC xPre) := by decide +kernel
theorem xk_sel : ∀ i, i < 13 → ∀ j, j < xsl i → Cond.eq (.elem (.field (xtm i) "java/lang/String" "value" "[B") (.int (Int32.ofNat j))) (.int (Int32.ofInt (xsb i j))) ∈ flatC xPre := by decide +kernel
theorem xk_cst : Cond.eq (.static (xsf 20).1 (xsf 20).2.1 (xsf 20).2.2) (.int 1) ∈ flatC xPre := by decide +kernel
theorem xk_ref : Cond.isRef (.static (xsf 21).1 (xsf 21).2.1 (xsf 21).2.2) ∈ flatC xPre := by decide +kernel
theorem xk_lay : ∀ i, i < 6 → (Cond.laysStatic (xsf i).1 (xsf i).2.1 (xsf i).2.2 ∈ lw_tbl ∧ Cond.initialized (xsf i).1 ∈ lw_tbl) := by decide +kernel
theorem xk_lay2 : (Cond.laysStatic (xsf 20).1 (xsf 20).2.1 (xsf 20).2.2 ∈ lw_tbl ∧ Cond.initialized (xsf 20).1 ∈ lw_tbl) ∧ (Cond.laysStatic (xsf 21).1 (xsf 21).2.1 (xsf 21).2.2 ∈ lw_tbl ∧ Cond.initialized (xsf 21).1 ∈ lw_tbl) := by decide +kernel
def xrefs : List (String × Nat × Nat) := [("StickSums$Tape", 19, 0), ("StickSums$Forms", 37, 1), ("StickSums$Forms", 63, 2), ("StickSums$Forms", 81, 3), ("StickSums$Forms", 87, 4), ("StickSums$Reading", 56, 5), ("StickSums$Row", 60, 5), ("StickSums$Law", 33, 6), ("StickSums$Law", 81, 7), ("StickSums$Law", 106, 8), ("StickSums$Law", 108, 9), ("StickSums$Law", 110, 10), ("StickSums$Law", 112, 11), ("StickSums$Law", 79, 12), ("StickSums$Law", 64, 4), ("StickSums$Forms", 130, 5)]
theorem xk_all : lw_tbl.all (fun w => match w with
  | .stringRef own i tx => xrefs.any (fun q => q.1 == own && q.2.1 == i && tx == xtext (q.2.2 + 10))
  | _ => true) = true := by decide +kernel
theorem xk_txt : ∀ c, c < 13 → ∀ e, e < 13 → xtext (c + 10) = xtext (e + 10) → c = e := by decide +kernel
theorem xk_same : ∀ q ∈ xrefs, (Term.string q.1 q.2.1 = xtm q.2.2 ∨ Cond.eq (Term.string q.1 q.2.1) (xtm q.2.2) ∈ flatC xPre ∨ Cond.eq (xtm q.2.2) (Term.string q.1 q.2.1) ∈ flatC xPre) ∧ q.2.2 < 13 := by decide +kernel
