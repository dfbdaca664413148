/-! PAIRS: turned, turnedTrue -/
def tpM (w f p : Int) : Int := if f = 0 then (if 0 < w ∧ p = 3 then 4 else if 0 < w ∧ p = 4 then 3 else p) else if p = 6 then 6 else if w = 0 then (if p < 3 then p + 3 else p - 3) else if w = 1 then (if p = 0 ∨ p = 3 then p else 6 - p) else (if p = 0 then 3 else if p = 3 then 0 else if p < 3 then 3 - p else 9 - p)
def tbM (w f b : Int) : Nat → Int
  | 0 => 0
  | p + 1 => if xand (xshr b (p : Int)) 1 = 1 then xor' (tbM w f b p) (xshl 1 (tpM w f (p : Int))) else tbM w f b p
section PRJ
variable {X : Nat × (Nat → Int)} {σ τ : xM} {a b : Int} {n : Nat}
theorem s276 {w f p : Int} (hw : 0 ≤ w ∧ w ≤ 2) (hp : 0 ≤ p ∧ p < 7) : ∀ d, Ev X d 276 0 [some (vi w), some (vi f), some (vi p)] [] SH σ = some (some (vi (tpM w f p)), SH, σ) := by
  intro d
  unfold tpM
  by_cases hf : f = 0
  · by_cases z : w = 0
    · simp (disch := first | omega | assumption | (simp (disch := omega) only [ite_self, Int.reduceAdd, xadd_eq, xsub_eq, xmul_eq, xneg_eq, xwr_eq, xwr_nk, xwr_nj, Int.toNat_natCast, x_nc] <;> first | omega | assumption) | fail) only [↓if_pos, ↓if_neg, ↓b276_0, ↓b276_32, ↓b276_4, ↓b276_41, ↓b276_38, ↓b276_17, ↓b276_8, ↓b276_60, ↓b276_45, ↓b276_30, ↓b276_21, ↓b276_13, ↓b276_83, ↓b276_65, ↓b276_56, ↓b276_50, ↓b276_31, ↓b276_26, ↓b276_91, ↓b276_87, ↓b276_74, ↓b276_69, ↓b276_59, ↓b276_100, ↓b276_96, ↓b276_115, ↓b276_82, ↓b276_78, ↓b276_111, ↓b276_105, x_bdi, x_bdn, ite_self, Int.reduceAdd, xadd_eq, xsub_eq, xmul_eq, xneg_eq, xwr_eq, xwr_nk, xwr_nj, Int.toNat_natCast, x_nc]
    · by_cases z3 : p = 3
      · simp (disch := first | omega | assumption | (simp (disch := omega) only [ite_self, Int.reduceAdd, xadd_eq, xsub_eq, xmul_eq, xneg_eq, xwr_eq, xwr_nk, xwr_nj, Int.toNat_natCast, x_nc] <;> first | omega | assumption) | fail) only [↓if_pos, ↓if_neg, ↓b276_0, ↓b276_32, ↓b276_4, ↓b276_41, ↓b276_38, ↓b276_17, ↓b276_8, ↓b276_60, ↓b276_45, ↓b276_30, ↓b276_21, ↓b276_13, ↓b276_83, ↓b276_65, ↓b276_56, ↓b276_50, ↓b276_31, ↓b276_26, ↓b276_91, ↓b276_87, ↓b276_74, ↓b276_69, ↓b276_59, ↓b276_100, ↓b276_96, ↓b276_115, ↓b276_82, ↓b276_78, ↓b276_111, ↓b276_105, x_bdi, x_bdn, ite_self, Int.reduceAdd, xadd_eq, xsub_eq, xmul_eq, xneg_eq, xwr_eq, xwr_nk, xwr_nj, Int.toNat_natCast, x_nc]
      · by_cases z4 : p = 4
        · simp (disch := first | omega | assumption | (simp (disch := omega) only [ite_self, Int.reduceAdd, xadd_eq, xsub_eq, xmul_eq, xneg_eq, xwr_eq, xwr_nk, xwr_nj, Int.toNat_natCast, x_nc] <;> first | omega | assumption) | fail) only [↓if_pos, ↓if_neg, ↓b276_0, ↓b276_32, ↓b276_4, ↓b276_41, ↓b276_38, ↓b276_17, ↓b276_8, ↓b276_60, ↓b276_45, ↓b276_30, ↓b276_21, ↓b276_13, ↓b276_83, ↓b276_65, ↓b276_56, ↓b276_50, ↓b276_31, ↓b276_26, ↓b276_91, ↓b276_87, ↓b276_74, ↓b276_69, ↓b276_59, ↓b276_100, ↓b276_96, ↓b276_115, ↓b276_82, ↓b276_78, ↓b276_111, ↓b276_105, x_bdi, x_bdn, ite_self, Int.reduceAdd, xadd_eq, xsub_eq, xmul_eq, xneg_eq, xwr_eq, xwr_nk, xwr_nj, Int.toNat_natCast, x_nc]
        · simp (disch := first | omega | assumption | (simp (disch := omega) only [ite_self, Int.reduceAdd, xadd_eq, xsub_eq, xmul_eq, xneg_eq, xwr_eq, xwr_nk, xwr_nj, Int.toNat_natCast, x_nc] <;> first | omega | assumption) | fail) only [↓if_pos, ↓if_neg, ↓b276_0, ↓b276_32, ↓b276_4, ↓b276_41, ↓b276_38, ↓b276_17, ↓b276_8, ↓b276_60, ↓b276_45, ↓b276_30, ↓b276_21, ↓b276_13, ↓b276_83, ↓b276_65, ↓b276_56, ↓b276_50, ↓b276_31, ↓b276_26, ↓b276_91, ↓b276_87, ↓b276_74, ↓b276_69, ↓b276_59, ↓b276_100, ↓b276_96, ↓b276_115, ↓b276_82, ↓b276_78, ↓b276_111, ↓b276_105, x_bdi, x_bdn, ite_self, Int.reduceAdd, xadd_eq, xsub_eq, xmul_eq, xneg_eq, xwr_eq, xwr_nk, xwr_nj, Int.toNat_natCast, x_nc]
  · by_cases z6 : p = 6
    · simp (disch := first | omega | assumption | (simp (disch := omega) only [ite_self, Int.reduceAdd, xadd_eq, xsub_eq, xmul_eq, xneg_eq, xwr_eq, xwr_nk, xwr_nj, Int.toNat_natCast, x_nc] <;> first | omega | assumption) | fail) only [↓if_pos, ↓if_neg, ↓b276_0, ↓b276_32, ↓b276_4, ↓b276_41, ↓b276_38, ↓b276_17, ↓b276_8, ↓b276_60, ↓b276_45, ↓b276_30, ↓b276_21, ↓b276_13, ↓b276_83, ↓b276_65, ↓b276_56, ↓b276_50, ↓b276_31, ↓b276_26, ↓b276_91, ↓b276_87, ↓b276_74, ↓b276_69, ↓b276_59, ↓b276_100, ↓b276_96, ↓b276_115, ↓b276_82, ↓b276_78, ↓b276_111, ↓b276_105, x_bdi, x_bdn, ite_self, Int.reduceAdd, xadd_eq, xsub_eq, xmul_eq, xneg_eq, xwr_eq, xwr_nk, xwr_nj, Int.toNat_natCast, x_nc]
    · by_cases z : w = 0
      · by_cases y : p < 3
        · simp (disch := first | omega | assumption | (simp (disch := omega) only [ite_self, Int.reduceAdd, xadd_eq, xsub_eq, xmul_eq, xneg_eq, xwr_eq, xwr_nk, xwr_nj, Int.toNat_natCast, x_nc] <;> first | omega | assumption) | fail) only [↓if_pos, ↓if_neg, ↓b276_0, ↓b276_32, ↓b276_4, ↓b276_41, ↓b276_38, ↓b276_17, ↓b276_8, ↓b276_60, ↓b276_45, ↓b276_30, ↓b276_21, ↓b276_13, ↓b276_83, ↓b276_65, ↓b276_56, ↓b276_50, ↓b276_31, ↓b276_26, ↓b276_91, ↓b276_87, ↓b276_74, ↓b276_69, ↓b276_59, ↓b276_100, ↓b276_96, ↓b276_115, ↓b276_82, ↓b276_78, ↓b276_111, ↓b276_105, x_bdi, x_bdn, ite_self, Int.reduceAdd, xadd_eq, xsub_eq, xmul_eq, xneg_eq, xwr_eq, xwr_nk, xwr_nj, Int.toNat_natCast, x_nc]
        · simp (disch := first | omega | assumption | (simp (disch := omega) only [ite_self, Int.reduceAdd, xadd_eq, xsub_eq, xmul_eq, xneg_eq, xwr_eq, xwr_nk, xwr_nj, Int.toNat_natCast, x_nc] <;> first | omega | assumption) | fail) only [↓if_pos, ↓if_neg, ↓b276_0, ↓b276_32, ↓b276_4, ↓b276_41, ↓b276_38, ↓b276_17, ↓b276_8, ↓b276_60, ↓b276_45, ↓b276_30, ↓b276_21, ↓b276_13, ↓b276_83, ↓b276_65, ↓b276_56, ↓b276_50, ↓b276_31, ↓b276_26, ↓b276_91, ↓b276_87, ↓b276_74, ↓b276_69, ↓b276_59, ↓b276_100, ↓b276_96, ↓b276_115, ↓b276_82, ↓b276_78, ↓b276_111, ↓b276_105, x_bdi, x_bdn, ite_self, Int.reduceAdd, xadd_eq, xsub_eq, xmul_eq, xneg_eq, xwr_eq, xwr_nk, xwr_nj, Int.toNat_natCast, x_nc]
      · by_cases z1 : w = 1
        · by_cases y0 : p = 0
          · simp (disch := first | omega | assumption | (simp (disch := omega) only [ite_self, Int.reduceAdd, xadd_eq, xsub_eq, xmul_eq, xneg_eq, xwr_eq, xwr_nk, xwr_nj, Int.toNat_natCast, x_nc] <;> first | omega | assumption) | fail) only [↓if_pos, ↓if_neg, ↓b276_0, ↓b276_32, ↓b276_4, ↓b276_41, ↓b276_38, ↓b276_17, ↓b276_8, ↓b276_60, ↓b276_45, ↓b276_30, ↓b276_21, ↓b276_13, ↓b276_83, ↓b276_65, ↓b276_56, ↓b276_50, ↓b276_31, ↓b276_26, ↓b276_91, ↓b276_87, ↓b276_74, ↓b276_69, ↓b276_59, ↓b276_100, ↓b276_96, ↓b276_115, ↓b276_82, ↓b276_78, ↓b276_111, ↓b276_105, x_bdi, x_bdn, ite_self, Int.reduceAdd, xadd_eq, xsub_eq, xmul_eq, xneg_eq, xwr_eq, xwr_nk, xwr_nj, Int.toNat_natCast, x_nc]
          · by_cases y3 : p = 3
            · simp (disch := first | omega | assumption | (simp (disch := omega) only [ite_self, Int.reduceAdd, xadd_eq, xsub_eq, xmul_eq, xneg_eq, xwr_eq, xwr_nk, xwr_nj, Int.toNat_natCast, x_nc] <;> first | omega | assumption) | fail) only [↓if_pos, ↓if_neg, ↓b276_0, ↓b276_32, ↓b276_4, ↓b276_41, ↓b276_38, ↓b276_17, ↓b276_8, ↓b276_60, ↓b276_45, ↓b276_30, ↓b276_21, ↓b276_13, ↓b276_83, ↓b276_65, ↓b276_56, ↓b276_50, ↓b276_31, ↓b276_26, ↓b276_91, ↓b276_87, ↓b276_74, ↓b276_69, ↓b276_59, ↓b276_100, ↓b276_96, ↓b276_115, ↓b276_82, ↓b276_78, ↓b276_111, ↓b276_105, x_bdi, x_bdn, ite_self, Int.reduceAdd, xadd_eq, xsub_eq, xmul_eq, xneg_eq, xwr_eq, xwr_nk, xwr_nj, Int.toNat_natCast, x_nc]
            · simp (disch := first | omega | assumption | (simp (disch := omega) only [ite_self, Int.reduceAdd, xadd_eq, xsub_eq, xmul_eq, xneg_eq, xwr_eq, xwr_nk, xwr_nj, Int.toNat_natCast, x_nc] <;> first | omega | assumption) | fail) only [↓if_pos, ↓if_neg, ↓b276_0, ↓b276_32, ↓b276_4, ↓b276_41, ↓b276_38, ↓b276_17, ↓b276_8, ↓b276_60, ↓b276_45, ↓b276_30, ↓b276_21, ↓b276_13, ↓b276_83, ↓b276_65, ↓b276_56, ↓b276_50, ↓b276_31, ↓b276_26, ↓b276_91, ↓b276_87, ↓b276_74, ↓b276_69, ↓b276_59, ↓b276_100, ↓b276_96, ↓b276_115, ↓b276_82, ↓b276_78, ↓b276_111, ↓b276_105, x_bdi, x_bdn, ite_self, Int.reduceAdd, xadd_eq, xsub_eq, xmul_eq, xneg_eq, xwr_eq, xwr_nk, xwr_nj, Int.toNat_natCast, x_nc]
        · by_cases y0 : p = 0
          · simp (disch := first | omega | assumption | (simp (disch := omega) only [ite_self, Int.reduceAdd, xadd_eq, xsub_eq, xmul_eq, xneg_eq, xwr_eq, xwr_nk, xwr_nj, Int.toNat_natCast, x_nc] <;> first | omega | assumption) | fail) only [↓if_pos, ↓if_neg, ↓b276_0, ↓b276_32, ↓b276_4, ↓b276_41, ↓b276_38, ↓b276_17, ↓b276_8, ↓b276_60, ↓b276_45, ↓b276_30, ↓b276_21, ↓b276_13, ↓b276_83, ↓b276_65, ↓b276_56, ↓b276_50, ↓b276_31, ↓b276_26, ↓b276_91, ↓b276_87, ↓b276_74, ↓b276_69, ↓b276_59, ↓b276_100, ↓b276_96, ↓b276_115, ↓b276_82, ↓b276_78, ↓b276_111, ↓b276_105, x_bdi, x_bdn, ite_self, Int.reduceAdd, xadd_eq, xsub_eq, xmul_eq, xneg_eq, xwr_eq, xwr_nk, xwr_nj, Int.toNat_natCast, x_nc]
          · by_cases y3 : p = 3
            · simp (disch := first | omega | assumption | (simp (disch := omega) only [ite_self, Int.reduceAdd, xadd_eq, xsub_eq, xmul_eq, xneg_eq, xwr_eq, xwr_nk, xwr_nj, Int.toNat_natCast, x_nc] <;> first | omega | assumption) | fail) only [↓if_pos, ↓if_neg, ↓b276_0, ↓b276_32, ↓b276_4, ↓b276_41, ↓b276_38, ↓b276_17, ↓b276_8, ↓b276_60, ↓b276_45, ↓b276_30, ↓b276_21, ↓b276_13, ↓b276_83, ↓b276_65, ↓b276_56, ↓b276_50, ↓b276_31, ↓b276_26, ↓b276_91, ↓b276_87, ↓b276_74, ↓b276_69, ↓b276_59, ↓b276_100, ↓b276_96, ↓b276_115, ↓b276_82, ↓b276_78, ↓b276_111, ↓b276_105, x_bdi, x_bdn, ite_self, Int.reduceAdd, xadd_eq, xsub_eq, xmul_eq, xneg_eq, xwr_eq, xwr_nk, xwr_nj, Int.toNat_natCast, x_nc]
            · by_cases y : p < 3
              · simp (disch := first | omega | assumption | (simp (disch := omega) only [ite_self, Int.reduceAdd, xadd_eq, xsub_eq, xmul_eq, xneg_eq, xwr_eq, xwr_nk, xwr_nj, Int.toNat_natCast, x_nc] <;> first | omega | assumption) | fail) only [↓if_pos, ↓if_neg, ↓b276_0, ↓b276_32, ↓b276_4, ↓b276_41, ↓b276_38, ↓b276_17, ↓b276_8, ↓b276_60, ↓b276_45, ↓b276_30, ↓b276_21, ↓b276_13, ↓b276_83, ↓b276_65, ↓b276_56, ↓b276_50, ↓b276_31, ↓b276_26, ↓b276_91, ↓b276_87, ↓b276_74, ↓b276_69, ↓b276_59, ↓b276_100, ↓b276_96, ↓b276_115, ↓b276_82, ↓b276_78, ↓b276_111, ↓b276_105, x_bdi, x_bdn, ite_self, Int.reduceAdd, xadd_eq, xsub_eq, xmul_eq, xneg_eq, xwr_eq, xwr_nk, xwr_nj, Int.toNat_natCast, x_nc]
              · simp (disch := first | omega | assumption | (simp (disch := omega) only [ite_self, Int.reduceAdd, xadd_eq, xsub_eq, xmul_eq, xneg_eq, xwr_eq, xwr_nk, xwr_nj, Int.toNat_natCast, x_nc] <;> first | omega | assumption) | fail) only [↓if_pos, ↓if_neg, ↓b276_0, ↓b276_32, ↓b276_4, ↓b276_41, ↓b276_38, ↓b276_17, ↓b276_8, ↓b276_60, ↓b276_45, ↓b276_30, ↓b276_21, ↓b276_13, ↓b276_83, ↓b276_65, ↓b276_56, ↓b276_50, ↓b276_31, ↓b276_26, ↓b276_91, ↓b276_87, ↓b276_74, ↓b276_69, ↓b276_59, ↓b276_100, ↓b276_96, ↓b276_115, ↓b276_82, ↓b276_78, ↓b276_111, ↓b276_105, x_bdi, x_bdn, ite_self, Int.reduceAdd, xadd_eq, xsub_eq, xmul_eq, xneg_eq, xwr_eq, xwr_nk, xwr_nj, Int.toNat_natCast, x_nc]
theorem it275 {w f b : Int} (hw : 0 ≤ w ∧ w ≤ 2) : ∀ (q p : Nat), p + q = 7 → ∀ d, Ev X (d + 1) 275 5 [some (vi w), some (vi f), some (vi b), some (vi (tbM w f b p)), some (vi p)] [] SH σ = some (some (vi (tbM w f b 7)), SH, σ) := by
  intro q
  induction q with
  | zero =>
    intro p e d
    obtain rfl : p = 7 := by omega
    rw [b275_5, if_pos (by omega), b275_40]
  | succ q ih =>
    intro p e d
    have ih := ih (p + 1) (by omega) d
    have sp := s276 (X := X) (σ := σ) (w := w) (f := f) (p := (p : Int)) hw (by omega)
    rw [tbM] at ih
    rw [b275_5, if_neg (by omega)]
    by_cases z : xand (xshr b (p : Int)) 1 = 1
    · rw [if_pos z] at ih
      simp (disch := first | omega | assumption | (simp (disch := omega) only [ite_self, Int.reduceAdd, xadd_eq, xsub_eq, xmul_eq, xneg_eq, xwr_eq, xwr_nk, xwr_nj, Int.toNat_natCast, x_nc] <;> first | omega | assumption) | fail) only [↓if_pos, ↓if_neg, ↓b275_0, ↓b275_40, ↓b275_12, ↓b275_34, ↓b275_22, ↓b275_31, ↓sp, x_bdi, x_bdn, ite_self, Int.reduceAdd, xadd_eq, xsub_eq, xmul_eq, xneg_eq, xwr_eq, xwr_nk, xwr_nj, Int.toNat_natCast, x_nc]
      exact ih
    · rw [if_neg z] at ih
      simp (disch := first | omega | assumption | (simp (disch := omega) only [ite_self, Int.reduceAdd, xadd_eq, xsub_eq, xmul_eq, xneg_eq, xwr_eq, xwr_nk, xwr_nj, Int.toNat_natCast, x_nc] <;> first | omega | assumption) | fail) only [↓if_pos, ↓if_neg, ↓b275_0, ↓b275_40, ↓b275_12, ↓b275_34, ↓b275_22, ↓b275_31, x_bdi, x_bdn, ite_self, Int.reduceAdd, xadd_eq, xsub_eq, xmul_eq, xneg_eq, xwr_eq, xwr_nk, xwr_nj, Int.toNat_natCast, x_nc]
      exact ih
theorem s275 {w f b : Int} (hw : 0 ≤ w ∧ w ≤ 2) : ∀ d, Ev X (d + 1) 275 0 [some (vi w), some (vi f), some (vi b), none, none] [] SH σ = some (some (vi (tbM w f b 7)), SH, σ) := by
  intro d
  rw [b275_0]
  exact it275 hw 7 0 (by omega) d
theorem tb_eq' : ∀ t, t < 3 → ∀ b, b < 128 → (tbL 1 ((b : Nat) : Int) t 7 = tbM ((t : Nat) : Int) 1 ((b : Nat) : Int) 7 ∧ 0 ≤ tbM ((t : Nat) : Int) 1 ((b : Nat) : Int) 7 ∧ tbM ((t : Nat) : Int) 1 ((b : Nat) : Int) 7 < 128) ∧ (b < 32 → tbL 0 ((b : Nat) : Int) t 5 = tbM ((t : Nat) : Int) 0 ((b : Nat) : Int) 7 ∧ 0 ≤ tbM ((t : Nat) : Int) 0 ((b : Nat) : Int) 7 ∧ tbM ((t : Nat) : Int) 0 ((b : Nat) : Int) 7 < 128) := by decide +kernel
theorem tb_eq {t : Nat} {f b : Int} (ht : t < 3) (hf : f = 0 ∨ f = 1) (h0 : 0 ≤ b) (h1 : b < 128) (h2 : f = 0 → b < 32) : tbL f b t (tbN f) = tbM t f b 7 ∧ 0 ≤ tbM t f b 7 ∧ tbM t f b 7 < 128 := by
  have q := tb_eq' t ht b.toNat (by omega)
  rw [Int.toNat_of_nonneg h0] at q
  rcases hf with rfl | rfl
  · exact q.2 (by have := h2 rfl; omega)
  · exact q.1
/-- a cell of the row, turned, in the model -/
def trC (σ : xM) (t n : Nat) : Nat → Int := fun j => rdB (σ 102) (σ 107 (tsI t n j)) (tbM t (σ 107 (tsI t n j)) (σ 110 (tsI t n j)) 7)
theorem s273 {t j : Nat} (ht : t ≤ 2) (hn : σ 100 16 = n) (hn2 : n ≤ 11) (hj : j < n) (hf : ∀ c, c < n → σ 107 c = 0 ∨ σ 107 c = 1) : ∀ d, Ev X (d + 3) 273 0 [some (vr 100), some (vi t), some (vi j), none] [] SH σ = some (some (vi (trC σ t n j)), SH, σ) := by
  intro d
  have ti : tsI t n j < n := by
    unfold tsI
    split <;> omega
  have e1 : f274 σ t j = (tsI t n j : Nat) := by
    unfold f274 tsI
    rw [hn]
    by_cases z : t = 2
    · rw [if_neg (by omega), if_pos z]
    · have y : xsub (n : Int) 1 = (n : Int) - 1 := xsub_eq (by omega) (by omega)
      rw [if_pos (by omega), if_neg z, y, xsub_eq (by omega) (by omega)]
      omega
  have v := fun d => s274 (X := X) (d := d) (σ := σ) (a1 := (t : Int)) (a2 := (j : Int))
  rw [e1] at v
  have s1 := fun d => s275 (X := X) (σ := σ) (w := (t : Int)) (f := σ 107 (tsI t n j)) (b := σ 110 (tsI t n j)) (by omega) d
  have s2 := fun d => s222 (X := X) (d := d) (σ := σ) (fig := σ 107 (tsI t n j)) (b := tbM t (σ 107 (tsI t n j)) (σ 110 (tsI t n j)) 7) (hf _ ti)
  unfold trC
  refine Eq.trans b273_0 ?_
  refine x_bind (v (d + 2)) ?_
  dsimp only
  refine Eq.trans (b273_6 (by omega)) ?_
  rw [Int.toNat_natCast]
  refine x_bind (s1 (d + 1)) ?_
  dsimp only
  refine Eq.trans b273_30 ?_
  refine x_bind (s2 (d + 1)) ?_
  exact b273_33
/-- the class's spare row, turned -/
theorem s145T {t : Nat} (ht : t ≤ 2) (hR : Crow σ) (hr : rowOk σ 23 n) : ∃ τ, (∀ d, Ev X (d + 1) 145 0 [some (vr 29), some (vr 23), some (vi t), none, none] [] SH σ = some (none, SH, τ)) ∧ chg [29, 30, 31] [] σ τ ∧ rowOk τ 29 n ∧ (∀ j, j < n → rwC τ 29 j = trC σ t n j) := by
  obtain ⟨h1, h2, h3⟩ := hr
  obtain ⟨r1, r2, r3, r4⟩ := hR
  have w := fun d => s145 (X := X) (d := d) (σ := σ) (k := 29) (k1 := 23) (t := t) ht (Or.inr (Or.inr (Or.inl rfl))) (Or.inl rfl) (by decide) r1 r2 (fun c hc => (r4 c hc).2.1)
  rw [h1, Int.toNat_natCast] at w
  generalize hA : tfA (xwr σ 29 0 (n : Int)) 23 t n = A at w
  generalize hB : tfB (xwr σ 29 0 (n : Int)) 23 t n = B at w
  have c : chg [29, 30, 31] [] σ (lay2 (xwr σ 29 0 (n : Int)) 29 A B n) := chg_xr rfl (chg_xr rfl (chg_wr rfl chg_rf))
  have u0 : lay2 (xwr σ 29 0 (n : Int)) 29 A B n 29 0 = n := by
    rw [lay2_at (by decide) (by decide), xwr_eq]
  have tq : ∀ j, j < n → tsI t n j < n := by
    intro j hj
    unfold tsI
    split <;> omega
  have u1 : ∀ j, j < n → lay2 (xwr σ 29 0 (n : Int)) 29 A B n 30 j = σ 24 (tsI t n j) := by
    intro j hj
    unfold lay2
    rw [xrow_ne (by decide), xrow_eq, if_pos hj, ← hA]
    unfold tfA
    exact xwr_nk (by decide)
  have u2 : ∀ j, j < n → lay2 (xwr σ 29 0 (n : Int)) 29 A B n 31 j = tbM t (σ 24 (tsI t n j)) (σ 25 (tsI t n j)) 7 ∧ 0 ≤ tbM t (σ 24 (tsI t n j)) (σ 25 (tsI t n j)) 7 ∧ tbM t (σ 24 (tsI t n j)) (σ 25 (tsI t n j)) 7 < 128 := by
    intro j hj
    have q := r4 (tsI t n j) (by have := tq j hj; omega)
    have e := tb_eq (t := t) (by omega) q.2.1 q.2.2.2.1 q.2.2.2.2.1 q.2.2.2.2.2
    unfold lay2
    rw [xrow_eq, if_pos hj, ← hB]
    unfold tfB
    rw [xwr_nk (by decide), xwr_nk (by decide)]
    exact e
  refine ⟨_, w, c, ⟨u0, h2, fun j hj => ?_⟩, fun j hj => ?_⟩
  · have q := r4 (tsI t n j) (by have := tq j hj; omega)
    rw [u1 j hj, (u2 j hj).1]
    exact ⟨q.2.1, (u2 j hj).2⟩
  · have q := r4 (tsI t n j) (by have := tq j hj; omega)
    have w102 : lay2 (xwr σ 29 0 (n : Int)) 29 A B n 102 = σ 102 := chg_row c (fun _ => rfl) rfl
    unfold rwC trC
    rw [w102, u1 j hj, (u2 j hj).1, q.1, q.2.2.1]
theorem pr_turned (h : Core σ) : Pair X 32 271 [some (vr 0), some (vi a), some (vi b)] [some (vr 100), some (vi a), some (vi b)] σ (Post σ) := by
  obtain ⟨n, hr, h16, hf, hcs, hb⟩ := Crow_rw h.2.2.2.1
  by_cases ha : a < 0 ∨ 2 < a
  · refine Pair_q0 (r := -1) (r' := -1) h (fun d => ?_) (fun d => ?_) rfl
    · simp (disch := first | omega | assumption | (simp (disch := omega) only [ite_self, Int.reduceAdd, xadd_eq, xsub_eq, xmul_eq, xneg_eq, xwr_eq, xwr_nk, xwr_nj, Int.toNat_natCast, x_nc] <;> first | omega | assumption) | fail) only [↓if_pos, ↓if_neg, ↓b32_0, ↓b32_9, ↓b32_4, ↓b32_11, ↓b32_23, ↓b32_35, x_bdi, x_bdn, ite_self, Int.reduceAdd, xadd_eq, xsub_eq, xmul_eq, xneg_eq, xwr_eq, xwr_nk, xwr_nj, Int.toNat_natCast, x_nc]
    · simp (disch := first | omega | assumption | (simp (disch := omega) only [ite_self, Int.reduceAdd, xadd_eq, xsub_eq, xmul_eq, xneg_eq, xwr_eq, xwr_nk, xwr_nj, Int.toNat_natCast, x_nc, f272] <;> first | omega | assumption) | fail) only [↓if_pos, ↓if_neg, ↓b271_0, ↓b271_4, ↓b271_24, ↓b271_7, ↓b271_25, ↓b271_12, ↓b271_15, ↓b271_21, ↓s272, x_bdi, x_bdn, ite_self, Int.reduceAdd, xadd_eq, xsub_eq, xmul_eq, xneg_eq, xwr_eq, xwr_nk, xwr_nj, Int.toNat_natCast, x_nc]
  · obtain ⟨t, rfl⟩ : ∃ t : Nat, a = t := ⟨a.toNat, by omega⟩
    obtain ⟨σ1, w, c1, hr1, hcs1⟩ := s145T (X := X) (t := t) (by omega) h.2.2.2.1 hr
    have hF1 : Cform σ1 := Cform_eqp (eqp_ok rfl c1) h.2.1
    obtain ⟨g1, g2⟩ := FC_dg hF1.2.2.1
    have v := fun d => s140 (X := X) (d := d) (σ := σ1) (k := 29) (a2 := b) (Or.inr (Or.inr (Or.inl rfl))) g1 g2
    rw [f140_rd hF1 (fun c hc => hr1.2.2 c (by have := hr1.1; omega)) (by have := hr1.1; have := hr1.2.1; omega), hr1.1] at v
    have n11 := hr.2.1
    refine ⟨if 0 ≤ b ∧ b < (n : Int) then rdB (σ1 102) (σ1 30 b.toNat) (σ1 31 b.toNat) else -1, σ1, σ1, fun d => ?_, fun d => ?_, Post_sc h (chg_mo rfl c1)⟩
    · simp (disch := first | omega | assumption | (simp (disch := omega) only [ite_self, Int.reduceAdd, xadd_eq, xsub_eq, xmul_eq, xneg_eq, xwr_eq, xwr_nk, xwr_nj, Int.toNat_natCast, x_nc] <;> first | omega | assumption) | fail) only [↓if_pos, ↓if_neg, ↓b32_0, ↓b32_9, ↓b32_4, ↓b32_11, ↓b32_23, ↓b32_35, ↓w, ↓v, x_bdi, x_bdn, ite_self, Int.reduceAdd, xadd_eq, xsub_eq, xmul_eq, xneg_eq, xwr_eq, xwr_nk, xwr_nj, Int.toNat_natCast, x_nc]
    · have u16 : σ1 100 16 = n := by rw [c1 100 16 rfl (fun _ => absurd ‹_› (by decide))]; exact h16
      have u107 : σ1 107 = σ 107 := chg_row c1 (fun _ => rfl) rfl
      have u110 : σ1 110 = σ 110 := chg_row c1 (fun _ => rfl) rfl
      have u102 : σ1 102 = σ 102 := chg_row c1 (fun _ => rfl) rfl
      by_cases z : 0 ≤ b ∧ b < (n : Int)
      · obtain ⟨j, rfl⟩ : ∃ j : Nat, b = j := ⟨b.toNat, by omega⟩
        have s3 := s273 (X := X) (σ := σ1) (t := t) (j := j) (by omega) u16 n11 (by omega) (by rw [u107]; exact hf)
        have e : trC σ1 t n j = rwC σ1 29 j := by
          rw [hcs1 j (by omega)]
          unfold trC
          rw [u102, u107, u110]
        rw [e] at s3
        unfold rwC at s3
        rw [if_pos z, Int.toNat_natCast]
        simp (disch := first | omega | assumption | (simp (disch := omega) only [ite_self, Int.reduceAdd, xadd_eq, xsub_eq, xmul_eq, xneg_eq, xwr_eq, xwr_nk, xwr_nj, Int.toNat_natCast, x_nc, f272, f220, u16] <;> first | omega | assumption) | fail) only [↓if_pos, ↓if_neg, ↓b271_0, ↓b271_4, ↓b271_24, ↓b271_7, ↓b271_25, ↓b271_12, ↓b271_15, ↓b271_21, ↓s272, ↓s220, ↓s3, x_bdi, x_bdn, ite_self, Int.reduceAdd, xadd_eq, xsub_eq, xmul_eq, xneg_eq, xwr_eq, xwr_nk, xwr_nj, Int.toNat_natCast, x_nc]
      · rw [if_neg z]
        simp (disch := first | omega | assumption | (simp (disch := omega) only [ite_self, Int.reduceAdd, xadd_eq, xsub_eq, xmul_eq, xneg_eq, xwr_eq, xwr_nk, xwr_nj, Int.toNat_natCast, x_nc, f272, f220, u16] <;> first | omega | assumption) | fail) only [↓if_pos, ↓if_neg, ↓b271_0, ↓b271_4, ↓b271_24, ↓b271_7, ↓b271_25, ↓b271_12, ↓b271_15, ↓b271_21, ↓s272, ↓s220, x_bdi, x_bdn, ite_self, Int.reduceAdd, xadd_eq, xsub_eq, xmul_eq, xneg_eq, xwr_eq, xwr_nk, xwr_nj, Int.toNat_natCast, x_nc]
theorem it277 {t : Nat} (ht : t ≤ 2) (hn : σ 100 16 = n) (hn2 : n ≤ 11) (hf : ∀ c, c < n → σ 107 c = 0 ∨ σ 107 c = 1) : ∀ (q i : Nat), i + q = n → ∀ d, Ev X (d + 4) 277 18 [some (vr 100), some (vi t), some (vi i)] [] SH (U1 σ 113 (trC σ t n) i) = Ev X (d + 4) 277 44 [some (vr 100), some (vi t), some (vi n)] [] SH (U1 σ 113 (trC σ t n) n) := by
  intro q
  induction q with
  | zero =>
    intro i e d
    obtain rfl : i = n := by omega
    rw [b277_18, U1_at (by decide), if_pos (by omega)]
  | succ q ih =>
    intro i e d
    have ih := ih (i + 1) (by omega) d
    have e1 : U1 σ 113 (trC σ t n) i 107 = σ 107 := U1_at (by decide)
    have e2 : U1 σ 113 (trC σ t n) i 110 = σ 110 := U1_at (by decide)
    have e3 : U1 σ 113 (trC σ t n) i 102 = σ 102 := U1_at (by decide)
    have s3 := s273 (X := X) (σ := U1 σ 113 (trC σ t n) i) (t := t) (j := i) ht (by rw [U1_at (by decide)]; exact hn) hn2 (by omega) (by rw [e1]; exact hf)
    have e4 : trC (U1 σ 113 (trC σ t n) i) t n i = trC σ t n i := by
      show rdB (U1 σ 113 (trC σ t n) i 102) (U1 σ 113 (trC σ t n) i 107 (tsI t n i)) (tbM t (U1 σ 113 (trC σ t n) i 107 (tsI t n i)) (U1 σ 113 (trC σ t n) i 110 (tsI t n i)) 7) = trC σ t n i
      rw [e1, e2, e3]
      rfl
    rw [e4] at s3
    rw [b277_18, U1_at (by decide), if_neg (by omega)]
    refine Eq.trans b277_26 ?_
    refine x_bind (s3 d) ?_
    dsimp only
    refine Eq.trans (b277_37 (by omega)) ?_
    rw [Int.toNat_natCast, xadd_eq (by omega) (by omega), U1_s]
    exact ih
theorem pr_turnedTrue (h : Core σ) : Pair X 33 277 [some (vr 0), some (vi a)] [some (vr 100), some (vi a), none] σ (Post σ) := by
  obtain ⟨n, hr, h16, hf, hcs, hb⟩ := Crow_rw h.2.2.2.1
  by_cases ha : a < 0 ∨ 2 < a
  · refine Pair_q0 (r := -1) (r' := -1) h (fun d => ?_) (fun d => ?_) rfl
    · simp (disch := first | omega | assumption | (simp (disch := omega) only [ite_self, Int.reduceAdd, xadd_eq, xsub_eq, xmul_eq, xneg_eq, xwr_eq, xwr_nk, xwr_nj, Int.toNat_natCast, x_nc] <;> first | omega | assumption) | fail) only [↓if_pos, ↓if_neg, ↓b33_0, ↓b33_9, ↓b33_4, ↓b33_11, ↓b33_23, ↓b33_31, x_bdi, x_bdn, ite_self, Int.reduceAdd, xadd_eq, xsub_eq, xmul_eq, xneg_eq, xwr_eq, xwr_nk, xwr_nj, Int.toNat_natCast, x_nc]
    · simp (disch := first | omega | assumption | (simp (disch := omega) only [ite_self, Int.reduceAdd, xadd_eq, xsub_eq, xmul_eq, xneg_eq, xwr_eq, xwr_nk, xwr_nj, Int.toNat_natCast, x_nc, f272] <;> first | omega | assumption) | fail) only [↓if_pos, ↓if_neg, ↓b277_0, ↓b277_4, ↓b277_14, ↓b277_7, ↓b277_16, ↓b277_44, ↓b277_26, ↓b277_52, ↓b277_37, ↓b277_59, ↓b277_55, ↓b277_63, ↓b277_71, ↓b277_70, ↓b277_66, ↓s272, x_bdi, x_bdn, ite_self, Int.reduceAdd, xadd_eq, xsub_eq, xmul_eq, xneg_eq, xwr_eq, xwr_nk, xwr_nj, Int.toNat_natCast, x_nc]
  · obtain ⟨t, rfl⟩ : ∃ t : Nat, a = t := ⟨a.toNat, by omega⟩
    obtain ⟨σ1, w, c1, hr1, hcs1⟩ := s145T (X := X) (t := t) (by omega) h.2.2.2.1 hr
    have hF1 : Cform σ1 := Cform_eqp (eqp_ok rfl c1) h.2.1
    have hD1 : Crd σ1 := Crd_eqp (eqp_ok rfl c1) h.2.2.2.2.2.2.2.2.1
    obtain ⟨σ2, w2, c2⟩ := s17 (X := X) (k1 := 29) (Or.inr (Or.inr (Or.inl rfl))) hF1 hD1 hr1
    have c12 : chg [29, 30, 31] [] σ σ2 := chg_tr c1 (chg_mo rfl c2)
    have n11 := hr.2.1
    have u16 : σ2 100 16 = n := by rw [c12 100 16 rfl (fun _ => absurd ‹_› (by decide))]; exact h16
    have u107 : σ2 107 = σ 107 := chg_row c12 (fun _ => rfl) rfl
    have u110 : σ2 110 = σ 110 := chg_row c12 (fun _ => rfl) rfl
    have u102 : σ2 102 = σ 102 := chg_row c12 (fun _ => rfl) rfl
    have et : trC σ2 t n = trC σ t n := by unfold trC; rw [u102, u107, u110]
    have ec : truV (rwC σ1 29) n = truV (trC σ2 t n) n := by rw [et]; exact truV_cs hcs1
    rw [ec] at w2
    have cl : ∀ d, Ev X (d + 100) 33 0 [some (vr 0), some (vi t)] [] SH σ = some (some (vi (truV (trC σ2 t n) n)), SH, σ2) := by
      intro d
      simp (disch := first | omega | assumption | (simp (disch := omega) only [ite_self, Int.reduceAdd, xadd_eq, xsub_eq, xmul_eq, xneg_eq, xwr_eq, xwr_nk, xwr_nj, Int.toNat_natCast, x_nc] <;> first | omega | assumption) | fail) only [↓if_pos, ↓if_neg, ↓b33_0, ↓b33_9, ↓b33_4, ↓b33_11, ↓b33_23, ↓b33_31, ↓w, ↓w2, x_bdi, x_bdn, ite_self, Int.reduceAdd, xadd_eq, xsub_eq, xmul_eq, xneg_eq, xwr_eq, xwr_nk, xwr_nj, Int.toNat_natCast, x_nc]
    have lp := it277 (X := X) (σ := σ2) (t := t) (by omega) u16 n11 (by rw [u107]; exact hf) n 0 (by omega)
    rw [U1_0] at lp
    have lp : ∀ d, Ev X (d + 4) 277 18 [some (vr 100), some (vi t), some (vi 0)] [] SH σ2 = _ := lp
    have v16 : U1 σ2 113 (trC σ2 t n) n 100 16 = n := by rw [U1_at (by decide)]; exact u16
    by_cases n0 : n = 0
    · subst n0
      refine ⟨truV (trC σ2 t 0) 0, σ2, σ2, cl, fun d => ?_, Post_sc h (chg_mo rfl c12)⟩
      rw [truV_n (cs := trC σ2 t 0) (n := 0) (fun z => absurd (show (0 : Int) = 1 from z.2.1) (by decide))]
      simp (disch := first | omega | assumption | (simp (disch := omega) only [ite_self, Int.reduceAdd, xadd_eq, xsub_eq, xmul_eq, xneg_eq, xwr_eq, xwr_nk, xwr_nj, Int.toNat_natCast, x_nc, f272, u16] <;> first | omega | assumption) | fail) only [↓if_pos, ↓if_neg, ↓b277_0, ↓b277_4, ↓b277_14, ↓b277_7, ↓b277_16, ↓b277_44, ↓b277_26, ↓b277_52, ↓b277_37, ↓b277_59, ↓b277_55, ↓b277_63, ↓b277_71, ↓b277_70, ↓b277_66, ↓s272, u16, x_bdi, x_bdn, ite_self, Int.reduceAdd, xadd_eq, xsub_eq, xmul_eq, xneg_eq, xwr_eq, xwr_nk, xwr_nj, Int.toNat_natCast, x_nc]
    · by_cases e : okW (trC σ2 t n) n
      · obtain ⟨σ3, w3, c3, q1, q2, q3, q4, q5⟩ := s225y (X := X) (σ := U1 σ2 113 (trC σ2 t n) n) (cs := trC σ2 t n) (n := n) (fun j hj => U1_in hj) n11 e
        have v := f226_I q1 q2 q3 q4 q5
        have v2 := fun d => s226 (X := X) (d := d) (σ := σ3)
        rw [v] at v2
        refine ⟨truV (trC σ2 t n) n, σ2, σ3, cl, fun d => ?_, Post_sc h (chg_tr (chg_mo rfl c12) (chg_tr (chg_xr rfl chg_rf) (chg_mo rfl c3)))⟩
        have e5 : Ev X (d + 100) 277 0 [some (vr 100), some (vi t), none] [] SH σ2 = Ev X (d + 100) 277 18 [some (vr 100), some (vi t), some (vi 0)] [] SH σ2 := by
          simp (disch := first | omega | assumption | (simp (disch := omega) only [ite_self, Int.reduceAdd, xadd_eq, xsub_eq, xmul_eq, xneg_eq, xwr_eq, xwr_nk, xwr_nj, Int.toNat_natCast, x_nc, f272, u16] <;> first | omega | assumption) | fail) only [↓if_pos, ↓if_neg, ↓b277_0, ↓b277_4, ↓b277_14, ↓b277_7, ↓b277_16, ↓b277_44, ↓b277_26, ↓b277_52, ↓b277_37, ↓b277_59, ↓b277_55, ↓b277_63, ↓b277_71, ↓b277_70, ↓b277_66, ↓s272, u16, x_bdi, x_bdn, ite_self, Int.reduceAdd, xadd_eq, xsub_eq, xmul_eq, xneg_eq, xwr_eq, xwr_nk, xwr_nj, Int.toNat_natCast, x_nc]
        rw [truV_y e]
        refine e5.trans ((lp (d + 96)).trans ?_)
        by_cases z : lsT (rdSt r0 (trC σ2 t n) n) = 0 ∧ rdSt r0 (trC σ2 t n) n 1 = rdSt r0 (trC σ2 t n) n 2 + clZ (rdSt r0 (trC σ2 t n) n)
        · have tt : trI (rdSt r0 (trC σ2 t n) n) = 1 := if_pos z
          rw [tt] at v2 ⊢
          simp (disch := first | omega | assumption | (simp (disch := omega) only [ite_self, Int.reduceAdd, xadd_eq, xsub_eq, xmul_eq, xneg_eq, xwr_eq, xwr_nk, xwr_nj, Int.toNat_natCast, x_nc, v16] <;> first | omega | assumption) | fail) only [↓if_pos, ↓if_neg, ↓b277_0, ↓b277_4, ↓b277_14, ↓b277_7, ↓b277_16, ↓b277_44, ↓b277_26, ↓b277_52, ↓b277_37, ↓b277_59, ↓b277_55, ↓b277_63, ↓b277_71, ↓b277_70, ↓b277_66, v16, ↓w3, w3, ↓v2, x_bdi, x_bdn, ite_self, Int.reduceAdd, xadd_eq, xsub_eq, xmul_eq, xneg_eq, xwr_eq, xwr_nk, xwr_nj, Int.toNat_natCast, x_nc]
        · have tt : trI (rdSt r0 (trC σ2 t n) n) = 0 := if_neg z
          rw [tt] at v2 ⊢
          simp (disch := first | omega | assumption | (simp (disch := omega) only [ite_self, Int.reduceAdd, xadd_eq, xsub_eq, xmul_eq, xneg_eq, xwr_eq, xwr_nk, xwr_nj, Int.toNat_natCast, x_nc, v16] <;> first | omega | assumption) | fail) only [↓if_pos, ↓if_neg, ↓b277_0, ↓b277_4, ↓b277_14, ↓b277_7, ↓b277_16, ↓b277_44, ↓b277_26, ↓b277_52, ↓b277_37, ↓b277_59, ↓b277_55, ↓b277_63, ↓b277_71, ↓b277_70, ↓b277_66, v16, ↓w3, w3, ↓v2, x_bdi, x_bdn, ite_self, Int.reduceAdd, xadd_eq, xsub_eq, xmul_eq, xneg_eq, xwr_eq, xwr_nk, xwr_nj, Int.toNat_natCast, x_nc]
      · obtain ⟨σ3, w3, c3⟩ := s225n (X := X) (σ := U1 σ2 113 (trC σ2 t n) n) (cs := trC σ2 t n) (n := n) (fun j hj => U1_in hj) (fun j _ => rdB_sy) n11 e
        refine ⟨truV (trC σ2 t n) n, σ2, σ3, cl, fun d => ?_, Post_sc h (chg_tr (chg_mo rfl c12) (chg_tr (chg_xr rfl chg_rf) (chg_mo rfl c3)))⟩
        have e5 : Ev X (d + 100) 277 0 [some (vr 100), some (vi t), none] [] SH σ2 = Ev X (d + 100) 277 18 [some (vr 100), some (vi t), some (vi 0)] [] SH σ2 := by
          simp (disch := first | omega | assumption | (simp (disch := omega) only [ite_self, Int.reduceAdd, xadd_eq, xsub_eq, xmul_eq, xneg_eq, xwr_eq, xwr_nk, xwr_nj, Int.toNat_natCast, x_nc, f272, u16] <;> first | omega | assumption) | fail) only [↓if_pos, ↓if_neg, ↓b277_0, ↓b277_4, ↓b277_14, ↓b277_7, ↓b277_16, ↓b277_44, ↓b277_26, ↓b277_52, ↓b277_37, ↓b277_59, ↓b277_55, ↓b277_63, ↓b277_71, ↓b277_70, ↓b277_66, ↓s272, u16, x_bdi, x_bdn, ite_self, Int.reduceAdd, xadd_eq, xsub_eq, xmul_eq, xneg_eq, xwr_eq, xwr_nk, xwr_nj, Int.toNat_natCast, x_nc]
        rw [truV_n e]
        refine e5.trans ((lp (d + 96)).trans ?_)
        simp (disch := first | omega | assumption | (simp (disch := omega) only [ite_self, Int.reduceAdd, xadd_eq, xsub_eq, xmul_eq, xneg_eq, xwr_eq, xwr_nk, xwr_nj, Int.toNat_natCast, x_nc, v16] <;> first | omega | assumption) | fail) only [↓if_pos, ↓if_neg, ↓b277_0, ↓b277_4, ↓b277_14, ↓b277_7, ↓b277_16, ↓b277_44, ↓b277_26, ↓b277_52, ↓b277_37, ↓b277_59, ↓b277_55, ↓b277_63, ↓b277_71, ↓b277_70, ↓b277_66, v16, ↓w3, w3, x_bdi, x_bdn, ite_self, Int.reduceAdd, xadd_eq, xsub_eq, xmul_eq, xneg_eq, xwr_eq, xwr_nk, xwr_nj, Int.toNat_natCast, x_nc]
end PRJ
