/-! TOKENS, in the class -/
def isLt (c : Int) : Bool := decide (97 ≤ c ∧ c ≤ 122)
def isDg (c : Int) : Bool := decide (48 ≤ c ∧ c ≤ 57)
/-- where a run of like bytes ends -/
def runE (P : Int → Bool) (tx : Nat → Int) : Nat → Nat → Nat
  | 0, p => p
  | k + 1, p => if P (tx p) = true then runE P tx k (p + 1) else p
/-- a number's digits; more than nine of them may wrap -/
def dval (tx : Nat → Int) (q : Nat) : Nat → Int
  | 0 => 0
  | k + 1 => xsub (xadd (xmul (dval tx q k) 10) (tx (q + k))) 48
section TKC
variable {X : Nat × (Nat → Int)} {σ τ : xM} {P : Int → Bool} {tx : Nat → Int} {n p q : Nat} {o1 : Option xV}
theorem runE_rg : ∀ (k p : Nat), p ≤ runE P tx k p ∧ runE P tx k p ≤ p + k
  | 0, p => ⟨Nat.le_refl _, Nat.le_refl _⟩
  | k + 1, p => by
    rw [runE]
    split
    · have := runE_rg k (p + 1)
      omega
    · omega
theorem runE_in : ∀ (k p i : Nat), p ≤ i → i < runE P tx k p → P (tx i) = true
  | 0, p, i, h1, h2 => by
    have : runE P tx 0 p = p := rfl
    omega
  | k + 1, p, i, h1, h2 => by
    rw [runE] at h2
    split at h2
    · rename_i z
      by_cases y : i = p
      · subst y; exact z
      · exact runE_in k (p + 1) i (by omega) h2
    · omega
theorem runE_out : ∀ (k p : Nat), runE P tx k p < p + k → P (tx (runE P tx k p)) = false
  | 0, p, h => by
    have : runE P tx 0 p = p := rfl
    omega
  | k + 1, p, h => by
    rw [runE] at h ⊢
    split at h
    · rename_i z
      rw [if_pos z]
      exact runE_out k (p + 1) (by omega)
    · rename_i z
      rw [if_neg z]
      simpa using z
theorem xwr_2 {k j : Nat} {x y : Int} : xwr (xwr σ k j x) k j y = xwr σ k j y := by
  funext a b
  unfold xwr
  by_cases h : a = k ∧ b = j
  · rw [if_pos h, if_pos h]
  · rw [if_neg h, if_neg h, if_neg h]
theorem isBl_d {c : Int} : isBl c = decide (c = 32 ∨ c = 10) := rfl
theorem it159 (h1 : σ 1 1 = n) (hn : n ≤ 300) : ∀ (k p : Nat), p + k = n → ∀ d, Ev X (d + 1) 159 8 [some (vr 1), o1] [] SH (xwr σ 1 6 p) = Ev X (d + 1) 159 46 [some (vr 1), o1] [] SH (xwr σ 1 6 (runE isBl (σ 2) k p : Nat)) := by
  intro k
  induction k with
  | zero =>
    intro p e d
    rw [b159_8, xwr_nj (by decide), xwr_eq, if_pos (by omega)]
    rfl
  | succ k ih =>
    intro p e d
    have ih := ih (p + 1) (by omega) d
    rw [b159_8, xwr_nj (by decide), xwr_eq, if_neg (by omega), runE]
    by_cases z : isBl (σ 2 p) = true
    · rw [if_pos z]
      have z := isBl_t z
      refine Eq.trans ?_ ih
      simp (disch := first | omega | assumption | (simp (disch := omega) only [ite_self, Int.reduceAdd, xadd_eq, xsub_eq, xmul_eq, xneg_eq, xwr_eq, xwr_nk, xwr_nj, Int.toNat_natCast, x_nc, f160, f161] <;> first | omega | assumption) | fail) only [↓if_pos, ↓if_neg, ↓b159_0, ↓b159_19, ↓b159_62, ↓b159_27, ↓b159_76, ↓b159_68, ↓b159_30, ↓b159_80, ↓b159_140, ↓b159_33, ↓b159_90, ↓b159_83, ↓b159_94, ↓b159_87, ↓b159_104, ↓b159_97, ↓b159_129, ↓b159_101, ↓b159_136, ↓b159_132, ↓b159_137, ↓s160, ↓s161, f160, xwr_2, x_bdi, x_bdn, ite_self, Int.reduceAdd, xadd_eq, xsub_eq, xmul_eq, xneg_eq, xwr_eq, xwr_nk, xwr_nj, Int.toNat_natCast, x_nc]
    · rw [if_neg z]
      have z : ¬ (σ 2 p = 32 ∨ σ 2 p = 10) := isBl_f (by simpa using z)
      simp (disch := first | omega | assumption | (simp (disch := omega) only [ite_self, Int.reduceAdd, xadd_eq, xsub_eq, xmul_eq, xneg_eq, xwr_eq, xwr_nk, xwr_nj, Int.toNat_natCast, x_nc, f160, f161] <;> first | omega | assumption) | fail) only [↓if_pos, ↓if_neg, ↓b159_0, ↓b159_19, ↓b159_62, ↓b159_27, ↓b159_76, ↓b159_68, ↓b159_30, ↓b159_80, ↓b159_140, ↓b159_33, ↓b159_90, ↓b159_83, ↓b159_94, ↓b159_87, ↓b159_104, ↓b159_97, ↓b159_129, ↓b159_101, ↓b159_136, ↓b159_132, ↓b159_137, ↓s160, ↓s161, f160, x_bdi, x_bdn, ite_self, Int.reduceAdd, xadd_eq, xsub_eq, xmul_eq, xneg_eq, xwr_eq, xwr_nk, xwr_nj, Int.toNat_natCast, x_nc]
/-- readWord -/
theorem it163 (h1 : τ 1 1 = n) (hn : n ≤ 300) : ∀ (k p : Nat), p + k = n → 0 < k → ∀ d, Ev X (d + 1) 163 11 [some (vr 1)] [] SH (xwr τ 1 7 p) = Ev X (d + 1) 163 38 [some (vr 1)] [] SH (xwr τ 1 7 (runE isLt (τ 2) k p : Nat)) := by
  intro k
  induction k with
  | zero => intro p e h; omega
  | succ k ih =>
    intro p e h d
    rw [runE]
    by_cases z : isLt (τ 2 p) = true
    · rw [if_pos z]
      have z := of_decide_eq_true z
      by_cases y : k = 0
      · subst y
        refine Eq.trans b163_11 ?_
        simp (disch := first | omega | assumption | (simp (disch := omega) only [ite_self, Int.reduceAdd, xadd_eq, xsub_eq, xmul_eq, xneg_eq, xwr_eq, xwr_nk, xwr_nj, Int.toNat_natCast, x_nc, f160, f162] <;> first | omega | assumption) | fail) only [↓if_pos, ↓if_neg, ↓b163_57, ↓b163_53, ↓b163_19, ↓b163_58, ↓b163_22, ↓b163_25, ↓s160, ↓s162, f160, xwr_2, x_bdi, x_bdn, ite_self, Int.reduceAdd, xadd_eq, xsub_eq, xmul_eq, xneg_eq, xwr_eq, xwr_nk, xwr_nj, Int.toNat_natCast, x_nc]
        rfl
      · refine Eq.trans ?_ (ih (p + 1) (by omega) (by omega) d)
        refine Eq.trans b163_11 ?_
        simp (disch := first | omega | assumption | (simp (disch := omega) only [ite_self, Int.reduceAdd, xadd_eq, xsub_eq, xmul_eq, xneg_eq, xwr_eq, xwr_nk, xwr_nj, Int.toNat_natCast, x_nc, f160, f162] <;> first | omega | assumption) | fail) only [↓if_pos, ↓if_neg, ↓b163_57, ↓b163_53, ↓b163_19, ↓b163_58, ↓b163_22, ↓b163_25, ↓s160, ↓s162, f160, xwr_2, x_bdi, x_bdn, ite_self, Int.reduceAdd, xadd_eq, xsub_eq, xmul_eq, xneg_eq, xwr_eq, xwr_nk, xwr_nj, Int.toNat_natCast, x_nc]
    · rw [if_neg z]
      have z : ¬ (97 ≤ τ 2 p ∧ τ 2 p ≤ 122) := of_decide_eq_false (Bool.eq_false_iff.mpr z)
      refine Eq.trans b163_11 ?_
      simp (disch := first | omega | assumption | (simp (disch := omega) only [ite_self, Int.reduceAdd, xadd_eq, xsub_eq, xmul_eq, xneg_eq, xwr_eq, xwr_nk, xwr_nj, Int.toNat_natCast, x_nc, f160, f162] <;> first | omega | assumption) | fail) only [↓if_pos, ↓if_neg, ↓b163_57, ↓b163_53, ↓b163_19, ↓b163_58, ↓b163_22, ↓b163_25, ↓s160, ↓s162, f160, x_bdi, x_bdn, ite_self, Int.reduceAdd, xadd_eq, xsub_eq, xmul_eq, xneg_eq, xwr_eq, xwr_nk, xwr_nj, Int.toNat_natCast, x_nc]
theorem s163 (h1 : τ 1 1 = n) (hn : n ≤ 300) (h6 : τ 1 6 = q) (h7 : τ 1 7 = q) (hq : q < n) : ∀ d, Ev X (d + 1) 163 0 [some (vr 1)] [] SH τ = some (none, SH, xwr (xwr τ 1 7 (runE isLt (τ 2) (n - q) q : Nat)) 1 5 (if runE isLt (τ 2) (n - q) q - q ≤ 8 then 1 else 4)) := by
  intro d
  have rg := runE_rg (P := isLt) (tx := τ 2) (n - q) q
  have lp := it163 (X := X) h1 hn (n - q) q (by omega) (by omega) d
  have e0 : xwr τ 1 7 (q : Int) = τ := by
    funext a b
    unfold xwr
    by_cases z : a = 1 ∧ b = 7
    · rw [if_pos z, z.1, z.2, h7]
    · rw [if_neg z]
  rw [e0] at lp
  rw [b163_0, if_neg (by omega)]
  refine lp.trans ?_
  generalize runE isLt (τ 2) (n - q) q = e at rg
  by_cases z : e - q ≤ 8
  · rw [if_pos z]
    simp (disch := first | omega | assumption | (simp (disch := omega) only [ite_self, Int.reduceAdd, xadd_eq, xsub_eq, xmul_eq, xneg_eq, xwr_eq, xwr_nk, xwr_nj, Int.toNat_natCast, x_nc, h6] <;> first | omega | assumption) | fail) only [↓if_pos, ↓if_neg, ↓b163_38, ↓b163_57, ↓b163_53, ↓b163_19, ↓b163_58, ↓b163_22, ↓b163_25, h6, x_bdi, x_bdn, ite_self, Int.reduceAdd, xadd_eq, xsub_eq, xmul_eq, xneg_eq, xwr_eq, xwr_nk, xwr_nj, Int.toNat_natCast, x_nc]
  · rw [if_neg z]
    simp (disch := first | omega | assumption | (simp (disch := omega) only [ite_self, Int.reduceAdd, xadd_eq, xsub_eq, xmul_eq, xneg_eq, xwr_eq, xwr_nk, xwr_nj, Int.toNat_natCast, x_nc, h6] <;> first | omega | assumption) | fail) only [↓if_pos, ↓if_neg, ↓b163_38, ↓b163_57, ↓b163_53, ↓b163_19, ↓b163_58, ↓b163_22, ↓b163_25, h6, x_bdi, x_bdn, ite_self, Int.reduceAdd, xadd_eq, xsub_eq, xmul_eq, xneg_eq, xwr_eq, xwr_nk, xwr_nj, Int.toNat_natCast, x_nc]
/-- readNumber -/
theorem it165 (h1 : τ 1 1 = n) (hn : n ≤ 300) : ∀ (k j : Nat), q + j + k = n → ∀ d, Ev X (d + 1) 165 5 [some (vr 1), o1] [] SH (xwr (xwr τ 1 8 (dval (τ 2) q j)) 1 7 (q + j : Nat)) = Ev X (d + 1) 165 66 [some (vr 1), o1] [] SH (xwr (xwr τ 1 8 (dval (τ 2) q (runE isDg (τ 2) k (q + j) - q))) 1 7 (runE isDg (τ 2) k (q + j) : Nat)) := by
  intro k
  induction k with
  | zero =>
    intro j e d
    have : runE isDg (τ 2) 0 (q + j) = q + j := rfl
    rw [this, show q + j - q = j by omega, b165_5, xwr_nj (by decide), xwr_nj (by decide), xwr_eq, if_pos (by omega)]
  | succ k ih =>
    intro j e d
    have ih := ih (j + 1) (by omega) d
    rw [runE]
    by_cases z : isDg (τ 2 (q + j)) = true
    · rw [if_pos z]
      have z := of_decide_eq_true z
      rw [dval] at ih
      refine Eq.trans ?_ ih
      have sw : ∀ (x y : Int), xwr (xwr (xwr (xwr τ 1 8 (dval (τ 2) q j)) 1 7 ((q + j : Nat) : Int)) 1 8 x) 1 7 y = xwr (xwr τ 1 8 x) 1 7 y := by
        intro x y
        funext a b
        unfold xwr
        by_cases h7 : a = 1 ∧ b = 7
        · simp only [if_pos h7]
        · by_cases h8 : a = 1 ∧ b = 8
          · simp only [if_neg h7, if_pos h8]
          · simp only [if_neg h7, if_neg h8]
      rw [b165_5, xwr_nj (by decide), xwr_nj (by decide), xwr_eq, if_neg (by omega)]
      have hb : f160 (xwr (xwr τ 1 8 (dval (τ 2) q j)) 1 7 ((q + j : Nat) : Int)) ((q + j : Nat) : Int) = τ 2 (q + j) := by
        unfold f160
        rw [xwr_nj (by decide), xwr_nj (by decide), if_neg (by omega), if_neg (by omega), if_neg (by omega), Int.toNat_natCast, xwr_nk (by decide), xwr_nk (by decide)]
      have c1 := fun d => s160 (X := X) (d := d) (σ := xwr (xwr τ 1 8 (dval (τ 2) q j)) 1 7 ((q + j : Nat) : Int)) (a1 := ((q + j : Nat) : Int))
      rw [hb] at c1
      refine Eq.trans b165_16 ?_
      rw [xwr_eq]
      refine x_bind (c1 _) ?_
      dsimp only
      refine Eq.trans b165_24 ?_
      refine x_bind s164 ?_
      dsimp only
      refine Eq.trans b165_27 ?_
      rw [if_neg (f164_dig z)]
      refine Eq.trans b165_30 ?_
      rw [xwr_eq, xwr_nj (by decide), xwr_eq]
      refine x_bind (c1 _) ?_
      dsimp only
      refine Eq.trans b165_46 ?_
      have xq : xadd ((q + j : Nat) : Int) 1 = ((q + (j + 1) : Nat) : Int) := by rw [xadd_eq (by omega) (by omega)]; omega
      rw [sw, xwr_eq, xq]
    · rw [if_neg z, show q + j - q = j by omega]
      have z : ¬ (48 ≤ τ 2 (q + j) ∧ τ 2 (q + j) ≤ 57) := of_decide_eq_false (Bool.eq_false_iff.mpr z)
      rw [b165_5, xwr_nj (by decide), xwr_nj (by decide), xwr_eq, if_neg (by omega)]
      have hb : f160 (xwr (xwr τ 1 8 (dval (τ 2) q j)) 1 7 ((q + j : Nat) : Int)) ((q + j : Nat) : Int) = τ 2 (q + j) := by
        unfold f160
        rw [xwr_nj (by decide), xwr_nj (by decide), if_neg (by omega), if_neg (by omega), if_neg (by omega), Int.toNat_natCast, xwr_nk (by decide), xwr_nk (by decide)]
      have c1 := fun d => s160 (X := X) (d := d) (σ := xwr (xwr τ 1 8 (dval (τ 2) q j)) 1 7 ((q + j : Nat) : Int)) (a1 := ((q + j : Nat) : Int))
      rw [hb] at c1
      refine Eq.trans b165_16 ?_
      rw [xwr_eq]
      refine x_bind (c1 _) ?_
      dsimp only
      refine Eq.trans b165_24 ?_
      refine x_bind s164 ?_
      dsimp only
      refine Eq.trans b165_27 ?_
      rw [if_pos (f164_ndig z)]
/-- a number that can be one: four digits at most, no letter behind -/
def nOk (tx : Nat → Int) (n q e : Nat) : Prop := e - q ≤ 4 ∧ ¬ (e < n ∧ isLt (tx e) = true)
noncomputable def nKd (tx : Nat → Int) (n q e : Nat) : Int := @ite Int (nOk tx n q e) (Classical.propDecidable _) 2 4
theorem s165 (h1 : τ 1 1 = n) (hn : n ≤ 300) (h6 : τ 1 6 = q) (h7 : τ 1 7 = q) (hq : q ≤ n) : ∀ d, Ev X (d + 1) 165 0 [some (vr 1), none] [] SH τ = some (none, SH, xwr (xwr (xwr τ 1 8 (dval (τ 2) q (runE isDg (τ 2) (n - q) q - q))) 1 7 (runE isDg (τ 2) (n - q) q : Nat)) 1 5 (nKd (τ 2) n q (runE isDg (τ 2) (n - q) q))) := by
  intro d
  have rg := runE_rg (P := isDg) (tx := τ 2) (n - q) q
  have lp := it165 (X := X) (q := q) (o1 := none) h1 hn (n - q) 0 (by omega) d
  have e0 : xwr (xwr τ 1 8 (dval (τ 2) q 0)) 1 7 ((q + 0 : Nat) : Int) = xwr τ 1 8 0 := by
    funext a b
    unfold xwr
    by_cases z : a = 1 ∧ b = 7
    · rw [if_pos z, if_neg (by omega), z.1, z.2, h7]
      rfl
    · rw [if_neg z]
      rfl
  rw [e0] at lp
  rw [b165_0]
  refine lp.trans ?_
  rw [Nat.add_zero]
  generalize runE isDg (τ 2) (n - q) q = e at rg
  generalize dval (τ 2) q (e - q) = v
  unfold nKd
  have sb : xsub (e : Int) (q : Int) = ((e - q : Nat) : Int) := by rw [xsub_eq (by omega) (by omega)]; omega
  by_cases z : e - q ≤ 4
  · have hb : f160 (xwr (xwr τ 1 8 v) 1 7 (e : Int)) (e : Int) = if e < n then τ 2 e else -1 := by
      unfold f160
      rw [xwr_nj (by decide), xwr_nj (by decide), if_neg (by omega), Int.toNat_natCast, xwr_nk (by decide), xwr_nk (by decide)]
      by_cases y : e < n
      · rw [if_neg (by omega), if_neg (by omega), if_pos y]
      · rw [if_pos (by omega), if_neg y]
    have c1 := fun d => s160 (X := X) (d := d) (σ := xwr (xwr τ 1 8 v) 1 7 (e : Int)) (a1 := (e : Int))
    rw [hb] at c1
    by_cases y : e < n ∧ isLt (τ 2 e) = true
    · have y2 := of_decide_eq_true y.2
      rw [if_neg (fun w => w.2 y)]
      rw [if_pos y.1] at c1
      simp (disch := first | omega | assumption | (simp (disch := omega) only [ite_self, Int.reduceAdd, xadd_eq, xsub_eq, xmul_eq, xneg_eq, xwr_eq, xwr_nk, xwr_nj, Int.toNat_natCast, x_nc, h6, sb, f162] <;> first | omega | assumption) | fail) only [↓if_pos, ↓if_neg, ↓b165_0, ↓b165_66, ↓b165_16, ↓b165_97, ↓b165_79, ↓b165_24, ↓b165_98, ↓b165_87, ↓b165_27, ↓b165_108, ↓b165_104, ↓b165_90, ↓b165_30, ↓b165_109, ↓b165_93, ↓b165_46, h6, sb, ↓c1, ↓s162, x_bdi, x_bdn, ite_self, Int.reduceAdd, xadd_eq, xsub_eq, xmul_eq, xneg_eq, xwr_eq, xwr_nk, xwr_nj, Int.toNat_natCast, x_nc]
    · rw [if_pos ⟨z, y⟩]
      by_cases y1 : e < n
      · have y2 : ¬ (97 ≤ τ 2 e ∧ τ 2 e ≤ 122) := fun w => y ⟨y1, decide_eq_true w⟩
        rw [if_pos y1] at c1
        simp (disch := first | omega | assumption | (simp (disch := omega) only [ite_self, Int.reduceAdd, xadd_eq, xsub_eq, xmul_eq, xneg_eq, xwr_eq, xwr_nk, xwr_nj, Int.toNat_natCast, x_nc, h6, sb, f162] <;> first | omega | assumption) | fail) only [↓if_pos, ↓if_neg, ↓b165_0, ↓b165_66, ↓b165_16, ↓b165_97, ↓b165_79, ↓b165_24, ↓b165_98, ↓b165_87, ↓b165_27, ↓b165_108, ↓b165_104, ↓b165_90, ↓b165_30, ↓b165_109, ↓b165_93, ↓b165_46, h6, sb, ↓c1, ↓s162, x_bdi, x_bdn, ite_self, Int.reduceAdd, xadd_eq, xsub_eq, xmul_eq, xneg_eq, xwr_eq, xwr_nk, xwr_nj, Int.toNat_natCast, x_nc]
      · rw [if_neg y1] at c1
        simp (disch := first | omega | assumption | (simp (disch := omega) only [ite_self, Int.reduceAdd, xadd_eq, xsub_eq, xmul_eq, xneg_eq, xwr_eq, xwr_nk, xwr_nj, Int.toNat_natCast, x_nc, h6, sb, f162] <;> first | omega | assumption) | fail) only [↓if_pos, ↓if_neg, ↓b165_0, ↓b165_66, ↓b165_16, ↓b165_97, ↓b165_79, ↓b165_24, ↓b165_98, ↓b165_87, ↓b165_27, ↓b165_108, ↓b165_104, ↓b165_90, ↓b165_30, ↓b165_109, ↓b165_93, ↓b165_46, h6, sb, ↓c1, ↓s162, x_bdi, x_bdn, ite_self, Int.reduceAdd, xadd_eq, xsub_eq, xmul_eq, xneg_eq, xwr_eq, xwr_nk, xwr_nj, Int.toNat_natCast, x_nc]
  · rw [if_neg (fun w => z w.1)]
    simp (disch := first | omega | assumption | (simp (disch := omega) only [ite_self, Int.reduceAdd, xadd_eq, xsub_eq, xmul_eq, xneg_eq, xwr_eq, xwr_nk, xwr_nj, Int.toNat_natCast, x_nc, h6, sb] <;> first | omega | assumption) | fail) only [↓if_pos, ↓if_neg, ↓b165_0, ↓b165_66, ↓b165_16, ↓b165_97, ↓b165_79, ↓b165_24, ↓b165_98, ↓b165_87, ↓b165_27, ↓b165_108, ↓b165_104, ↓b165_90, ↓b165_30, ↓b165_109, ↓b165_93, ↓b165_46, h6, sb, x_bdi, x_bdn, ite_self, Int.reduceAdd, xadd_eq, xsub_eq, xmul_eq, xneg_eq, xwr_eq, xwr_nk, xwr_nj, Int.toNat_natCast, x_nc]
end TKC
