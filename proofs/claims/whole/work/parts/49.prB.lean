/-! PAIRS: sticks by hand, taken back and told again -/
section BIT
theorem act8 : ∀ a, a < 11 → ∀ p, p < 7 → xor' (xshl ((a : Nat) : Int) 3) ((p : Nat) : Int) = 8 * (a : Int) + p ∧ xshr (8 * (a : Int) + p) 3 = a ∧ xand (8 * (a : Int) + p) 7 = p ∧ xdiv (10 * (a : Int) + p) 10 = a ∧ xrem (10 * (a : Int) + p) 10 = p := by decide +kernel
theorem flp : ∀ b, b < 128 → ∀ p, p < 7 → 0 ≤ xxor ((b : Nat) : Int) (xshl 1 ((p : Nat) : Int)) ∧ xxor ((b : Nat) : Int) (xshl 1 ((p : Nat) : Int)) < 128 ∧ (b < 32 → p < 5 → xxor ((b : Nat) : Int) (xshl 1 ((p : Nat) : Int)) < 32) := by decide +kernel
end BIT
section PRB
variable {X : Nat × (Nat → Int)} {σ τ : xM} {a b c : Int} {d k m : Nat}
theorem xwr_rw {j : Nat} {x : Int} : xwr σ k j x k = fun i => if i = j then x else σ k i := by
  funext i
  unfold xwr
  by_cases h : i = j
  · rw [if_pos ⟨rfl, h⟩, if_pos h]
  · rw [if_neg (fun z => h z.2), if_neg h]
def shf (f : Nat → Int) (m : Nat) : Nat → Int := fun j => if j < m then f (j + 1) else f j
theorem shf_0 {f : Nat → Int} : shf f 0 = f := by
  funext j
  unfold shf
  rw [if_neg (by omega)]
theorem shf_s {f : Nat → Int} : (fun b => if b = m then shf f m (m + 1) else shf f m b) = shf f (m + 1) := by
  funext j
  unfold shf
  by_cases h : j = m
  · subst h
    rw [if_pos rfl, if_neg (by omega), if_pos (by omega)]
  · rw [if_neg h]
    by_cases g : j < m
    · rw [if_pos g, if_pos (by omega)]
    · rw [if_neg g, if_neg (by omega)]
theorem shf_wr : xwr (xrow σ k (shf (σ k) m)) k m (xrow σ k (shf (σ k) m) k (m + 1)) = xrow σ k (shf (σ k) (m + 1)) := by
  rw [xwr_xrow, xrow_eq, shf_s]
theorem it54 : ∀ (q i : Nat), i + q = 99 → Ev X d 54 11 [some (vr 47), some (vi a), some (vi b), some (vi ((i + 1 : Nat) : Int))] [] SH (xrow σ 48 (shf (σ 48) i)) = Ev X d 54 37 [some (vr 47), some (vi a), some (vi b), some (vi 100)] [] SH (xrow σ 48 (shf (σ 48) 99)) := by
  intro q
  induction q with
  | zero =>
    intro i e
    obtain rfl : i = 99 := by omega
    rw [b54_11, if_pos (by omega)]
    rfl
  | succ q ih =>
    intro i e
    have ih := ih (i + 1) (by omega)
    have e1 : xsub ((i + 1 : Nat) : Int) 1 = (i : Int) := by rw [xsub_eq (by omega) (by omega)]; omega
    rw [b54_11, if_neg (by omega), b54_17 (by omega) (by omega), e1, Int.toNat_natCast, Int.toNat_natCast, shf_wr, xadd_eq (by omega) (by omega)]
    exact ih
/-- an ACT more, below a hundred -/
theorem s54a (h0 : 0 ≤ σ 47 1) (h1 : σ 47 1 < 100) : Ev X d 54 0 [some (vr 47), some (vi a), some (vi b), none] [] SH σ = some (none, SH, xwr (xwr (xwr σ 48 (σ 47 1).toNat (xor' (xshl a 3) b)) 47 1 (σ 47 1 + 1)) 47 2 (σ 47 1 + 1)) := by
  simp (disch := first | omega | assumption | (simp (disch := omega) only [Int.reduceAdd, xadd_eq, xsub_eq, xmul_eq, xneg_eq, xwr_eq, xwr_nk, xwr_nj, Int.toNat_natCast, x_nc] <;> first | omega | assumption) | fail) only [↓if_pos, ↓if_neg, ↓b54_0, ↓b54_43, ↓b54_9, ↓b54_11, ↓b54_37, ↓b54_17, x_bdi, x_bdn, Int.reduceAdd, xadd_eq, xsub_eq, xmul_eq, xneg_eq, xwr_eq, xwr_nk, xwr_nj, Int.toNat_natCast, x_nc]
/-- the hundredth and first -/
theorem s54b (h1 : σ 47 1 = 100) : Ev X d 54 0 [some (vr 47), some (vi a), some (vi b), none] [] SH σ = some (none, SH, xwr (xwr (xwr (xwr (xrow σ 48 (shf (σ 48) 99)) 47 1 99) 48 99 (xor' (xshl a 3) b)) 47 1 100) 47 2 100) := by
  have e := it54 (X := X) (d := d) (σ := σ) (a := a) (b := b) 99 0 (by omega)
  rw [shf_0, xrow_self] at e
  have e1 : xwr (xrow σ 48 (shf (σ 48) 99)) 47 1 99 47 1 = 99 := xwr_eq
  rw [b54_0, if_neg (by omega), b54_9]
  refine Eq.trans e ?_
  rw [b54_37, b54_43 (by rw [e1]; omega), e1]
  rfl
theorem it297 : ∀ (q i : Nat) (o3 : Option xV), i + q = 99 → ∃ o3', ∀ d, Ev X d 297 46 [some (vr 100), some (vi a), some (vi b), o3, some (vi ((i + 1 : Nat) : Int))] [] SH (xrow σ 139 (shf (σ 139) i)) = Ev X d 297 75 [some (vr 100), some (vi a), some (vi b), o3', some (vi 100)] [] SH (xrow σ 139 (shf (σ 139) 99)) := by
  intro q
  induction q with
  | zero =>
    intro i o3 e
    obtain rfl : i = 99 := by omega
    refine ⟨o3, fun d => ?_⟩
    rw [b297_46, if_pos (by omega)]
    rfl
  | succ q ih =>
    intro i o3 e
    obtain ⟨o', ih⟩ := ih (i + 1) (xkill o3) (by omega)
    have e1 : xsub ((i + 1 : Nat) : Int) 1 = (i : Int) := by rw [xsub_eq (by omega) (by omega)]; omega
    refine ⟨o', fun d => ?_⟩
    rw [b297_46, if_neg (by omega), b297_53 (by omega) (by omega), e1, Int.toNat_natCast, Int.toNat_natCast, shf_wr, xadd_eq (by omega) (by omega)]
    exact ih d
/-- a place of the row, on both sides -/
theorem hp_eq (hR : Crow σ) : f137 σ 23 a b = f279 σ a b := by
  obtain ⟨r1, r2, r3, r4⟩ := hR
  unfold f137 f279 f136 f220 f280
  rw [r3]
  by_cases c1 : 0 ≤ a ∧ a < σ 23 0
  · have := (r4 a.toNat (by omega)).1
    rw [this]
    by_cases z : σ 24 a.toNat = 0
    · simp (disch := first | omega | assumption | (simp (disch := omega) only [Int.reduceAdd, xadd_eq, xsub_eq, xmul_eq, xneg_eq, xwr_eq, xwr_nk, xwr_nj, Int.toNat_natCast, x_nc] <;> first | omega | assumption) | fail) only [↓if_pos, ↓if_neg, z, Int.reduceAdd, xadd_eq, xsub_eq, xmul_eq, xneg_eq, xwr_eq, xwr_nk, xwr_nj, Int.toNat_natCast, x_nc]
      repeat' split
      all_goals omega
    · simp (disch := first | omega | assumption | (simp (disch := omega) only [Int.reduceAdd, xadd_eq, xsub_eq, xmul_eq, xneg_eq, xwr_eq, xwr_nk, xwr_nj, Int.toNat_natCast, x_nc] <;> first | omega | assumption) | fail) only [↓if_pos, ↓if_neg, Int.reduceAdd, xadd_eq, xsub_eq, xmul_eq, xneg_eq, xwr_eq, xwr_nk, xwr_nj, Int.toNat_natCast, x_nc]
      repeat' split
      all_goals omega
  · repeat' split
    all_goals omega
theorem RW_wr {cn cn' : Int} {fg bt fg' bt' : Nat → Int} {n : Nat} {v : Int} (h : RW cn fg bt cn' fg' bt') (h1 : 0 ≤ v) (h2 : v < 128) (h3 : (n : Int) < cn → fg n = 0 → v < 32) : RW cn fg (fun i => if i = n then v else bt i) cn' fg' (fun i => if i = n then v else bt' i) := by
  obtain ⟨r1, r2, r3, r4⟩ := h
  refine ⟨r1, r2, r3, fun c hc => ?_⟩
  obtain ⟨q1, q2, q3, q4, q5, q6⟩ := r4 c hc
  refine ⟨q1, q2, ?_⟩
  by_cases e : c = n
  · subst e
    simp only [if_pos]
    exact ⟨trivial, h1, h2, h3 hc⟩
  · simp only [if_neg e]
    exact ⟨q3, q4, q5, q6⟩
end PRB
