/-! arithmetic of the small machine's ints, within their range; writes and reads of cells -/
def I32 (a : Int) : Prop := -2147483648 ≤ a ∧ a ≤ 2147483647
theorem xI32 {a : Int} (h1 : -2147483648 ≤ a) (h2 : a ≤ 2147483647) : (Int32.ofInt a).toInt = a := Int32.toInt_ofInt_of_le (by omega) (by omega)
theorem xadd_eq {a b : Int} (h1 : -2147483648 ≤ a + b) (h2 : a + b ≤ 2147483647) : xadd a b = a + b := by
  unfold xadd
  rw [← Int32.ofInt_add]
  exact xI32 h1 h2
theorem xsub_eq {a b : Int} (h1 : -2147483648 ≤ a - b) (h2 : a - b ≤ 2147483647) : xsub a b = a - b := by
  unfold xsub
  rw [← Int32.ofInt_sub]
  exact xI32 h1 h2
theorem xmul_eq {a b : Int} (h1 : -2147483648 ≤ a * b) (h2 : a * b ≤ 2147483647) : xmul a b = a * b := by
  unfold xmul
  rw [← Int32.ofInt_mul]
  exact xI32 h1 h2
theorem xneg_eq {a : Int} (h1 : -2147483647 ≤ a) (h2 : a ≤ 2147483648) : xneg a = -a := by
  unfold xneg
  rw [← Int32.ofInt_neg]
  exact xI32 (by omega) (by omega)
theorem xdiv_eq {a b : Int} (h : I32 a) (hb : 0 < b) (hb2 : b ≤ 2147483647) : xdiv a b = a.tdiv b := by
  unfold xdiv
  rw [Int32.toInt_div, xI32 h.1 h.2, xI32 (by omega) hb2]
  have h1 : (a.tdiv b).natAbs ≤ a.natAbs := by
    rw [Int.natAbs_tdiv]
    exact Nat.div_le_self _ _
  obtain ⟨l, u⟩ := h
  have h2 : a < 0 → a.tdiv b ≤ 0 := fun z => by
    have := Int.tdiv_nonneg (a := -a) (b := b) (by omega) (by omega)
    rw [Int.neg_tdiv] at this
    omega
  refine Int.bmod_eq_of_le ?_ ?_
  · omega
  · omega
/-- a write and a read -/
theorem xwr_eq {σ : xM} {k j : Nat} {x : Int} : xwr σ k j x k j = x := if_pos ⟨rfl, rfl⟩
theorem xwr_nk {σ : xM} {k k2 j j2 : Nat} {x : Int} (h : k2 ≠ k) : xwr σ k j x k2 j2 = σ k2 j2 := if_neg (fun z => h z.1)
theorem xwr_nj {σ : xM} {k k2 j j2 : Nat} {x : Int} (h : j2 ≠ j) : xwr σ k j x k2 j2 = σ k2 j2 := if_neg (fun z => h z.2)
theorem xwr_row {σ : xM} {k k2 j : Nat} {x : Int} (h : k2 ≠ k) : xwr σ k j x k2 = σ k2 := x_wr_ne h
theorem x_if {α : Type} {p : Prop} [Decidable p] {a b c : α} (h1 : p → a = c) (h2 : ¬ p → b = c) : (if p then a else b) = c := by
  by_cases h : p
  · rw [if_pos h]; exact h1 h
  · rw [if_neg h]; exact h2 h
/-- a whole row of a cell gets other contents -/
def xrow (σ : xM) (k : Nat) (f : Nat → Int) : xM := fun a b => if a = k then f b else σ a b
theorem xrow_eq {σ : xM} {k j : Nat} {f : Nat → Int} : xrow σ k f k j = f j := if_pos rfl
theorem xrow_ne {σ : xM} {k k2 j : Nat} {f : Nat → Int} (h : k2 ≠ k) : xrow σ k f k2 j = σ k2 j := if_neg h
theorem xrow_row {σ : xM} {k : Nat} {f : Nat → Int} : xrow σ k f k = f := by funext j; exact if_pos rfl
theorem xrow_nrow {σ : xM} {k k2 : Nat} {f : Nat → Int} (h : k2 ≠ k) : xrow σ k f k2 = σ k2 := by funext j; exact if_neg h
theorem xwr_xrow {σ : xM} {k j : Nat} {x : Int} {f : Nat → Int} : xwr (xrow σ k f) k j x = xrow σ k (fun b => if b = j then x else f b) := by
  funext a b
  unfold xwr xrow
  by_cases h : a = k
  · subst h
    by_cases g : b = j
    · simp [g]
    · simp [g]
  · simp [h]
theorem xwr_is_xrow {σ : xM} {k j : Nat} {x : Int} : xwr σ k j x = xrow σ k (fun b => if b = j then x else σ k b) := by
  funext a b
  unfold xwr xrow
  by_cases h : a = k
  · subst h
    by_cases g : b = j
    · simp [g]
    · simp [g]
  · simp [h]
theorem xrow_self {σ : xM} {k : Nat} : xrow σ k (σ k) = σ := by
  funext a b
  unfold xrow
  by_cases h : a = k
  · subst h; simp
  · simp [h]
