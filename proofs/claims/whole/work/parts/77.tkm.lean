/-! TOKENS, in the model -/
/-- a word's first bytes, packed -/
def pk (tx : Nat → Int) (q : Nat) : Nat → Int
  | 0 => 0
  | k + 1 => lor' (lshl' (pk tx q k) 8) (tx (q + k))
def mval (tx : Nat → Int) (q : Nat) : Nat → Int
  | 0 => 0
  | k + 1 => xsub (xadd (xmul 10 (mval tx q k)) (tx (q + k))) 48
def TkM (tx : Nat → Int) (n : Nat) (sg : Int → Bool) (ν : xM) (q : Nat) : Prop := ν 100 7 = q ∧ ((q = n ∧ ν 100 6 = 0 ∧ ν 100 4 = q) ∨ (q < n ∧ isLt (tx q) = true ∧ (runE isLt tx (n - q) q - q ≤ 8 → ν 100 6 = 1 ∧ ν 100 4 = (runE isLt tx (n - q) q : Nat) ∧ ν 100 9 = pk tx q (runE isLt tx (n - q) q - q)) ∧ (¬ runE isLt tx (n - q) q - q ≤ 8 → ν 100 6 = 3)) ∨ (q < n ∧ isDg (tx q) = true ∧ (nOk tx n q (runE isDg tx (n - q) q) → ν 100 6 = 2 ∧ ν 100 4 = (runE isDg tx (n - q) q : Nat) ∧ ν 100 8 = mval tx q (runE isDg tx (n - q) q - q)) ∧ (¬ nOk tx n q (runE isDg tx (n - q) q) → ν 100 6 = 3)) ∨ (q < n ∧ isLt (tx q) = false ∧ isDg (tx q) = false ∧ (sg (tx q) = true → ν 100 6 = tx q ∧ ν 100 4 = (q + 1 : Nat)) ∧ (sg (tx q) = false → ν 100 6 = 3)))
section TKM
variable {X : Nat × (Nat → Int)} {μ ρ : xM} {sg : Int → Bool} {n p q : Nat} {o1 o2 : Option xV}
/-- a byte, or none -/
def hr (tx : Nat → Int) (n i : Nat) : Int := if i < n then tx i else -1
theorem s199h {k : Nat} (h5 : ρ 100 5 = n) (hn : n ≤ 300) (h4 : ρ 100 4 = q) (hk : q + k ≤ 1000) : ∀ d, Ev X d 199 0 [some (vr 100), some (vi k)] [] SH ρ = some (some (vi (hr (ρ 101) n (q + k))), SH, ρ) := by
  intro d
  refine Eq.trans (s199 (by omega) (by omega) (by omega)) ?_
  have x : xadd (q : Int) (k : Int) = ((q + k : Nat) : Int) := by rw [xadd_eq (by omega) (by omega)]; omega
  unfold f199 hr
  rw [h4, h5, x, Int.toNat_natCast]
  by_cases z : q + k < n
  · rw [if_pos z, if_neg (by omega)]
  · rw [if_neg z, if_pos (by omega)]
theorem s199z (h5 : ρ 100 5 = n) (hn : n ≤ 300) (h4 : ρ 100 4 = q) (hk : q ≤ 1000) : ∀ d, Ev X d 199 0 [some (vr 100), some (vi 0)] [] SH ρ = some (some (vi (hr (ρ 101) n q)), SH, ρ) := fun d => s199h (k := 0) h5 hn h4 hk d
theorem it198 (h5 : μ 100 5 = n) (hn : n ≤ 300) (hb : ∀ i, 0 ≤ μ 101 i ∧ μ 101 i ≤ 255) : ∀ (k p : Nat), p + k = n → ∀ d, Ev X (d + 1) 198 5 [some (vr 100), o1, o2] [vi (hr (μ 101) n p)] SH (xwr μ 100 4 (p : Int)) = Ev X (d + 1) 198 33 [some (vr 100), o1, o2] [] SH (xwr μ 100 4 (runE isBl (μ 101) k p : Nat)) := by
  intro k
  induction k with
  | zero =>
    intro p e d
    have v : hr (μ 101) n p = -1 := if_neg (by omega)
    have c0 := s199z (X := X) (ρ := xwr μ 100 4 (p : Int)) (n := n) (q := p) (by rw [xwr_nj (by decide)]; exact h5) hn xwr_eq (by omega)
    rw [xwr_row (by decide), v] at c0
    rw [v]
    rw [b198_5, if_neg (by decide)]
    refine Eq.trans b198_10 ?_
    refine x_bind (c0 _) ?_
    dsimp only
    refine Eq.trans b198_15 ?_
    rw [if_pos (by decide)]
    rfl
  | succ k ih =>
    intro p e d
    have v : hr (μ 101) n p = μ 101 p := if_pos (by omega)
    have c0 := s199z (X := X) (ρ := xwr μ 100 4 (p : Int)) (n := n) (q := p) (by rw [xwr_nj (by decide)]; exact h5) hn xwr_eq (by omega)
    rw [xwr_row (by decide), v] at c0
    have c1 := s199z (X := X) (ρ := xwr μ 100 4 ((p + 1 : Nat) : Int)) (n := n) (q := p + 1) (by rw [xwr_nj (by decide)]; exact h5) hn xwr_eq (by omega)
    rw [xwr_row (by decide)] at c1
    have ih := ih (p + 1) (by omega) d
    have xp : xadd (p : Int) 1 = ((p + 1 : Nat) : Int) := xadd_eq (by omega) (by omega)
    have s20 : Ev X (d + 1) 198 20 [some (vr 100), o1, o2] [] SH (xwr μ 100 4 (p : Int)) = Ev X (d + 1) 198 5 [some (vr 100), o1, o2] [vi (hr (μ 101) n (p + 1))] SH (xwr μ 100 4 ((p + 1 : Nat) : Int)) := by
      refine Eq.trans b198_20 ?_
      rw [xwr_eq, xp, xwr_2]
      refine x_bind (c1 _) ?_
      rfl
    rw [v, runE, b198_5]
    by_cases z : μ 101 p = 32
    · rw [if_pos z, if_pos (show isBl (μ 101 p) = true from decide_eq_true (Or.inl z))]
      exact s20.trans ih
    · rw [if_neg z]
      refine Eq.trans b198_10 ?_
      refine x_bind (c0 _) ?_
      dsimp only
      refine Eq.trans b198_15 ?_
      by_cases y : μ 101 p = 10
      · rw [if_neg (fun w => w y), if_pos (show isBl (μ 101 p) = true from decide_eq_true (Or.inr y))]
        exact s20.trans ih
      · rw [if_pos y, if_neg (show ¬ isBl (μ 101 p) = true from fun w => by have := isBl_t w; omega)]
/-- a word -/
theorem it198w (h5 : ρ 100 5 = n) (hn : n ≤ 300) (h4 : ρ 100 4 = q) : ∀ (k j : Nat) (o1 : Option xV), q + j + k = n → ∃ o1', ∀ d, Ev X (d + 1) 198 78 [some (vr 100), o1, some (vi j)] [] SH (xwr ρ 100 9 (pk (ρ 101) q (min j 8))) = Ev X (d + 1) 198 119 [some (vr 100), o1', some (vi (runE isLt (ρ 101) k (q + j) - q : Nat))] [] SH (xwr ρ 100 9 (pk (ρ 101) q (min (runE isLt (ρ 101) k (q + j) - q) 8))) := by
  intro k
  induction k with
  | zero =>
    intro j o1 e
    have e0 : runE isLt (ρ 101) 0 (q + j) - q = j := by
      show q + j - q = j
      omega
    have c0 := s199h (X := X) (ρ := xwr ρ 100 9 (pk (ρ 101) q (min j 8))) (n := n) (q := q) (k := j) (by rw [xwr_nj (by decide)]; exact h5) hn (by rw [xwr_nj (by decide)]; exact h4) (by omega)
    have v : hr (ρ 101) n (q + j) = -1 := if_neg (by omega)
    rw [xwr_row (by decide), v] at c0
    refine ⟨o1, fun d => ?_⟩
    rw [e0]
    refine Eq.trans b198_78 ?_
    refine x_bind (c0 _) ?_
    dsimp only
    refine Eq.trans b198_83 ?_
    refine x_bind s200 ?_
    dsimp only
    refine Eq.trans b198_86 ?_
    rw [if_pos (by unfold f200; rfl)]
  | succ k ih =>
    intro j o1 e
    have c0 := s199h (X := X) (ρ := xwr ρ 100 9 (pk (ρ 101) q (min j 8))) (n := n) (q := q) (k := j) (by rw [xwr_nj (by decide)]; exact h5) hn (by rw [xwr_nj (by decide)]; exact h4) (by omega)
    have v : hr (ρ 101) n (q + j) = ρ 101 (q + j) := if_pos (by omega)
    rw [xwr_row (by decide), v] at c0
    have st : ∀ d, Ev X (d + 1) 198 78 [some (vr 100), o1, some (vi j)] [] SH (xwr ρ 100 9 (pk (ρ 101) q (min j 8))) = Ev X (d + 1) 198 86 [some (vr 100), o1, some (vi j)] [vi (f200 (xwr ρ 100 9 (pk (ρ 101) q (min j 8))) (ρ 101 (q + j)))] SH (xwr ρ 100 9 (pk (ρ 101) q (min j 8))) := by
      intro d
      refine Eq.trans b198_78 ?_
      refine x_bind (c0 _) ?_
      dsimp only
      refine Eq.trans b198_83 ?_
      refine x_bind s200 ?_
      rfl
    rw [runE]
    by_cases z : isLt (ρ 101 (q + j)) = true
    · have z' := of_decide_eq_true z
      rw [if_pos z]
      obtain ⟨o1', ih⟩ := ih (j + 1) (xkill o1) (by omega)
      refine ⟨o1', fun d => ?_⟩
      refine Eq.trans ?_ (ih d)
      have f1 : f200 (xwr ρ 100 9 (pk (ρ 101) q (min j 8))) (ρ 101 (q + j)) = 1 := by
        unfold f200
        rw [if_neg (by omega), if_neg (by omega)]
      rw [st, f1, b198_86, if_neg (by decide), b198_89]
      have xj : xadd (j : Int) 1 = ((j + 1 : Nat) : Int) := xadd_eq (by omega) (by omega)
      by_cases y : 8 ≤ j
      · rw [if_pos (by omega), b198_113, xj, show min j 8 = 8 by omega, show min (j + 1) 8 = 8 by omega]
      · rw [if_neg (by omega)]
        refine Eq.trans b198_95 ?_
        refine x_bind (c0 _) ?_
        dsimp only
        refine Eq.trans b198_108 ?_
        rw [xwr_eq, xwr_2, b198_113, xj, show min j 8 = j by omega, show min (j + 1) 8 = j + 1 by omega]
        rfl
    · rw [if_neg z]
      have z' : ¬ (97 ≤ ρ 101 (q + j) ∧ ρ 101 (q + j) ≤ 122) := of_decide_eq_false (Bool.eq_false_iff.mpr z)
      have f1 : f200 (xwr ρ 100 9 (pk (ρ 101) q (min j 8))) (ρ 101 (q + j)) = 0 := by
        unfold f200
        repeat' split
        all_goals omega
      refine ⟨o1, fun d => ?_⟩
      rw [st, f1, b198_86, if_pos rfl, show q + j - q = j by omega]
/-- a number -/
theorem it198n (h5 : ρ 100 5 = n) (hn : n ≤ 300) (h4 : ρ 100 4 = q) : ∀ (k j : Nat) (o1 : Option xV), q + j + k = n → ∃ o1', ∀ d, Ev X (d + 1) 198 144 [some (vr 100), o1, some (vi j)] [] SH (xwr ρ 100 8 (mval (ρ 101) q (min j 4))) = Ev X (d + 1) 198 186 [some (vr 100), o1', some (vi (runE isDg (ρ 101) k (q + j) - q : Nat))] [] SH (xwr ρ 100 8 (mval (ρ 101) q (min (runE isDg (ρ 101) k (q + j) - q) 4))) := by
  intro k
  induction k with
  | zero =>
    intro j o1 e
    have e0 : runE isDg (ρ 101) 0 (q + j) - q = j := by
      show q + j - q = j
      omega
    have c0 := s199h (X := X) (ρ := xwr ρ 100 8 (mval (ρ 101) q (min j 4))) (n := n) (q := q) (k := j) (by rw [xwr_nj (by decide)]; exact h5) hn (by rw [xwr_nj (by decide)]; exact h4) (by omega)
    have v : hr (ρ 101) n (q + j) = -1 := if_neg (by omega)
    rw [xwr_row (by decide), v] at c0
    refine ⟨o1, fun d => ?_⟩
    rw [e0]
    refine Eq.trans b198_144 ?_
    refine x_bind (c0 _) ?_
    dsimp only
    refine Eq.trans b198_149 ?_
    refine x_bind s201 ?_
    dsimp only
    refine Eq.trans b198_152 ?_
    rw [if_pos (by unfold f201; rfl)]
  | succ k ih =>
    intro j o1 e
    have c0 := s199h (X := X) (ρ := xwr ρ 100 8 (mval (ρ 101) q (min j 4))) (n := n) (q := q) (k := j) (by rw [xwr_nj (by decide)]; exact h5) hn (by rw [xwr_nj (by decide)]; exact h4) (by omega)
    have v : hr (ρ 101) n (q + j) = ρ 101 (q + j) := if_pos (by omega)
    rw [xwr_row (by decide), v] at c0
    have st : ∀ d, Ev X (d + 1) 198 144 [some (vr 100), o1, some (vi j)] [] SH (xwr ρ 100 8 (mval (ρ 101) q (min j 4))) = Ev X (d + 1) 198 152 [some (vr 100), o1, some (vi j)] [vi (f201 (xwr ρ 100 8 (mval (ρ 101) q (min j 4))) (ρ 101 (q + j)))] SH (xwr ρ 100 8 (mval (ρ 101) q (min j 4))) := by
      intro d
      refine Eq.trans b198_144 ?_
      refine x_bind (c0 _) ?_
      dsimp only
      refine Eq.trans b198_149 ?_
      refine x_bind s201 ?_
      rfl
    rw [runE]
    by_cases z : isDg (ρ 101 (q + j)) = true
    · have z' := of_decide_eq_true z
      rw [if_pos z]
      obtain ⟨o1', ih⟩ := ih (j + 1) (xkill o1) (by omega)
      refine ⟨o1', fun d => ?_⟩
      refine Eq.trans ?_ (ih d)
      have f1 : f201 (xwr ρ 100 8 (mval (ρ 101) q (min j 4))) (ρ 101 (q + j)) = 1 := by
        unfold f201
        rw [if_neg (by omega), if_neg (by omega)]
      rw [st, f1, b198_152, if_neg (by decide), b198_155]
      have xj : xadd (j : Int) 1 = ((j + 1 : Nat) : Int) := xadd_eq (by omega) (by omega)
      by_cases y : 4 ≤ j
      · rw [if_pos (by omega), b198_180, xj, show min j 4 = 4 by omega, show min (j + 1) 4 = 4 by omega]
      · rw [if_neg (by omega)]
        refine Eq.trans b198_160 ?_
        refine x_bind (c0 _) ?_
        dsimp only
        refine Eq.trans b198_173 ?_
        rw [xwr_eq, xwr_2, b198_180, xj, show min j 4 = j by omega, show min (j + 1) 4 = j + 1 by omega]
        rfl
    · rw [if_neg z]
      have z' : ¬ (48 ≤ ρ 101 (q + j) ∧ ρ 101 (q + j) ≤ 57) := of_decide_eq_false (Bool.eq_false_iff.mpr z)
      have f1 : f201 (xwr ρ 100 8 (mval (ρ 101) q (min j 4))) (ρ 101 (q + j)) = 0 := by
        unfold f201
        repeat' split
        all_goals omega
      refine ⟨o1, fun d => ?_⟩
      rw [st, f1, b198_152, if_pos rfl, show q + j - q = j by omega]
end TKM
