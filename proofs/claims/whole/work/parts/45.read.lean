/-! the model's read; what a way reads -/
def rdL (w : Nat → Int) (b : Int) : Nat → Int
  | 0 => -1
  | n + 1 => if 0 < b ∧ w n = b then 48 + ((n / 2 : Nat) : Int) else rdL w b n
def sgR (b : Int) : Int := if b = 3 then 43 else if b = 1 then 45 else if b = 5 then 61 else if b = 24 then 42 else if b = 16 then 47 else -1
/-- what sticks read: a figure's, a sign's -/
def rdB (w : Nat → Int) (fig b : Int) : Int := if fig = 0 then sgR b else rdL w b 20
section READ
variable {X : Nat × (Nat → Int)} {d : Nat} {σ : xM} {o1 : Option xV} {b fig : Int}
theorem xdivn {a b : Nat} (ha : a ≤ 2147483647) (hb : 0 < b) (hb2 : b ≤ 2147483647) : xdiv (a : Int) (b : Int) = ((a / b : Nat) : Int) := by
  rw [xdiv_eq ⟨by omega, by omega⟩ (by omega) (by omega), Int.tdiv_eq_ediv_of_nonneg (by omega)]
  rfl
theorem xdiv2 {j : Nat} (h : j ≤ 100000) : xdiv (j : Int) 2 = ((j / 2 : Nat) : Int) := xdivn (b := 2) (by omega) (by omega) (by omega)
theorem it222 : ∀ (q j : Nat), j + q = 20 → Ev X (d + 1) 222 9 [some (vr 100), o1, some (vi b), some (vi (rdL (σ 102) b j)), some (vi j)] [] SH σ = some (some (vi (rdL (σ 102) b 20)), SH, σ) := by
  intro q
  induction q with
  | zero =>
    intro j e
    obtain rfl : j = 20 := by omega
    rw [b222_9, if_pos (by omega), b222_49, b222_86]
  | succ q ih =>
    intro j e
    have ih := ih (j + 1) (by omega)
    have x2 := xdiv2 (j := j) (by omega)
    rw [rdL] at ih
    rw [b222_9, if_neg (by omega)]
    by_cases h0 : b ≤ 0
    · rw [if_neg (by omega)] at ih
      simp (disch := first | omega | assumption | (simp (disch := omega) only [xadd_eq, xsub_eq, xmul_eq, xneg_eq, xwr_eq, xwr_nk, xwr_nj, Int.toNat_natCast, x_nc] <;> first | omega | assumption) | fail) only [↓if_pos, ↓if_neg, ↓b222_0, ↓b222_52, ↓b222_6, ↓b222_55, ↓b222_86, ↓b222_61, ↓b222_49, ↓b222_16, ↓b222_66, ↓b222_41, ↓b222_20, ↓b222_78, ↓b222_70, ↓b222_42, ↓b222_31, ↓b222_79, ↓b222_75, x_bdi, x_bdn, xadd_eq, xsub_eq, xmul_eq, xneg_eq, xwr_eq, xwr_nk, xwr_nj, Int.toNat_natCast, x_nc]
      exact ih
    · by_cases h1 : σ 102 j = b
      · rw [if_pos (by omega)] at ih
        simp (disch := first | omega | assumption | (simp (disch := omega) only [xadd_eq, xsub_eq, xmul_eq, xneg_eq, xwr_eq, xwr_nk, xwr_nj, Int.toNat_natCast, x_nc] <;> first | omega | assumption) | fail) only [↓if_pos, ↓if_neg, ↓b222_0, ↓b222_52, ↓b222_6, ↓b222_55, ↓b222_86, ↓b222_61, ↓b222_49, ↓b222_16, ↓b222_66, ↓b222_41, ↓b222_20, ↓b222_78, ↓b222_70, ↓b222_42, ↓b222_31, ↓b222_79, ↓b222_75, x2, x_bdi, x_bdn, xadd_eq, xsub_eq, xmul_eq, xneg_eq, xwr_eq, xwr_nk, xwr_nj, Int.toNat_natCast, x_nc]
        exact ih
      · rw [if_neg (by omega)] at ih
        simp (disch := first | omega | assumption | (simp (disch := omega) only [xadd_eq, xsub_eq, xmul_eq, xneg_eq, xwr_eq, xwr_nk, xwr_nj, Int.toNat_natCast, x_nc] <;> first | omega | assumption) | fail) only [↓if_pos, ↓if_neg, ↓b222_0, ↓b222_52, ↓b222_6, ↓b222_55, ↓b222_86, ↓b222_61, ↓b222_49, ↓b222_16, ↓b222_66, ↓b222_41, ↓b222_20, ↓b222_78, ↓b222_70, ↓b222_42, ↓b222_31, ↓b222_79, ↓b222_75, x_bdi, x_bdn, xadd_eq, xsub_eq, xmul_eq, xneg_eq, xwr_eq, xwr_nk, xwr_nj, Int.toNat_natCast, x_nc]
        exact ih
theorem s222f : Ev X (d + 1) 222 0 [some (vr 100), some (vi 1), some (vi b), none, none] [] SH σ = some (some (vi (rdL (σ 102) b 20)), SH, σ) := by
  rw [b222_0, if_neg (by decide), b222_6]
  exact it222 20 0 (by omega)
theorem s222s : Ev X (d + 1) 222 0 [some (vr 100), some (vi 0), some (vi b), none, none] [] SH σ = some (some (vi (sgR b)), SH, σ) := by
  unfold sgR
  by_cases h1 : b = 3
  · subst h1; simp (disch := first | omega | assumption | (simp (disch := omega) only [xadd_eq, xsub_eq, xmul_eq, xneg_eq, xwr_eq, xwr_nk, xwr_nj, Int.toNat_natCast, x_nc, f216, f217] <;> first | omega | assumption) | fail) only [↓if_pos, ↓if_neg, ↓b222_0, ↓b222_52, ↓b222_6, ↓b222_55, ↓b222_9, ↓b222_86, ↓b222_61, ↓b222_49, ↓b222_16, ↓b222_66, ↓b222_41, ↓b222_20, ↓b222_78, ↓b222_70, ↓b222_42, ↓b222_31, ↓b222_79, ↓b222_75, ↓s216, ↓s217, f216, f217, x_bdi, x_bdn, xadd_eq, xsub_eq, xmul_eq, xneg_eq, xwr_eq, xwr_nk, xwr_nj, Int.toNat_natCast, x_nc]
  · by_cases h2 : b = 1
    · subst h2; simp (disch := first | omega | assumption | (simp (disch := omega) only [xadd_eq, xsub_eq, xmul_eq, xneg_eq, xwr_eq, xwr_nk, xwr_nj, Int.toNat_natCast, x_nc, f216, f217] <;> first | omega | assumption) | fail) only [↓if_pos, ↓if_neg, ↓b222_0, ↓b222_52, ↓b222_6, ↓b222_55, ↓b222_9, ↓b222_86, ↓b222_61, ↓b222_49, ↓b222_16, ↓b222_66, ↓b222_41, ↓b222_20, ↓b222_78, ↓b222_70, ↓b222_42, ↓b222_31, ↓b222_79, ↓b222_75, ↓s216, ↓s217, f216, f217, x_bdi, x_bdn, xadd_eq, xsub_eq, xmul_eq, xneg_eq, xwr_eq, xwr_nk, xwr_nj, Int.toNat_natCast, x_nc]
    · by_cases h3 : b = 5
      · subst h3; simp (disch := first | omega | assumption | (simp (disch := omega) only [xadd_eq, xsub_eq, xmul_eq, xneg_eq, xwr_eq, xwr_nk, xwr_nj, Int.toNat_natCast, x_nc, f216, f217] <;> first | omega | assumption) | fail) only [↓if_pos, ↓if_neg, ↓b222_0, ↓b222_52, ↓b222_6, ↓b222_55, ↓b222_9, ↓b222_86, ↓b222_61, ↓b222_49, ↓b222_16, ↓b222_66, ↓b222_41, ↓b222_20, ↓b222_78, ↓b222_70, ↓b222_42, ↓b222_31, ↓b222_79, ↓b222_75, ↓s216, ↓s217, f216, f217, x_bdi, x_bdn, xadd_eq, xsub_eq, xmul_eq, xneg_eq, xwr_eq, xwr_nk, xwr_nj, Int.toNat_natCast, x_nc]
      · by_cases h4 : b = 24
        · subst h4; simp (disch := first | omega | assumption | (simp (disch := omega) only [xadd_eq, xsub_eq, xmul_eq, xneg_eq, xwr_eq, xwr_nk, xwr_nj, Int.toNat_natCast, x_nc, f216, f217] <;> first | omega | assumption) | fail) only [↓if_pos, ↓if_neg, ↓b222_0, ↓b222_52, ↓b222_6, ↓b222_55, ↓b222_9, ↓b222_86, ↓b222_61, ↓b222_49, ↓b222_16, ↓b222_66, ↓b222_41, ↓b222_20, ↓b222_78, ↓b222_70, ↓b222_42, ↓b222_31, ↓b222_79, ↓b222_75, ↓s216, ↓s217, f216, f217, x_bdi, x_bdn, xadd_eq, xsub_eq, xmul_eq, xneg_eq, xwr_eq, xwr_nk, xwr_nj, Int.toNat_natCast, x_nc]
        · by_cases h5 : b = 16
          · subst h5; simp (disch := first | omega | assumption | (simp (disch := omega) only [xadd_eq, xsub_eq, xmul_eq, xneg_eq, xwr_eq, xwr_nk, xwr_nj, Int.toNat_natCast, x_nc, f216, f217] <;> first | omega | assumption) | fail) only [↓if_pos, ↓if_neg, ↓b222_0, ↓b222_52, ↓b222_6, ↓b222_55, ↓b222_9, ↓b222_86, ↓b222_61, ↓b222_49, ↓b222_16, ↓b222_66, ↓b222_41, ↓b222_20, ↓b222_78, ↓b222_70, ↓b222_42, ↓b222_31, ↓b222_79, ↓b222_75, ↓s216, ↓s217, f216, f217, x_bdi, x_bdn, xadd_eq, xsub_eq, xmul_eq, xneg_eq, xwr_eq, xwr_nk, xwr_nj, Int.toNat_natCast, x_nc]
          · simp (disch := first | omega | assumption | (simp (disch := omega) only [xadd_eq, xsub_eq, xmul_eq, xneg_eq, xwr_eq, xwr_nk, xwr_nj, Int.toNat_natCast, x_nc, f216, f217] <;> first | omega | assumption) | fail) only [↓if_pos, ↓if_neg, ↓b222_0, ↓b222_52, ↓b222_6, ↓b222_55, ↓b222_9, ↓b222_86, ↓b222_61, ↓b222_49, ↓b222_16, ↓b222_66, ↓b222_41, ↓b222_20, ↓b222_78, ↓b222_70, ↓b222_42, ↓b222_31, ↓b222_79, ↓b222_75, ↓s216, ↓s217, f216, f217, x_bdi, x_bdn, xadd_eq, xsub_eq, xmul_eq, xneg_eq, xwr_eq, xwr_nk, xwr_nj, Int.toNat_natCast, x_nc]
theorem s222 (hf : fig = 0 ∨ fig = 1) : Ev X (d + 1) 222 0 [some (vr 100), some (vi fig), some (vi b), none, none] [] SH σ = some (some (vi (rdB (σ 102) fig b)), SH, σ) := by
  unfold rdB
  rcases hf with rfl | rfl
  · exact s222s
  · exact s222f
end READ
/-! the ways: how many of the first n stand, what holds of them -/
def nz (w : Nat → Int) : Nat → Nat
  | 0 => 0
  | n + 1 => nz w n + (if w n = 0 then 0 else 1)
def WF (w : Nat → Int) : Prop := (∀ i, i < 20 → 0 ≤ w i ∧ w i ≤ 127) ∧ (∀ g, g < 10 → 1 ≤ w (2 * g)) ∧ (∀ i j, i < 20 → j < 20 → w i = w j → w i ≠ 0 → i = j)
/-- the class's lists of ways -/
def FC (w : Nat → Int) (cnt : Int) (ls dg ix : Nat → Int) : Prop := cnt = nz w 20 ∧ (∀ i, i < 20 → w i ≠ 0 → ls (nz w i) = w i ∧ dg (nz w i) = ((i / 2 : Nat) : Int) ∧ ix (w i).toNat = nz w i) ∧ (∀ b : Nat, b < 128 → (∀ i, i < 20 → w i = (b : Int) → b = 0) → ix b = -1)
section NZ
variable {w ls dg ix : Nat → Int} {cnt b : Int}
theorem nz_le : ∀ n, nz w n ≤ n
  | 0 => Nat.le_refl 0
  | n + 1 => by
    have := nz_le n
    unfold nz
    split <;> omega
theorem nz_mono {i : Nat} : ∀ q, nz w i ≤ nz w (i + q)
  | 0 => Nat.le_refl _
  | q + 1 => by
    have := nz_mono (i := i) q
    show _ ≤ nz w (i + q) + _
    omega
theorem nz_lt {i n : Nat} (h : i < n) (hw : w i ≠ 0) : nz w i < nz w n := by
  have h1 := nz_mono (w := w) (i := i + 1) (n - (i + 1))
  rw [show i + 1 + (n - (i + 1)) = n by omega] at h1
  have h2 : nz w (i + 1) = nz w i + 1 := by
    rw [nz, if_neg hw]
  omega
theorem nz_inj {i j : Nat} (hi : w i ≠ 0) (hj : w j ≠ 0) (h : nz w i = nz w j) : i = j := by
  rcases Nat.lt_trichotomy i j with g | g | g
  · have := nz_lt g hi; omega
  · exact g
  · have := nz_lt g hj; omega
theorem nz_sur : ∀ (n j : Nat), j < nz w n → ∃ i, i < n ∧ w i ≠ 0 ∧ nz w i = j
  | 0, j, h => by simp [nz] at h
  | n + 1, j, h => by
    by_cases hw : w n = 0
    · rw [nz, if_pos hw] at h
      obtain ⟨i, h1, h2, h3⟩ := nz_sur n j (by omega)
      exact ⟨i, by omega, h2, h3⟩
    · rw [nz, if_neg hw] at h
      by_cases e : j = nz w n
      · exact ⟨n, by omega, hw, e.symm⟩
      · obtain ⟨i, h1, h2, h3⟩ := nz_sur n j (by omega)
        exact ⟨i, by omega, h2, h3⟩
theorem rdL_none : ∀ n, (∀ i, i < n → w i = b → b ≤ 0) → rdL w b n = -1
  | 0, _ => rfl
  | n + 1, h => by
    have := h n (by omega)
    rw [rdL, if_neg (by omega)]
    exact rdL_none n (fun i hi => h i (by omega))
theorem rdL_some (hb : 0 < b) {i : Nat} (hw : w i = b) : ∀ n, i < n → (∀ j, j < n → w j = b → j = i) → rdL w b n = 48 + ((i / 2 : Nat) : Int)
  | 0, h, _ => by omega
  | n + 1, h, u => by
    rw [rdL]
    by_cases e : n = i
    · subst e
      rw [if_pos ⟨hb, hw⟩]
    · rw [if_neg (fun z => e (u n (by omega) z.2))]
      exact rdL_some hb hw n (by omega) (fun j hj => u j (by omega))
theorem ex_dec (p : Nat → Prop) [DecidablePred p] : ∀ n, (∃ i, i < n ∧ p i) ∨ (∀ i, i < n → ¬ p i)
  | 0 => Or.inr (fun i h => by omega)
  | n + 1 => by
    rcases ex_dec p n with ⟨i, h1, h2⟩ | h
    · exact Or.inl ⟨i, by omega, h2⟩
    · by_cases e : p n
      · exact Or.inl ⟨n, by omega, e⟩
      · exact Or.inr (fun i hi => by
          by_cases e2 : i = n
          · subst e2; exact e
          · exact h i (by omega))
/-- a figure's sticks are a way, or none -/
theorem way_or (hW : WF w) (hb : 0 ≤ b) : (∃ i, i < 20 ∧ w i = b ∧ 0 < b ∧ (∀ j, j < 20 → w j = b → j = i)) ∨ (∀ i, i < 20 → w i = b → b = 0) := by
  by_cases z : b = 0
  · exact Or.inr (fun _ _ _ => z)
  · rcases ex_dec (fun i => w i = b) 20 with ⟨i, h1, h2⟩ | h
    · exact Or.inl ⟨i, h1, h2, by omega, fun j hj hw => hW.2.2 j i hj h1 (hw.trans h2.symm) (by omega)⟩
    · exact Or.inr (fun i hi hw => absurd hw (h i hi))
end NZ
section SYB
variable {σ : xM} {fig b : Int}
theorem f74_rd (hW : WF (σ 102)) (hF : FC (σ 102) (σ 3 5) (σ 6) (σ 7) (σ 8)) (hf : fig = 0 ∨ fig = 1) (h0 : 0 ≤ b) (h1 : b < 128) : f74 σ fig (f73 σ fig b) = rdB (σ 102) fig b := by
  unfold rdB
  rcases hf with rfl | rfl
  · unfold f74 f73 f72 sgIx sgR sgBy
    simp only [if_pos]
    by_cases c1 : b = 3
    · subst c1; rfl
    · by_cases c2 : b = 1
      · subst c2; rfl
      · by_cases c3 : b = 5
        · subst c3; rfl
        · by_cases c4 : b = 24
          · subst c4; rfl
          · by_cases c5 : b = 16
            · subst c5; rfl
            · simp [c1, c2, c3, c4, c5]
  · have e1 : f73 σ 1 b = σ 8 b.toNat := by
      unfold f73
      rw [if_neg (by decide), if_pos ⟨h0, h1⟩]
    have e2 : f72 σ 1 = nz (σ 102) 20 := by
      unfold f72
      rw [if_neg (by decide)]
      exact hF.1
    rw [if_neg (by decide)]
    unfold f74
    rw [e1, e2]
    rcases way_or hW h0 with ⟨i, i1, i2, i3, i4⟩ | hn
    · obtain ⟨q1, q2, q3⟩ := hF.2.1 i i1 (by omega)
      rw [i2] at q3
      have := nz_lt (w := σ 102) i1 (by omega)
      rw [q3, if_pos ⟨by omega, by omega⟩, if_neg (by decide), Int.toNat_natCast, q2, rdL_some i3 i2 20 i1 i4]
    · have q := hF.2.2 b.toNat (by omega) (fun i hi hw => by
        have := hn i hi (by omega)
        omega)
      rw [q, if_neg (by omega), rdL_none 20 (fun i hi hw => by have := hn i hi hw; omega)]
end SYB
