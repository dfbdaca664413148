/-! a SUM's numbers stay small: eleven cells hold nine digits at most -/
def clZ (r : Nat → Int) : Int := if r 4 = 42 then r 3 * r 5 else if r 4 = 45 then -r 5 else if r 4 = 47 then (if r 5 ≠ 0 then (r 3).tdiv (r 5) else 0) else r 5
def mxT (r : Nat → Int) : Nat := max (r 3).natAbs 1
def RB (r : Nat → Int) (N : Nat) : Prop := 0 ≤ r 5 ∧ (r 4 = 43 ∨ r 4 = 45 ∨ r 4 = 42 ∨ r 4 = 47) ∧ (r 2).natAbs + mxT r * ((r 5).natAbs + 1) ≤ 10 ^ N ∧ (r 1).natAbs ≤ 10 ^ N ∧ 0 ≤ r 7 ∧ r 7 < 4 ∧ (r 0 = 0 ∨ r 0 = 1)
section BND
variable {r : Nat → Int} {N : Nat} {c : Int}
theorem p9 (h : N ≤ 9) : 10 ^ N ≤ 1000000000 := Nat.pow_le_pow_right (by decide) h
theorem mxT_1 : 1 ≤ mxT r := Nat.le_max_right _ _
theorem mxT_3 : (r 3).natAbs ≤ mxT r := Nat.le_max_left _ _
theorem clZ_le : (clZ r).natAbs ≤ mxT r * (r 5).natAbs := by
  have m1 := mxT_1 (r := r)
  have m3 := mxT_3 (r := r)
  have g : (r 5).natAbs ≤ mxT r * (r 5).natAbs := Nat.le_mul_of_pos_left _ m1
  unfold clZ
  split
  · rw [Int.natAbs_mul]
    exact Nat.mul_le_mul_right _ m3
  · split
    · rw [Int.natAbs_neg]
      exact g
    · split
      · split
        · rename_i z
          rw [Int.natAbs_tdiv]
          have q : 1 ≤ (r 5).natAbs := by omega
          refine Nat.le_trans (Nat.div_le_self _ _) (Nat.le_trans m3 ?_)
          exact Nat.le_mul_of_pos_right _ q
        · simp
      · exact g
theorem RB_cl (h : RB r N) : (r 2).natAbs + (clZ r).natAbs + mxT r ≤ 10 ^ N := by
  obtain ⟨-, -, h3, -⟩ := h
  have := clZ_le (r := r)
  rw [Nat.mul_add, Nat.mul_one] at h3
  omega
theorem RB_num (h : RB r N) (hN : N ≤ 9) : (r 2).natAbs + (clZ r).natAbs + 1 ≤ 1000000000 ∧ (r 5).natAbs ≤ 1000000000 ∧ (r 1).natAbs ≤ 1000000000 ∧ (r 3).natAbs ≤ 1000000000 := by
  have h1 := RB_cl h
  have h2 := p9 hN
  have m1 := mxT_1 (r := r)
  have m3 := mxT_3 (r := r)
  obtain ⟨-, -, h3, h4, -⟩ := h
  have g : (r 5).natAbs ≤ mxT r * (r 5).natAbs := Nat.le_mul_of_pos_left _ m1
  rw [Nat.mul_add, Nat.mul_one] at h3
  omega
theorem clT_Z (h : RB r N) (hN : N ≤ 9) : clT r = clZ r := by
  have b := RB_num h hN
  obtain ⟨h5, h4, -⟩ := h
  unfold clT
  unfold clZ at b ⊢
  by_cases e : r 4 = 42
  · rw [if_pos e] at b
    rw [if_pos e, if_pos e]
    exact xmul_eq (by omega) (by omega)
  · by_cases e2 : r 4 = 45
    · rw [if_neg e, if_neg e, if_pos e2, if_pos e2]
      exact xneg_eq (by omega) (by omega)
    · by_cases e3 : r 4 = 47
      · rw [if_neg e, if_neg e, if_neg e2, if_neg e2, if_pos e3, if_pos e3]
        by_cases z : r 5 ≠ 0
        · rw [if_pos z, if_pos z]
          exact xdiv_eq ⟨by omega, by omega⟩ (by omega) (by omega)
        · rw [if_neg z, if_neg z]
      · rw [if_neg e, if_neg e, if_neg e2, if_neg e2, if_neg e3, if_neg e3]
theorem RB_0 : RB r0 0 := by
  unfold RB mxT r0
  decide
theorem RB_D (h : RB r N) (h5 : r 5 ≤ 999) (hc : 48 ≤ c ∧ c ≤ 57) : RB (rdD r (xsub c 48)) (N + 1) := by
  obtain ⟨g1, g2, g3, g4, g5⟩ := h
  have e5 : xadd (xmul (r 5) 10) (xsub c 48) = r 5 * 10 + (c - 48) := by
    rw [xmul_eq (by omega) (by omega), xsub_eq (by omega) (by omega), xadd_eq (by omega) (by omega)]
  have eM : mxT (rdD r (xsub c 48)) = mxT r := rfl
  unfold RB
  rw [eM]
  simp only [rdD, e5]
  refine ⟨by omega, g2, ?_, ?_, g5⟩
  · have q : (r 5 * 10 + (c - 48)).natAbs + 1 ≤ 10 * ((r 5).natAbs + 1) := by omega
    have q2 := Nat.mul_le_mul_left (mxT r) q
    rw [Nat.mul_left_comm] at q2
    rw [Nat.pow_succ]
    omega
  · rw [Nat.pow_succ]
    omega
theorem ls_rg (h7 : 0 ≤ r 7) (h7' : r 7 < 4) (h0 : r 0 = 0 ∨ r 0 = 1) : 0 ≤ lsT r ∧ lsT r < 4 ∧ (r 4 = 47 → r 5 = 0 → r 0 = 0 → lsT r = 1 + 2 * (r 7 / 2)) ∧ (r 4 = 47 → r 5 = 0 → r 0 = 1 → lsT r = 2 + r 7 % 2) ∧ (¬ (r 4 = 47 ∧ r 5 = 0) → lsT r = r 7) := by
  have q : ∀ a, a < 4 → xor' ((a : Nat) : Int) (xshl 1 0) = ((1 + 2 * (a / 2) : Nat) : Int) ∧ xor' ((a : Nat) : Int) (xshl 1 1) = ((2 + a % 2 : Nat) : Int) := by decide
  have q := q (r 7).toNat (by omega)
  rw [Int.toNat_of_nonneg h7] at q
  unfold lsT
  by_cases e : r 4 = 47
  · by_cases e2 : r 5 = 0
    · rw [if_neg (fun z => z e), if_neg (fun z => z e2)]
      rcases h0 with h0 | h0
      · rw [h0, q.1]
        omega
      · rw [h0, q.2]
        omega
    · rw [if_neg (fun z => z e), if_pos e2]
      omega
  · rw [if_pos e]
    omega
theorem RB_S (h : RB r N) (hN : N ≤ 9) (hc : c = 43 ∨ c = 45 ∨ c = 42 ∨ c = 47 ∨ c = 61) : RB (rdS r c) N := by
  have b := RB_num h hN
  have cl := RB_cl h
  have e := clT_Z h hN
  have m1 := mxT_1 (r := r)
  have p1 : 1 ≤ 10 ^ N := Nat.one_le_pow _ _ (by decide)
  obtain ⟨g1, g2, g3, g4, g5, g6, g7⟩ := h
  have l := ls_rg g5 g6 g7
  have ea : xadd (r 2) (clZ r) = r 2 + clZ r := xadd_eq (by omega) (by omega)
  unfold RB mxT
  simp only [rdS, e, ea]
  rcases hc with rfl | rfl | rfl | rfl | rfl <;> simp <;> omega
end BND
/-- how many digits the first symbols have -/
def ndg (cs : Nat → Int) : Nat → Nat
  | 0 => 0
  | m + 1 => ndg cs m + (if 48 ≤ cs m ∧ cs m ≤ 57 then 1 else 0)
/-- all symbols so far can stand -/
def okS (cs : Nat → Int) (m : Nat) : Prop := ∀ j, j < m → isSy (cs j) = true ∧ rdOk (rdSt r0 cs j) (cs j) = true
section NDG
variable {cs : Nat → Int}
theorem auL (cs : Nat → Int) : ∀ m, okS cs m → ∃ s, RA (rdSt r0 cs m) s
  | 0, _ => ⟨_, RA_0⟩
  | m + 1, h => by
    obtain ⟨s, hs⟩ := auL cs m (fun j hj => h j (by omega))
    have q := (h m (by omega)).2
    rw [RA_ok hs] at q
    exact ⟨_, RA_N hs q⟩
theorem ndg_le (cs : Nat → Int) : ∀ m, okS cs m → ndg cs m ≤ m ∧ (ndg cs m : Int) ≤ 4 * ((m : Int) - ndg cs m) + rdSt r0 cs m 6
  | 0, _ => by simp [ndg, rdSt, r0]
  | m + 1, h => by
    have ih := ndg_le cs m (fun j hj => h j (by omega))
    obtain ⟨s, hs⟩ := auL cs m (fun j hj => h j (by omega))
    have q := (h m (by omega)).2
    have hs2 := hs
    unfold RA at hs2
    rw [show rdSt r0 cs (m + 1) = rdN (rdSt r0 cs m) (cs m) from rfl]
    unfold ndg rdN
    unfold rdOk at q
    by_cases e : 48 ≤ cs m ∧ cs m ≤ 57
    · rw [if_pos e] at q
      have q := of_decide_eq_true q
      rw [if_pos e, if_pos e]
      have e6 : rdD (rdSt r0 cs m) (xsub (cs m) 48) 6 = rdSt r0 cs m 6 + 1 := xadd_eq (by omega) (by omega)
      rw [e6]
      omega
    · rw [if_neg e, if_neg e]
      have e6 : rdS (rdSt r0 cs m) (cs m) 6 = 0 := rfl
      rw [e6]
      omega
theorem ndg_9 {m : Nat} (h : okS cs m) (hm : m ≤ 11) : ndg cs m ≤ 9 := by
  have h1 := ndg_le cs m h
  obtain ⟨s, hs⟩ := auL cs m h
  unfold RA at hs
  omega
theorem RB_st : ∀ m, okS cs m → m ≤ 11 → RB (rdSt r0 cs m) (ndg cs m)
  | 0, _, _ => RB_0
  | m + 1, h, hm => by
    have hj : okS cs m := fun j hj => h j (by omega)
    have ih := RB_st m hj (by omega)
    obtain ⟨s, hs⟩ := auL cs m hj
    obtain ⟨q1, q⟩ := h m (by omega)
    have q1 := of_decide_eq_true q1
    rw [show rdSt r0 cs (m + 1) = rdN (rdSt r0 cs m) (cs m) from rfl]
    unfold RA at hs
    unfold rdOk at q
    unfold ndg rdN
    by_cases e : 48 ≤ cs m ∧ cs m ≤ 57
    · rw [if_pos e] at q
      have q := of_decide_eq_true q
      rw [if_pos e, if_pos e]
      exact RB_D ih (by omega) e
    · rw [if_neg e, if_neg e]
      exact RB_S ih (ndg_9 hj (by omega)) (by omega)
end NDG
