/-! running a stretch by simp: what a call hands back; the reading against the automaton -/
section LIB
variable {X : Nat × (Nat → Int)} {d mi p k m : Nat} {L : List (Option xV)} {r : List xV} {v : xV} {s : List xSh} {σ : xM} {x : Int} {A : Nat → Int}
theorem x_bdi : (some (some v, s, σ)).bind (fun q => Ev X d mi p L (q.1.toList ++ r) q.2.1 q.2.2) = Ev X d mi p L (v :: r) s σ := rfl
theorem x_bdn : (some ((none : Option xV), s, σ)).bind (fun q => Ev X d mi p L (q.1.toList ++ r) q.2.1 q.2.2) = Ev X d mi p L r s σ := rfl
theorem x_nc (n : Nat) : (n : Int) + 1 = ((n + 1 : Nat) : Int) := rfl
theorem fa_wr (h : ∀ j, j < m → σ k j = A j) (hv : x = A m) : ∀ j, j < m + 1 → xwr σ k m x k j = A j := by
  intro j hj
  by_cases e : j = m
  · subst e
    rw [xwr_eq, hv]
  · rw [xwr_nj e]
    exact h j (by omega)
theorem fa_nk {k2 : Nat} {i : Nat} (h : ∀ j, j < m → σ k j = A j) (hk : k ≠ k2) : ∀ j, j < m → xwr σ k2 i x k j = A j := by
  intro j hj
  rw [xwr_nk hk]
  exact h j hj
end LIB
def r0 : Nat → Int := fun j => if j = 4 then 43 else 0
def RA (r : Nat → Int) (s : Int × Int × Int) : Prop := r 6 = s.1 ∧ r 0 = s.2.2 ∧ (s.2.1 = 0 ∨ s.2.1 = 1) ∧ (s.2.1 = 1 ↔ (r 6 ≠ 0 ∧ r 5 = 0)) ∧ 0 ≤ r 6 ∧ r 6 ≤ 4 ∧ (r 0 = 0 ∨ r 0 = 1) ∧ 0 ≤ r 5 ∧ (r 6 = 0 → r 5 = 0) ∧ (r 6 ≤ 1 → r 5 ≤ 9) ∧ (r 6 ≤ 2 → r 5 ≤ 99) ∧ (r 6 ≤ 3 → r 5 ≤ 999) ∧ r 5 ≤ 9999
section RAS
variable {r : Nat → Int} {s : Int × Int × Int} {c : Int}
theorem RA_0 : RA r0 (0, 0, 0) := by
  unfold RA r0
  decide
theorem RA_ok (h : RA r s) : rdOk r c = aOk s c := by
  obtain ⟨s1, s2, s3⟩ := s
  unfold RA at h
  simp only at h
  unfold rdOk aOk
  simp only
  by_cases e : 48 ≤ c ∧ c ≤ 57
  · rw [if_pos e, if_pos e]
    exact decide_eq_decide.mpr (by omega)
  · rw [if_neg e, if_neg e]
    exact decide_eq_decide.mpr (by omega)
theorem RA_N (h : RA r s) (ok : aOk s c = true) : RA (rdN r c) (aN s c) := by
  obtain ⟨s1, s2, s3⟩ := s
  unfold RA at h
  simp only at h
  unfold aOk at ok
  simp only at ok
  unfold rdN aN
  by_cases e : 48 ≤ c ∧ c ≤ 57
  · rw [if_pos e] at ok
    have ok := of_decide_eq_true ok
    rw [if_pos e, if_pos e]
    have e5 : xadd (xmul (r 5) 10) (xsub c 48) = r 5 * 10 + (c - 48) := by
      rw [xmul_eq (by omega) (by omega), xsub_eq (by omega) (by omega), xadd_eq (by omega) (by omega)]
    have e6 : xadd (r 6) 1 = r 6 + 1 := xadd_eq (by omega) (by omega)
    unfold RA
    simp only [rdD, e5, e6]
    by_cases z : s1 = 0 ∧ c = 48
    · rw [if_pos z]
      omega
    · rw [if_neg z]
      omega
  · rw [if_neg e] at ok
    have ok := of_decide_eq_true ok
    rw [if_neg e, if_neg e]
    unfold RA
    simp only [rdS]
    by_cases z : c = 61
    · rw [if_pos z, if_pos z]
      simp
    · rw [if_neg z, if_neg z]
      simp
      omega
end RAS
