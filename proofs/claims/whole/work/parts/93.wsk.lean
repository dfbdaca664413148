/-! WANTED: the model's stack -/
def c22 (f : Nat → Int) (h : Nat) : Nat → Int
  | 0 => 0
  | m + 1 => c22 f h m + (if f (h + m) = 22 then 1 else 0)
def CK : List (Nat × Nat) := [(100, 34), (100, 38), (100, 39)]
section WSK
variable {X : Nat × (Nat → Int)} {μ : xM} {h k : Nat}
theorem f232_at {m : Nat} (e : μ 100 38 = ((m + 1 : Nat) : Int)) (hm : m < 210) : f232 μ = μ 120 m := by
  unfold f232
  rw [if_pos (by omega), e, xsub_eq (by omega) (by omega), show (((m + 1 : Nat) : Int) - 1).toNat = m by omega]
theorem s233x (e : μ 100 38 = ((h + 1 : Nat) : Int)) (hh : h < 210) (e4 : μ 100 34 = (k : Int)) (hk : k < 200) (e9 : 0 ≤ μ 100 39 ∧ μ 100 39 ≤ 1000) : ∃ ν, (∀ d, Ev X (d + 1) 233 0 [some (vr 100)] [] SH μ = some (none, SH, ν)) ∧ chg [116, 117] CK μ ν ∧ ν 100 38 = (h : Int) ∧ ν 100 34 = ((k + 1 : Nat) : Int) ∧ ν 100 39 = μ 100 39 - (if μ 120 h = 22 then 1 else 0) ∧ (∀ j, ν 116 j = if j = k then μ 120 h else μ 116 j) ∧ (∀ j, ν 117 j = if j = k then 0 else μ 117 j) := by
  have xh : xsub ((h + 1 : Nat) : Int) 1 = (h : Int) := by
    rw [xsub_eq (by omega) (by omega)]
    omega
  have xk : xadd (k : Int) 1 = ((k + 1 : Nat) : Int) := xadd_eq (by omega) (by omega)
  have gen : ∀ ρ : xM, ρ 100 38 = (h : Int) → ρ 100 34 = (k : Int) → ρ 120 = μ 120 → ρ 116 = μ 116 → ρ 117 = μ 117 → chg [116, 117] CK μ ρ → (∀ d, Ev X (d + 1) 233 34 [some (vr 100)] [] SH ρ = some (none, SH, xwr (xwr (xwr ρ 116 k (μ 120 h)) 117 k 0) 100 34 ((k + 1 : Nat) : Int))) ∧ chg [116, 117] CK μ (xwr (xwr (xwr ρ 116 k (μ 120 h)) 117 k 0) 100 34 ((k + 1 : Nat) : Int)) ∧ (xwr (xwr (xwr ρ 116 k (μ 120 h)) 117 k 0) 100 34 ((k + 1 : Nat) : Int)) 100 38 = (h : Int) ∧ (∀ j, (xwr (xwr (xwr ρ 116 k (μ 120 h)) 117 k 0) 100 34 ((k + 1 : Nat) : Int)) 116 j = if j = k then μ 120 h else μ 116 j) ∧ (∀ j, (xwr (xwr (xwr ρ 116 k (μ 120 h)) 117 k 0) 100 34 ((k + 1 : Nat) : Int)) 117 j = if j = k then 0 else μ 117 j) := by
    intro ρ q1 q2 q3 q4 q5 q6
    refine ⟨fun d => ?_, chg_wr rfl (chg_wr rfl (chg_wr rfl q6)), ?_, fun j => ?_, fun j => ?_⟩
    · refine Eq.trans (b233_34 (by omega)) ?_
      rw [q1, Int.toNat_natCast, q3]
      refine x_bind (s234 (by omega) (by omega)) ?_
      unfold g234
      rw [q2, Int.toNat_natCast, xk]
      exact b233_48
    · rw [xwr_nj (by decide), xwr_nk (by decide), xwr_nk (by decide)]
      exact q1
    · rw [xwr_row (by decide), xwr_row (by decide), xwr_rw, q4]
    · rw [xwr_row (by decide), xwr_rw, xwr_row (by decide), q5]
  by_cases z : μ 120 h = 22
  · obtain ⟨g1, g2, g3, g4, g5⟩ := gen (xwr (xwr μ 100 38 (h : Int)) 100 39 (μ 100 39 - 1)) (by rw [xwr_nj (by decide), xwr_eq]) (by rw [xwr_nj (by decide), xwr_nj (by decide)]; exact e4) (by rw [xwr_row (by decide), xwr_row (by decide)]) (by rw [xwr_row (by decide), xwr_row (by decide)]) (by rw [xwr_row (by decide), xwr_row (by decide)]) (chg_wr rfl (chg_wr rfl chg_rf))
    refine ⟨_, fun d => ?_, g2, g3, xwr_eq, ?_, g4, g5⟩
    · rw [b233_0 (by rw [e, xh]; omega), e, xh, Int.toNat_natCast, if_neg (fun y => y z), b233_24, xwr_nj (by decide), xsub_eq (by omega) (by omega)]
      exact g1 d
    · rw [xwr_nj (by decide), xwr_nk (by decide), xwr_nk (by decide), xwr_eq, if_pos z]
  · obtain ⟨g1, g2, g3, g4, g5⟩ := gen (xwr μ 100 38 (h : Int)) xwr_eq (by rw [xwr_nj (by decide)]; exact e4) (xwr_row (by decide)) (xwr_row (by decide)) (xwr_row (by decide)) (chg_wr rfl chg_rf)
    refine ⟨_, fun d => ?_, g2, g3, xwr_eq, ?_, g4, g5⟩
    · rw [b233_0 (by rw [e, xh]; omega), e, xh, Int.toNat_natCast, if_pos z]
      exact g1 d
    · rw [xwr_nj (by decide), xwr_nk (by decide), xwr_nk (by decide), xwr_nj (by decide), if_neg z]
      omega
end WSK
