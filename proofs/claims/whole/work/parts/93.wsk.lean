/-! WANTED: the model's stack -/
def c22 (f : Nat → Int) (h : Nat) : Nat → Int
  | 0 => 0
  | m + 1 => c22 f h m + (if f (h + m) = 22 then 1 else 0)
def CK : List (Nat × Nat) := [(100, 34), (100, 38), (100, 39)]
section WSK
variable {X : Nat × (Nat → Int)} {μ : xM} {h k : Nat}
theorem f232_at {m : Nat} (e : μ 100 38 = ((m + 1 : Nat) : Int)) (hm : m < 210) : f232 μ = μ 120 m := by
  unfold f232
  rw [if_pos (by omega), e, xsub_eq (by omega) (by omega), show (((m + 1 : Nat) : Int) - 1).toNat = m by omega]
theorem s233x (e : μ 100 38 = ((h + 1 : Nat) : Int)) (hh : h < 210) (e4 : μ 100 34 = (k : Int)) (hk : k < 200) (e9 : 0 ≤ μ 100 39 ∧ μ 100 39 ≤ 1000) : ∃ ν, (∀ d, Ev X (d + 1) 233 0 [some (vr 100)] [] SH μ = some (none, SH, ν)) ∧ chg [116, 117] CK μ ν ∧ ν 100 38 = (h : Int) ∧ ν 100 34 = ((k + 1 : Nat) : Int) ∧ ν 100 39 = μ 100 39 - (if μ 120 h = 22 then 1 else 0) ∧ (∀ j, ν 116 j = if j = k then μ 120 h else μ 116 j) ∧ (∀ j, ν 117 j = if j = k then 0 else μ 117 j) := by
  have xh : xsub ((h + 1 : Nat) : Int) 1 = (h : Int) := by
    rw [xsub_eq (by omega) (by omega)]
    omega
  have xk : xadd (k : Int) 1 = ((k + 1 : Nat) : Int) := xadd_eq (by omega) (by omega)
  have gen : ∀ ρ : xM, ρ 100 38 = (h : Int) → ρ 100 34 = (k : Int) → ρ 120 = μ 120 → ρ 116 = μ 116 → ρ 117 = μ 117 → chg [116, 117] CK μ ρ → (∀ d, Ev X (d + 1) 233 34 [some (vr 100)] [] SH ρ = some (none, SH, xwr (xwr (xwr ρ 116 k (μ 120 h)) 117 k 0) 100 34 ((k + 1 : Nat) : Int))) ∧ chg [116, 117] CK μ (xwr (xwr (xwr ρ 116 k (μ 120 h)) 117 k 0) 100 34 ((k + 1 : Nat) : Int)) ∧ (xwr (xwr (xwr ρ 116 k (μ 120 h)) 117 k 0) 100 34 ((k + 1 : Nat) : Int)) 100 38 = (h : Int) ∧ (∀ j, (xwr (xwr (xwr ρ 116 k (μ 120 h)) 117 k 0) 100 34 ((k + 1 : Nat) : Int)) 116 j = if j = k then μ 120 h else μ 116 j) ∧ (∀ j, (xwr (xwr (xwr ρ 116 k (μ 120 h)) 117 k 0) 100 34 ((k + 1 : Nat) : Int)) 117 j = if j = k then 0 else μ 117 j) := by
    intro ρ q1 q2 q3 q4 q5 q6
    refine ⟨fun d => ?_, chg_wr rfl (chg_wr rfl (chg_wr rfl q6)), ?_, fun j => ?_, fun j => ?_⟩
    · refine Eq.trans (b233_34 (by omega)) ?_
      rw [q1, Int.toNat_natCast, q3]
      refine x_bind (s234 (by omega) (by omega)) ?_
      unfold g234
      rw [q2, Int.toNat_natCast, xk]
      exact b233_48
    · rw [xwr_nj (by decide), xwr_nk (by decide), xwr_nk (by decide)]
      exact q1
    · rw [xwr_row (by decide), xwr_row (by decide), xwr_rw, q4]
    · rw [xwr_row (by decide), xwr_rw, xwr_row (by decide), q5]
  by_cases z : μ 120 h = 22
  · obtain ⟨g1, g2, g3, g4, g5⟩ := gen (xwr (xwr μ 100 38 (h : Int)) 100 39 (μ 100 39 - 1)) (by rw [xwr_nj (by decide), xwr_eq]) (by rw [xwr_nj (by decide), xwr_nj (by decide)]; exact e4) (by rw [xwr_row (by decide), xwr_row (by decide)]) (by rw [xwr_row (by decide), xwr_row (by decide)]) (by rw [xwr_row (by decide), xwr_row (by decide)]) (chg_wr rfl (chg_wr rfl chg_rf))
    refine ⟨_, fun d => ?_, g2, g3, xwr_eq, ?_, g4, g5⟩
    · rw [b233_0 (by rw [e, xh]; omega), e, xh, Int.toNat_natCast, if_neg (fun y => y z), b233_24, xwr_nj (by decide), xsub_eq (by omega) (by omega)]
      exact g1 d
    · rw [xwr_nj (by decide), xwr_nk (by decide), xwr_nk (by decide), xwr_eq, if_pos z]
  · obtain ⟨g1, g2, g3, g4, g5⟩ := gen (xwr μ 100 38 (h : Int)) xwr_eq (by rw [xwr_nj (by decide)]; exact e4) (xwr_row (by decide)) (xwr_row (by decide)) (xwr_row (by decide)) (chg_wr rfl chg_rf)
    refine ⟨_, fun d => ?_, g2, g3, xwr_eq, ?_, g4, g5⟩
    · rw [b233_0 (by rw [e, xh]; omega), e, xh, Int.toNat_natCast, if_pos z]
      exact g1 d
    · rw [xwr_nj (by decide), xwr_nk (by decide), xwr_nk (by decide), xwr_nj (by decide), if_neg z]
      omega
/-- the operators above h are worked off -/
theorem it231 {r : Int} : ∀ (m : Nat) (μ : xM) (k : Nat), μ 100 38 = ((h + m : Nat) : Int) → h + m ≤ 210 → μ 100 34 = (k : Int) → k + m ≤ 200 → (∀ i, i < m → r ≤ μ 120 (h + i) ∧ μ 120 (h + i) ≠ 30) → (h = 0 ∨ μ 120 (h - 1) = 30 ∨ μ 120 (h - 1) < r) → c22 (μ 120) h m ≤ μ 100 39 → μ 100 39 ≤ 1000 → (0 ≤ c22 (μ 120) h m) → ∃ ν, (∀ d, Ev X (d + 2) 231 4 [some (vr 100), some (vi r)] [vi (f232 μ)] SH μ = some (none, SH, ν)) ∧ chg [116, 117] CK μ ν ∧ ν 100 38 = (h : Int) ∧ ν 100 34 = ((k + m : Nat) : Int) ∧ ν 100 39 = μ 100 39 - c22 (μ 120) h m ∧ (∀ j, j < k → ν 116 j = μ 116 j ∧ ν 117 j = μ 117 j) ∧ (∀ i, i < m → ν 116 (k + i) = μ 120 (h + (m - 1 - i)) ∧ ν 117 (k + i) = 0) := by
  intro m
  induction m with
  | zero =>
    intro μ k e0 e1 e2 e3 e4 e5 e6 e7 e8
    refine ⟨μ, fun d => ?_, chg_rf, e0, e2, by rw [c22]; omega, fun j _ => ⟨rfl, rfl⟩, fun i hi => absurd hi (by omega)⟩
    have sb := s232 (X := X) (d := d + 1) (σ := μ) (by omega) (by omega)
    by_cases z : f232 μ = 30
    · rw [b231_4, if_pos z, b231_24]
    · rw [b231_4, if_neg z]
      refine Eq.trans b231_9 ?_
      refine x_bind sb ?_
      dsimp only
      refine Eq.trans b231_13 ?_
      have lt : f232 μ < r := by
        by_cases y : h = 0
        · have : f232 μ = 30 := by
            unfold f232
            rw [if_neg (fun w => w (by omega))]
          exact absurd this z
        · have q := f232_at (μ := μ) (m := h - 1) (by omega) (by omega)
          rw [q] at z ⊢
          rcases e5 with e5 | e5 | e5
          · exact absurd e5 y
          · exact absurd e5 z
          · exact e5
      rw [if_pos lt, b231_24]
  | succ m ih =>
    intro μ k e0 e1 e2 e3 e4 e5 e6 e7 e8
    have e8' : ∀ m, 0 ≤ c22 (μ 120) h m := by
      intro m
      induction m with
      | zero => exact Int.le_refl 0
      | succ m ih =>
        rw [c22]
        split <;> omega
    have c8 := e8' m
    rw [c22] at e6
    have c9 : (0 : Int) ≤ (if μ 120 (h + m) = 22 then 1 else 0) ∧ (if μ 120 (h + m) = 22 then 1 else 0) ≤ (1 : Int) := by
      split <;> omega
    obtain ⟨ν, p1, p2, p3, p4, p5, p6, p7⟩ := s233x (X := X) (μ := μ) (h := h + m) (k := k) e0 (by omega) e2 (by omega) ⟨by omega, e7⟩
    have q := f232_at (μ := μ) (m := h + m) e0 (by omega)
    obtain ⟨q1, q2⟩ := e4 m (by omega)
    have r0 : ν 120 = μ 120 := chg_row p2 (fun _ => rfl) rfl
    obtain ⟨ν', a1, a2, a3, a4, a5, a6, a7⟩ := ih ν (k + 1) p3 (by omega) p4 (by omega) (by rw [r0]; exact fun i hi => e4 i (by omega)) (by rw [r0]; exact e5) (by rw [r0, p5]; omega) (by rw [p5]; omega) (by rw [r0]; exact c8)
    rw [r0] at a5 a7
    refine ⟨ν', fun d => ?_, chg_tr p2 a2, a3, ?_, ?_, fun j hj => ?_, fun i hi => ?_⟩
    · rw [b231_4, if_neg (by rw [q]; exact q2)]
      refine Eq.trans b231_9 ?_
      refine x_bind (s232 (by omega) (by omega)) ?_
      dsimp only
      refine Eq.trans b231_13 ?_
      rw [if_neg (by rw [q]; omega)]
      refine Eq.trans b231_17 ?_
      refine x_bind (p1 d) ?_
      dsimp only
      refine Eq.trans b231_21 ?_
      refine x_bind (s232 (by omega) (by omega)) ?_
      exact a1 d
    · rw [a4]
      omega
    · rw [a5, p5, c22]
      omega
    · obtain ⟨u1, u2⟩ := a6 j (by omega)
      rw [u1, u2, p6, p7, if_neg (by omega), if_neg (by omega)]
      exact ⟨rfl, rfl⟩
    · by_cases y : i = 0
      · subst y
        obtain ⟨u1, u2⟩ := a6 k (by omega)
        rw [Nat.add_zero, u1, u2, p6, p7, if_pos rfl, if_pos rfl, show h + (m + 1 - 1 - 0) = h + m by omega]
        exact ⟨rfl, rfl⟩
      · have u := a7 (i - 1) (by omega)
        rw [show k + 1 + (i - 1) = k + i by omega, show h + (m - 1 - (i - 1)) = h + (m + 1 - 1 - i) by omega] at u
        exact u
end WSK
