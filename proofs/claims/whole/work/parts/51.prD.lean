/-! PAIRS: undo, redo, seen, untell -/
section PRD
variable {X : Nat × (Nat → Int)} {σ τ : xM} {a b c : Int} {d k m : Nat}
theorem f137_1 {n p : Nat} (hn : (n : Int) < σ 23 0) (h1 : σ 23 0 ≤ 11) (hp : p < 7) (hq : σ 24 n = 0 → p < 5) : f137 σ 23 n p = 1 := by
  have e : f136 σ 23 n = 1 := by
    unfold f136
    rw [if_neg (by omega), if_neg (by omega), if_neg (by omega)]
  unfold f137
  rw [e, if_neg (by decide), if_neg (by omega), Int.toNat_natCast]
  by_cases z : σ 24 n = 0
  · have := hq z
    rw [if_pos z, if_neg (by omega)]
  · rw [if_neg z, if_neg (by omega)]
/-- an ACT turned over again in the class -/
theorem g46_act {n p : Nat} {v : Int} (hn : (n : Int) < σ 23 0) (h1 : σ 23 0 ≤ 11) (hp : p < 7) (hq : σ 24 n = 0 → p < 5) (hv : v = 8 * (n : Int) + p) : g46 σ v = xwr (xwr (xwr (xwr (xwr σ 25 n (xxor (σ 25 n) (xshl 1 p))) 49 3 (-1)) 49 7 0) 70 6 0) 70 9 (-1) := by
  obtain ⟨-, e1, e2, -, -⟩ := act8 n (by omega) p hp
  unfold g46 f56 f57
  rw [if_neg (by omega), hv, e1, e2]
  unfold g139
  rw [f137_1 hn h1 hp hq, if_neg (by decide), Int.toNat_natCast]
  rfl
theorem pr_undo (h : Core σ) : Pair X 45 299 [some (vr 0), none] [some (vr 100)] σ (Post σ) := by
  have hR := h.2.2.2.1
  obtain ⟨r1, r2, r3, r4⟩ := hR
  obtain ⟨k1, k2, k3, k4, k5, k6⟩ := h.2.2.2.2.2.2.2.1
  by_cases z : σ 47 1 = 0
  · have e1 : f55 σ = -1 ∧ g55 σ = σ := by
      unfold f55 g55
      rw [if_pos (by omega), if_pos (by omega)]
      exact ⟨rfl, rfl⟩
    refine Pair_q0 (r := 0) (r' := 0) h (fun d => ?_) (fun d => ?_) rfl
    · refine Eq.trans s45 ?_
      unfold f45 g45
      rw [e1.1, e1.2, if_pos rfl, if_pos rfl]
      rfl
    · simp (disch := first | omega | assumption | (simp (disch := omega) only [Int.reduceAdd, xadd_eq, xsub_eq, xmul_eq, xneg_eq, xwr_eq, xwr_nk, xwr_nj, Int.toNat_natCast, x_nc] <;> first | omega | assumption) | fail) only [↓if_pos, ↓if_neg, ↓b299_0, ↓b299_9, ↓b299_7, ↓b299_42, x_bdi, x_bdn, Int.reduceAdd, xadd_eq, xsub_eq, xmul_eq, xneg_eq, xwr_eq, xwr_nk, xwr_nj, Int.toNat_natCast, x_nc]
  · obtain ⟨n, p, w1, w2, w3, w4, w5⟩ := k6 (σ 47 1 - 1).toNat (by omega)
    have e0 : xsub (σ 47 1) 1 = σ 47 1 - 1 := xsub_eq (by omega) (by omega)
    have e1 : f55 σ = 8 * (n : Int) + p ∧ g55 σ = xwr σ 47 1 (σ 47 1 - 1) := by
      unfold f55 g55
      rw [e0, if_neg (by omega), if_pos (by omega), if_neg (by omega), if_pos (by omega)]
      exact ⟨w1, rfl⟩
    obtain ⟨g1, g2, g3, g4, g5, g6⟩ := r4 n w3
    have e2 := g46_act (σ := xwr σ 47 1 (σ 47 1 - 1)) (n := n) (p := p) (v := 8 * (n : Int) + p) (by rw [xwr_nk (by decide)]; exact w3) (by rw [xwr_nk (by decide)]; exact r2) w4 (by rw [xwr_nk (by decide)]; exact w5) rfl
    rw [xwr_nk (show 25 ≠ 47 by decide)] at e2
    generalize hbv : xxor (σ 25 n) (xshl 1 p) = bv at e2
    generalize hσ1 : xwr (xwr (xwr (xwr (xwr (xwr σ 47 1 (σ 47 1 - 1)) 25 n bv) 49 3 (-1)) 49 7 0) 70 6 0) 70 9 (-1) = σ1 at e2
    have u69 : σ1 100 69 = σ 47 1 := by
      rw [← hσ1]
      simp (disch := decide) only [xwr_nk]
      exact k4
    have u70 : σ1 100 70 = σ 47 2 - σ 47 1 := by
      rw [← hσ1]
      simp (disch := decide) only [xwr_nk]
      exact k5
    have u110 : σ1 110 = σ 110 := by
      rw [← hσ1]
      simp (disch := decide) only [xwr_row]
    have u139 : σ1 139 = σ 139 := by
      rw [← hσ1]
      simp (disch := decide) only [xwr_row]
    have e7 := fun (ρ : xM) d => s298 (X := X) (d := d) (σ := ρ) (n := n) (p := p) (by omega) (by omega)
    refine ⟨1, σ1, xwr (xwr (xwr σ1 100 69 (σ 47 1 - 1)) 100 70 (σ 47 2 - σ 47 1 + 1)) 110 n bv, fun d => ?_, fun d => ?_, ?_⟩
    · refine Eq.trans s45 ?_
      unfold f45 g45
      rw [e1.1, e1.2, if_neg (by omega), if_neg (by omega), e2]
    · simp (disch := first | omega | assumption | (simp (disch := omega) only [Int.reduceAdd, xadd_eq, xsub_eq, xmul_eq, xneg_eq, xwr_eq, xwr_nk, xwr_nj, Int.toNat_natCast, x_nc, u69, u70] <;> first | omega | assumption) | fail) only [↓if_pos, ↓if_neg, ↓b299_0, ↓b299_9, ↓b299_7, ↓b299_42, u69, u70, u139, w2, ↓e7, e7, u110, g3, hbv, x_bdi, x_bdn, Int.reduceAdd, xadd_eq, xsub_eq, xmul_eq, xneg_eq, xwr_eq, xwr_nk, xwr_nj, Int.toNat_natCast, x_nc]
    · refine Post_flip h (w := bv) w3 (by omega) w5 hbv.symm ?_ ?_ ?_ ?_ ?_ ?_
      · intro k j y1 y2 y3 y4 y5 y6 y7 y8
        rw [← hσ1]
        rw [xwr_nk y6]
        have w1 : ∀ (ρ : xM) (x : Int), xwr ρ 100 70 x k j = ρ k j := fun ρ x => if_neg (fun z => y8 ⟨z.1, Or.inr z.2⟩)
        have w2 : ∀ (ρ : xM) (x : Int), xwr ρ 100 69 x k j = ρ k j := fun ρ x => if_neg (fun z => y8 ⟨z.1, Or.inl z.2⟩)
        rw [w1, w2, xwr_nk y5, xwr_nk y5, xwr_nk y4, xwr_nk y4, xwr_nk y1, xwr_nk y2]
      · rw [← hσ1]
        simp (disch := decide) only [xwr_row]
        rw [xwr_rw, xwr_row (by decide)]
      · rw [xwr_rw]
        simp (disch := decide) only [xwr_row]
        rw [u110]
      · rw [← hσ1]
        unfold Cact
        simp (disch := decide) only [xwr_eq, xwr_nk, xwr_nj, xwr_row]
        exact ⟨by omega, by omega, by omega, trivial, by omega, k6⟩
      · rw [← hσ1]
        unfold ForgL
        simp (disch := decide) only [xwr_eq, xwr_nk, xwr_nj]
        exact ⟨trivial, trivial⟩
      · rw [← hσ1]
        unfold ForgN
        simp (disch := decide) only [xwr_eq, xwr_nk, xwr_nj]
        exact ⟨trivial, trivial⟩
theorem pr_redo (h : Core σ) : Pair X 47 300 [some (vr 0), none] [some (vr 100)] σ (Post σ) := by
  have hR := h.2.2.2.1
  obtain ⟨r1, r2, r3, r4⟩ := hR
  obtain ⟨k1, k2, k3, k4, k5, k6⟩ := h.2.2.2.2.2.2.2.1
  by_cases z : σ 47 1 = σ 47 2
  · have e1 : f58 σ = -1 ∧ g58 σ = σ := by
      unfold f58 g58
      rw [if_pos (by omega), if_pos (by omega)]
      exact ⟨rfl, rfl⟩
    refine Pair_q0 (r := 0) (r' := 0) h (fun d => ?_) (fun d => ?_) rfl
    · refine Eq.trans (s47 k1) ?_
      unfold f47 g47
      rw [e1.1, e1.2, if_pos rfl, if_pos rfl]
      rfl
    · simp (disch := first | omega | assumption | (simp (disch := omega) only [Int.reduceAdd, xadd_eq, xsub_eq, xmul_eq, xneg_eq, xwr_eq, xwr_nk, xwr_nj, Int.toNat_natCast, x_nc] <;> first | omega | assumption) | fail) only [↓if_pos, ↓if_neg, ↓b300_0, ↓b300_9, ↓b300_7, ↓b300_22, x_bdi, x_bdn, Int.reduceAdd, xadd_eq, xsub_eq, xmul_eq, xneg_eq, xwr_eq, xwr_nk, xwr_nj, Int.toNat_natCast, x_nc]
  · obtain ⟨n, p, w1, w2, w3, w4, w5⟩ := k6 (σ 47 1).toNat (by omega)
    have e0 : xadd (σ 47 1) 1 = σ 47 1 + 1 := xadd_eq (by omega) (by omega)
    have e00 : xsub (σ 47 1 + 1) 1 = σ 47 1 := by rw [xsub_eq (by omega) (by omega)]; omega
    have e1 : f58 σ = 8 * (n : Int) + p ∧ g58 σ = xwr σ 47 1 (σ 47 1 + 1) := by
      unfold f58 g58
      rw [e0, e00, if_neg (by omega), if_pos (by omega), if_neg (by omega), if_pos (by omega)]
      exact ⟨w1, rfl⟩
    obtain ⟨g1, g2, g3, g4, g5, g6⟩ := r4 n w3
    have e2 := g46_act (σ := xwr σ 47 1 (σ 47 1 + 1)) (n := n) (p := p) (v := 8 * (n : Int) + p) (by rw [xwr_nk (by decide)]; exact w3) (by rw [xwr_nk (by decide)]; exact r2) w4 (by rw [xwr_nk (by decide)]; exact w5) rfl
    rw [xwr_nk (show 25 ≠ 47 by decide)] at e2
    generalize hbv : xxor (σ 25 n) (xshl 1 p) = bv at e2
    generalize hσ1 : xwr (xwr (xwr (xwr (xwr (xwr σ 47 1 (σ 47 1 + 1)) 25 n bv) 49 3 (-1)) 49 7 0) 70 6 0) 70 9 (-1) = σ1 at e2
    have u69 : σ1 100 69 = σ 47 1 := by
      rw [← hσ1]
      simp (disch := decide) only [xwr_nk]
      exact k4
    have u70 : σ1 100 70 = σ 47 2 - σ 47 1 := by
      rw [← hσ1]
      simp (disch := decide) only [xwr_nk]
      exact k5
    have u110 : σ1 110 = σ 110 := by
      rw [← hσ1]
      simp (disch := decide) only [xwr_row]
    have u139 : σ1 139 = σ 139 := by
      rw [← hσ1]
      simp (disch := decide) only [xwr_row]
    have e7 := fun (ρ : xM) d => s298 (X := X) (d := d) (σ := ρ) (n := n) (p := p) (by omega) (by omega)
    refine ⟨1, σ1, xwr (xwr (xwr σ1 110 n bv) 100 69 (σ 47 1 + 1)) 100 70 (σ 47 2 - σ 47 1 - 1), fun d => ?_, fun d => ?_, ?_⟩
    · refine Eq.trans (s47 k1) ?_
      unfold f47 g47
      rw [e1.1, e1.2, if_neg (by omega), if_neg (by omega), e2]
    · simp (disch := first | omega | assumption | (simp (disch := omega) only [Int.reduceAdd, xadd_eq, xsub_eq, xmul_eq, xneg_eq, xwr_eq, xwr_nk, xwr_nj, Int.toNat_natCast, x_nc, u69, u70] <;> first | omega | assumption) | fail) only [↓if_pos, ↓if_neg, ↓b300_0, ↓b300_9, ↓b300_7, ↓b300_22, u69, u70, u139, w2, ↓e7, e7, u110, g3, hbv, x_bdi, x_bdn, Int.reduceAdd, xadd_eq, xsub_eq, xmul_eq, xneg_eq, xwr_eq, xwr_nk, xwr_nj, Int.toNat_natCast, x_nc]
    · refine Post_flip h (w := bv) w3 (by omega) w5 hbv.symm ?_ ?_ ?_ ?_ ?_ ?_
      · intro k j y1 y2 y3 y4 y5 y6 y7 y8
        rw [← hσ1]
        have w1 : ∀ (ρ : xM) (x : Int), xwr ρ 100 70 x k j = ρ k j := fun ρ x => if_neg (fun z => y8 ⟨z.1, Or.inr z.2⟩)
        have w2 : ∀ (ρ : xM) (x : Int), xwr ρ 100 69 x k j = ρ k j := fun ρ x => if_neg (fun z => y8 ⟨z.1, Or.inl z.2⟩)
        rw [w1, w2, xwr_nk y6, xwr_nk y5, xwr_nk y5, xwr_nk y4, xwr_nk y4, xwr_nk y1, xwr_nk y2]
      · rw [← hσ1]
        simp (disch := decide) only [xwr_row]
        rw [xwr_rw, xwr_row (by decide)]
      · simp (disch := decide) only [xwr_row]
        rw [xwr_rw, u110]
      · rw [← hσ1]
        unfold Cact
        simp (disch := decide) only [xwr_eq, xwr_nk, xwr_nj, xwr_row]
        exact ⟨by omega, by omega, by omega, trivial, by omega, k6⟩
      · rw [← hσ1]
        unfold ForgL
        simp (disch := decide) only [xwr_eq, xwr_nk, xwr_nj]
        exact ⟨trivial, trivial⟩
      · rw [← hσ1]
        unfold ForgN
        simp (disch := decide) only [xwr_eq, xwr_nk, xwr_nj]
        exact ⟨trivial, trivial⟩
theorem pr_seen (h : Core σ) (hc : c = 0 ∨ c = 1) : Pair X 34 278 [some (vr 0), some (vi a), some (vi b), some (vi c)] [some (vr 100), some (vi a), some (vi b), some (vi c)] σ (Post σ) := by
  have hR := h.2.2.2.1
  have hpe := hp_eq (a := a) (b := b) hR
  have h' := h
  obtain ⟨h1, h2, h3, h4, h5, h6, ⟨s1, s2, s3, s4, s5, s6, s7⟩, h8, h9, h10⟩ := h'
  obtain ⟨r1, r2, r3, r4⟩ := hR
  have m16 : σ 100 16 ≤ 11 := by omega
  by_cases hp : f137 σ 23 a b = 0
  · have hp2 : f279 σ a b = 0 := by rw [← hpe]; exact hp
    have e2 := fun d => s279 (X := X) (d := d) (σ := σ) (a1 := a) (a2 := b) m16
    rw [hp2] at e2
    refine Pair_q0 (r := -1) (r' := -1) h (fun d => ?_) (fun d => ?_) rfl
    · refine Eq.trans (s34 s4 hc) ?_
      unfold f34 g34
      rw [hp, if_neg (by decide), if_neg (by decide)]
    · simp (disch := first | omega | assumption | (simp (disch := omega) only [Int.reduceAdd, xadd_eq, xsub_eq, xmul_eq, xneg_eq, xwr_eq, xwr_nk, xwr_nj, Int.toNat_natCast, x_nc] <;> first | omega | assumption) | fail) only [↓if_pos, ↓if_neg, ↓b278_0, ↓b278_6, ↓b278_18, ↓b278_9, ↓b278_20, ↓e2, x_bdi, x_bdn, Int.reduceAdd, xadd_eq, xsub_eq, xmul_eq, xneg_eq, xwr_eq, xwr_nk, xwr_nj, Int.toNat_natCast, x_nc]
  · obtain ⟨z1, z2, z3, z4, z5⟩ := p137 hp
    obtain ⟨n, rfl⟩ : ∃ n : Nat, a = n := ⟨a.toNat, by omega⟩
    obtain ⟨p, rfl⟩ : ∃ p : Nat, b = p := ⟨b.toNat, by omega⟩
    have hq2 : f279 σ n p ≠ 0 := by rw [← hpe]; exact hp
    by_cases full : σ 41 1 = 60
    · refine ⟨-1, xwr (xwr σ 49 3 (-1)) 49 7 0, xwr (xwr σ 49 3 (-1)) 49 7 0, fun d => ?_, fun d => ?_, ?_⟩
      · refine Eq.trans (s34 s4 hc) ?_
        unfold f34 g34 f151 g151 g92
        rw [if_pos hp, if_pos hp]
        simp (disch := first | omega | assumption | (simp (disch := omega) only [Int.reduceAdd, xadd_eq, xsub_eq, xmul_eq, xneg_eq, xwr_eq, xwr_nk, xwr_nj, Int.toNat_natCast, x_nc] <;> first | omega | assumption) | fail) only [↓if_pos, ↓if_neg, Int.reduceAdd, xadd_eq, xsub_eq, xmul_eq, xneg_eq, xwr_eq, xwr_nk, xwr_nj, Int.toNat_natCast, x_nc]
      · have e2 := fun d => s279 (X := X) (d := d) (σ := xwr (xwr σ 49 3 (-1)) 49 7 0) (a1 := (n : Int)) (a2 := (p : Int)) m16
        have e3 : f279 (xwr (xwr σ 49 3 (-1)) 49 7 0) n p = f279 σ n p := by
          unfold f279 f220 f280
          simp (disch := decide) only [xwr_nk]
        rw [e3] at e2
        simp (disch := first | omega | assumption | (simp (disch := omega) only [Int.reduceAdd, xadd_eq, xsub_eq, xmul_eq, xneg_eq, xwr_eq, xwr_nk, xwr_nj, Int.toNat_natCast, x_nc] <;> first | omega | assumption) | fail) only [↓if_pos, ↓if_neg, ↓b278_0, ↓b278_6, ↓b278_18, ↓b278_9, ↓b278_20, ↓e2, x_bdi, x_bdn, Int.reduceAdd, xadd_eq, xsub_eq, xmul_eq, xneg_eq, xwr_eq, xwr_nk, xwr_nj, Int.toNat_natCast, x_nc]
      · exact ⟨Core_eqv (eqv_wr rfl (eqv_wr rfl eqv_rf)) h, Or.inr ⟨rfl, rfl⟩, Or.inl (eqp_wr rfl (eqp_wr rfl eqp_rf))⟩
    · have e0 : xadd (σ 41 1) 1 = σ 41 1 + 1 := xadd_eq (by omega) (by omega)
      have e00 : xsub (σ 41 1 + 1) 1 = σ 41 1 := by rw [xsub_eq (by omega) (by omega)]; omega
      have e1 : f34 σ n p c = σ 41 1 ∧ g34 σ n p c = xwr (xwr (xwr (xwr (xwr (xwr (xwr (xwr σ 49 3 (-1)) 49 7 0) 42 (σ 41 1).toNat n) 43 (σ 41 1).toNat p) 44 (σ 41 1).toNat c) 45 (σ 41 1).toNat (σ 41 0)) 46 (σ 41 1).toNat (-1)) 41 1 (σ 41 1 + 1) := by
        unfold f34 g34 f151 g151 g92
        rw [if_pos hp, if_pos hp]
        simp (disch := decide) only [xwr_nk, e0, e00]
        rw [if_pos (by omega), if_pos (by omega)]
        exact ⟨rfl, rfl⟩
      generalize hσ1 : xwr (xwr (xwr (xwr (xwr (xwr (xwr (xwr σ 49 3 (-1)) 49 7 0) 42 (σ 41 1).toNat n) 43 (σ 41 1).toNat p) 44 (σ 41 1).toNat c) 45 (σ 41 1).toNat (σ 41 0)) 46 (σ 41 1).toNat (-1)) 41 1 (σ 41 1 + 1) = σ1 at e1
      have u59 : σ1 100 59 = σ 41 1 := by
        rw [← hσ1]
        simp (disch := decide) only [xwr_nk]
        exact s6
      have u60 : σ1 100 60 = σ 41 0 := by
        rw [← hσ1]
        simp (disch := decide) only [xwr_nk]
        exact s3
      have e3 : f279 σ1 n p = f279 σ n p := by
        rw [← hσ1]
        unfold f279 f220 f280
        simp (disch := decide) only [xwr_nk]
      have e2 := fun d => s279 (X := X) (d := d) (σ := σ1) (a1 := (n : Int)) (a2 := (p : Int)) (by rw [← hσ1]; simp (disch := decide) only [xwr_nk]; exact m16)
      rw [e3] at e2
      refine ⟨σ 41 1, σ1, xwr (xwr (xwr (xwr (xwr (xwr σ1 132 (σ 41 1).toNat n) 133 (σ 41 1).toNat p) 136 (σ 41 1).toNat c) 134 (σ 41 1).toNat (σ 41 0)) 135 (σ 41 1).toNat (-1)) 100 59 (σ 41 1 + 1), fun d => ?_, fun d => ?_, ?_⟩
      · refine Eq.trans (s34 s4 hc) ?_
        rw [e1.1, e1.2]
      · simp (disch := first | omega | assumption | (simp (disch := omega) only [Int.reduceAdd, xadd_eq, xsub_eq, xmul_eq, xneg_eq, xwr_eq, xwr_nk, xwr_nj, Int.toNat_natCast, x_nc, u59, u60] <;> first | omega | assumption) | fail) only [↓if_pos, ↓if_neg, ↓b278_0, ↓b278_6, ↓b278_18, ↓b278_9, ↓b278_20, ↓e2, u59, u60, Int.add_sub_cancel, x_bdi, x_bdn, Int.reduceAdd, xadd_eq, xsub_eq, xmul_eq, xneg_eq, xwr_eq, xwr_nk, xwr_nj, Int.toNat_natCast, x_nc]
      · rw [← hσ1]
        refine ⟨⟨Ctape_eqp (eqp_wr rfl (eqp_wr rfl (eqp_wr rfl (eqp_wr rfl (eqp_wr rfl (eqp_wr rfl (eqp_wr rfl (eqp_wr rfl (eqp_wr rfl (eqp_wr rfl (eqp_wr rfl (eqp_wr rfl (eqp_wr rfl (eqp_wr rfl eqp_rf)))))))))))))) h1, Cform_eqp (eqp_wr rfl (eqp_wr rfl (eqp_wr rfl (eqp_wr rfl (eqp_wr rfl (eqp_wr rfl (eqp_wr rfl (eqp_wr rfl (eqp_wr rfl (eqp_wr rfl (eqp_wr rfl (eqp_wr rfl (eqp_wr rfl (eqp_wr rfl eqp_rf)))))))))))))) h2, Cwant_eqp (eqp_wr rfl (eqp_wr rfl (eqp_wr rfl (eqp_wr rfl (eqp_wr rfl (eqp_wr rfl (eqp_wr rfl (eqp_wr rfl (eqp_wr rfl (eqp_wr rfl (eqp_wr rfl (eqp_wr rfl (eqp_wr rfl (eqp_wr rfl eqp_rf)))))))))))))) h3, Crow_eqp (eqp_wr rfl (eqp_wr rfl (eqp_wr rfl (eqp_wr rfl (eqp_wr rfl (eqp_wr rfl (eqp_wr rfl (eqp_wr rfl (eqp_wr rfl (eqp_wr rfl (eqp_wr rfl (eqp_wr rfl (eqp_wr rfl (eqp_wr rfl eqp_rf)))))))))))))) h4, Cgoal_eqp (eqp_wr rfl (eqp_wr rfl (eqp_wr rfl (eqp_wr rfl (eqp_wr rfl (eqp_wr rfl (eqp_wr rfl (eqp_wr rfl (eqp_wr rfl (eqp_wr rfl (eqp_wr rfl (eqp_wr rfl (eqp_wr rfl (eqp_wr rfl eqp_rf)))))))))))))) h5, Cbox_eqp (eqp_wr rfl (eqp_wr rfl (eqp_wr rfl (eqp_wr rfl (eqp_wr rfl (eqp_wr rfl (eqp_wr rfl (eqp_wr rfl (eqp_wr rfl (eqp_wr rfl (eqp_wr rfl (eqp_wr rfl (eqp_wr rfl (eqp_wr rfl eqp_rf)))))))))))))) h6, ?_, Cact_eqp (eqp_wr rfl (eqp_wr rfl (eqp_wr rfl (eqp_wr rfl (eqp_wr rfl (eqp_wr rfl (eqp_wr rfl (eqp_wr rfl (eqp_wr rfl (eqp_wr rfl (eqp_wr rfl (eqp_wr rfl (eqp_wr rfl (eqp_wr rfl eqp_rf)))))))))))))) h8, Crd_eqp (eqp_wr rfl (eqp_wr rfl (eqp_wr rfl (eqp_wr rfl (eqp_wr rfl (eqp_wr rfl (eqp_wr rfl (eqp_wr rfl (eqp_wr rfl (eqp_wr rfl (eqp_wr rfl (eqp_wr rfl (eqp_wr rfl (eqp_wr rfl eqp_rf)))))))))))))) h9, Cmis_eqp (eqp_wr rfl (eqp_wr rfl (eqp_wr rfl (eqp_wr rfl (eqp_wr rfl (eqp_wr rfl (eqp_wr rfl (eqp_wr rfl (eqp_wr rfl (eqp_wr rfl (eqp_wr rfl (eqp_wr rfl (eqp_wr rfl (eqp_wr rfl eqp_rf)))))))))))))) h10⟩, Or.inr ⟨rfl, rfl⟩, Or.inl (eqp_wr rfl (eqp_wr rfl (eqp_wr rfl (eqp_wr rfl (eqp_wr rfl (eqp_wr rfl (eqp_wr rfl (eqp_wr rfl (eqp_wr rfl (eqp_wr rfl (eqp_wr rfl (eqp_wr rfl (eqp_wr rfl (eqp_wr rfl eqp_rf))))))))))))))⟩
        unfold Csee
        simp (disch := decide) only [xwr_eq, xwr_nk, xwr_nj]
        refine ⟨s1, s2, s3, by omega, by omega, trivial, fun i hi => ?_⟩
        by_cases y : i = (σ 41 1).toNat
        · subst y
          simp (disch := decide) only [xwr_eq, xwr_nk, xwr_nj]
          exact ⟨trivial, trivial, trivial, trivial, trivial, hc, by omega, z2, by omega, by omega, by omega, by omega, s1, s2⟩
        · have := s7 i (by omega)
          simp (disch := first | decide | assumption) only [xwr_eq, xwr_nk, xwr_nj]
          exact this
theorem pr_untell (h : Core σ) : Pair X 35 281 [some (vr 0), some (vi a)] [some (vr 100), some (vi a)] σ (Post σ) := by
  have h' := h
  obtain ⟨h1, h2, h3, h4, h5, h6, ⟨s1, s2, s3, s4, s5, s6, s7⟩, h8, h9, h10⟩ := h'
  by_cases c : 0 ≤ a ∧ a < σ 41 1 ∧ σ 46 a.toNat = -1
  · obtain ⟨n, rfl⟩ : ∃ n : Nat, a = n := ⟨a.toNat, by omega⟩
    rw [Int.toNat_natCast] at c
    have q := s7 n c.2.1
    refine ⟨1, xwr (xwr (xwr σ 49 3 (-1)) 49 7 0) 46 n (σ 41 0), xwr (xwr (xwr (xwr σ 49 3 (-1)) 49 7 0) 46 n (σ 41 0)) 135 n (σ 41 0), fun d => ?_, fun d => ?_, ?_⟩
    · refine Eq.trans s35 ?_
      unfold f35 g35 f152 g152 g92
      simp (disch := first | omega | assumption | (simp (disch := omega) only [Int.reduceAdd, xadd_eq, xsub_eq, xmul_eq, xneg_eq, xwr_eq, xwr_nk, xwr_nj, Int.toNat_natCast, x_nc] <;> first | omega | assumption) | fail) only [↓if_pos, ↓if_neg, Int.reduceAdd, xadd_eq, xsub_eq, xmul_eq, xneg_eq, xwr_eq, xwr_nk, xwr_nj, Int.toNat_natCast, x_nc]
    · refine Eq.trans (s281 (by rw [xwr_nk (by decide), xwr_nk (by decide), xwr_nk (by decide)]; omega)) ?_
      unfold f281 g281
      simp (disch := first | omega | assumption | (simp (disch := omega) only [Int.reduceAdd, xadd_eq, xsub_eq, xmul_eq, xneg_eq, xwr_eq, xwr_nk, xwr_nj, Int.toNat_natCast, x_nc] <;> first | omega | assumption) | fail) only [↓if_pos, ↓if_neg, s3, Int.reduceAdd, xadd_eq, xsub_eq, xmul_eq, xneg_eq, xwr_eq, xwr_nk, xwr_nj, Int.toNat_natCast, x_nc]
    · refine ⟨⟨Ctape_eqp (eqp_wr rfl (eqp_wr rfl (eqp_wr rfl (eqp_wr rfl eqp_rf)))) h1, Cform_eqp (eqp_wr rfl (eqp_wr rfl (eqp_wr rfl (eqp_wr rfl eqp_rf)))) h2, Cwant_eqp (eqp_wr rfl (eqp_wr rfl (eqp_wr rfl (eqp_wr rfl eqp_rf)))) h3, Crow_eqp (eqp_wr rfl (eqp_wr rfl (eqp_wr rfl (eqp_wr rfl eqp_rf)))) h4, Cgoal_eqp (eqp_wr rfl (eqp_wr rfl (eqp_wr rfl (eqp_wr rfl eqp_rf)))) h5, Cbox_eqp (eqp_wr rfl (eqp_wr rfl (eqp_wr rfl (eqp_wr rfl eqp_rf)))) h6, ?_, Cact_eqp (eqp_wr rfl (eqp_wr rfl (eqp_wr rfl (eqp_wr rfl eqp_rf)))) h8, Crd_eqp (eqp_wr rfl (eqp_wr rfl (eqp_wr rfl (eqp_wr rfl eqp_rf)))) h9, Cmis_eqp (eqp_wr rfl (eqp_wr rfl (eqp_wr rfl (eqp_wr rfl eqp_rf)))) h10⟩, Or.inr ⟨rfl, rfl⟩, Or.inl (eqp_wr rfl (eqp_wr rfl (eqp_wr rfl (eqp_wr rfl eqp_rf))))⟩
      unfold Csee
      simp (disch := decide) only [xwr_eq, xwr_nk, xwr_nj]
      refine ⟨s1, s2, s3, s4, s5, s6, fun i hi => ?_⟩
      have q := s7 i hi
      by_cases y : i = n
      · subst y
        simp (disch := decide) only [xwr_eq, xwr_nk, xwr_nj]
        obtain ⟨q1, q2, q3, q4, q5, q6, q7, q8, q9, q10, q11, q12, q13, q14⟩ := q
        exact ⟨q1, q2, q3, q4, trivial, q6, q7, q8, q9, q10, by omega, by omega, q13, q14⟩
      · simp (disch := first | decide | assumption) only [xwr_eq, xwr_nk, xwr_nj]
        exact q
  · refine ⟨0, xwr (xwr σ 49 3 (-1)) 49 7 0, xwr (xwr σ 49 3 (-1)) 49 7 0, fun d => ?_, fun d => ?_, ?_⟩
    · refine Eq.trans s35 ?_
      unfold f35 g35 f152 g152 g92
      simp (disch := decide) only [xwr_eq, xwr_nk, xwr_nj]
      repeat' split
      all_goals first | omega | rfl
    · refine Eq.trans (s281 (by rw [xwr_nk (by decide), xwr_nk (by decide)]; omega)) ?_
      unfold f281 g281
      simp (disch := decide) only [xwr_eq, xwr_nk, xwr_nj]
      by_cases y : 0 ≤ a ∧ a < σ 41 1
      · have := s7 a.toNat (by omega)
        repeat' split
        all_goals first | omega | rfl
      · repeat' split
        all_goals first | omega | rfl
    · exact ⟨Core_eqv (eqv_wr rfl (eqv_wr rfl eqv_rf)) h, Or.inr ⟨rfl, rfl⟩, Or.inl (eqp_wr rfl (eqp_wr rfl eqp_rf))⟩
end PRD
