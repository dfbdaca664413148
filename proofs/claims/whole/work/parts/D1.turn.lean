/-! THE LAW'S LOOP: one turn for each call -/
def Inv (σ : xM) : Prop := Core σ ∧ CacheL σ ∧ CacheN σ
section LAW
variable {X : Nat × (Nat → Int)} {σ τ : xM} {i : Nat}
theorem Inv_P (h : Inv σ) (p : Post σ τ) : Inv τ := by
  obtain ⟨p1, p2, p3⟩ := p
  refine ⟨p1, ?_, ?_⟩
  · rcases p2 with e | e
    · exact CacheL_eqp e h.2.1
    · exact CacheL_fg e
  · rcases p3 with e | e
    · exact CacheN_eqp e h.2.2
    · exact CacheN_fg e
theorem Inv_C (h : Inv σ) (p : PostC σ τ) : Inv τ := by
  obtain ⟨p1, p2, p3⟩ := p
  refine ⟨p1, p2, ?_⟩
  rcases p3 with e | e
  · exact CacheN_eqp e h.2.2
  · exact CacheN_fg e
theorem Inv_N (h : Inv σ) (p : PostN σ τ) : Inv τ := by
  obtain ⟨p1, p2, p3⟩ := p
  refine ⟨p1, ?_, p2⟩
  rcases p3 with e | e
  · exact CacheL_eqp e h.2.1
  · exact CacheL_fg e
def lwT (X : Nat × (Nat → Int)) (i pc : Nat) (σ : xM) : Prop := ∃ τ, (∀ d, Ev X (d + 101) 0 pc [some (vc 99), some (vr 0), some (vr 100), some (vi i)] [] SH σ = Ev X (d + 101) 0 1342 [some (vc 99), some (vr 0), some (vr 100), some (vi i)] [] SH τ) ∧ Inv τ
def lwG (X : Nat × (Nat → Int)) (i : Nat) : Prop := (0 ≤ xadd (i : Int) 1 ∧ xadd (i : Int) 1 < (X.1 : Int)) ∧ (0 ≤ xadd (i : Int) 2 ∧ xadd (i : Int) 2 < (X.1 : Int)) ∧ (0 ≤ xadd (i : Int) 3 ∧ xadd (i : Int) 3 < (X.1 : Int)) ∧ (0 ≤ xadd (i : Int) 4 ∧ xadd (i : Int) 4 < (X.1 : Int)) ∧ (0 ≤ xadd (i : Int) 5 ∧ xadd (i : Int) 5 < (X.1 : Int))
theorem lwG_of (h : i + 6 ≤ X.1) (h2 : X.1 ≤ 3072) : lwG X i := by
  refine ⟨?_, ?_, ?_, ?_, ?_⟩ <;> rw [xadd_eq (by omega) (by omega)] <;> omega
theorem lw_0 (hX : ∀ j, X.2 j < 2147483648) (h : Inv σ) (hg : lwG X i) : lwT X i 208 σ := by
  obtain ⟨g1, g2, g3, g4, g5⟩ := hg
  obtain ⟨r, σ1, σ2, p1, p2, q⟩ := pr_feed (X := X) (a1 := (X.2 (xadd (i : Int) 1).toNat)) (a2 := (X.2 (xadd (i : Int) 2).toNat)) (a3 := (X.2 (xadd (i : Int) 3).toNat)) (a4 := (X.2 (xadd (i : Int) 4).toNat)) (a5 := (X.2 (xadd (i : Int) 5).toNat)) h.1
  refine ⟨σ2, fun d => ?_, Inv_P h q⟩
  refine Eq.trans (b0_208 g1 g2 g3 g4 g5) ?_
  refine x_bind (p1 d) ?_
  dsimp only
  refine Eq.trans (b0_237 (t0 := r) g1 g2 g3 g4 g5) ?_
  refine x_bind (p2 d) ?_
  dsimp only
  refine Eq.trans (b0_266 (t0 := r) (t1 := r)) ?_
  exact if_pos rfl
theorem lw_1 (hX : ∀ j, X.2 j < 2147483648) (h : Inv σ) (hg : lwG X i) : lwT X i 271 σ := by
  obtain ⟨g1, g2, g3, g4, g5⟩ := hg
  obtain ⟨r, σ1, σ2, p1, p2, q⟩ := pr_end (X := X) (a := (X.2 (xadd (i : Int) 1).toNat)) h.1
  refine ⟨σ2, fun d => ?_, Inv_P h q⟩
  refine Eq.trans (b0_271 g1) ?_
  refine x_bind (p1 d) ?_
  dsimp only
  refine Eq.trans (b0_280 (t0 := r) g1) ?_
  refine x_bind (p2 d) ?_
  dsimp only
  refine Eq.trans (b0_289 (t0 := r) (t1 := r)) ?_
  exact if_pos rfl
theorem lw_2 (hX : ∀ j, X.2 j < 2147483648) (h : Inv σ) (hg : lwG X i) : lwT X i 294 σ := by
  obtain ⟨g1, g2, g3, g4, g5⟩ := hg
  obtain ⟨r, σ1, σ2, p1, p2, q⟩ := pr_forms (X := X)  h.1
  refine ⟨σ2, fun d => ?_, Inv_P h q⟩
  refine Eq.trans b0_294 ?_
  refine x_bind (p1 d) ?_
  dsimp only
  refine Eq.trans (b0_298 (t0 := r)) ?_
  refine x_bind (p2 d) ?_
  dsimp only
  refine Eq.trans (b0_302 (t0 := r) (t1 := r)) ?_
  exact if_pos rfl
theorem lw_3 (hX : ∀ j, X.2 j < 2147483648) (h : Inv σ) (hg : lwG X i) : lwT X i 307 σ := by
  obtain ⟨g1, g2, g3, g4, g5⟩ := hg
  obtain ⟨r, σ1, σ2, p1, p2, q⟩ := pr_lay (X := X)  h.1
  refine ⟨σ2, fun d => ?_, Inv_P h q⟩
  refine Eq.trans b0_307 ?_
  refine x_bind (p1 d) ?_
  dsimp only
  refine Eq.trans (b0_311 (t0 := r)) ?_
  refine x_bind (p2 d) ?_
  dsimp only
  refine Eq.trans (b0_315 (t0 := r) (t1 := r)) ?_
  exact if_pos rfl
theorem lw_4 (hX : ∀ j, X.2 j < 2147483648) (h : Inv σ) (hg : lwG X i) : lwT X i 320 σ := by
  obtain ⟨g1, g2, g3, g4, g5⟩ := hg
  obtain ⟨r, σ1, σ2, p1, p2, q⟩ := pr_goal (X := X)  h.1
  refine ⟨σ2, fun d => ?_, Inv_P h q⟩
  refine Eq.trans b0_320 ?_
  refine x_bind (p1 d) ?_
  dsimp only
  refine Eq.trans (b0_324 (t0 := r)) ?_
  refine x_bind (p2 d) ?_
  dsimp only
  refine Eq.trans (b0_328 (t0 := r) (t1 := r)) ?_
  exact if_pos rfl
theorem lw_5 (hX : ∀ j, X.2 j < 2147483648) (h : Inv σ) (hg : lwG X i) : lwT X i 333 σ := by
  obtain ⟨g1, g2, g3, g4, g5⟩ := hg
  obtain ⟨r, σ1, σ2, p1, p2, q⟩ := pr_wanted (X := X)  h.1
  refine ⟨σ2, fun d => ?_, Inv_P h q⟩
  refine Eq.trans b0_333 ?_
  refine x_bind (p1 d) ?_
  dsimp only
  refine Eq.trans (b0_337 (t0 := r)) ?_
  refine x_bind (p2 d) ?_
  dsimp only
  refine Eq.trans (b0_341 (t0 := r) (t1 := r)) ?_
  exact if_pos rfl
theorem lw_6 (hX : ∀ j, X.2 j < 2147483648) (h : Inv σ) (hg : lwG X i) : lwT X i 346 σ := by
  obtain ⟨g1, g2, g3, g4, g5⟩ := hg
  obtain ⟨r, σ1, σ2, p1, p2, q⟩ := pr_fault (X := X) (a := (X.2 (xadd (i : Int) 1).toNat)) h.1
  refine ⟨σ2, fun d => ?_, Inv_P h q⟩
  refine Eq.trans (b0_346 g1) ?_
  refine x_bind (p1 d) ?_
  dsimp only
  refine Eq.trans (b0_355 (t0 := r) g1) ?_
  refine x_bind (p2 d) ?_
  dsimp only
  refine Eq.trans (b0_364 (t0 := r) (t1 := r)) ?_
  exact if_pos rfl
theorem lw_7 (hX : ∀ j, X.2 j < 2147483648) (h : Inv σ) (hg : lwG X i) : lwT X i 369 σ := by
  obtain ⟨g1, g2, g3, g4, g5⟩ := hg
  obtain ⟨r, σ1, σ2, p1, p2, q⟩ := pr_way (X := X) (a := (X.2 (xadd (i : Int) 1).toNat)) (b := (X.2 (xadd (i : Int) 2).toNat)) h.1
  refine ⟨σ2, fun d => ?_, Inv_P h q⟩
  refine Eq.trans (b0_369 g1 g2) ?_
  refine x_bind (p1 d) ?_
  dsimp only
  refine Eq.trans (b0_383 (t0 := r) g1 g2) ?_
  refine x_bind (p2 d) ?_
  dsimp only
  refine Eq.trans (b0_397 (t0 := r) (t1 := r)) ?_
  exact if_pos rfl
theorem lw_8 (hX : ∀ j, X.2 j < 2147483648) (h : Inv σ) (hg : lwG X i) : lwT X i 402 σ := by
  obtain ⟨g1, g2, g3, g4, g5⟩ := hg
  obtain ⟨r, σ1, σ2, p1, p2, q⟩ := pr_cell (X := X) (a := (X.2 (xadd (i : Int) 1).toNat)) h.1
  refine ⟨σ2, fun d => ?_, Inv_P h q⟩
  refine Eq.trans (b0_402 g1) ?_
  refine x_bind (p1 d) ?_
  dsimp only
  refine Eq.trans (b0_411 (t0 := r) g1) ?_
  refine x_bind (p2 d) ?_
  dsimp only
  refine Eq.trans (b0_420 (t0 := r) (t1 := r)) ?_
  exact if_pos rfl
theorem lw_9 (hX : ∀ j, X.2 j < 2147483648) (h : Inv σ) (hg : lwG X i) : lwT X i 425 σ := by
  obtain ⟨g1, g2, g3, g4, g5⟩ := hg
  by_cases z : (X.2 (xadd (i : Int) 3).toNat) = 0
  · obtain ⟨r, σ1, σ2, p1, p2, q⟩ := pr_stick (X := X) (a := (X.2 (xadd (i : Int) 1).toNat)) (b := (X.2 (xadd (i : Int) 2).toNat)) (c := 0) h.1 (Or.inl rfl)
    refine ⟨σ2, fun d => ?_, Inv_P h q⟩
    rw [b0_425 g1 g2 g3, if_pos z, b0_448]
    refine Eq.trans b0_449 ?_
    refine x_bind (p1 d) ?_
    dsimp only
    refine Eq.trans (b0_452 (t0 := r) g1 g2 g3) ?_
    rw [if_pos z, b0_475]
    refine Eq.trans b0_476 ?_
    refine x_bind (p2 d) ?_
    dsimp only
    refine Eq.trans (b0_479 (t0 := r) (t1 := r)) ?_
    exact if_pos rfl
  · obtain ⟨r, σ1, σ2, p1, p2, q⟩ := pr_stick (X := X) (a := (X.2 (xadd (i : Int) 1).toNat)) (b := (X.2 (xadd (i : Int) 2).toNat)) (c := 1) h.1 (Or.inr rfl)
    refine ⟨σ2, fun d => ?_, Inv_P h q⟩
    rw [b0_425 g1 g2 g3, if_neg z, b0_444]
    refine Eq.trans b0_449 ?_
    refine x_bind (p1 d) ?_
    dsimp only
    refine Eq.trans (b0_452 (t0 := r) g1 g2 g3) ?_
    rw [if_neg z, b0_471]
    refine Eq.trans b0_476 ?_
    refine x_bind (p2 d) ?_
    dsimp only
    refine Eq.trans (b0_479 (t0 := r) (t1 := r)) ?_
    exact if_pos rfl
theorem lw_10 (hX : ∀ j, X.2 j < 2147483648) (h : Inv σ) (hg : lwG X i) : lwT X i 484 σ := by
  obtain ⟨g1, g2, g3, g4, g5⟩ := hg
  obtain ⟨r, σ1, σ2, p1, p2, q⟩ := pr_says (X := X) (a := (X.2 (xadd (i : Int) 1).toNat)) h.1
  refine ⟨σ2, fun d => ?_, Inv_P h q⟩
  refine Eq.trans (b0_484 g1) ?_
  refine x_bind (p1 d) ?_
  dsimp only
  refine Eq.trans (b0_493 (t0 := r) g1) ?_
  refine x_bind (p2 d) ?_
  dsimp only
  refine Eq.trans (b0_502 (t0 := r) (t1 := r)) ?_
  exact if_pos rfl
theorem lw_11 (hX : ∀ j, X.2 j < 2147483648) (h : Inv σ) (hg : lwG X i) : lwT X i 507 σ := by
  obtain ⟨g1, g2, g3, g4, g5⟩ := hg
  obtain ⟨r, σ1, σ2, p1, p2, q⟩ := pr_isTrue (X := X)  h.1
  refine ⟨σ2, fun d => ?_, Inv_P h q⟩
  refine Eq.trans b0_507 ?_
  refine x_bind (p1 d) ?_
  dsimp only
  refine Eq.trans (b0_511 (t0 := r)) ?_
  refine x_bind (p2 d) ?_
  dsimp only
  refine Eq.trans (b0_515 (t0 := r) (t1 := r)) ?_
  exact if_pos rfl
theorem lw_12 (hX : ∀ j, X.2 j < 2147483648) (h : Inv σ) (hg : lwG X i) : lwT X i 520 σ := by
  obtain ⟨g1, g2, g3, g4, g5⟩ := hg
  obtain ⟨r, σ1, σ2, p1, p2, q⟩ := pr_worth (X := X) (a := (X.2 (xadd (i : Int) 1).toNat)) h.1
  refine ⟨σ2, fun d => ?_, Inv_P h q⟩
  refine Eq.trans (b0_520 g1) ?_
  refine x_bind (p1 d) ?_
  dsimp only
  refine Eq.trans (b0_529 (t0 := r) g1) ?_
  refine x_bind (p2 d) ?_
  dsimp only
  refine Eq.trans (b0_538 (t0 := r) (t1 := r)) ?_
  exact if_pos rfl
theorem lw_13 (hX : ∀ j, X.2 j < 2147483648) (h : Inv σ) (hg : lwG X i) : lwT X i 543 σ := by
  obtain ⟨g1, g2, g3, g4, g5⟩ := hg
  obtain ⟨r, σ1, σ2, p1, p2, q⟩ := pr_mends (X := X) (a := (X.2 (xadd (i : Int) 1).toNat)) (b := (X.2 (xadd (i : Int) 2).toNat)) h.1 h.2.1
  refine ⟨σ2, fun d => ?_, Inv_C h q⟩
  refine Eq.trans (b0_543 g1 g2) ?_
  refine x_bind (p1 d) ?_
  dsimp only
  refine Eq.trans (b0_557 (t0 := r) g1 g2) ?_
  refine x_bind (p2 d) ?_
  dsimp only
  refine Eq.trans (b0_571 (t0 := r) (t1 := r)) ?_
  exact if_pos rfl
theorem lw_14 (hX : ∀ j, X.2 j < 2147483648) (h : Inv σ) (hg : lwG X i) : lwT X i 576 σ := by
  obtain ⟨g1, g2, g3, g4, g5⟩ := hg
  obtain ⟨r, σ1, σ2, p1, p2, q⟩ := pr_mend (X := X) (a := (X.2 (xadd (i : Int) 1).toNat)) (b := (X.2 (xadd (i : Int) 2).toNat)) (i := (X.2 (xadd (i : Int) 3).toNat)) (c := (X.2 (xadd (i : Int) 4).toNat)) (hX _) h.1 h.2.1
  refine ⟨σ2, fun d => ?_, Inv_C h q⟩
  refine Eq.trans (b0_576 g1 g2 g3 g4) ?_
  refine x_bind (p1 d) ?_
  dsimp only
  refine Eq.trans (b0_600 (t0 := r) g1 g2 g3 g4) ?_
  refine x_bind (p2 d) ?_
  dsimp only
  refine Eq.trans (b0_624 (t0 := r) (t1 := r)) ?_
  exact if_pos rfl
theorem lw_15 (hX : ∀ j, X.2 j < 2147483648) (h : Inv σ) (hg : lwG X i) : lwT X i 629 σ := by
  obtain ⟨g1, g2, g3, g4, g5⟩ := hg
  obtain ⟨r, σ1, σ2, p1, p2, q⟩ := pr_least (X := X)  h.1 h.2.1
  refine ⟨σ2, fun d => ?_, Inv_C h q⟩
  refine Eq.trans b0_629 ?_
  refine x_bind (p1 d) ?_
  dsimp only
  refine Eq.trans (b0_633 (t0 := r)) ?_
  refine x_bind (p2 d) ?_
  dsimp only
  refine Eq.trans (b0_637 (t0 := r) (t1 := r)) ?_
  exact if_pos rfl
theorem lw_16 (hX : ∀ j, X.2 j < 2147483648) (h : Inv σ) (hg : lwG X i) : lwT X i 642 σ := by
  obtain ⟨g1, g2, g3, g4, g5⟩ := hg
  obtain ⟨r, σ1, σ2, p1, p2, q⟩ := pr_shape (X := X) (a := (X.2 (xadd (i : Int) 1).toNat)) h.1 h.2.1
  refine ⟨σ2, fun d => ?_, Inv_C h q⟩
  refine Eq.trans (b0_642 g1) ?_
  refine x_bind (p1 d) ?_
  dsimp only
  refine Eq.trans (b0_651 (t0 := r) g1) ?_
  refine x_bind (p2 d) ?_
  dsimp only
  refine Eq.trans (b0_660 (t0 := r) (t1 := r)) ?_
  exact if_pos rfl
theorem lw_17 (hX : ∀ j, X.2 j < 2147483648) (h : Inv σ) (hg : lwG X i) : lwT X i 665 σ := by
  obtain ⟨g1, g2, g3, g4, g5⟩ := hg
  obtain ⟨r, σ1, σ2, p1, p2, q⟩ := pr_shaped (X := X) (a := (X.2 (xadd (i : Int) 1).toNat)) (i := (X.2 (xadd (i : Int) 2).toNat)) (c := (X.2 (xadd (i : Int) 3).toNat)) (hX _) h.1 h.2.1
  refine ⟨σ2, fun d => ?_, Inv_C h q⟩
  refine Eq.trans (b0_665 g1 g2 g3) ?_
  refine x_bind (p1 d) ?_
  dsimp only
  refine Eq.trans (b0_684 (t0 := r) g1 g2 g3) ?_
  refine x_bind (p2 d) ?_
  dsimp only
  refine Eq.trans (b0_703 (t0 := r) (t1 := r)) ?_
  exact if_pos rfl
theorem lw_18 (hX : ∀ j, X.2 j < 2147483648) (h : Inv σ) (hg : lwG X i) : lwT X i 708 σ := by
  obtain ⟨g1, g2, g3, g4, g5⟩ := hg
  by_cases z : (X.2 (xadd (i : Int) 1).toNat) = 0
  · obtain ⟨r, σ1, σ2, p1, p2, q⟩ := pr_bound (X := X) (mo := 0) h.1 h.2.1
    refine ⟨σ2, fun d => ?_, Inv_C h q⟩
    rw [b0_708 g1, if_pos z, b0_721]
    refine Eq.trans b0_722 ?_
    refine x_bind (p1 d) ?_
    dsimp only
    refine Eq.trans (b0_725 (t0 := r) g1) ?_
    rw [if_pos z, b0_738]
    refine Eq.trans b0_739 ?_
    refine x_bind (p2 d) ?_
    dsimp only
    refine Eq.trans (b0_742 (t0 := r) (t1 := r)) ?_
    exact if_pos rfl
  · obtain ⟨r, σ1, σ2, p1, p2, q⟩ := pr_bound (X := X) (mo := 1) h.1 h.2.1
    refine ⟨σ2, fun d => ?_, Inv_C h q⟩
    rw [b0_708 g1, if_neg z, b0_717]
    refine Eq.trans b0_722 ?_
    refine x_bind (p1 d) ?_
    dsimp only
    refine Eq.trans (b0_725 (t0 := r) g1) ?_
    rw [if_neg z, b0_734]
    refine Eq.trans b0_739 ?_
    refine x_bind (p2 d) ?_
    dsimp only
    refine Eq.trans (b0_742 (t0 := r) (t1 := r)) ?_
    exact if_pos rfl
theorem lw_19 (hX : ∀ j, X.2 j < 2147483648) (h : Inv σ) (hg : lwG X i) : lwT X i 747 σ := by
  obtain ⟨g1, g2, g3, g4, g5⟩ := hg
  obtain ⟨r, σ1, σ2, p1, p2, q⟩ := pr_apart (X := X) (a := (X.2 (xadd (i : Int) 1).toNat)) h.1
  refine ⟨σ2, fun d => ?_, Inv_P h q⟩
  refine Eq.trans (b0_747 g1) ?_
  refine x_bind (p1 d) ?_
  dsimp only
  refine Eq.trans (b0_756 (t0 := r) g1) ?_
  refine x_bind (p2 d) ?_
  dsimp only
  refine Eq.trans (b0_765 (t0 := r) (t1 := r)) ?_
  exact if_pos rfl
theorem lw_20 (hX : ∀ j, X.2 j < 2147483648) (h : Inv σ) (hg : lwG X i) : lwT X i 770 σ := by
  obtain ⟨g1, g2, g3, g4, g5⟩ := hg
  obtain ⟨r, σ1, σ2, p1, p2, q⟩ := pr_steps (X := X)  h.1 h.2.2
  refine ⟨σ2, fun d => ?_, Inv_N h q⟩
  refine Eq.trans b0_770 ?_
  refine x_bind (p1 d) ?_
  dsimp only
  refine Eq.trans (b0_774 (t0 := r)) ?_
  refine x_bind (p2 d) ?_
  dsimp only
  refine Eq.trans (b0_778 (t0 := r) (t1 := r)) ?_
  exact if_pos rfl
theorem lw_21 (hX : ∀ j, X.2 j < 2147483648) (h : Inv σ) (hg : lwG X i) : lwT X i 783 σ := by
  obtain ⟨g1, g2, g3, g4, g5⟩ := hg
  obtain ⟨r, σ1, σ2, p1, p2, q⟩ := pr_step (X := X) (a := (X.2 (xadd (i : Int) 1).toNat)) (c := (X.2 (xadd (i : Int) 2).toNat)) h.1 h.2.2 (hX _)
  refine ⟨σ2, fun d => ?_, Inv_N h q⟩
  refine Eq.trans (b0_783 g1 g2) ?_
  refine x_bind (p1 d) ?_
  dsimp only
  refine Eq.trans (b0_797 (t0 := r) g1 g2) ?_
  refine x_bind (p2 d) ?_
  dsimp only
  refine Eq.trans (b0_811 (t0 := r) (t1 := r)) ?_
  exact if_pos rfl
theorem lw_22 (hX : ∀ j, X.2 j < 2147483648) (h : Inv σ) (hg : lwG X i) : lwT X i 816 σ := by
  obtain ⟨g1, g2, g3, g4, g5⟩ := hg
  obtain ⟨r, σ1, σ2, p1, p2, q⟩ := pr_puzzle (X := X) (a := (X.2 (xadd (i : Int) 1).toNat)) (c := (X.2 (xadd (i : Int) 2).toNat)) h.1 h.2.2
  refine ⟨σ2, fun d => ?_, Inv_N h q⟩
  refine Eq.trans (b0_816 g1 g2) ?_
  refine x_bind (p1 d) ?_
  dsimp only
  refine Eq.trans (b0_830 (t0 := r) g1 g2) ?_
  refine x_bind (p2 d) ?_
  dsimp only
  refine Eq.trans (b0_844 (t0 := r) (t1 := r)) ?_
  exact if_pos rfl
theorem lw_23 (hX : ∀ j, X.2 j < 2147483648) (h : Inv σ) (hg : lwG X i) : lwT X i 849 σ := by
  obtain ⟨g1, g2, g3, g4, g5⟩ := hg
  obtain ⟨r, σ1, σ2, p1, p2, q⟩ := pr_turned (X := X) (a := (X.2 (xadd (i : Int) 1).toNat)) (b := (X.2 (xadd (i : Int) 2).toNat)) h.1
  refine ⟨σ2, fun d => ?_, Inv_P h q⟩
  refine Eq.trans (b0_849 g1 g2) ?_
  refine x_bind (p1 d) ?_
  dsimp only
  refine Eq.trans (b0_863 (t0 := r) g1 g2) ?_
  refine x_bind (p2 d) ?_
  dsimp only
  refine Eq.trans (b0_877 (t0 := r) (t1 := r)) ?_
  exact if_pos rfl
theorem lw_24 (hX : ∀ j, X.2 j < 2147483648) (h : Inv σ) (hg : lwG X i) : lwT X i 882 σ := by
  obtain ⟨g1, g2, g3, g4, g5⟩ := hg
  obtain ⟨r, σ1, σ2, p1, p2, q⟩ := pr_turnedTrue (X := X) (a := (X.2 (xadd (i : Int) 1).toNat)) h.1
  refine ⟨σ2, fun d => ?_, Inv_P h q⟩
  refine Eq.trans (b0_882 g1) ?_
  refine x_bind (p1 d) ?_
  dsimp only
  refine Eq.trans (b0_891 (t0 := r) g1) ?_
  refine x_bind (p2 d) ?_
  dsimp only
  refine Eq.trans (b0_900 (t0 := r) (t1 := r)) ?_
  exact if_pos rfl
theorem lw_25 (hX : ∀ j, X.2 j < 2147483648) (h : Inv σ) (hg : lwG X i) : lwT X i 905 σ := by
  obtain ⟨g1, g2, g3, g4, g5⟩ := hg
  by_cases z : (X.2 (xadd (i : Int) 3).toNat) = 0
  · obtain ⟨r, σ1, σ2, p1, p2, q⟩ := pr_seen (X := X) (a := (X.2 (xadd (i : Int) 1).toNat)) (b := (X.2 (xadd (i : Int) 2).toNat)) (c := 0) h.1 (Or.inl rfl)
    refine ⟨σ2, fun d => ?_, Inv_P h q⟩
    rw [b0_905 g1 g2 g3, if_pos z, b0_928]
    refine Eq.trans b0_929 ?_
    refine x_bind (p1 d) ?_
    dsimp only
    refine Eq.trans (b0_932 (t0 := r) g1 g2 g3) ?_
    rw [if_pos z, b0_955]
    refine Eq.trans b0_956 ?_
    refine x_bind (p2 d) ?_
    dsimp only
    refine Eq.trans (b0_959 (t0 := r) (t1 := r)) ?_
    exact if_pos rfl
  · obtain ⟨r, σ1, σ2, p1, p2, q⟩ := pr_seen (X := X) (a := (X.2 (xadd (i : Int) 1).toNat)) (b := (X.2 (xadd (i : Int) 2).toNat)) (c := 1) h.1 (Or.inr rfl)
    refine ⟨σ2, fun d => ?_, Inv_P h q⟩
    rw [b0_905 g1 g2 g3, if_neg z, b0_924]
    refine Eq.trans b0_929 ?_
    refine x_bind (p1 d) ?_
    dsimp only
    refine Eq.trans (b0_932 (t0 := r) g1 g2 g3) ?_
    rw [if_neg z, b0_951]
    refine Eq.trans b0_956 ?_
    refine x_bind (p2 d) ?_
    dsimp only
    refine Eq.trans (b0_959 (t0 := r) (t1 := r)) ?_
    exact if_pos rfl
theorem lw_26 (hX : ∀ j, X.2 j < 2147483648) (h : Inv σ) (hg : lwG X i) : lwT X i 964 σ := by
  obtain ⟨g1, g2, g3, g4, g5⟩ := hg
  obtain ⟨r, σ1, σ2, p1, p2, q⟩ := pr_untell (X := X) (a := (X.2 (xadd (i : Int) 1).toNat)) h.1
  refine ⟨σ2, fun d => ?_, Inv_P h q⟩
  refine Eq.trans (b0_964 g1) ?_
  refine x_bind (p1 d) ?_
  dsimp only
  refine Eq.trans (b0_973 (t0 := r) g1) ?_
  refine x_bind (p2 d) ?_
  dsimp only
  refine Eq.trans (b0_982 (t0 := r) (t1 := r)) ?_
  exact if_pos rfl
theorem lw_27 (hX : ∀ j, X.2 j < 2147483648) (h : Inv σ) (hg : lwG X i) : lwT X i 987 σ := by
  obtain ⟨g1, g2, g3, g4, g5⟩ := hg
  obtain ⟨r, σ1, σ2, p1, p2, q⟩ := pr_later (X := X) (a := (X.2 (xadd (i : Int) 1).toNat)) h.1
  refine ⟨σ2, fun d => ?_, Inv_P h q⟩
  refine Eq.trans (b0_987 g1) ?_
  refine x_bind (p1 d) ?_
  dsimp only
  refine Eq.trans (b0_996 (t0 := r) g1) ?_
  refine x_bind (p2 d) ?_
  dsimp only
  refine Eq.trans (b0_1005 (t0 := r) (t1 := r)) ?_
  exact if_pos rfl
theorem lw_28 (hX : ∀ j, X.2 j < 2147483648) (h : Inv σ) (hg : lwG X i) : lwT X i 1010 σ := by
  obtain ⟨g1, g2, g3, g4, g5⟩ := hg
  obtain ⟨r, σ1, σ2, p1, p2, q⟩ := pr_could (X := X) (a := (X.2 (xadd (i : Int) 1).toNat)) h.1 h.2.1
  refine ⟨σ2, fun d => ?_, Inv_C h q⟩
  refine Eq.trans (b0_1010 g1) ?_
  refine x_bind (p1 d) ?_
  dsimp only
  refine Eq.trans (b0_1019 (t0 := r) g1) ?_
  refine x_bind (p2 d) ?_
  dsimp only
  refine Eq.trans (b0_1028 (t0 := r) (t1 := r)) ?_
  exact if_pos rfl
theorem lw_29 (hX : ∀ j, X.2 j < 2147483648) (h : Inv σ) (hg : lwG X i) : lwT X i 1033 σ := by
  obtain ⟨g1, g2, g3, g4, g5⟩ := hg
  obtain ⟨r, σ1, σ2, p1, p2, q⟩ := pr_couldBe (X := X) (a := (X.2 (xadd (i : Int) 1).toNat)) (i := (X.2 (xadd (i : Int) 2).toNat)) (c := (X.2 (xadd (i : Int) 3).toNat)) (hX _) h.1 h.2.1
  refine ⟨σ2, fun d => ?_, Inv_C h q⟩
  refine Eq.trans (b0_1033 g1 g2 g3) ?_
  refine x_bind (p1 d) ?_
  dsimp only
  refine Eq.trans (b0_1052 (t0 := r) g1 g2 g3) ?_
  refine x_bind (p2 d) ?_
  dsimp only
  refine Eq.trans (b0_1071 (t0 := r) (t1 := r)) ?_
  exact if_pos rfl
theorem lw_30 (hX : ∀ j, X.2 j < 2147483648) (h : Inv σ) (hg : lwG X i) : lwT X i 1076 σ := by
  obtain ⟨g1, g2, g3, g4, g5⟩ := hg
  obtain ⟨r, σ1, σ2, p1, p2, q⟩ := pr_next (X := X) (a := (X.2 (xadd (i : Int) 1).toNat)) (w := (X.2 (xadd (i : Int) 2).toNat)) h.1 h.2.1
  refine ⟨σ2, fun d => ?_, Inv_C h q⟩
  refine Eq.trans (b0_1076 g1 g2) ?_
  refine x_bind (p1 d) ?_
  dsimp only
  refine Eq.trans (b0_1090 (t0 := r) g1 g2) ?_
  refine x_bind (p2 d) ?_
  dsimp only
  refine Eq.trans (b0_1104 (t0 := r) (t1 := r)) ?_
  exact if_pos rfl
theorem lw_31 (hX : ∀ j, X.2 j < 2147483648) (h : Inv σ) (hg : lwG X i) : lwT X i 1109 σ := by
  obtain ⟨g1, g2, g3, g4, g5⟩ := hg
  by_cases z : (X.2 (xadd (i : Int) 3).toNat) = 0
  · obtain ⟨r, σ1, σ2, p1, p2, q⟩ := pr_extreme (X := X) (a := (X.2 (xadd (i : Int) 1).toNat)) (b := (X.2 (xadd (i : Int) 2).toNat)) (c := 0) h.1
    refine ⟨σ2, fun d => ?_, Inv_P h q⟩
    rw [b0_1109 g1 g2 g3, if_pos z, b0_1132]
    refine Eq.trans b0_1133 ?_
    refine x_bind (p1 d) ?_
    dsimp only
    refine Eq.trans (b0_1136 (t0 := r) g1 g2 g3) ?_
    rw [if_pos z, b0_1159]
    refine Eq.trans b0_1160 ?_
    refine x_bind (p2 d) ?_
    dsimp only
    refine Eq.trans (b0_1163 (t0 := r) (t1 := r)) ?_
    exact if_pos rfl
  · obtain ⟨r, σ1, σ2, p1, p2, q⟩ := pr_extreme (X := X) (a := (X.2 (xadd (i : Int) 1).toNat)) (b := (X.2 (xadd (i : Int) 2).toNat)) (c := 1) h.1
    refine ⟨σ2, fun d => ?_, Inv_P h q⟩
    rw [b0_1109 g1 g2 g3, if_neg z, b0_1128]
    refine Eq.trans b0_1133 ?_
    refine x_bind (p1 d) ?_
    dsimp only
    refine Eq.trans (b0_1136 (t0 := r) g1 g2 g3) ?_
    rw [if_neg z, b0_1155]
    refine Eq.trans b0_1160 ?_
    refine x_bind (p2 d) ?_
    dsimp only
    refine Eq.trans (b0_1163 (t0 := r) (t1 := r)) ?_
    exact if_pos rfl
theorem lw_32 (hX : ∀ j, X.2 j < 2147483648) (h : Inv σ) (hg : lwG X i) : lwT X i 1168 σ := by
  obtain ⟨g1, g2, g3, g4, g5⟩ := hg
  obtain ⟨r, σ1, σ2, p1, p2, q⟩ := pr_numbers (X := X) (a := (X.2 (xadd (i : Int) 1).toNat)) (c := (X.2 (xadd (i : Int) 2).toNat)) h.1
  refine ⟨σ2, fun d => ?_, Inv_P h q⟩
  refine Eq.trans (b0_1168 g1 g2) ?_
  refine x_bind (p1 d) ?_
  dsimp only
  refine Eq.trans (b0_1182 (t0 := r) g1 g2) ?_
  refine x_bind (p2 d) ?_
  dsimp only
  refine Eq.trans (b0_1196 (t0 := r) (t1 := r)) ?_
  exact if_pos rfl
theorem lw_33 (hX : ∀ j, X.2 j < 2147483648) (h : Inv σ) (hg : lwG X i) : lwT X i 1201 σ := by
  obtain ⟨g1, g2, g3, g4, g5⟩ := hg
  obtain ⟨r, σ1, σ2, p1, p2, q⟩ := pr_grundy (X := X) (a := (X.2 (xadd (i : Int) 1).toNat)) h.1
  refine ⟨σ2, fun d => ?_, Inv_P h q⟩
  refine Eq.trans (b0_1201 g1) ?_
  refine x_bind (p1 d) ?_
  dsimp only
  refine Eq.trans (b0_1210 (t0 := r) g1) ?_
  refine x_bind (p2 d) ?_
  dsimp only
  refine Eq.trans (b0_1219 (t0 := r) (t1 := r)) ?_
  exact if_pos rfl
theorem lw_34 (hX : ∀ j, X.2 j < 2147483648) (h : Inv σ) (hg : lwG X i) : lwT X i 1224 σ := by
  obtain ⟨g1, g2, g3, g4, g5⟩ := hg
  obtain ⟨r, σ1, σ2, p1, p2, q⟩ := pr_wins (X := X) (a := (X.2 (xadd (i : Int) 1).toNat)) h.1
  refine ⟨σ2, fun d => ?_, Inv_P h q⟩
  refine Eq.trans (b0_1224 g1) ?_
  refine x_bind (p1 d) ?_
  dsimp only
  refine Eq.trans (b0_1233 (t0 := r) g1) ?_
  refine x_bind (p2 d) ?_
  dsimp only
  refine Eq.trans (b0_1242 (t0 := r) (t1 := r)) ?_
  exact if_pos rfl
theorem lw_35 (hX : ∀ j, X.2 j < 2147483648) (h : Inv σ) (hg : lwG X i) : lwT X i 1247 σ := by
  obtain ⟨g1, g2, g3, g4, g5⟩ := hg
  obtain ⟨r, σ1, σ2, p1, p2, q⟩ := pr_undo (X := X)  h.1
  refine ⟨σ2, fun d => ?_, Inv_P h q⟩
  refine Eq.trans b0_1247 ?_
  refine x_bind (p1 d) ?_
  dsimp only
  refine Eq.trans (b0_1251 (t0 := r)) ?_
  refine x_bind (p2 d) ?_
  dsimp only
  refine Eq.trans (b0_1255 (t0 := r) (t1 := r)) ?_
  exact if_pos rfl
theorem lw_36 (hX : ∀ j, X.2 j < 2147483648) (h : Inv σ) (hg : lwG X i) : lwT X i 1260 σ := by
  obtain ⟨g1, g2, g3, g4, g5⟩ := hg
  obtain ⟨r, σ1, σ2, p1, p2, q⟩ := pr_redo (X := X)  h.1
  refine ⟨σ2, fun d => ?_, Inv_P h q⟩
  refine Eq.trans b0_1260 ?_
  refine x_bind (p1 d) ?_
  dsimp only
  refine Eq.trans (b0_1264 (t0 := r)) ?_
  refine x_bind (p2 d) ?_
  dsimp only
  refine Eq.trans (b0_1268 (t0 := r) (t1 := r)) ?_
  exact if_pos rfl
theorem lw_37 (hX : ∀ j, X.2 j < 2147483648) (h : Inv σ) (hg : lwG X i) : lwT X i 1273 σ := by
  obtain ⟨g1, g2, g3, g4, g5⟩ := hg
  obtain ⟨r, σ1, σ2, p1, p2, q⟩ := pr_keep (X := X) (a := (X.2 (xadd (i : Int) 1).toNat)) h.1
  refine ⟨σ2, fun d => ?_, Inv_P h q⟩
  refine Eq.trans (b0_1273 g1) ?_
  refine x_bind (p1 d) ?_
  dsimp only
  refine Eq.trans (b0_1282 (t0 := r) g1) ?_
  refine x_bind (p2 d) ?_
  dsimp only
  refine Eq.trans (b0_1291 (t0 := r) (t1 := r)) ?_
  exact if_pos rfl
theorem lw_38 (hX : ∀ j, X.2 j < 2147483648) (h : Inv σ) (hg : lwG X i) : lwT X i 1296 σ := by
  obtain ⟨g1, g2, g3, g4, g5⟩ := hg
  obtain ⟨r, σ1, σ2, p1, p2, q⟩ := pr_back (X := X) (a := (X.2 (xadd (i : Int) 1).toNat)) h.1
  refine ⟨σ2, fun d => ?_, Inv_P h q⟩
  refine Eq.trans (b0_1296 g1) ?_
  refine x_bind (p1 d) ?_
  dsimp only
  refine Eq.trans (b0_1305 (t0 := r) g1) ?_
  refine x_bind (p2 d) ?_
  dsimp only
  refine Eq.trans (b0_1314 (t0 := r) (t1 := r)) ?_
  exact if_pos rfl
theorem lw_39 (hX : ∀ j, X.2 j < 2147483648) (h : Inv σ) (hg : lwG X i) : lwT X i 1319 σ := by
  obtain ⟨g1, g2, g3, g4, g5⟩ := hg
  obtain ⟨r, σ1, σ2, p1, p2, q⟩ := pr_about (X := X) (a := (X.2 (xadd (i : Int) 1).toNat)) h.1
  refine ⟨σ2, fun d => ?_, Inv_P h q⟩
  refine Eq.trans (b0_1319 g1) ?_
  refine x_bind (p1 d) ?_
  dsimp only
  refine Eq.trans (b0_1328 (t0 := r) g1) ?_
  refine x_bind (p2 d) ?_
  dsimp only
  refine Eq.trans (b0_1337 (t0 := r) (t1 := r)) ?_
  exact if_pos rfl
end LAW
