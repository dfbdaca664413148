/-! MENDS, MEND, LEAST: the pairs -/
section PRN
variable {X : Nat × (Nat → Int)} {σ τ : xM} {t l : Nat}
theorem PostC_rf (h : Core σ) (hL : CacheL σ) : PostC σ σ := ⟨h, hL, Or.inl (fun _ _ _ => rfl)⟩
theorem PostC_mk {τ2 : xM} (c1 : chg CAf CSf σ τ) (c2 : chg [113, 114, 115, 121, 122, 123, 124, 125, 126, 127, 128] [(100, 47), (100, 48), (100, 49), (100, 51)] τ τ2) (hC : Core τ2) (hL : CacheL τ) : PostC σ τ2 := by
  refine ⟨hC, CacheL_eqp (eqp_ok rfl c2) hL, Or.inl (fun k j hk => ?_)⟩
  rw [eqp_ok (A := [70, 93, 94, 102, 107, 108, 110, 111]) (S := [(100, 16), (100, 17)]) rfl c2 k j hk, eqp_ok (A := [70, 93, 94, 102, 107, 108, 110, 111]) (S := [(100, 16), (100, 17)]) rfl c1 k j hk]
theorem n_row (h : Core σ) : σ 100 16 = σ 23 0 ∧ 0 ≤ σ 23 0 ∧ σ 23 0 ≤ 11 := by
  obtain ⟨r1, r2, r3, _⟩ := h.2.2.2.1
  exact ⟨r3, r1, r2⟩
theorem f20_y {a b : Int} (h : f20 σ a b ≠ 0) : 0 ≤ a ∧ a ≤ 3 ∧ 0 ≤ b ∧ b ≤ 3 := by
  unfold f20 at h
  repeat' split at h
  all_goals omega
theorem f20_n {a b : Int} (h : f20 σ a b = 0) : a < 0 ∨ 3 < a ∨ b < 0 ∨ 3 < b := by
  unfold f20 at h
  repeat' split at h
  all_goals omega
theorem f240_e {a : Int} : f240 σ a = if 0 ≤ a ∧ a ≤ 3 then 1 else 0 := by
  unfold f240
  repeat' split
  all_goals omega
theorem pr_mends {a b : Int} (h : Core σ) (hL : CacheL σ) : Pair X 19 239 [some (vr 0), some (vi a), some (vi b)] [some (vr 100), some (vi a), some (vi b)] σ (PostC σ) := by
  obtain ⟨e16, n0, n1⟩ := n_row h
  by_cases bad : f20 σ a b = 0 ∨ σ 23 0 = 0
  · refine ⟨-1, σ, σ, fun d => ?_, fun d => ?_, PostC_rf h hL⟩
    · refine Eq.trans b19_0 ?_
      refine x_bind s20 ?_
      dsimp only
      refine Eq.trans b19_5 ?_
      by_cases y : f20 σ a b = 0
      · rw [if_pos y, b19_18]
      · rw [if_neg y, b19_8, if_neg (fun z => z (bad.resolve_left y)), b19_18]
    · rw [b239_0]
      by_cases y : σ 100 16 = 0
      · rw [if_pos y, b239_21, b239_32]
      · rw [if_neg y]
        have ab := f20_n (bad.resolve_right (by omega))
        refine Eq.trans b239_7 ?_
        refine x_bind s240 ?_
        dsimp only
        refine Eq.trans b239_11 ?_
        rw [f240_e]
        by_cases z : 0 ≤ a ∧ a ≤ 3
        · have n1 : ¬ ((1 : Int) = 0) := by decide
          rw [if_pos z, if_neg n1]
          refine Eq.trans b239_14 ?_
          refine x_bind s240 ?_
          dsimp only
          refine Eq.trans b239_18 ?_
          have nb : ¬ (0 ≤ b ∧ b ≤ 3) := by omega
          have n0 : ¬ ((0 : Int) ≠ 0) := by decide
          rw [f240_e, if_neg nb, if_neg n0, b239_21, b239_32]
        · rw [if_neg z, if_pos rfl, b239_21, b239_32]
  · have y1 : f20 σ a b ≠ 0 := fun z => bad (Or.inl z)
    have y2 : σ 23 0 ≠ 0 := fun z => bad (Or.inr z)
    obtain ⟨q1, q2, q3, q4⟩ := f20_y y1
    obtain ⟨t, rfl⟩ : ∃ t : Nat, a = t := ⟨a.toNat, by omega⟩
    obtain ⟨l, rfl⟩ : ∃ l : Nat, b = l := ⟨b.toNat, by omega⟩
    obtain ⟨σ1, a1, a2, a3, a4⟩ := cnt_M (X := X) (t := t) (l := l) h hL (by omega) (by omega) (by omega)
    obtain ⟨g1, _, _, _, _, _, g7, _⟩ := LM_cg (t := t) (l := l) a2 rfl
    obtain ⟨r, σ2, b1, b2, b3, b4, _⟩ := mod_M (X := X) (σ := σ1) (t := t) (l := l) (nth := -1) a3 (by omega) (by omega) (by omega)
    rw [g1] at b4
    refine ⟨((LM σ t l).length : Int), σ1, σ2, fun d => ?_, fun d => ?_, PostC_mk a2 b2 b3 a4⟩
    · refine Eq.trans b19_0 ?_
      refine x_bind s20 ?_
      dsimp only
      refine Eq.trans b19_5 ?_
      rw [if_neg y1, b19_8, if_pos y2]
      refine Eq.trans b19_20 ?_
      refine x_bind (a1 (d + 78)) ?_
      exact b19_30
    · rw [b239_0, if_neg (by omega)]
      refine Eq.trans b239_7 ?_
      refine x_bind s240 ?_
      dsimp only
      refine Eq.trans b239_11 ?_
      have pa : 0 ≤ (t : Int) ∧ (t : Int) ≤ 3 := ⟨q1, q2⟩
      have pb : 0 ≤ (l : Int) ∧ (l : Int) ≤ 3 := ⟨q3, q4⟩
      have n1 : ¬ ((1 : Int) = 0) := by decide
      rw [f240_e, if_pos pa, if_neg n1]
      refine Eq.trans b239_14 ?_
      refine x_bind s240 ?_
      dsimp only
      refine Eq.trans b239_18 ?_
      rw [f240_e, if_pos pb, if_pos n1]
      refine Eq.trans b239_25 ?_
      refine x_bind (b1 (d + 94)) ?_
      rw [b4 (by decide)]
      exact b239_32
/-- least, on both sides: from k on -/
theorem it_least : ∀ (m k : Nat) (σ : xM), k + m = 4 → Core σ → CacheL σ → 0 < σ 100 16 → ∃ r σ1, (∀ d, Ev X (d + 100) 23 14 [some (vr 0), some (vi k)] [] SH σ = some (some (vi r), SH, σ1)) ∧ chg CAf CSf σ σ1 ∧ Core σ1 ∧ CacheL σ1 ∧ ((r = -1 ∧ ∀ j, k ≤ j → j < 4 → (LM σ j j).length = 0) ∨ (∃ j : Nat, k ≤ j ∧ j < 4 ∧ r = (j : Int) ∧ 0 < (LM σ j j).length ∧ ∀ i, k ≤ i → i < j → (LM σ i i).length = 0)) := by
  intro m
  induction m with
  | zero =>
    intro k σ e h hL hn
    refine ⟨-1, σ, fun d => ?_, chg_rf, h, hL, Or.inl ⟨rfl, fun j h1 h2 => by omega⟩⟩
    rw [b23_14, if_pos (by omega), b23_40]
  | succ m ih =>
    intro k σ e h hL hn
    obtain ⟨σ1, a1, a2, a3, a4⟩ := cnt_M (X := X) (t := k) (l := k) h hL hn (by omega) (by omega)
    have g : ∀ j, LM σ1 j j = LM σ j j := fun j => (LM_cg (t := j) (l := j) a2 rfl).1
    have g7 : σ1 100 16 = σ 100 16 := (LM_cg (t := 0) (l := 0) a2 rfl).2.2.2.2.2.2.1
    have st : ∀ d, Ev X (d + 100) 23 14 [some (vr 0), some (vi k)] [] SH σ = Ev X (d + 100) 23 29 [some (vr 0), some (vi k)] [vi ((LM σ k k).length : Int)] SH σ1 := by
      intro d
      rw [b23_14, if_neg (by omega)]
      refine Eq.trans b23_19 ?_
      refine x_bind (a1 (d + 78)) ?_
      rfl
    by_cases y : (LM σ k k).length = 0
    · obtain ⟨r, σ2, p1, p2, p3, p4, p5⟩ := ih (k + 1) σ1 (by omega) a3 a4 (by omega)
      refine ⟨r, σ2, fun d => ?_, chg_tr a2 p2, p3, p4, ?_⟩
      · rw [st, b23_29, if_pos (by omega), b23_34, xad1 (by omega)]
        exact p1 d
      · rcases p5 with ⟨q1, q2⟩ | ⟨j, q1, q2, q3, q4, q5⟩
        · refine Or.inl ⟨q1, fun j h1 h2 => ?_⟩
          by_cases z : j = k
          · rw [z]
            exact y
          · rw [← g]
            exact q2 j (by omega) h2
        · refine Or.inr ⟨j, by omega, q2, q3, by rw [← g]; exact q4, fun i h1 h2 => ?_⟩
          by_cases z : i = k
          · rw [z]
            exact y
          · rw [← g]
            exact q5 i (by omega) h2
    · refine ⟨(k : Int), σ1, fun d => ?_, a2, a3, a4, Or.inr ⟨k, Nat.le_refl _, by omega, rfl, by omega, fun i h1 h2 => by omega⟩⟩
      rw [st, b23_29, if_neg (by omega), b23_32]
theorem it_leastM : ∀ (m k : Nat) (σ : xM), k + m = 4 → Core σ → 0 < σ 100 16 → ∃ r σ1, (∀ d, Ev X (d + 100) 255 11 [some (vr 100), some (vi k)] [] SH σ = some (some (vi r), SH, σ1)) ∧ chg [113, 114, 115, 121, 122, 123, 124, 125, 126, 127, 128] [(100, 47), (100, 48), (100, 49), (100, 51)] σ σ1 ∧ Core σ1 ∧ ((r = -1 ∧ ∀ j, k ≤ j → j < 4 → (LM σ j j).length = 0) ∨ (∃ j : Nat, k ≤ j ∧ j < 4 ∧ r = (j : Int) ∧ 0 < (LM σ j j).length ∧ ∀ i, k ≤ i → i < j → (LM σ i i).length = 0)) := by
  intro m
  induction m with
  | zero =>
    intro k σ e h hn
    refine ⟨-1, σ, fun d => ?_, chg_rf, h, Or.inl ⟨rfl, fun j h1 h2 => by omega⟩⟩
    rw [b255_11, if_pos (by omega), b255_34]
  | succ m ih =>
    intro k σ e h hn
    obtain ⟨r1, σ1, a1, a2, a3, a4, _⟩ := mod_M (X := X) (σ := σ) (t := k) (l := k) (nth := -1) h hn (by omega) (by omega)
    have a4 := a4 (by decide)
    have g : ∀ j, LM σ1 j j = LM σ j j := fun j => (LM_cg (t := j) (l := j) a2 rfl).1
    have g7 : σ1 100 16 = σ 100 16 := (LM_cg (t := 0) (l := 0) a2 rfl).2.2.2.2.2.2.1
    have st : ∀ d, Ev X (d + 100) 255 11 [some (vr 100), some (vi k)] [] SH σ = Ev X (d + 100) 255 23 [some (vr 100), some (vi k)] [vi ((LM σ k k).length : Int)] SH σ1 := by
      intro d
      rw [b255_11, if_neg (by omega)]
      refine Eq.trans b255_16 ?_
      refine x_bind (a1 (d + 94)) ?_
      rw [a4]
      rfl
    by_cases y : (LM σ k k).length = 0
    · obtain ⟨r, σ2, p1, p2, p3, p5⟩ := ih (k + 1) σ1 (by omega) a3 (by omega)
      refine ⟨r, σ2, fun d => ?_, chg_tr a2 p2, p3, ?_⟩
      · rw [st, b255_23, if_pos (by omega), b255_28, xad1 (by omega)]
        exact p1 d
      · rcases p5 with ⟨q1, q2⟩ | ⟨j, q1, q2, q3, q4, q5⟩
        · refine Or.inl ⟨q1, fun j h1 h2 => ?_⟩
          by_cases z : j = k
          · rw [z]
            exact y
          · rw [← g]
            exact q2 j (by omega) h2
        · refine Or.inr ⟨j, by omega, q2, q3, by rw [← g]; exact q4, fun i h1 h2 => ?_⟩
          by_cases z : i = k
          · rw [z]
            exact y
          · rw [← g]
            exact q5 i (by omega) h2
    · refine ⟨(k : Int), σ1, fun d => ?_, a2, a3, Or.inr ⟨k, Nat.le_refl _, by omega, rfl, by omega, fun i h1 h2 => by omega⟩⟩
      rw [st, b255_23, if_neg (by omega), b255_26]
theorem pr_least (h : Core σ) (hL : CacheL σ) : Pair X 23 255 [some (vr 0), none] [some (vr 100), none] σ (PostC σ) := by
  obtain ⟨e16, n0, n1⟩ := n_row h
  by_cases y : σ 23 0 = 0
  · refine ⟨-1, σ, σ, fun d => ?_, fun d => ?_, PostC_rf h hL⟩
    · rw [b23_0, if_neg (fun z => z y), b23_10]
    · rw [b255_0, if_neg (by omega), b255_7]
  · obtain ⟨r, σ1, a1, a2, a3, a4, a5⟩ := it_least (X := X) 4 0 σ (by omega) h hL (by omega)
    have g : ∀ j, LM σ1 j j = LM σ j j := fun j => (LM_cg (t := j) (l := j) a2 rfl).1
    have g7 : σ1 100 16 = σ 100 16 := (LM_cg (t := 0) (l := 0) a2 rfl).2.2.2.2.2.2.1
    obtain ⟨r', σ2, b1, b2, b3, b5⟩ := it_leastM (X := X) 4 0 σ1 (by omega) a3 (by omega)
    have rr : r' = r := by
      simp only [g] at b5
      rcases a5 with ⟨q1, q2⟩ | ⟨j, q1, q2, q3, q4, q5⟩
      · rcases b5 with ⟨p1, p2⟩ | ⟨i, p1, p2, p3, p4, p5⟩
        · omega
        · have := q2 i p1 p2
          omega
      · rcases b5 with ⟨p1, p2⟩ | ⟨i, p1, p2, p3, p4, p5⟩
        · have := p2 j q1 q2
          omega
        · by_cases z : i < j
          · have := q5 i p1 z
            omega
          · by_cases z2 : j < i
            · have := p5 j q1 z2
              omega
            · omega
    have n6 : σ1 100 16 ≠ 0 := by
      rw [g7, e16]
      exact y
    refine ⟨r, σ1, σ2, fun d => ?_, fun d => ?_, PostC_mk a2 b2 b3 a4⟩
    · rw [b23_0, if_pos y, b23_12]
      exact a1 d
    · rw [b255_0, if_pos n6, b255_9, ← rr]
      exact b1 d
end PRN
