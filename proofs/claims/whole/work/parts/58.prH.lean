/-! PAIRS: goal -/
section PRH
variable {X : Nat × (Nat → Int)} {σ τ : xM} {n k : Nat} {F P r : Int}
theorem pr_goal (h : Core σ) : Pair X 9 218 [some (vr 0), none] [some (vr 100), none] σ (Post σ) := by
  have h' := h
  obtain ⟨⟨t1, t2, t3, t4, t5, t6, t7⟩, h2, h3, h4, h5, h6, h7, h8, h9, h10⟩ := h'
  by_cases big : 60 < σ 1 1
  · have e6 := s6' (X := X) (σ := σ)
    refine ⟨-2, xwr (xwr (xwr (xwr σ 49 3 (-1)) 49 7 0) 70 6 0) 70 9 (-1), xwr (xwr (xwr (xwr σ 49 3 (-1)) 49 7 0) 70 6 0) 70 9 (-1), fun d => ?_, fun d => ?_, Core_eqv (eqv_wr rfl (eqv_wr rfl (eqv_wr rfl (eqv_wr rfl eqv_rf)))) h, Or.inr ⟨rfl, rfl⟩, Or.inr ⟨rfl, rfl⟩⟩
    · simp (disch := first | omega | assumption | (simp (disch := omega) only [ite_self, Int.reduceAdd, xadd_eq, xsub_eq, xmul_eq, xneg_eq, xwr_eq, xwr_nk, xwr_nj, Int.toNat_natCast, x_nc] <;> first | omega | assumption) | fail) only [↓if_pos, ↓if_neg, ↓b9_0, ↓b9_8, ↓b9_13, ↓b8_0, ↓b8_15, ↓b8_12, ↓b8_26, ↓b8_44, ↓b8_32, ↓e6, x_bdi, x_bdn, ite_self, Int.reduceAdd, xadd_eq, xsub_eq, xmul_eq, xneg_eq, xwr_eq, xwr_nk, xwr_nj, Int.toNat_natCast, x_nc]
    · simp (disch := first | omega | assumption | (simp (disch := omega) only [ite_self, Int.reduceAdd, xadd_eq, xsub_eq, xmul_eq, xneg_eq, xwr_eq, xwr_nk, xwr_nj, Int.toNat_natCast, x_nc] <;> first | omega | assumption) | fail) only [↓if_pos, ↓if_neg, ↓b218_0, ↓b218_12, ↓b218_9, ↓b218_16, ↓b218_21, ↓b218_19, ↓b218_69, ↓b218_39, x_bdi, x_bdn, ite_self, Int.reduceAdd, xadd_eq, xsub_eq, xmul_eq, xneg_eq, xwr_eq, xwr_nk, xwr_nj, Int.toNat_natCast, x_nc]
  · obtain ⟨n, hn⟩ : ∃ n : Nat, σ 1 1 = n := ⟨(σ 1 1).toNat, by omega⟩
    obtain ⟨F, P, r, oc⟩ := OC_ex (σ 2) n
    obtain ⟨σ1, e1, v1, v2, v3, fr, v4, v5⟩ := s8 (X := X) h (Or.inr rfl) hn (by omega) oc
    have m1 : ∀ k j, 100 ≤ k → σ1 k j = σ k j := by
      intro k j hk
      refine fr k j (by omega) (by omega) (by omega) ?_ (fun z => ?_)
      · unfold pin
        have q : k ≠ 1 := by omega
        simp [q]
      · unfold rdC at z
        simp only [Bool.or_eq_true, Bool.and_eq_true, Nat.ble_eq] at z
        omega
    by_cases z : r = -1
    · subst z
      have c1 := v4 rfl
      have e3 := s6' (X := X) (σ := σ1)
      generalize hσ2 : xwr (xwr (xwr (xwr σ1 49 3 (-1)) 49 7 0) 70 6 0) 70 9 (-1) = σ2 at e3
      have m2 : ∀ k j, 100 ≤ k → σ2 k j = σ k j := by
        intro k j hk
        rw [← hσ2, xwr_nk (by omega), xwr_nk (by omega), xwr_nk (by omega), xwr_nk (by omega)]
        exact m1 k j hk
      have c1 : chg [49, 70] [(1, 1), (1, 2), (1, 3)] σ σ2 := by
        rw [← hσ2]
        exact chg_wr rfl (chg_wr rfl (chg_wr rfl (chg_wr rfl (chg_mo rfl c1))))
      obtain ⟨σ3, e2, w1, w2, w3, -, c2⟩ := s212 (X := X) (σ := σ2) (n := n) (by rw [m2 100 1 (by decide)]; omega) (by omega) (show OC (σ2 101) n F P (-1) by rw [funext (fun j => m2 101 j (by decide)), ← t1]; exact oc)
      rw [if_pos rfl] at e2
      have c : chg [49, 70, 109, 112] [(1, 1), (1, 2), (1, 3), (100, 1), (100, 2), (100, 3), (100, 4), (100, 5), (100, 10), (100, 24)] σ σ3 := chg_tr (chg_mo rfl c1) (chg_mo rfl c2)
      have d1 : ∀ j, σ3 1 j = σ1 1 j := fun j => by
        rw [c2 1 j rfl (fun y => absurd y (by decide)), ← hσ2]
        simp (disch := decide) only [xwr_nk]
      have k49 : ∀ j, σ3 49 j = σ2 49 j := fun j => c2 49 j rfl (fun y => absurd y (by decide))
      have k70 : ∀ j, σ3 70 j = σ2 70 j := fun j => c2 70 j rfl (fun y => absurd y (by decide))
      refine ⟨-1, σ2, σ3, fun d => ?_, fun d => ?_, ?_⟩
      · simp (disch := first | omega | assumption | (simp (disch := omega) only [ite_self, Int.reduceAdd, xadd_eq, xsub_eq, xmul_eq, xneg_eq, xwr_eq, xwr_nk, xwr_nj, Int.toNat_natCast, x_nc] <;> first | omega | assumption) | fail) only [↓if_pos, ↓if_neg, ↓b9_0, ↓b9_8, ↓b9_13, ↓e1, ↓e3, x_bdi, x_bdn, ite_self, Int.reduceAdd, xadd_eq, xsub_eq, xmul_eq, xneg_eq, xwr_eq, xwr_nk, xwr_nj, Int.toNat_natCast, x_nc]
      · have q := m2 100 1 (by decide)
        simp (disch := first | omega | assumption | (simp (disch := omega) only [ite_self, Int.reduceAdd, xadd_eq, xsub_eq, xmul_eq, xneg_eq, xwr_eq, xwr_nk, xwr_nj, Int.toNat_natCast, x_nc] <;> first | omega | assumption) | fail) only [↓if_pos, ↓if_neg, ↓b218_0, ↓b218_12, ↓b218_9, ↓b218_16, ↓b218_21, ↓b218_19, ↓b218_69, ↓b218_39, ↓e2, x_bdi, x_bdn, ite_self, Int.reduceAdd, xadd_eq, xsub_eq, xmul_eq, xneg_eq, xwr_eq, xwr_nk, xwr_nj, Int.toNat_natCast, x_nc]
      · refine ⟨Core_chg h c (Or.inr ?_) (Or.inl rfl) (Or.inl rfl) (Or.inl rfl) (Or.inl rfl) (Or.inl rfl) (Or.inl rfl) (Or.inl rfl) (Or.inl rfl) (Or.inl rfl), Or.inr ?_, Or.inr ?_⟩
        · unfold Ctape
          rw [chg_row c (k := 2) (fun _ => rfl) rfl, chg_row c (k := 101) (fun _ => rfl) rfl, d1, d1, d1, v1, v2, v3, w1, w2, w3]
          exact ⟨t1, t2, by omega, by omega, rfl, rfl, rfl⟩
        · unfold ForgL
          rw [k49, k49, ← hσ2]
          simp (disch := decide) only [xwr_nk, xwr_nj, xwr_eq]
          exact ⟨trivial, trivial⟩
        · unfold ForgN
          rw [k70, k70, ← hσ2]
          simp (disch := decide) only [xwr_nk, xwr_nj, xwr_eq]
          exact ⟨trivial, trivial⟩
    · obtain ⟨y1, y2, y3⟩ := v5 z
      obtain ⟨o1, o2, o3⟩ := OC_len oc z
      have e3 := s6' (X := X) (σ := σ1)
      generalize hσ2 : xwr (xwr (xwr (xwr σ1 49 3 (-1)) 49 7 0) 70 6 0) 70 9 (-1) = σ2 at e3
      have c1 : chg [26, 27, 28, 49, 70] [(1, 1), (1, 2), (1, 3)] σ σ2 := by
        rw [← hσ2]
        refine chg_wr rfl (chg_wr rfl (chg_wr rfl (chg_wr rfl ?_)))
        intro k j a b
        refine fr k j ?_ ?_ ?_ ?_ b
        · intro y; rw [y] at a; exact absurd a (by unfold pin; simp)
        · intro y; rw [y] at a; exact absurd a (by unfold pin; simp)
        · intro y; rw [y] at a; exact absurd a (by unfold pin; simp)
        · unfold pin at a ⊢
          rw [Bool.or_eq_false_iff] at a
          have a2 := a.2
          rw [Bool.eq_false_iff] at a2 ⊢
          intro y
          exact a2 (by simp at y ⊢; omega)
      have m2 : ∀ k j, 100 ≤ k → σ2 k j = σ k j := by
        intro k j hk
        rw [← hσ2, xwr_nk (by omega), xwr_nk (by omega), xwr_nk (by omega), xwr_nk (by omega)]
        exact m1 k j hk
      obtain ⟨ρ, e2, w1, w2, w3, w4, c2⟩ := s212 (X := X) (σ := σ2) (n := n) (by rw [m2 100 1 (by decide)]; omega) (by omega) (show OC (σ2 101) n F P r by rw [funext (fun j => m2 101 j (by decide)), ← t1]; exact oc)
      rw [if_neg z] at e2
      obtain ⟨x1, x2, x3⟩ := w4 z
      have r101 : σ2 101 = σ 2 := by rw [funext (fun j => m2 101 j (by decide)), t1]
      have r102 : σ2 102 = σ 102 := funext (fun j => m2 102 j (by decide))
      rw [r101] at x2 x3
      rw [r102] at x3
      have hs : ∀ j : Nat, (j : Int) < r → isSy (txs (σ 2) n j) = true := fun j hj => txs_sy o2 (by omega)
      have lp := fun d => it218 (X := X) (σ := xwr ρ 100 17 r) (n := r.toNat) (d := d) (by rw [xwr_eq]; omega) (by omega) (fun c hc => by
        rw [xwr_nk (by decide), x2 c (by omega)]
        exact (wy_rg h2.2.1 (hs c (by omega))).2.2.2) r.toNat 0 (by omega)
      rw [U2_0] at lp
      have lp : ∀ d, Ev X d 218 31 [some (vr 100), some (vi 0)] [] SH (xwr ρ 100 17 r) = _ := lp
      have rn : ((r.toNat : Nat) : Int) = r := by omega
      rw [rn] at lp
      generalize hσ3 : U2 (xwr ρ 100 17 r) 108 0 (xwr ρ 100 17 r 109) 111 0 (xwr ρ 100 17 r 112) r.toNat = σ3 at lp
      have c3 : chg [108, 111] [(100, 17)] ρ σ3 := by
        rw [← hσ3]
        exact chg_xr rfl (chg_xr rfl (chg_wr rfl chg_rf))
      have c : chg [26, 27, 28, 49, 70, 109, 112, 108, 111] [(1, 1), (1, 2), (1, 3), (100, 1), (100, 2), (100, 3), (100, 4), (100, 5), (100, 10), (100, 24), (100, 17)] σ σ3 := chg_tr (chg_mo rfl c1) (chg_tr (chg_mo rfl c2) (chg_mo rfl c3))
      have c23 : chg [109, 112, 108, 111] [(100, 1), (100, 2), (100, 3), (100, 4), (100, 5), (100, 10), (100, 24), (100, 17)] σ2 σ3 := chg_tr (chg_mo rfl c2) (chg_mo rfl c3)
      have k1 : ∀ k j, k < 100 → rdC k = false → σ3 k j = σ2 k j := by
        intro k j hk hr
        refine c23 k j ?_ (fun y => by rw [hr] at y; cases y)
        unfold pin
        rw [Bool.or_eq_false_iff, Bool.eq_false_iff, Bool.eq_false_iff]
        refine ⟨fun y => ?_, fun y => ?_⟩
        · simp at y; omega
        · simp at y; omega
      refine ⟨r, σ2, σ3, fun d => ?_, fun d => ?_, ?_⟩
      · have rp : ¬ r < 0 := by omega
        simp (disch := first | omega | assumption | (simp (disch := omega) only [ite_self, Int.reduceAdd, xadd_eq, xsub_eq, xmul_eq, xneg_eq, xwr_eq, xwr_nk, xwr_nj, Int.toNat_natCast, x_nc] <;> first | omega | assumption) | fail) only [↓if_pos, ↓if_neg, ↓b9_0, ↓b9_8, ↓b9_13, ↓e1, ↓e3, x_bdi, x_bdn, ite_self, Int.reduceAdd, xadd_eq, xsub_eq, xmul_eq, xneg_eq, xwr_eq, xwr_nk, xwr_nj, Int.toNat_natCast, x_nc]
      · have q := m2 100 1 (by decide)
        have e5 : Ev X (d + 100) 218 0 [some (vr 100), none] [] SH σ2 = Ev X (d + 100) 218 31 [some (vr 100), some (vi 0)] [] SH (xwr ρ 100 17 r) := by
          simp (disch := first | omega | assumption | (simp (disch := omega) only [ite_self, Int.reduceAdd, xadd_eq, xsub_eq, xmul_eq, xneg_eq, xwr_eq, xwr_nk, xwr_nj, Int.toNat_natCast, x_nc] <;> first | omega | assumption) | fail) only [↓if_pos, ↓if_neg, ↓b218_0, ↓b218_12, ↓b218_9, ↓b218_16, ↓b218_21, ↓b218_19, ↓b218_69, ↓b218_39, ↓e2, x1, x_bdi, x_bdn, ite_self, Int.reduceAdd, xadd_eq, xsub_eq, xmul_eq, xneg_eq, xwr_eq, xwr_nk, xwr_nj, Int.toNat_natCast, x_nc]
        exact e5.trans (lp _)
      · have a1 : ∀ j, σ3 1 j = σ1 1 j := fun j => by
          rw [k1 1 j (by decide) rfl, ← hσ2]
          simp (disch := decide) only [xwr_nk]
        refine ⟨Core_chg h c (Or.inr ?_) (Or.inl rfl) (Or.inl rfl) (Or.inl rfl) (Or.inr ?_) (Or.inl rfl) (Or.inl rfl) (Or.inl rfl) (Or.inl rfl) (Or.inl rfl), Or.inr ?_, Or.inr ?_⟩
        · unfold Ctape
          have b1 : σ3 100 1 = 0 := by rw [c3 100 1 rfl (fun y => absurd y (by decide))]; exact w1
          have b2 : σ3 100 2 = F := by rw [c3 100 2 rfl (fun y => absurd y (by decide))]; exact w2
          have b3 : σ3 100 3 = P := by rw [c3 100 3 rfl (fun y => absurd y (by decide))]; exact w3
          rw [chg_row c (k := 2) (fun _ => rfl) rfl, chg_row c (k := 101) (fun _ => rfl) rfl, a1, a1, a1, v1, v2, v3, b1, b2, b3]
          exact ⟨t1, t2, by omega, by omega, rfl, rfl, rfl⟩
        · unfold Cgoal
          have b23 : σ3 26 0 = r := by
            rw [k1 26 0 (by decide) rfl, ← hσ2]
            simp (disch := decide) only [xwr_nk]
            exact y1
          have b24 : ∀ j, σ3 27 j = σ1 27 j := fun j => by
            rw [k1 27 j (by decide) rfl, ← hσ2]
            simp (disch := decide) only [xwr_nk]
          have b25 : ∀ j, σ3 28 j = σ1 28 j := fun j => by
            rw [k1 28 j (by decide) rfl, ← hσ2]
            simp (disch := decide) only [xwr_nk]
          have b16 : σ3 100 17 = r := by
            rw [← hσ3]
            simp (disch := decide) only [xwr_eq, U2_at]
          have b107 : ∀ j : Nat, (j : Int) < r → σ3 108 j = dgI (txs (σ 2) n j) := fun j hj => by
            rw [← hσ3]
            rw [U2_1 (by decide), upf_in0 (by omega), xwr_nk (by decide)]
            exact x2 j (by omega)
          have b110 : ∀ j : Nat, (j : Int) < r → σ3 111 j = wyM (σ 102) (txs (σ 2) n j) := fun j hj => by
            rw [← hσ3]
            rw [U2_2, upf_in0 (by omega), xwr_nk (by decide)]
            exact x3 j (by omega)
          rw [b23, b16]
          refine ⟨by omega, by omega, rfl, fun c hc => ?_⟩
          have q := wy_rg h2.2.1 (hs c hc)
          rw [b24, b25, b107 c hc, b110 c hc, y2 c hc, y3 c hc]
          exact ⟨rfl, q.2.2.2, rfl, q.1, q.2.1, q.2.2.1⟩
        · unfold ForgL
          rw [k1 49 3 (by decide) rfl, k1 49 7 (by decide) rfl, ← hσ2]
          simp (disch := decide) only [xwr_nk, xwr_nj, xwr_eq]
          exact ⟨trivial, trivial⟩
        · unfold ForgN
          rw [k1 70 6 (by decide) rfl, k1 70 9 (by decide) rfl, ← hσ2]
          simp (disch := decide) only [xwr_nk, xwr_nj, xwr_eq]
          exact ⟨trivial, trivial⟩
end PRH
