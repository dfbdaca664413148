/-! PAIRS: lay, goal -/
def subc (CA : List Nat) (CS : List (Nat × Nat)) (CA' : List Nat) (CS' : List (Nat × Nat)) : Bool := CA.all (fun a => CA'.contains a) && CS.all (fun s => CS'.contains s || CA'.contains s.1)
section PRG
variable {X : Nat × (Nat → Int)} {σ τ : xM} {n k : Nat} {F P r : Int} {CA CA' : List Nat} {CS CS' : List (Nat × Nat)}
theorem chg_mo (h : subc CA CS CA' CS' = true) (e : chg CA CS σ τ) : chg CA' CS' σ τ := by
  intro k j h1 h2
  refine e k j ?_ h2
  unfold subc at h
  rw [Bool.and_eq_true, List.all_eq_true, List.all_eq_true] at h
  unfold pin at h1 ⊢
  rw [Bool.or_eq_false_iff] at h1 ⊢
  refine ⟨?_, ?_⟩
  · rw [Bool.eq_false_iff]
    intro z
    have := h.1 k (by simpa using z)
    rw [this] at h1
    exact absurd h1.1 (by simp)
  · rw [Bool.eq_false_iff]
    intro z
    have := h.2 (k, j) (by simpa using z)
    rw [Bool.or_eq_true] at this
    rcases this with q | q
    · rw [q] at h1; exact absurd h1.2 (by simp)
    · rw [q] at h1; exact absurd h1.1 (by simp)
theorem RA_cg {r r' : Nat → Int} {s : Int × Int × Int} (h : ∀ j, j < 8 → r j = r' j) (g : RA r' s) : RA r s := by
  unfold RA at g ⊢
  rw [h 0 (by decide), h 5 (by decide), h 6 (by decide)]
  exact g
theorem Crd_RA (h : Crd σ) : RA (Rd σ 14 0) (0, 0, 0) ∧ RA (Rd σ 51 0) (0, 0, 0) ∧ RA (Rd σ 72 0) (0, 0, 0) := ⟨RA_cg (fun j hj => (h j hj).1) RA_0, RA_cg (fun j hj => (h j hj).2.1) RA_0, RA_cg (fun j hj => (h j hj).2.2) RA_0⟩
theorem OC_len (oc : OC (σ 2) n F P r) (z : r ≠ -1) : r = (nbL (σ 2) n).length ∧ (∀ i, i < n → gd (σ 2) i = true) ∧ r ≤ 11 := by
  obtain ⟨p, p1, p2, p3⟩ := oc
  rcases p3 with ⟨e1, e2, e3, rfl, rfl, rfl⟩ | ⟨e1, e2, e3, rfl, rfl, rfl⟩ | ⟨e1, e2, rfl, rfl, rfl⟩ | ⟨e1, e2, rfl, rfl, rfl⟩
  · exact absurd rfl z
  · exact absurd rfl z
  · exact absurd rfl z
  · subst e1
    have := nbL_len (σ 2) p p2
    exact ⟨rfl, p2, by omega⟩
/-- layText -/
theorem s8 (h : Core σ) (hk : k = 23 ∨ k = 26) (h1 : σ 1 1 = n) (hn : n ≤ 60) (oc : OC (σ 2) n F P r) : ∃ σ1, (∀ d, Ev X (d + 7) 8 0 [some (vr 0), some (vr k), none] [] SH σ = some (some (vi r), SH, σ1)) ∧ σ1 1 1 = 0 ∧ σ1 1 2 = F ∧ σ1 1 3 = P ∧ (∀ a j, a ≠ k → a ≠ k + 1 → a ≠ k + 2 → pin [] [(1, 1), (1, 2), (1, 3)] a j = false → (rdC a = true → j = 0) → σ1 a j = σ a j) ∧ (r = -1 → chg [] [(1, 1), (1, 2), (1, 3)] σ σ1) ∧ (r ≠ -1 → σ1 k 0 = r ∧ (∀ j : Nat, (j : Int) < r → σ1 (k + 1) j = dgI (txs (σ 2) n j)) ∧ (∀ j : Nat, (j : Int) < r → σ1 (k + 2) j = wyM (σ 102) (txs (σ 2) n j))) := by
  obtain ⟨⟨t1, t2, t3, t4, t5, t6, t7⟩, hF, -, -, -, -, -, -, hD, -⟩ := h
  have hkr : isRow k := by
    unfold isRow
    omega
  obtain ⟨τ, e1, f2, f3, c1⟩ := s121 (X := X) h1 (by omega) t2 (Crd_RA hD).1 oc
  by_cases z : r = -1
  · subst z
    refine ⟨xwr τ 1 1 0, fun d => ?_, xwr_eq, ?_, ?_, ?_, fun _ => chg_wr rfl (chg_mo rfl c1), fun y => absurd rfl y⟩
    · simp (disch := first | omega | assumption | (simp (disch := omega) only [ite_self, Int.reduceAdd, xadd_eq, xsub_eq, xmul_eq, xneg_eq, xwr_eq, xwr_nk, xwr_nj, Int.toNat_natCast, x_nc] <;> first | omega | assumption) | fail) only [↓if_pos, ↓if_neg, ↓b8_0, ↓b8_15, ↓b8_12, ↓b8_26, ↓b8_44, ↓b8_32, ↓e1, x_bdi, x_bdn, ite_self, Int.reduceAdd, xadd_eq, xsub_eq, xmul_eq, xneg_eq, xwr_eq, xwr_nk, xwr_nj, Int.toNat_natCast, x_nc]
    · rw [xwr_nj (by decide)]; exact f2
    · rw [xwr_nj (by decide)]; exact f3
    · intro a j y1 y2 y3 y4 y5
      exact chg_wr (CA := []) (CS := [(1, 1), (1, 2), (1, 3)]) rfl (chg_mo rfl c1) a j y4 y5
  · obtain ⟨o1, o2, o3⟩ := OC_len oc z
    have u4 : τ 4 = σ 4 := chg_row c1 (fun _ => rfl) rfl
    have u2 : τ 2 = σ 2 := chg_row c1 (fun _ => rfl) rfl
    have u3 : τ 3 = σ 3 := chg_row c1 (fun _ => rfl) rfl
    have u11 : τ 1 1 = n := by rw [c1 1 1 rfl (fun y => absurd y (by decide))]; exact h1
    obtain ⟨ρ, ⟨q1, q2, q3, q4⟩, e2⟩ := s135 (X := X) (σ := τ) (k := k) (n := n) hkr u11 (by omega) (fun g hg => by rw [u4, hF.1 _ (by omega)]; exact hF.2.1.2.1 g hg) (by rw [u3]; exact (FC_dg hF.2.2.1).1) (by rw [u2]; exact o2)
    rw [u2] at q1 q2 q3
    rw [u4] at q3
    have rr : ∀ j : Nat, (j : Int) < r → j < (nbL (σ 2) n).length := fun j hj => by omega
    refine ⟨xwr ρ 1 1 0, fun d => ?_, xwr_eq, ?_, ?_, ?_, fun y => absurd y z, fun _ => ⟨?_, ?_, ?_⟩⟩
    · simp (disch := first | omega | assumption | (simp (disch := omega) only [ite_self, Int.reduceAdd, xadd_eq, xsub_eq, xmul_eq, xneg_eq, xwr_eq, xwr_nk, xwr_nj, Int.toNat_natCast, x_nc] <;> first | omega | assumption) | fail) only [↓if_pos, ↓if_neg, ↓b8_0, ↓b8_15, ↓b8_12, ↓b8_26, ↓b8_44, ↓b8_32, ↓e1, ↓e2, x_bdi, x_bdn, ite_self, Int.reduceAdd, xadd_eq, xsub_eq, xmul_eq, xneg_eq, xwr_eq, xwr_nk, xwr_nj, Int.toNat_natCast, x_nc]
    · rw [xwr_nj (by decide), q4 1 (by omega) (by omega) (by omega)]; exact f2
    · rw [xwr_nj (by decide), q4 1 (by omega) (by omega) (by omega)]; exact f3
    · intro a j y1 y2 y3 y4 y5
      have w1 : xwr ρ 1 1 0 a j = ρ a j := by
        refine if_neg (fun y => ?_)
        rw [y.1, y.2] at y4
        exact absurd y4 (by decide)
      rw [w1, q4 a y1 y2 y3]
      exact chg_mo (CA' := []) (CS' := [(1, 1), (1, 2), (1, 3)]) rfl c1 a j y4 y5
    · rw [xwr_nk (by omega), q1, o1]
    · intro j hj
      rw [xwr_nk (by omega)]
      exact q2 j (rr j hj)
    · intro j hj
      rw [xwr_nk (by omega), q3 j (rr j hj)]
      exact wy_eq hF.1
theorem pr_lay (h : Core σ) : Pair X 7 211 [some (vr 0), none] [some (vr 100), none] σ (Post σ) := by
  have h' := h
  obtain ⟨⟨t1, t2, t3, t4, t5, t6, t7⟩, h2, h3, h4, h5, h6, h7, h8, h9, h10⟩ := h'
  by_cases big : 60 < σ 1 1
  · refine Pair_q0 (r := -2) (r' := -2) h (fun d => ?_) (fun d => ?_) rfl
    · simp (disch := first | omega | assumption | (simp (disch := omega) only [ite_self, Int.reduceAdd, xadd_eq, xsub_eq, xmul_eq, xneg_eq, xwr_eq, xwr_nk, xwr_nj, Int.toNat_natCast, x_nc] <;> first | omega | assumption) | fail) only [↓if_pos, ↓if_neg, ↓b7_0, ↓b7_8, ↓b7_17, ↓b7_13, ↓b8_0, ↓b8_15, ↓b8_12, ↓b8_26, ↓b8_44, ↓b8_32, x_bdi, x_bdn, ite_self, Int.reduceAdd, xadd_eq, xsub_eq, xmul_eq, xneg_eq, xwr_eq, xwr_nk, xwr_nj, Int.toNat_natCast, x_nc]
    · simp (disch := first | omega | assumption | (simp (disch := omega) only [ite_self, Int.reduceAdd, xadd_eq, xsub_eq, xmul_eq, xneg_eq, xwr_eq, xwr_nk, xwr_nj, Int.toNat_natCast, x_nc] <;> first | omega | assumption) | fail) only [↓if_pos, ↓if_neg, ↓b211_0, ↓b211_12, ↓b211_9, ↓b211_16, ↓b211_21, ↓b211_19, ↓b211_69, ↓b211_39, x_bdi, x_bdn, ite_self, Int.reduceAdd, xadd_eq, xsub_eq, xmul_eq, xneg_eq, xwr_eq, xwr_nk, xwr_nj, Int.toNat_natCast, x_nc]
  · obtain ⟨n, hn⟩ : ∃ n : Nat, σ 1 1 = n := ⟨(σ 1 1).toNat, by omega⟩
    obtain ⟨F, P, r, oc⟩ := OC_ex (σ 2) n
    obtain ⟨σ1, e1, v1, v2, v3, fr, v4, v5⟩ := s8 (X := X) h (Or.inl rfl) hn (by omega) oc
    have m1 : ∀ k j, 100 ≤ k → σ1 k j = σ k j := by
      intro k j hk
      refine fr k j (by omega) (by omega) (by omega) ?_ (fun z => ?_)
      · unfold pin
        have q : k ≠ 1 := by omega
        simp [q]
      · unfold rdC at z
        simp only [Bool.or_eq_true, Bool.and_eq_true, Nat.ble_eq] at z
        omega
    by_cases z : r = -1
    · subst z
      have c1 := v4 rfl
      obtain ⟨σ2, e2, w1, w2, w3, -, c2⟩ := s212 (X := X) (σ := σ1) (n := n) (by rw [m1 100 1 (by decide)]; omega) (by omega) (show OC (σ1 101) n F P (-1) by rw [funext (fun j => m1 101 j (by decide)), ← t1]; exact oc)
      rw [if_pos rfl] at e2
      have c : chg [109, 112] [(1, 1), (1, 2), (1, 3), (100, 1), (100, 2), (100, 3), (100, 4), (100, 5), (100, 10), (100, 24)] σ σ2 := chg_tr (chg_mo rfl c1) (chg_mo rfl c2)
      have d1 : ∀ j, σ2 1 j = σ1 1 j := fun j => c2 1 j rfl (fun y => absurd y (by decide))
      refine ⟨-1, σ1, σ2, fun d => ?_, fun d => ?_, ?_⟩
      · simp (disch := first | omega | assumption | (simp (disch := omega) only [ite_self, Int.reduceAdd, xadd_eq, xsub_eq, xmul_eq, xneg_eq, xwr_eq, xwr_nk, xwr_nj, Int.toNat_natCast, x_nc] <;> first | omega | assumption) | fail) only [↓if_pos, ↓if_neg, ↓b7_0, ↓b7_8, ↓b7_17, ↓b7_13, ↓e1, x_bdi, x_bdn, ite_self, Int.reduceAdd, xadd_eq, xsub_eq, xmul_eq, xneg_eq, xwr_eq, xwr_nk, xwr_nj, Int.toNat_natCast, x_nc]
      · have q := m1 100 1 (by decide)
        simp (disch := first | omega | assumption | (simp (disch := omega) only [ite_self, Int.reduceAdd, xadd_eq, xsub_eq, xmul_eq, xneg_eq, xwr_eq, xwr_nk, xwr_nj, Int.toNat_natCast, x_nc] <;> first | omega | assumption) | fail) only [↓if_pos, ↓if_neg, ↓b211_0, ↓b211_12, ↓b211_9, ↓b211_16, ↓b211_21, ↓b211_19, ↓b211_69, ↓b211_39, ↓e2, x_bdi, x_bdn, ite_self, Int.reduceAdd, xadd_eq, xsub_eq, xmul_eq, xneg_eq, xwr_eq, xwr_nk, xwr_nj, Int.toNat_natCast, x_nc]
      · refine ⟨Core_chg h c (Or.inr ?_) (Or.inl rfl) (Or.inl rfl) (Or.inl rfl) (Or.inl rfl) (Or.inl rfl) (Or.inl rfl) (Or.inl rfl) (Or.inl rfl) (Or.inl rfl), Or.inl (eqp_ok rfl c), Or.inl (eqp_ok rfl c)⟩
        unfold Ctape
        rw [chg_row c (k := 2) (fun _ => rfl) rfl, chg_row c (k := 101) (fun _ => rfl) rfl, d1, d1, d1, v1, v2, v3, w1, w2, w3]
        exact ⟨t1, t2, by omega, by omega, rfl, rfl, rfl⟩
    · obtain ⟨y1, y2, y3⟩ := v5 z
      obtain ⟨o1, o2, o3⟩ := OC_len oc z
      have e3 := s5' (X := X) (σ := σ1)
      generalize hσ2 : xwr (xwr (xwr (xwr (xwr (xwr (xwr σ1 47 1 0) 47 2 0) 41 1 0) 49 3 (-1)) 49 7 0) 70 6 0) 70 9 (-1) = σ2 at e3
      have c1 : chg [23, 24, 25, 49, 70] [(1, 1), (1, 2), (1, 3), (41, 1), (47, 1), (47, 2)] σ σ2 := by
        rw [← hσ2]
        refine chg_wr rfl (chg_wr rfl (chg_wr rfl (chg_wr rfl (chg_wr rfl (chg_wr rfl (chg_wr rfl ?_))))))
        intro k j a b
        refine fr k j ?_ ?_ ?_ ?_ b
        · intro y; rw [y] at a; exact absurd a (by unfold pin; simp)
        · intro y; rw [y] at a; exact absurd a (by unfold pin; simp)
        · intro y; rw [y] at a; exact absurd a (by unfold pin; simp)
        · unfold pin at a ⊢
          rw [Bool.or_eq_false_iff] at a
          have a2 := a.2
          rw [Bool.eq_false_iff] at a2 ⊢
          intro y
          exact a2 (by simp at y ⊢; omega)
      have m2 : ∀ k j, 100 ≤ k → σ2 k j = σ k j := by
        intro k j hk
        rw [← hσ2, xwr_nk (by omega), xwr_nk (by omega), xwr_nk (by omega), xwr_nk (by omega), xwr_nk (by omega), xwr_nk (by omega), xwr_nk (by omega)]
        exact m1 k j hk
      obtain ⟨ρ, e2, w1, w2, w3, w4, c2⟩ := s212 (X := X) (σ := σ2) (n := n) (by rw [m2 100 1 (by decide)]; omega) (by omega) (show OC (σ2 101) n F P r by rw [funext (fun j => m2 101 j (by decide)), ← t1]; exact oc)
      rw [if_neg z] at e2
      obtain ⟨x1, x2, x3⟩ := w4 z
      have r101 : σ2 101 = σ 2 := by rw [funext (fun j => m2 101 j (by decide)), t1]
      have r102 : σ2 102 = σ 102 := funext (fun j => m2 102 j (by decide))
      rw [r101] at x2 x3
      rw [r102] at x3
      have hs : ∀ j : Nat, (j : Int) < r → isSy (txs (σ 2) n j) = true := fun j hj => txs_sy o2 (by omega)
      have lp := fun d => it211 (X := X) (σ := xwr ρ 100 16 r) (n := r.toNat) (d := d) (by rw [xwr_eq]; omega) (by omega) (fun c hc => by
        rw [xwr_nk (by decide), x2 c (by omega)]
        exact (wy_rg h2.2.1 (hs c (by omega))).2.2.2) r.toNat 0 (by omega)
      rw [U2_0] at lp
      have lp : ∀ d, Ev X d 211 31 [some (vr 100), some (vi 0)] [] SH (xwr ρ 100 16 r) = _ := lp
      have rn : ((r.toNat : Nat) : Int) = r := by omega
      rw [rn] at lp
      generalize hσ3 : xwr (xwr (xwr (U2 (xwr ρ 100 16 r) 107 0 (xwr ρ 100 16 r 109) 110 0 (xwr ρ 100 16 r 112) r.toNat) 100 59 0) 100 69 0) 100 70 0 = σ3 at lp
      have c3 : chg [107, 110] [(100, 16), (100, 59), (100, 69), (100, 70)] ρ σ3 := by
        rw [← hσ3]
        exact chg_wr rfl (chg_wr rfl (chg_wr rfl (chg_xr rfl (chg_xr rfl (chg_wr rfl chg_rf)))))
      have c : chg [23, 24, 25, 49, 70, 109, 112, 107, 110] [(1, 1), (1, 2), (1, 3), (41, 1), (47, 1), (47, 2), (100, 1), (100, 2), (100, 3), (100, 4), (100, 5), (100, 10), (100, 24), (100, 16), (100, 59), (100, 69), (100, 70)] σ σ3 := chg_tr (chg_mo rfl c1) (chg_tr (chg_mo rfl c2) (chg_mo rfl c3))
      have c23 : chg [109, 112, 107, 110] [(100, 1), (100, 2), (100, 3), (100, 4), (100, 5), (100, 10), (100, 24), (100, 16), (100, 59), (100, 69), (100, 70)] σ2 σ3 := chg_tr (chg_mo rfl c2) (chg_mo rfl c3)
      have k1 : ∀ k j, k < 100 → rdC k = false → σ3 k j = σ2 k j := by
        intro k j hk hr
        refine c23 k j ?_ (fun y => by rw [hr] at y; cases y)
        unfold pin
        rw [Bool.or_eq_false_iff, Bool.eq_false_iff, Bool.eq_false_iff]
        refine ⟨fun y => ?_, fun y => ?_⟩
        · simp at y; omega
        · simp at y; omega
      refine ⟨r, σ2, σ3, fun d => ?_, fun d => ?_, ?_⟩
      · have rp : ¬ r < 0 := by omega
        simp (disch := first | omega | assumption | (simp (disch := omega) only [ite_self, Int.reduceAdd, xadd_eq, xsub_eq, xmul_eq, xneg_eq, xwr_eq, xwr_nk, xwr_nj, Int.toNat_natCast, x_nc] <;> first | omega | assumption) | fail) only [↓if_pos, ↓if_neg, ↓b7_0, ↓b7_8, ↓b7_17, ↓b7_13, ↓e1, ↓e3, x_bdi, x_bdn, ite_self, Int.reduceAdd, xadd_eq, xsub_eq, xmul_eq, xneg_eq, xwr_eq, xwr_nk, xwr_nj, Int.toNat_natCast, x_nc]
      · have q := m2 100 1 (by decide)
        have e5 : Ev X (d + 100) 211 0 [some (vr 100), none] [] SH σ2 = Ev X (d + 100) 211 31 [some (vr 100), some (vi 0)] [] SH (xwr ρ 100 16 r) := by
          simp (disch := first | omega | assumption | (simp (disch := omega) only [ite_self, Int.reduceAdd, xadd_eq, xsub_eq, xmul_eq, xneg_eq, xwr_eq, xwr_nk, xwr_nj, Int.toNat_natCast, x_nc] <;> first | omega | assumption) | fail) only [↓if_pos, ↓if_neg, ↓b211_0, ↓b211_12, ↓b211_9, ↓b211_16, ↓b211_21, ↓b211_19, ↓b211_69, ↓b211_39, ↓e2, x1, x_bdi, x_bdn, ite_self, Int.reduceAdd, xadd_eq, xsub_eq, xmul_eq, xneg_eq, xwr_eq, xwr_nk, xwr_nj, Int.toNat_natCast, x_nc]
        exact e5.trans (lp _)
      · have a1 : ∀ j, σ3 1 j = σ1 1 j := fun j => by
          rw [k1 1 j (by decide) rfl, ← hσ2]
          simp (disch := decide) only [xwr_nk]
        refine ⟨Core_chg h c (Or.inr ?_) (Or.inl rfl) (Or.inl rfl) (Or.inr ?_) (Or.inl rfl) (Or.inl rfl) (Or.inr ?_) (Or.inr ?_) (Or.inl rfl) (Or.inl rfl), Or.inr ?_, Or.inr ?_⟩
        · unfold Ctape
          have b1 : σ3 100 1 = 0 := by rw [c3 100 1 rfl (fun y => absurd y (by decide))]; exact w1
          have b2 : σ3 100 2 = F := by rw [c3 100 2 rfl (fun y => absurd y (by decide))]; exact w2
          have b3 : σ3 100 3 = P := by rw [c3 100 3 rfl (fun y => absurd y (by decide))]; exact w3
          rw [chg_row c (k := 2) (fun _ => rfl) rfl, chg_row c (k := 101) (fun _ => rfl) rfl, a1, a1, a1, v1, v2, v3, b1, b2, b3]
          exact ⟨t1, t2, by omega, by omega, rfl, rfl, rfl⟩
        · unfold Crow
          have b23 : σ3 23 0 = r := by
            rw [k1 23 0 (by decide) rfl, ← hσ2]
            simp (disch := decide) only [xwr_nk]
            exact y1
          have b24 : ∀ j, σ3 24 j = σ1 24 j := fun j => by
            rw [k1 24 j (by decide) rfl, ← hσ2]
            simp (disch := decide) only [xwr_nk]
          have b25 : ∀ j, σ3 25 j = σ1 25 j := fun j => by
            rw [k1 25 j (by decide) rfl, ← hσ2]
            simp (disch := decide) only [xwr_nk]
          have b16 : σ3 100 16 = r := by
            rw [← hσ3]
            simp (disch := decide) only [xwr_nj, xwr_eq, U2_at]
          have b107 : ∀ j : Nat, (j : Int) < r → σ3 107 j = dgI (txs (σ 2) n j) := fun j hj => by
            rw [← hσ3]
            simp (disch := decide) only [xwr_nk]
            rw [U2_1 (by decide), upf_in0 (by omega), xwr_nk (by decide)]
            exact x2 j (by omega)
          have b110 : ∀ j : Nat, (j : Int) < r → σ3 110 j = wyM (σ 102) (txs (σ 2) n j) := fun j hj => by
            rw [← hσ3]
            simp (disch := decide) only [xwr_nk]
            rw [U2_2, upf_in0 (by omega), xwr_nk (by decide)]
            exact x3 j (by omega)
          rw [b23, b16]
          refine ⟨by omega, by omega, rfl, fun c hc => ?_⟩
          have q := wy_rg h2.2.1 (hs c hc)
          rw [b24, b25, b107 c hc, b110 c hc, y2 c hc, y3 c hc]
          exact ⟨rfl, q.2.2.2, rfl, q.1, q.2.1, q.2.2.1⟩
        · unfold Csee
          have b1 : σ3 41 0 = σ 41 0 := c 41 0 rfl (fun y => absurd y (by decide))
          have b2 : σ3 41 1 = 0 := by
            rw [k1 41 1 (by decide) rfl, ← hσ2]
            simp (disch := decide) only [xwr_nk, xwr_eq]
          have b3 : σ3 100 60 = σ 100 60 := c 100 60 rfl (fun y => absurd y (by decide))
          have b4 : σ3 100 59 = 0 := by
            rw [← hσ3]
            simp (disch := decide) only [xwr_nj, xwr_eq]
          rw [b1, b2, b3, b4]
          exact ⟨h7.1, h7.2.1, h7.2.2.1, by omega, by omega, rfl, fun i hi => by omega⟩
        · unfold Cact
          have b1 : σ3 47 1 = 0 := by
            rw [k1 47 1 (by decide) rfl, ← hσ2]
            simp (disch := decide) only [xwr_nk, xwr_nj, xwr_eq]
          have b2 : σ3 47 2 = 0 := by
            rw [k1 47 2 (by decide) rfl, ← hσ2]
            simp (disch := decide) only [xwr_nk, xwr_nj, xwr_eq]
          have b3 : σ3 100 69 = 0 := by
            rw [← hσ3]
            simp (disch := decide) only [xwr_nj, xwr_eq]
          have b4 : σ3 100 70 = 0 := by
            rw [← hσ3]
            simp (disch := decide) only [xwr_nj, xwr_eq]
          rw [b1, b2, b3, b4]
          exact ⟨by omega, by omega, by omega, rfl, by omega, fun i hi => by omega⟩
        · unfold ForgL
          rw [k1 49 3 (by decide) rfl, k1 49 7 (by decide) rfl, ← hσ2]
          simp (disch := decide) only [xwr_nk, xwr_nj, xwr_eq]
          exact ⟨trivial, trivial⟩
        · unfold ForgN
          rw [k1 70 6 (by decide) rfl, k1 70 9 (by decide) rfl, ← hσ2]
          simp (disch := decide) only [xwr_nk, xwr_nj, xwr_eq]
          exact ⟨trivial, trivial⟩
end PRG
