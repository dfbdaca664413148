/-! PAIRS: isTrue, worth -/
/-- cells and slots that nothing rests on between calls -/
def scA : List Nat := [5, 12, 13, 29, 30, 31, 97, 98, 99, 103, 105, 106, 109, 112, 113, 114, 115, 116, 117, 120, 121, 122, 123, 124, 125, 126, 127, 128, 129, 130, 131, 137, 138]
def scS : List (Nat × Nat) := [(1, 4), (1, 5), (1, 6), (1, 7), (1, 8), (10, 5), (10, 6), (10, 8), (96, 4), (100, 4), (100, 5), (100, 6), (100, 7), (100, 8), (100, 9), (100, 10), (100, 24), (100, 34), (100, 36), (100, 38), (100, 39), (100, 47), (100, 48), (100, 49), (100, 50), (100, 52), (100, 53), (100, 54), (100, 55), (100, 56), (100, 57), (100, 58)]
noncomputable def truV (cs : Nat → Int) (n : Nat) : Int := @ite Int (okW cs n) (Classical.propDecidable _) (trI (rdSt r0 cs n)) (-1)
noncomputable def worV (cs : Nat → Int) (n : Nat) (s : Int) : Int := @ite Int (okW cs n) (Classical.propDecidable _) (woI (rdSt r0 cs n) s) (-2000000000)
section PRI
variable {X : Nat × (Nat → Int)} {σ τ : xM} {k1 n : Nat} {cs cs' : Nat → Int} {a : Int}
theorem Post_sc (h : Core σ) (c : chg scA scS σ τ) : Post σ τ := ⟨Core_chg h c (Or.inl rfl) (Or.inl rfl) (Or.inl rfl) (Or.inl rfl) (Or.inl rfl) (Or.inl rfl) (Or.inl rfl) (Or.inl rfl) (Or.inl rfl) (Or.inl rfl), Or.inl (eqp_ok rfl c), Or.inl (eqp_ok rfl c)⟩
theorem truV_y (h : okW cs n) : truV cs n = trI (rdSt r0 cs n) := by unfold truV; rw [if_pos h]
theorem truV_n (h : ¬ okW cs n) : truV cs n = -1 := by unfold truV; rw [if_neg h]
theorem worV_y (h : okW cs n) : worV cs n a = woI (rdSt r0 cs n) a := by unfold worV; rw [if_pos h]
theorem worV_n (h : ¬ okW cs n) : worV cs n a = -2000000000 := by unfold worV; rw [if_neg h]
theorem truV_cs (h : ∀ j, j < n → cs j = cs' j) : truV cs n = truV cs' n := by
  by_cases e : okW cs n
  · rw [truV_y e, truV_y (okW_cs h e), rdSt_cs n h]
  · rw [truV_n e, truV_n (fun z => e (okW_cs (fun j hj => (h j hj).symm) z))]
theorem worV_cs (h : ∀ j, j < n → cs j = cs' j) : worV cs n a = worV cs' n a := by
  by_cases e : okW cs n
  · rw [worV_y e, worV_y (okW_cs h e), rdSt_cs n h]
  · rw [worV_n e, worV_n (fun z => e (okW_cs (fun j hj => (h j hj).symm) z))]
/-- a row's cells as they must be -/
def rowOk (σ : xM) (k n : Nat) : Prop := σ k 0 = n ∧ n ≤ 11 ∧ ∀ c, c < n → (σ (k + 1) c = 0 ∨ σ (k + 1) c = 1) ∧ 0 ≤ σ (k + 2) c ∧ σ (k + 2) c < 128
/-- what a row's cells read -/
def rwC (σ : xM) (k : Nat) : Nat → Int := fun j => rdB (σ 102) (σ (k + 1) j) (σ (k + 2) j)
theorem symR_rw (hF : Cform σ) (hr : rowOk σ k1 n) : ∀ j, j < n → symR σ k1 j = rwC σ k1 j := by
  intro j hj
  obtain ⟨h1, h2, h3⟩ := hr
  unfold symR rwC
  rw [f140_rd hF (fun c hc => h3 c (by omega)) (by omega), if_pos (by omega), Int.toNat_natCast]
theorem rd14 (hD : Crd σ) : ∀ j, j < 8 → Rd σ 14 0 j = r0 j := fun j hj => (hD j hj).1
/-- truthOf -/
theorem s17 (hk1 : isRow k1) (hF : Cform σ) (hD : Crd σ) (hr : rowOk σ k1 n) : ∃ τ, (∀ d, Ev X (d + 8) 17 0 [some (vr 0), some (vr k1)] [] SH σ = some (some (vi (truV (rwC σ k1) n)), SH, τ)) ∧ chg [] [] σ τ := by
  have sy := symR_rw hF hr
  obtain ⟨g1, g2⟩ := FC_dg hF.2.2.1
  have rk := row_rg hk1
  obtain ⟨h1, h2, h3⟩ := hr
  rw [← truV_cs sy]
  by_cases e : okW (symR σ k1) n
  · obtain ⟨τ, w, rd, c⟩ := s128Y (X := X) (Or.inl rfl) hk1 h2 h1 g1 g2 (rd14 hD) e
    have u0 : τ k1 0 = n := by
      rw [c k1 0 rfl (fun _ => rfl)]
      exact h1
    have v := fun d => s129 (X := X) (d := d) (σ := τ) (k := 14) (a1 := (n : Int)) (Or.inl rfl) (by omega) (by omega)
    rw [trT_I e h2 rd] at v
    refine ⟨τ, fun d => ?_, c⟩
    rw [truV_y e]
    by_cases z : lsT (rdSt r0 (symR σ k1) n) = 0 ∧ rdSt r0 (symR σ k1) n 1 = rdSt r0 (symR σ k1) n 2 + clZ (rdSt r0 (symR σ k1) n)
    · have t : trI (rdSt r0 (symR σ k1) n) = 1 := if_pos z
      rw [t] at v ⊢
      simp (disch := first | omega | assumption | (simp (disch := omega) only [ite_self, Int.reduceAdd, xadd_eq, xsub_eq, xmul_eq, xneg_eq, xwr_eq, xwr_nk, xwr_nj, Int.toNat_natCast, x_nc] <;> first | omega | assumption) | fail) only [↓if_pos, ↓if_neg, ↓b17_0, ↓b17_12, ↓b17_17, ↓b17_15, ↓b17_28, ↓b17_35, ↓b17_31, ↓b17_36, ↓w, u0, ↓v, v, x_bdi, x_bdn, ite_self, Int.reduceAdd, xadd_eq, xsub_eq, xmul_eq, xneg_eq, xwr_eq, xwr_nk, xwr_nj, Int.toNat_natCast, x_nc]
    · have t : trI (rdSt r0 (symR σ k1) n) = 0 := if_neg z
      rw [t] at v ⊢
      simp (disch := first | omega | assumption | (simp (disch := omega) only [ite_self, Int.reduceAdd, xadd_eq, xsub_eq, xmul_eq, xneg_eq, xwr_eq, xwr_nk, xwr_nj, Int.toNat_natCast, x_nc] <;> first | omega | assumption) | fail) only [↓if_pos, ↓if_neg, ↓b17_0, ↓b17_12, ↓b17_17, ↓b17_15, ↓b17_28, ↓b17_35, ↓b17_31, ↓b17_36, ↓w, u0, ↓v, v, x_bdi, x_bdn, ite_self, Int.reduceAdd, xadd_eq, xsub_eq, xmul_eq, xneg_eq, xwr_eq, xwr_nk, xwr_nj, Int.toNat_natCast, x_nc]
  · obtain ⟨τ, w, c⟩ := s128N (X := X) (Or.inl rfl) hk1 h2 h1 g1 g2 (rd14 hD) (fun j hj => by rw [sy j hj]; exact rdB_sy) e
    refine ⟨τ, fun d => ?_, c⟩
    rw [truV_n e]
    simp (disch := first | omega | assumption | (simp (disch := omega) only [ite_self, Int.reduceAdd, xadd_eq, xsub_eq, xmul_eq, xneg_eq, xwr_eq, xwr_nk, xwr_nj, Int.toNat_natCast, x_nc] <;> first | omega | assumption) | fail) only [↓if_pos, ↓if_neg, ↓b17_0, ↓b17_12, ↓b17_17, ↓b17_15, ↓b17_28, ↓b17_35, ↓b17_31, ↓b17_36, ↓w, x_bdi, x_bdn, ite_self, Int.reduceAdd, xadd_eq, xsub_eq, xmul_eq, xneg_eq, xwr_eq, xwr_nk, xwr_nj, Int.toNat_natCast, x_nc]
theorem Crow_rw (h : Crow σ) : ∃ n : Nat, rowOk σ 23 n ∧ σ 100 16 = n ∧ (∀ c, c < n → σ 107 c = 0 ∨ σ 107 c = 1) ∧ (∀ c, c < n → rwC σ 23 c = chM σ 110 c) ∧ (∀ c, c < n → 0 ≤ σ 110 c ∧ σ 110 c < 128) := by
  obtain ⟨r1, r2, r3, r4⟩ := h
  refine ⟨(σ 23 0).toNat, ⟨by omega, by omega, fun c hc => ?_⟩, by omega, fun c hc => ?_, fun c hc => ?_, fun c hc => ?_⟩
  · have q := r4 c (by omega)
    exact ⟨q.2.1, q.2.2.2.1, q.2.2.2.2.1⟩
  · have q := r4 c (by omega)
    rw [q.1]; exact q.2.1
  · have q := r4 c (by omega)
    unfold rwC chM
    rw [q.1, q.2.2.1]
  · have q := r4 c (by omega)
    rw [q.2.2.1]; exact ⟨q.2.2.2.1, q.2.2.2.2.1⟩
theorem pr_isTrue (h : Core σ) : Pair X 16 223 [some (vr 0)] [some (vr 100)] σ (Post σ) := by
  obtain ⟨n, hr, h16, hf, hcs, hb⟩ := Crow_rw h.2.2.2.1
  obtain ⟨σ1, w, c1⟩ := s17 (X := X) (Or.inl rfl) h.2.1 h.2.2.2.2.2.2.2.2.1 hr
  have n11 := hr.2.1
  have u16 : σ1 100 16 = n := by rw [c1 100 16 rfl (fun _ => absurd ‹_› (by decide))]; exact h16
  have u107 : σ1 107 = σ 107 := chg_row c1 (fun _ => rfl) rfl
  have u110 : σ1 110 = σ 110 := chg_row c1 (fun _ => rfl) rfl
  have u102 : σ1 102 = σ 102 := chg_row c1 (fun _ => rfl) rfl
  have uc : chM σ1 110 = chM σ 110 := by unfold chM; rw [u102, u107, u110]
  have hcs2 : ∀ j, j < n → rwC σ 23 j = chM σ1 110 j := fun j hj => by rw [uc]; exact hcs j hj
  by_cases e : okW (chM σ1 110) n
  · obtain ⟨σ2, w2, c2, q1, q2, q3, q4, q5⟩ := s224Y (X := X) (σ := σ1) (k1 := 110) rfl (by decide) u16 n11 (by rw [u107]; exact hf) e
    have v := f226_I q1 q2 q3 q4 q5
    have v2 := fun d => s226 (X := X) (d := d) (σ := σ2)
    rw [v] at v2
    refine ⟨truV (rwC σ 23) n, σ1, σ2, fun d => ?_, fun d => ?_, Post_sc h (chg_tr (chg_mo rfl c1) (chg_mo rfl c2))⟩
    · simp (disch := first | omega | assumption | (simp (disch := omega) only [ite_self, Int.reduceAdd, xadd_eq, xsub_eq, xmul_eq, xneg_eq, xwr_eq, xwr_nk, xwr_nj, Int.toNat_natCast, x_nc] <;> first | omega | assumption) | fail) only [↓if_pos, ↓if_neg, ↓b16_0, ↓b16_8, ↓w, x_bdi, x_bdn, ite_self, Int.reduceAdd, xadd_eq, xsub_eq, xmul_eq, xneg_eq, xwr_eq, xwr_nk, xwr_nj, Int.toNat_natCast, x_nc]
    · rw [truV_cs hcs2, truV_y e]
      by_cases z : lsT (rdSt r0 (chM σ1 110) n) = 0 ∧ rdSt r0 (chM σ1 110) n 1 = rdSt r0 (chM σ1 110) n 2 + clZ (rdSt r0 (chM σ1 110) n)
      · have t : trI (rdSt r0 (chM σ1 110) n) = 1 := if_pos z
        rw [t] at v2 ⊢
        simp (disch := first | omega | assumption | (simp (disch := omega) only [ite_self, Int.reduceAdd, xadd_eq, xsub_eq, xmul_eq, xneg_eq, xwr_eq, xwr_nk, xwr_nj, Int.toNat_natCast, x_nc] <;> first | omega | assumption) | fail) only [↓if_pos, ↓if_neg, ↓b223_0, ↓b223_8, ↓b223_15, ↓b223_11, ↓b223_19, ↓b223_27, ↓b223_26, ↓b223_22, ↓w2, ↓v2, x_bdi, x_bdn, ite_self, Int.reduceAdd, xadd_eq, xsub_eq, xmul_eq, xneg_eq, xwr_eq, xwr_nk, xwr_nj, Int.toNat_natCast, x_nc]
      · have t : trI (rdSt r0 (chM σ1 110) n) = 0 := if_neg z
        rw [t] at v2 ⊢
        simp (disch := first | omega | assumption | (simp (disch := omega) only [ite_self, Int.reduceAdd, xadd_eq, xsub_eq, xmul_eq, xneg_eq, xwr_eq, xwr_nk, xwr_nj, Int.toNat_natCast, x_nc] <;> first | omega | assumption) | fail) only [↓if_pos, ↓if_neg, ↓b223_0, ↓b223_8, ↓b223_15, ↓b223_11, ↓b223_19, ↓b223_27, ↓b223_26, ↓b223_22, ↓w2, ↓v2, x_bdi, x_bdn, ite_self, Int.reduceAdd, xadd_eq, xsub_eq, xmul_eq, xneg_eq, xwr_eq, xwr_nk, xwr_nj, Int.toNat_natCast, x_nc]
  · obtain ⟨σ2, w2, c2⟩ := s224N (X := X) (σ := σ1) (k1 := 110) rfl (by decide) u16 n11 (by rw [u107]; exact hf) e
    refine ⟨truV (rwC σ 23) n, σ1, σ2, fun d => ?_, fun d => ?_, Post_sc h (chg_tr (chg_mo rfl c1) (chg_mo rfl c2))⟩
    · simp (disch := first | omega | assumption | (simp (disch := omega) only [ite_self, Int.reduceAdd, xadd_eq, xsub_eq, xmul_eq, xneg_eq, xwr_eq, xwr_nk, xwr_nj, Int.toNat_natCast, x_nc] <;> first | omega | assumption) | fail) only [↓if_pos, ↓if_neg, ↓b16_0, ↓b16_8, ↓w, x_bdi, x_bdn, ite_self, Int.reduceAdd, xadd_eq, xsub_eq, xmul_eq, xneg_eq, xwr_eq, xwr_nk, xwr_nj, Int.toNat_natCast, x_nc]
    · rw [truV_cs hcs2, truV_n e]
      simp (disch := first | omega | assumption | (simp (disch := omega) only [ite_self, Int.reduceAdd, xadd_eq, xsub_eq, xmul_eq, xneg_eq, xwr_eq, xwr_nk, xwr_nj, Int.toNat_natCast, x_nc] <;> first | omega | assumption) | fail) only [↓if_pos, ↓if_neg, ↓b223_0, ↓b223_8, ↓b223_15, ↓b223_11, ↓b223_19, ↓b223_27, ↓b223_26, ↓b223_22, ↓w2, x_bdi, x_bdn, ite_self, Int.reduceAdd, xadd_eq, xsub_eq, xmul_eq, xneg_eq, xwr_eq, xwr_nk, xwr_nj, Int.toNat_natCast, x_nc]
theorem pr_worth (h : Core σ) : Pair X 18 227 [some (vr 0), some (vi a)] [some (vr 100), some (vi a)] σ (Post σ) := by
  by_cases ha : a < 0 ∨ 1 < a
  · refine Pair_q0 (r := -2000000000) (r' := -2000000000) h (fun d => ?_) (fun d => ?_) rfl
    · simp (disch := first | omega | assumption | (simp (disch := omega) only [ite_self, Int.reduceAdd, xadd_eq, xsub_eq, xmul_eq, xneg_eq, xwr_eq, xwr_nk, xwr_nj, Int.toNat_natCast, x_nc] <;> first | omega | assumption) | fail) only [↓if_pos, ↓if_neg, ↓b18_0, ↓b18_27, ↓b18_4, ↓b18_9, ↓b18_24, ↓b18_30, ↓b18_45, x_bdi, x_bdn, ite_self, Int.reduceAdd, xadd_eq, xsub_eq, xmul_eq, xneg_eq, xwr_eq, xwr_nk, xwr_nj, Int.toNat_natCast, x_nc]
    · simp (disch := first | omega | assumption | (simp (disch := omega) only [ite_self, Int.reduceAdd, xadd_eq, xsub_eq, xmul_eq, xneg_eq, xwr_eq, xwr_nk, xwr_nj, Int.toNat_natCast, x_nc] <;> first | omega | assumption) | fail) only [↓if_pos, ↓if_neg, ↓b227_0, ↓b227_29, ↓b227_4, ↓b227_41, ↓b227_9, ↓b227_17, ↓b227_20, ↓b227_35, x_bdi, x_bdn, ite_self, Int.reduceAdd, xadd_eq, xsub_eq, xmul_eq, xneg_eq, xwr_eq, xwr_nk, xwr_nj, Int.toNat_natCast, x_nc]
  · have ha2 : a = 0 ∨ a = 1 := by omega
    obtain ⟨n, hr, h16, hf, hcs, hb⟩ := Crow_rw h.2.2.2.1
    have hF := h.2.1
    have hD := h.2.2.2.2.2.2.2.2.1
    have sy := symR_rw hF hr
    obtain ⟨g1, g2⟩ := FC_dg hF.2.2.1
    obtain ⟨h1, n11, h3⟩ := hr
    have cls : ∃ τ, (∀ d, Ev X (d + 100) 18 0 [some (vr 0), some (vi a)] [] SH σ = some (some (vi (worV (rwC σ 23) n a)), SH, τ)) ∧ chg [] [] σ τ := by
      rw [← worV_cs sy]
      by_cases e : okW (symR σ 23) n
      · obtain ⟨τ, w, rd, c⟩ := s128Y (X := X) (Or.inl rfl) (Or.inl rfl) n11 h1 g1 g2 (rd14 hD) e
        have u0 : τ 23 0 = n := by
          rw [c 23 0 rfl (fun _ => rfl)]
          exact h1
        have v := fun d => s130 (X := X) (d := d) (σ := τ) (k := 14) (a1 := (n : Int)) (a2 := a) (Or.inl rfl) (by omega) (by omega)
        rw [woT_I e n11 rd ha2] at v
        refine ⟨τ, fun d => ?_, c⟩
        rw [worV_y e]
        simp (disch := first | omega | assumption | (simp (disch := omega) only [ite_self, Int.reduceAdd, xadd_eq, xsub_eq, xmul_eq, xneg_eq, xwr_eq, xwr_nk, xwr_nj, Int.toNat_natCast, x_nc] <;> first | omega | assumption) | fail) only [↓if_pos, ↓if_neg, ↓b18_0, ↓b18_27, ↓b18_4, ↓b18_9, ↓b18_24, ↓b18_30, ↓b18_45, ↓w, u0, ↓v, v, x_bdi, x_bdn, ite_self, Int.reduceAdd, xadd_eq, xsub_eq, xmul_eq, xneg_eq, xwr_eq, xwr_nk, xwr_nj, Int.toNat_natCast, x_nc]
      · obtain ⟨τ, w, c⟩ := s128N (X := X) (Or.inl rfl) (Or.inl rfl) n11 h1 g1 g2 (rd14 hD) (fun j hj => by rw [sy j hj]; exact rdB_sy) e
        refine ⟨τ, fun d => ?_, c⟩
        rw [worV_n e]
        simp (disch := first | omega | assumption | (simp (disch := omega) only [ite_self, Int.reduceAdd, xadd_eq, xsub_eq, xmul_eq, xneg_eq, xwr_eq, xwr_nk, xwr_nj, Int.toNat_natCast, x_nc] <;> first | omega | assumption) | fail) only [↓if_pos, ↓if_neg, ↓b18_0, ↓b18_27, ↓b18_4, ↓b18_9, ↓b18_24, ↓b18_30, ↓b18_45, ↓w, x_bdi, x_bdn, ite_self, Int.reduceAdd, xadd_eq, xsub_eq, xmul_eq, xneg_eq, xwr_eq, xwr_nk, xwr_nj, Int.toNat_natCast, x_nc]
    obtain ⟨σ1, w, c1⟩ := cls
    have u16 : σ1 100 16 = n := by rw [c1 100 16 rfl (fun _ => absurd ‹_› (by decide))]; exact h16
    have u107 : σ1 107 = σ 107 := chg_row c1 (fun _ => rfl) rfl
    have u110 : σ1 110 = σ 110 := chg_row c1 (fun _ => rfl) rfl
    have u102 : σ1 102 = σ 102 := chg_row c1 (fun _ => rfl) rfl
    have uc : chM σ1 110 = chM σ 110 := by unfold chM; rw [u102, u107, u110]
    have hcs2 : ∀ j, j < n → rwC σ 23 j = chM σ1 110 j := fun j hj => by rw [uc]; exact hcs j hj
    by_cases e : okW (chM σ1 110) n
    · obtain ⟨σ2, w2, c2, q1, q2, q3, q4, q5⟩ := s224Y (X := X) (σ := σ1) (k1 := 110) rfl (by decide) u16 n11 (by rw [u107]; exact hf) e
      refine ⟨worV (rwC σ 23) n a, σ1, σ2, w, fun d => ?_, Post_sc h (chg_tr (chg_mo rfl c1) (chg_mo rfl c2))⟩
      rw [worV_cs hcs2, worV_y e]
      unfold woI
      rcases ha2 with rfl | rfl
      · by_cases z : σ2 115 0 = 0
        · simp (disch := first | omega | assumption | (simp (disch := omega) only [ite_self, Int.reduceAdd, xadd_eq, xsub_eq, xmul_eq, xneg_eq, xwr_eq, xwr_nk, xwr_nj, Int.toNat_natCast, x_nc, show (0 : Int).toNat = 0 from rfl] <;> first | omega | assumption) | fail) only [↓if_pos, ↓if_neg, ↓b227_0, ↓b227_29, ↓b227_4, ↓b227_41, ↓b227_9, ↓b227_17, ↓b227_20, ↓b227_35, ↓w2, x_bdi, x_bdn, ite_self, Int.reduceAdd, xadd_eq, xsub_eq, xmul_eq, xneg_eq, xwr_eq, xwr_nk, xwr_nj, Int.toNat_natCast, x_nc]
        · have q4 := q4 (by omega)
          simp (disch := first | omega | assumption | (simp (disch := omega) only [ite_self, Int.reduceAdd, xadd_eq, xsub_eq, xmul_eq, xneg_eq, xwr_eq, xwr_nk, xwr_nj, Int.toNat_natCast, x_nc, show (0 : Int).toNat = 0 from rfl] <;> first | omega | assumption) | fail) only [↓if_pos, ↓if_neg, ↓b227_0, ↓b227_29, ↓b227_4, ↓b227_41, ↓b227_9, ↓b227_17, ↓b227_20, ↓b227_35, ↓w2, show (0 : Int).toNat = 0 from rfl, q4, x_bdi, x_bdn, ite_self, Int.reduceAdd, xadd_eq, xsub_eq, xmul_eq, xneg_eq, xwr_eq, xwr_nk, xwr_nj, Int.toNat_natCast, x_nc]
      · by_cases z : σ2 115 1 = 0
        · simp (disch := first | omega | assumption | (simp (disch := omega) only [ite_self, Int.reduceAdd, xadd_eq, xsub_eq, xmul_eq, xneg_eq, xwr_eq, xwr_nk, xwr_nj, Int.toNat_natCast, x_nc, show (1 : Int).toNat = 1 from rfl] <;> first | omega | assumption) | fail) only [↓if_pos, ↓if_neg, ↓b227_0, ↓b227_29, ↓b227_4, ↓b227_41, ↓b227_9, ↓b227_17, ↓b227_20, ↓b227_35, ↓w2, x_bdi, x_bdn, ite_self, Int.reduceAdd, xadd_eq, xsub_eq, xmul_eq, xneg_eq, xwr_eq, xwr_nk, xwr_nj, Int.toNat_natCast, x_nc]
        · have q5 := q5 (by omega)
          simp (disch := first | omega | assumption | (simp (disch := omega) only [ite_self, Int.reduceAdd, xadd_eq, xsub_eq, xmul_eq, xneg_eq, xwr_eq, xwr_nk, xwr_nj, Int.toNat_natCast, x_nc, show (1 : Int).toNat = 1 from rfl] <;> first | omega | assumption) | fail) only [↓if_pos, ↓if_neg, ↓b227_0, ↓b227_29, ↓b227_4, ↓b227_41, ↓b227_9, ↓b227_17, ↓b227_20, ↓b227_35, ↓w2, show (1 : Int).toNat = 1 from rfl, q5, x_bdi, x_bdn, ite_self, Int.reduceAdd, xadd_eq, xsub_eq, xmul_eq, xneg_eq, xwr_eq, xwr_nk, xwr_nj, Int.toNat_natCast, x_nc]
    · obtain ⟨σ2, w2, c2⟩ := s224N (X := X) (σ := σ1) (k1 := 110) rfl (by decide) u16 n11 (by rw [u107]; exact hf) e
      refine ⟨worV (rwC σ 23) n a, σ1, σ2, w, fun d => ?_, Post_sc h (chg_tr (chg_mo rfl c1) (chg_mo rfl c2))⟩
      rw [worV_cs hcs2, worV_n e]
      simp (disch := first | omega | assumption | (simp (disch := omega) only [ite_self, Int.reduceAdd, xadd_eq, xsub_eq, xmul_eq, xneg_eq, xwr_eq, xwr_nk, xwr_nj, Int.toNat_natCast, x_nc] <;> first | omega | assumption) | fail) only [↓if_pos, ↓if_neg, ↓b227_0, ↓b227_29, ↓b227_4, ↓b227_41, ↓b227_9, ↓b227_17, ↓b227_20, ↓b227_35, ↓w2, x_bdi, x_bdn, ite_self, Int.reduceAdd, xadd_eq, xsub_eq, xmul_eq, xneg_eq, xwr_eq, xwr_nk, xwr_nj, Int.toNat_natCast, x_nc]
end PRI
