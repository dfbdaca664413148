/-! PAIRS: calls on both sides with one answer -/
section PRA
variable {X : Nat × (Nat → Int)} {σ : xM} {a b c : Int}
theorem Pair_q0 {mx mm : Nat} {Lx Lm : List (Option xV)} {r r' : Int} (h : Core σ) (e1 : ∀ d, Ev X (d + 100) mx 0 Lx [] SH σ = some (some (vi r), SH, σ)) (e2 : ∀ d, Ev X (d + 100) mm 0 Lm [] SH σ = some (some (vi r'), SH, σ)) (e : r' = r) : Pair X mx mm Lx Lm σ (Post σ) := ⟨r, σ, σ, e1, by rw [← e]; exact e2, Post_q h eqp_rf⟩
theorem pr_fault (h : Core σ) : Pair X 11 209 [some (vr 0), some (vi a)] [some (vr 100), some (vi a)] σ (Post σ) := by
  refine Pair_q0 h (fun d => s11) (fun d => s209) ?_
  obtain ⟨-, -, -, -, -, h2, h3⟩ := h.1
  unfold f209 f11
  rw [h2, h3]
theorem pr_way (h : Core σ) : Pair X 12 210 [some (vr 0), some (vi a), some (vi b)] [some (vr 100), some (vi a), some (vi b)] σ (Post σ) := by
  refine Pair_q0 h (fun d => s12) (fun d => s210) ?_
  have h4 := h.2.1.1
  unfold f210 f12 f70
  by_cases c1 : a < 0
  · rw [if_pos c1, if_pos c1]
  · by_cases c2 : 9 < a
    · rw [if_neg c1, if_neg c1, if_pos c2, if_pos c2]
    · by_cases c3 : b < 0
      · rw [if_neg c1, if_neg c1, if_neg c2, if_neg c2, if_pos c3, if_pos c3]
      · by_cases c4 : 1 < b
        · rw [if_neg c1, if_neg c1, if_neg c2, if_neg c2, if_neg c3, if_neg c3, if_pos c4, if_pos c4]
        · have e : xadd (xmul 2 a) b = 2 * a + b := by rw [xmul_eq (by omega) (by omega), xadd_eq (by omega) (by omega)]
          rw [e, h4 _ (by omega)]
theorem pr_cell (h : Core σ) : Pair X 13 219 [some (vr 0), some (vi a)] [some (vr 100), some (vi a)] σ (Post σ) := by
  obtain ⟨r1, r2, r3, r4⟩ := h.2.2.2.1
  refine Pair_q0 h (fun d => s13) (fun d => s219 (by omega)) ?_
  unfold f219 f13 f220 f136
  rw [r3]
  by_cases c1 : a < 0
  · rw [if_pos c1, if_pos c1]
    rfl
  · by_cases c2 : σ 23 0 ≤ a
    · rw [if_neg c1, if_neg c1, if_pos c2, if_pos c2]
      rfl
    · rw [if_neg c1, if_neg c1, if_neg c2, if_neg c2, if_neg (show ¬ 11 ≤ a by omega), if_neg (by decide), if_neg (by decide)]
      exact (r4 a.toNat (by omega)).2.2.1
theorem FC_dg (hF : FC (σ 102) (σ 3 5) (σ 6) (σ 7) (σ 8)) : σ 3 5 ≤ 20 ∧ ∀ j : Nat, (j : Int) < σ 3 5 → 0 ≤ σ 7 j ∧ σ 7 j ≤ 9 := by
  obtain ⟨c1, c2, -⟩ := hF
  have := nz_le (w := σ 102) 20
  refine ⟨by omega, fun j hj => ?_⟩
  obtain ⟨i, i1, i2, i3⟩ := nz_sur (w := σ 102) 20 j (by omega)
  rw [← i3, (c2 i i1 i2).2.1]
  omega
/-- what a cell of a row reads -/
theorem f140_rd {k : Nat} (hF : Cform σ) (hf : ∀ c : Nat, (c : Int) < σ k 0 → (σ (k + 1) c = 0 ∨ σ (k + 1) c = 1) ∧ 0 ≤ σ (k + 2) c ∧ σ (k + 2) c < 128) (h1 : σ k 0 ≤ 11) : f140 σ k a = if 0 ≤ a ∧ a < σ k 0 then rdB (σ 102) (σ (k + 1) a.toNat) (σ (k + 2) a.toNat) else -1 := by
  unfold f140
  by_cases c : 0 ≤ a ∧ a < σ k 0
  · have e : f136 σ k a = 1 := by unfold f136; rw [if_neg (by omega), if_neg (by omega), if_neg (by omega)]
    obtain ⟨q1, q2, q3⟩ := hf a.toNat (by omega)
    rw [e, if_pos (by decide), if_pos c]
    exact f74_rd hF.2.1 hF.2.2.1 q1 q2 q3
  · have e : f136 σ k a = 0 := by
      unfold f136
      repeat' split
      all_goals omega
    rw [e, if_neg (by decide), if_neg c]
theorem pr_says (h : Core σ) : Pair X 15 221 [some (vr 0), some (vi a)] [some (vr 100), some (vi a)] σ (Post σ) := by
  obtain ⟨r1, r2, r3, r4⟩ := h.2.2.2.1
  have hF := h.2.1
  obtain ⟨g1, g2⟩ := FC_dg hF.2.2.1
  have e := f140_rd (k := 23) (a := a) hF (fun c hc => ⟨(r4 c hc).2.1, (r4 c hc).2.2.2.1, (r4 c hc).2.2.2.2.1⟩) r2
  refine Pair_q0 (r' := f140 σ 23 a) h (fun d => ?_) (fun d => ?_) rfl
  · refine Eq.trans b15_0 ?_
    refine x_bind (s140 (d := d + 94) (Or.inl rfl) g1 g2) ?_
    exact b15_12
  · rw [e]
    by_cases c : 0 ≤ a ∧ a < σ 23 0
    · obtain ⟨q1, q2, q3, q4, q5, q6⟩ := r4 a.toNat (by omega)
      have sr := fun d => s222 (X := X) (d := d) (σ := σ) (fig := σ 107 a.toNat) (b := σ 110 a.toNat) (by rw [q1]; exact q2)
      rw [if_pos c, ← q1, ← q3]
      simp (disch := first | omega | assumption | (simp (disch := omega) only [Int.reduceAdd, xadd_eq, xsub_eq, xmul_eq, xneg_eq, xwr_eq, xwr_nk, xwr_nj, Int.toNat_natCast, x_nc, f220] <;> first | omega | assumption) | fail) only [↓if_pos, ↓if_neg, ↓b221_0, ↓b221_5, ↓b221_27, ↓b221_8, ↓b221_28, ↓b221_24, ↓s220, ↓sr, x_bdi, x_bdn, Int.reduceAdd, xadd_eq, xsub_eq, xmul_eq, xneg_eq, xwr_eq, xwr_nk, xwr_nj, Int.toNat_natCast, x_nc]
    · rw [if_neg c]
      simp (disch := first | omega | assumption | (simp (disch := omega) only [Int.reduceAdd, xadd_eq, xsub_eq, xmul_eq, xneg_eq, xwr_eq, xwr_nk, xwr_nj, Int.toNat_natCast, x_nc, f220] <;> first | omega | assumption) | fail) only [↓if_pos, ↓if_neg, ↓b221_0, ↓b221_5, ↓b221_27, ↓b221_8, ↓b221_28, ↓b221_24, ↓s220, x_bdi, x_bdn, Int.reduceAdd, xadd_eq, xsub_eq, xmul_eq, xneg_eq, xwr_eq, xwr_nk, xwr_nj, Int.toNat_natCast, x_nc]
theorem pr_end (h : Core σ) : Pair X 3 195 [some (vr 0), some (vi a)] [some (vr 100), some (vi a)] σ (Post σ) := by
  obtain ⟨⟨t1, t2, t3, t4, t5, t6, t7⟩, hc⟩ := h
  refine ⟨f3 σ a, g3 σ a, g195 (g3 σ a) a, fun d => s3, fun d => ?_, ?_⟩
  · have e : f195 (g3 σ a) a = f3 σ a := by
      unfold f195 f3 g3
      by_cases c1 : a < 0
      · rw [if_pos c1, if_pos c1]
      · by_cases c2 : a ≤ σ 1 1
        · rw [if_neg c1, if_neg c1, if_neg c1, if_pos c2, if_pos c2, xwr_nk (by decide), t5, if_pos c2]
        · rw [if_neg c1, if_neg c1, if_neg c1, if_neg c2, if_neg c2, t5, if_neg c2]
    rw [← e]
    exact s195
  · unfold g195 g3
    by_cases c1 : a < 0
    · rw [if_pos c1, if_pos c1]
      exact Post_q ⟨⟨t1, t2, t3, t4, t5, t6, t7⟩, hc⟩ eqp_rf
    · by_cases c2 : a ≤ σ 1 1
      · rw [if_neg c1, if_neg c1, if_pos c2, xwr_nk (by decide), t5, if_pos c2]
        obtain ⟨h2, h3, h4, h5, h6, h7, h8, h9, h10⟩ := hc
        refine ⟨⟨⟨?_, ?_, ?_, ?_, ?_, ?_, ?_⟩, Cform_eqp (eqp_wr rfl (eqp_wr rfl eqp_rf)) h2, Cwant_eqp (eqp_wr rfl (eqp_wr rfl eqp_rf)) h3, Crow_eqp (eqp_wr rfl (eqp_wr rfl eqp_rf)) h4, Cgoal_eqp (eqp_wr rfl (eqp_wr rfl eqp_rf)) h5, Cbox_eqp (eqp_wr rfl (eqp_wr rfl eqp_rf)) h6, Csee_eqp (eqp_wr rfl (eqp_wr rfl eqp_rf)) h7, Cact_eqp (eqp_wr rfl (eqp_wr rfl eqp_rf)) h8, Crd_eqp (eqp_wr rfl (eqp_wr rfl eqp_rf)) h9, Cmis_eqp (eqp_wr rfl (eqp_wr rfl eqp_rf)) h10⟩, Or.inl (eqp_wr rfl (eqp_wr rfl eqp_rf)), Or.inl (eqp_wr rfl (eqp_wr rfl eqp_rf))⟩
        · simp (disch := decide) only [xwr_row, t1]
        · simp (disch := decide) only [xwr_row]
          exact t2
        · simp (disch := decide) only [xwr_eq, xwr_nk, xwr_nj]
          omega
        · simp (disch := decide) only [xwr_eq, xwr_nk, xwr_nj]
          omega
        · simp (disch := decide) only [xwr_eq, xwr_nk, xwr_nj]
        · simp (disch := decide) only [xwr_eq, xwr_nk, xwr_nj, t6]
        · simp (disch := decide) only [xwr_eq, xwr_nk, xwr_nj, t7]
      · rw [if_neg c1, if_neg c1, if_neg c2, t5, if_neg c2]
        exact Post_q ⟨⟨t1, t2, t3, t4, t5, t6, t7⟩, hc⟩ eqp_rf
def f247 (w : Int) : Int := xadd (xadd (xadd (xadd (xadd (xadd (xadd 0 (xand (xshr w 0) 1)) (xand (xshr w 1) 1)) (xand (xshr w 2) 1)) (xand (xshr w 3) 1)) (xand (xshr w 4) 1)) (xand (xshr w 5) 1)) (xand (xshr w 6) 1)
theorem f247_pc' : ∀ n, n < 128 → f247 ((n : Nat) : Int) = pc n := by decide +kernel
theorem s247 {d : Nat} (h0 : 0 ≤ a) (h1 : a < 128) : Ev X d 247 0 [some (vi a), none, none] [] SH σ = some (some (vi (pc a.toNat)), SH, σ) := by
  have e := f247_pc' a.toNat (by omega)
  rw [Int.toNat_of_nonneg h0] at e
  rw [← e]
  unfold f247
  simp (disch := first | omega | assumption | (simp (disch := omega) only [Int.reduceAdd, xadd_eq, xsub_eq, xmul_eq, xneg_eq, xwr_eq, xwr_nk, xwr_nj, Int.toNat_natCast, x_nc] <;> first | omega | assumption) | fail) only [↓if_pos, ↓if_neg, ↓b247_0, ↓b247_4, ↓b247_24, ↓b247_10, x_bdi, x_bdn, Int.reduceAdd, xadd_eq, xsub_eq, xmul_eq, xneg_eq, xwr_eq, xwr_nk, xwr_nj, Int.toNat_natCast, x_nc]
end PRA
section CNT
variable {X : Nat × (Nat → Int)} {d k : Nat} {σ : xM}
/-- countAll -/
theorem it251 (hk : isArr k) {n : Nat} (hn : σ 100 16 = n) (hn2 : n ≤ 11) (hb : ∀ c, c < n → 0 ≤ σ k c ∧ σ k c < 128) : ∀ (q i : Nat), i + q = n → Ev X (d + 1) 251 4 [some (vr 100), some (vr k), some (vi (isum (fun c => pc (σ k c).toNat) i)), some (vi i)] [] SH σ = some (some (vi (isum (fun c => pc (σ k c).toNat) n)), SH, σ) := by
  intro q
  induction q with
  | zero =>
    intro i e
    obtain rfl : i = n := by omega
    rw [b251_4, if_pos (by omega), b251_27]
  | succ q ih =>
    intro i e
    have ih := ih (i + 1) (by omega)
    have rg := isum_rg (f := fun c => pc (σ k c).toNat) (B := 7) (fun j => pc_rg _) (by omega) i
    have rp := pc_rg (σ k i).toNat
    obtain ⟨b1, b2⟩ := hb i (by omega)
    rw [isum] at ih
    rw [b251_4, if_neg (by omega)]
    simp (disch := first | omega | assumption | (simp (disch := omega) only [Int.reduceAdd, xadd_eq, xsub_eq, xmul_eq, xneg_eq, xwr_eq, xwr_nk, xwr_nj, Int.toNat_natCast, x_nc] <;> first | omega | assumption) | fail) only [↓if_pos, ↓if_neg, ↓b251_0, ↓b251_27, ↓b251_12, ↓b251_19, ↓s247, x_bdi, x_bdn, Int.reduceAdd, xadd_eq, xsub_eq, xmul_eq, xneg_eq, xwr_eq, xwr_nk, xwr_nj, Int.toNat_natCast, x_nc]
    exact ih
theorem s251 (hk : isArr k) (h0 : 0 ≤ σ 100 16) (h1 : σ 100 16 ≤ 11) (hb : ∀ c : Nat, (c : Int) < σ 100 16 → 0 ≤ σ k c ∧ σ k c < 128) : Ev X (d + 1) 251 0 [some (vr 100), some (vr k), none, none] [] SH σ = some (some (vi (isum (fun c => pc (σ k c).toNat) (σ 100 16).toNat)), SH, σ) := by
  rw [b251_0]
  exact it251 hk (n := (σ 100 16).toNat) (by omega) (by omega) (fun c hc => hb c (by omega)) (σ 100 16).toNat 0 (by omega)
theorem isum_congr {f g : Nat → Int} : ∀ n, (∀ i, i < n → f i = g i) → isum f n = isum g n
  | 0, _ => rfl
  | n + 1, h => by
    rw [isum, isum, isum_congr n (fun i hi => h i (by omega)), h n (by omega)]
end CNT
section ABT
variable {X : Nat × (Nat → Int)} {σ : xM} {a : Int}
theorem pr_about (h : Core σ) : Pair X 51 304 [some (vr 0), some (vi a)] [some (vr 100), some (vi a)] σ (Post σ) := by
  obtain ⟨r1, r2, r3, r4⟩ := h.2.2.2.1
  obtain ⟨-, -, g3, -⟩ := h.2.2.2.2.1
  obtain ⟨-, -, q1, -, -, q2, -⟩ := h.2.2.2.2.2.2.1
  obtain ⟨-, -, -, q3, -⟩ := h.2.2.2.2.2.2.2.1
  have q4 := h.2.2.1.2.2.2.1
  have q5 := h.1.2.2.2.2.1
  by_cases c1 : a = 1
  · subst c1
    refine Pair_q0 h (r := isum (fun c => pc (σ 25 c).toNat) (σ 23 0).toNat) (r' := isum (fun c => pc (σ 110 c).toNat) (σ 100 16).toNat) (fun d => ?_) (fun d => ?_) ?_
    · have e := s147 (X := X) (d := d + 98) (σ := σ) (k := 23) (Or.inl rfl) r1 r2 (fun c hc => ⟨(r4 c hc).2.2.2.1, (r4 c hc).2.2.2.2.1⟩)
      simp (disch := first | omega | assumption | (simp (disch := omega) only [Int.reduceAdd, xadd_eq, xsub_eq, xmul_eq, xneg_eq, xwr_eq, xwr_nk, xwr_nj, Int.toNat_natCast, x_nc] <;> first | omega | assumption) | fail) only [↓if_pos, ↓if_neg, ↓b51_0, ↓b51_48, ↓b51_56, ↓b51_64, ↓b51_72, ↓b51_80, ↓b51_88, ↓b51_96, ↓b51_104, ↓b51_112, ↓b51_63, ↓e, x_bdi, x_bdn, Int.reduceAdd, xadd_eq, xsub_eq, xmul_eq, xneg_eq, xwr_eq, xwr_nk, xwr_nj, Int.toNat_natCast, x_nc]
    · have e := s251 (X := X) (d := d + 98) (σ := σ) (k := 110) rfl (by omega) (by omega) (fun c hc => by
        have := r4 c (by omega)
        omega)
      simp (disch := first | omega | assumption | (simp (disch := omega) only [Int.reduceAdd, xadd_eq, xsub_eq, xmul_eq, xneg_eq, xwr_eq, xwr_nk, xwr_nj, Int.toNat_natCast, x_nc] <;> first | omega | assumption) | fail) only [↓if_pos, ↓if_neg, ↓b304_0, ↓b304_48, ↓b304_53, ↓b304_62, ↓b304_67, ↓b304_72, ↓b304_77, ↓b304_82, ↓b304_87, ↓b304_92, ↓b304_61, ↓e, x_bdi, x_bdn, Int.reduceAdd, xadd_eq, xsub_eq, xmul_eq, xneg_eq, xwr_eq, xwr_nk, xwr_nj, Int.toNat_natCast, x_nc]
    · rw [r3]
      exact isum_congr _ (fun i hi => by rw [(r4 i (by omega)).2.2.1])
  · have c9 : a = 0 ∨ a = 2 ∨ a = 3 ∨ a = 4 ∨ a = 5 ∨ a = 6 ∨ a = 7 ∨ (a < 0 ∨ 7 < a) := by omega
    rcases c9 with rfl | rfl | rfl | rfl | rfl | rfl | rfl | c9
    · refine Pair_q0 h (r := σ 23 0) (r' := σ 100 16) (fun d => ?_) (fun d => ?_) r3
      · simp (disch := first | omega | assumption | (simp (disch := omega) only [Int.reduceAdd, xadd_eq, xsub_eq, xmul_eq, xneg_eq, xwr_eq, xwr_nk, xwr_nj, Int.toNat_natCast, x_nc] <;> first | omega | assumption) | fail) only [↓if_pos, ↓if_neg, ↓b51_0, ↓b51_48, ↓b51_56, ↓b51_64, ↓b51_72, ↓b51_80, ↓b51_88, ↓b51_96, ↓b51_104, ↓b51_112, ↓b51_63, x_bdi, x_bdn, Int.reduceAdd, xadd_eq, xsub_eq, xmul_eq, xneg_eq, xwr_eq, xwr_nk, xwr_nj, Int.toNat_natCast, x_nc]
      · simp (disch := first | omega | assumption | (simp (disch := omega) only [Int.reduceAdd, xadd_eq, xsub_eq, xmul_eq, xneg_eq, xwr_eq, xwr_nk, xwr_nj, Int.toNat_natCast, x_nc] <;> first | omega | assumption) | fail) only [↓if_pos, ↓if_neg, ↓b304_0, ↓b304_48, ↓b304_53, ↓b304_62, ↓b304_67, ↓b304_72, ↓b304_77, ↓b304_82, ↓b304_87, ↓b304_92, ↓b304_61, x_bdi, x_bdn, Int.reduceAdd, xadd_eq, xsub_eq, xmul_eq, xneg_eq, xwr_eq, xwr_nk, xwr_nj, Int.toNat_natCast, x_nc]
    · refine Pair_q0 h (r := σ 26 0) (r' := σ 100 17) (fun d => ?_) (fun d => ?_) g3
      · simp (disch := first | omega | assumption | (simp (disch := omega) only [Int.reduceAdd, xadd_eq, xsub_eq, xmul_eq, xneg_eq, xwr_eq, xwr_nk, xwr_nj, Int.toNat_natCast, x_nc] <;> first | omega | assumption) | fail) only [↓if_pos, ↓if_neg, ↓b51_0, ↓b51_48, ↓b51_56, ↓b51_64, ↓b51_72, ↓b51_80, ↓b51_88, ↓b51_96, ↓b51_104, ↓b51_112, ↓b51_63, x_bdi, x_bdn, Int.reduceAdd, xadd_eq, xsub_eq, xmul_eq, xneg_eq, xwr_eq, xwr_nk, xwr_nj, Int.toNat_natCast, x_nc]
      · simp (disch := first | omega | assumption | (simp (disch := omega) only [Int.reduceAdd, xadd_eq, xsub_eq, xmul_eq, xneg_eq, xwr_eq, xwr_nk, xwr_nj, Int.toNat_natCast, x_nc] <;> first | omega | assumption) | fail) only [↓if_pos, ↓if_neg, ↓b304_0, ↓b304_48, ↓b304_53, ↓b304_62, ↓b304_67, ↓b304_72, ↓b304_77, ↓b304_82, ↓b304_87, ↓b304_92, ↓b304_61, x_bdi, x_bdn, Int.reduceAdd, xadd_eq, xsub_eq, xmul_eq, xneg_eq, xwr_eq, xwr_nk, xwr_nj, Int.toNat_natCast, x_nc]
    · refine Pair_q0 h (r := σ 41 1) (r' := σ 100 59) (fun d => ?_) (fun d => ?_) q2
      · simp (disch := first | omega | assumption | (simp (disch := omega) only [Int.reduceAdd, xadd_eq, xsub_eq, xmul_eq, xneg_eq, xwr_eq, xwr_nk, xwr_nj, Int.toNat_natCast, x_nc] <;> first | omega | assumption) | fail) only [↓if_pos, ↓if_neg, ↓b51_0, ↓b51_48, ↓b51_56, ↓b51_64, ↓b51_72, ↓b51_80, ↓b51_88, ↓b51_96, ↓b51_104, ↓b51_112, ↓b51_63, x_bdi, x_bdn, Int.reduceAdd, xadd_eq, xsub_eq, xmul_eq, xneg_eq, xwr_eq, xwr_nk, xwr_nj, Int.toNat_natCast, x_nc]
      · simp (disch := first | omega | assumption | (simp (disch := omega) only [Int.reduceAdd, xadd_eq, xsub_eq, xmul_eq, xneg_eq, xwr_eq, xwr_nk, xwr_nj, Int.toNat_natCast, x_nc] <;> first | omega | assumption) | fail) only [↓if_pos, ↓if_neg, ↓b304_0, ↓b304_48, ↓b304_53, ↓b304_62, ↓b304_67, ↓b304_72, ↓b304_77, ↓b304_82, ↓b304_87, ↓b304_92, ↓b304_61, x_bdi, x_bdn, Int.reduceAdd, xadd_eq, xsub_eq, xmul_eq, xneg_eq, xwr_eq, xwr_nk, xwr_nj, Int.toNat_natCast, x_nc]
    · refine Pair_q0 h (r := σ 41 0) (r' := σ 100 60) (fun d => ?_) (fun d => ?_) q1
      · simp (disch := first | omega | assumption | (simp (disch := omega) only [Int.reduceAdd, xadd_eq, xsub_eq, xmul_eq, xneg_eq, xwr_eq, xwr_nk, xwr_nj, Int.toNat_natCast, x_nc] <;> first | omega | assumption) | fail) only [↓if_pos, ↓if_neg, ↓b51_0, ↓b51_48, ↓b51_56, ↓b51_64, ↓b51_72, ↓b51_80, ↓b51_88, ↓b51_96, ↓b51_104, ↓b51_112, ↓b51_63, x_bdi, x_bdn, Int.reduceAdd, xadd_eq, xsub_eq, xmul_eq, xneg_eq, xwr_eq, xwr_nk, xwr_nj, Int.toNat_natCast, x_nc]
      · simp (disch := first | omega | assumption | (simp (disch := omega) only [Int.reduceAdd, xadd_eq, xsub_eq, xmul_eq, xneg_eq, xwr_eq, xwr_nk, xwr_nj, Int.toNat_natCast, x_nc] <;> first | omega | assumption) | fail) only [↓if_pos, ↓if_neg, ↓b304_0, ↓b304_48, ↓b304_53, ↓b304_62, ↓b304_67, ↓b304_72, ↓b304_77, ↓b304_82, ↓b304_87, ↓b304_92, ↓b304_61, x_bdi, x_bdn, Int.reduceAdd, xadd_eq, xsub_eq, xmul_eq, xneg_eq, xwr_eq, xwr_nk, xwr_nj, Int.toNat_natCast, x_nc]
    · refine Pair_q0 h (r := σ 1 1) (r' := σ 100 1) (fun d => ?_) (fun d => ?_) q5
      · simp (disch := first | omega | assumption | (simp (disch := omega) only [Int.reduceAdd, xadd_eq, xsub_eq, xmul_eq, xneg_eq, xwr_eq, xwr_nk, xwr_nj, Int.toNat_natCast, x_nc] <;> first | omega | assumption) | fail) only [↓if_pos, ↓if_neg, ↓b51_0, ↓b51_48, ↓b51_56, ↓b51_64, ↓b51_72, ↓b51_80, ↓b51_88, ↓b51_96, ↓b51_104, ↓b51_112, ↓b51_63, x_bdi, x_bdn, Int.reduceAdd, xadd_eq, xsub_eq, xmul_eq, xneg_eq, xwr_eq, xwr_nk, xwr_nj, Int.toNat_natCast, x_nc]
      · simp (disch := first | omega | assumption | (simp (disch := omega) only [Int.reduceAdd, xadd_eq, xsub_eq, xmul_eq, xneg_eq, xwr_eq, xwr_nk, xwr_nj, Int.toNat_natCast, x_nc] <;> first | omega | assumption) | fail) only [↓if_pos, ↓if_neg, ↓b304_0, ↓b304_48, ↓b304_53, ↓b304_62, ↓b304_67, ↓b304_72, ↓b304_77, ↓b304_82, ↓b304_87, ↓b304_92, ↓b304_61, x_bdi, x_bdn, Int.reduceAdd, xadd_eq, xsub_eq, xmul_eq, xneg_eq, xwr_eq, xwr_nk, xwr_nj, Int.toNat_natCast, x_nc]
    · refine Pair_q0 h (r := σ 47 1) (r' := σ 100 69) (fun d => ?_) (fun d => ?_) q3
      · simp (disch := first | omega | assumption | (simp (disch := omega) only [Int.reduceAdd, xadd_eq, xsub_eq, xmul_eq, xneg_eq, xwr_eq, xwr_nk, xwr_nj, Int.toNat_natCast, x_nc] <;> first | omega | assumption) | fail) only [↓if_pos, ↓if_neg, ↓b51_0, ↓b51_48, ↓b51_56, ↓b51_64, ↓b51_72, ↓b51_80, ↓b51_88, ↓b51_96, ↓b51_104, ↓b51_112, ↓b51_63, x_bdi, x_bdn, Int.reduceAdd, xadd_eq, xsub_eq, xmul_eq, xneg_eq, xwr_eq, xwr_nk, xwr_nj, Int.toNat_natCast, x_nc]
      · simp (disch := first | omega | assumption | (simp (disch := omega) only [Int.reduceAdd, xadd_eq, xsub_eq, xmul_eq, xneg_eq, xwr_eq, xwr_nk, xwr_nj, Int.toNat_natCast, x_nc] <;> first | omega | assumption) | fail) only [↓if_pos, ↓if_neg, ↓b304_0, ↓b304_48, ↓b304_53, ↓b304_62, ↓b304_67, ↓b304_72, ↓b304_77, ↓b304_82, ↓b304_87, ↓b304_92, ↓b304_61, x_bdi, x_bdn, Int.reduceAdd, xadd_eq, xsub_eq, xmul_eq, xneg_eq, xwr_eq, xwr_nk, xwr_nj, Int.toNat_natCast, x_nc]
    · refine Pair_q0 h (r := σ 10 3) (r' := σ 100 37) (fun d => ?_) (fun d => ?_) q4
      · simp (disch := first | omega | assumption | (simp (disch := omega) only [Int.reduceAdd, xadd_eq, xsub_eq, xmul_eq, xneg_eq, xwr_eq, xwr_nk, xwr_nj, Int.toNat_natCast, x_nc] <;> first | omega | assumption) | fail) only [↓if_pos, ↓if_neg, ↓b51_0, ↓b51_48, ↓b51_56, ↓b51_64, ↓b51_72, ↓b51_80, ↓b51_88, ↓b51_96, ↓b51_104, ↓b51_112, ↓b51_63, x_bdi, x_bdn, Int.reduceAdd, xadd_eq, xsub_eq, xmul_eq, xneg_eq, xwr_eq, xwr_nk, xwr_nj, Int.toNat_natCast, x_nc]
      · simp (disch := first | omega | assumption | (simp (disch := omega) only [Int.reduceAdd, xadd_eq, xsub_eq, xmul_eq, xneg_eq, xwr_eq, xwr_nk, xwr_nj, Int.toNat_natCast, x_nc] <;> first | omega | assumption) | fail) only [↓if_pos, ↓if_neg, ↓b304_0, ↓b304_48, ↓b304_53, ↓b304_62, ↓b304_67, ↓b304_72, ↓b304_77, ↓b304_82, ↓b304_87, ↓b304_92, ↓b304_61, x_bdi, x_bdn, Int.reduceAdd, xadd_eq, xsub_eq, xmul_eq, xneg_eq, xwr_eq, xwr_nk, xwr_nj, Int.toNat_natCast, x_nc]
    · refine Pair_q0 h (r := -1) (r' := -1) (fun d => ?_) (fun d => ?_) rfl
      · simp (disch := first | omega | assumption | (simp (disch := omega) only [Int.reduceAdd, xadd_eq, xsub_eq, xmul_eq, xneg_eq, xwr_eq, xwr_nk, xwr_nj, Int.toNat_natCast, x_nc] <;> first | omega | assumption) | fail) only [↓if_pos, ↓if_neg, ↓b51_0, ↓b51_48, ↓b51_56, ↓b51_64, ↓b51_72, ↓b51_80, ↓b51_88, ↓b51_96, ↓b51_104, ↓b51_112, ↓b51_63, x_bdi, x_bdn, Int.reduceAdd, xadd_eq, xsub_eq, xmul_eq, xneg_eq, xwr_eq, xwr_nk, xwr_nj, Int.toNat_natCast, x_nc]
      · simp (disch := first | omega | assumption | (simp (disch := omega) only [Int.reduceAdd, xadd_eq, xsub_eq, xmul_eq, xneg_eq, xwr_eq, xwr_nk, xwr_nj, Int.toNat_natCast, x_nc] <;> first | omega | assumption) | fail) only [↓if_pos, ↓if_neg, ↓b304_0, ↓b304_48, ↓b304_53, ↓b304_62, ↓b304_67, ↓b304_72, ↓b304_77, ↓b304_82, ↓b304_87, ↓b304_92, ↓b304_61, x_bdi, x_bdn, Int.reduceAdd, xadd_eq, xsub_eq, xmul_eq, xneg_eq, xwr_eq, xwr_nk, xwr_nj, Int.toNat_natCast, x_nc]
theorem pr_later (h : Core σ) : Pair X 36 282 [some (vr 0), some (vi a)] [some (vr 100), some (vi a)] σ (Post σ) := by
  have h' := h
  obtain ⟨h1, h2, h3, h4, h5, h6, ⟨s1, s2, s3, s4, s5, s6, s7⟩, h8, h9, h10⟩ := h'
  by_cases c : 0 ≤ a ∧ a ≤ 1000 ∧ σ 41 0 + a ≤ 100000
  · have e0 : xadd (σ 41 0) a = σ 41 0 + a := xadd_eq (by omega) (by omega)
    refine ⟨σ 41 0 + a, xwr σ 41 0 (σ 41 0 + a), xwr (xwr σ 41 0 (σ 41 0 + a)) 100 60 (σ 41 0 + a), fun d => ?_, fun d => ?_, ?_⟩
    · refine Eq.trans s36 ?_
      unfold f36 g36 f153 g153
      simp (disch := first | omega | assumption | (simp (disch := omega) only [Int.reduceAdd, xadd_eq, xsub_eq, xmul_eq, xneg_eq, xwr_eq, xwr_nk, xwr_nj, Int.toNat_natCast, x_nc] <;> first | omega | assumption) | fail) only [↓if_pos, ↓if_neg, e0, Int.reduceAdd, xadd_eq, xsub_eq, xmul_eq, xneg_eq, xwr_eq, xwr_nk, xwr_nj, Int.toNat_natCast, x_nc]
    · refine Eq.trans s282 ?_
      unfold f282 g282
      rw [xwr_nk (by decide), s3, e0]
      simp (disch := first | omega | assumption | (simp (disch := omega) only [Int.reduceAdd, xadd_eq, xsub_eq, xmul_eq, xneg_eq, xwr_eq, xwr_nk, xwr_nj, Int.toNat_natCast, x_nc] <;> first | omega | assumption) | fail) only [↓if_pos, ↓if_neg, Int.reduceAdd, xadd_eq, xsub_eq, xmul_eq, xneg_eq, xwr_eq, xwr_nk, xwr_nj, Int.toNat_natCast, x_nc]
    · refine ⟨⟨Ctape_eqp (eqp_wr rfl (eqp_wr rfl eqp_rf)) h1, Cform_eqp (eqp_wr rfl (eqp_wr rfl eqp_rf)) h2, Cwant_eqp (eqp_wr rfl (eqp_wr rfl eqp_rf)) h3, Crow_eqp (eqp_wr rfl (eqp_wr rfl eqp_rf)) h4, Cgoal_eqp (eqp_wr rfl (eqp_wr rfl eqp_rf)) h5, Cbox_eqp (eqp_wr rfl (eqp_wr rfl eqp_rf)) h6, ?_, Cact_eqp (eqp_wr rfl (eqp_wr rfl eqp_rf)) h8, Crd_eqp (eqp_wr rfl (eqp_wr rfl eqp_rf)) h9, Cmis_eqp (eqp_wr rfl (eqp_wr rfl eqp_rf)) h10⟩, Or.inl (eqp_wr rfl (eqp_wr rfl eqp_rf)), Or.inl (eqp_wr rfl (eqp_wr rfl eqp_rf))⟩
      unfold Csee
      simp (disch := decide) only [xwr_eq, xwr_nk, xwr_nj]
      exact ⟨by omega, by omega, trivial, s4, s5, s6, s7⟩
  · have e0 : f153 σ a = -1 ∧ g153 σ a = σ := by
      unfold f153 g153
      by_cases c1 : a < 0
      · rw [if_pos c1, if_pos c1]; exact ⟨rfl, rfl⟩
      · by_cases c2 : 1000 < a
        · rw [if_neg c1, if_neg c1, if_pos c2, if_pos c2]; exact ⟨rfl, rfl⟩
        · rw [xadd_eq (by omega) (by omega), if_neg c1, if_neg c1, if_neg c2, if_neg c2, if_neg (by omega), if_neg (by omega)]; exact ⟨rfl, rfl⟩
    have e1 : f282 σ a = -1 ∧ g282 σ a = σ := by
      unfold f282 g282
      rw [s3]
      by_cases c1 : a < 0
      · rw [if_pos c1, if_pos c1]; exact ⟨rfl, rfl⟩
      · by_cases c2 : 1000 < a
        · rw [if_neg c1, if_neg c1, if_pos c2, if_pos c2]; exact ⟨rfl, rfl⟩
        · rw [xadd_eq (by omega) (by omega), if_neg c1, if_neg c1, if_neg c2, if_neg c2, if_neg (by omega), if_neg (by omega)]; exact ⟨rfl, rfl⟩
    refine Pair_q0 (r := -1) (r' := -1) h (fun d => ?_) (fun d => ?_) rfl
    · refine Eq.trans s36 ?_
      unfold f36 g36
      rw [e0.1, e0.2]
    · refine Eq.trans s282 ?_
      rw [e1.1, e1.2]
end ABT
