/-! PAIRS: wins, in the model -/
section WIM
variable {X : Nat × (Nat → Int)} {σ τ : xM} {n : Nat} {a A : Int}
theorem it296a (h : Core σ) (c0 : chg [138] [] σ τ) (hg : Gru (σ 102) (τ 138)) (hn : σ 23 0 = n) : ∀ (q i : Nat), i + q = n → ∀ (o4 o5 : Option xV) d, Ev X (d + 5) 296 19 [some (vr 100), some (vi a), some (vi (xf (gvC σ) i)), some (vi i), o4, o5] [] SH τ = Ev X (d + 5) 296 41 [some (vr 100), some (vi a), some (vi (xf (gvC σ) n)), some (vi n), o4, o5] [] SH τ := by
  have r2 := h.2.2.2.1.2.1
  have t16 : τ 100 16 = n := by
    rw [c0 100 16 rfl (fun _ => absurd ‹_› (by decide)), h.2.2.2.1.2.2.1]
    exact hn
  intro q
  induction q with
  | zero =>
    intro i e o4 o5 d
    obtain rfl : i = n := by omega
    rw [b296_19, if_pos (by omega)]
  | succ q ih =>
    intro i e o4 o5 d
    have ih := ih (i + 1) (by omega) o4 o5 d
    have s := s295 (X := X) h c0 hg (c := i) (by omega)
    rw [xf] at ih
    rw [b296_19, if_neg (by omega)]
    simp (disch := first | omega | assumption | (simp (disch := omega) only [ite_self, Int.reduceAdd, xadd_eq, xsub_eq, xmul_eq, xneg_eq, xwr_eq, xwr_nk, xwr_nj, Int.toNat_natCast, x_nc] <;> first | omega | assumption) | fail) only [↓if_pos, ↓if_neg, ↓b296_0, ↓b296_9, ↓b296_4, ↓b296_11, ↓b296_15, ↓b296_27, ↓b296_47, ↓b296_45, ↓b296_33, ↓b296_49, ↓b296_177, ↓b296_57, ↓b296_171, ↓b296_66, ↓b296_76, ↓b296_82, ↓b296_79, ↓b296_85, ↓b296_92, ↓b296_165, ↓b296_106, ↓b296_117, ↓b296_131, ↓b296_137, ↓b296_152, ↓b296_149, ↓b296_160, ↓b296_156, ↓b296_164, ↓s, x_bdi, x_bdn, ite_self, Int.reduceAdd, xadd_eq, xsub_eq, xmul_eq, xneg_eq, xwr_eq, xwr_nk, xwr_nj, Int.toNat_natCast, x_nc]
    exact ih
/-- the inner search: a way found, or the next cell -/
theorem it296k (h : Core σ) (c0 : chg [138] [] σ τ) (hg : Gru (σ 102) (τ 138)) {i : Nat} (hi : (i : Int) < σ 23 0) (hA : 0 ≤ A ∧ A < 8) (ha : a = 0 ∨ a = 1) : ∀ (q k : Nat), k + q = 20 → ∀ (o5 : Option xV), ∃ (o4' o5' : Option xV), ∀ d, Ev X (d + 5) 296 85 [some (vr 100), some (vi a), some (vi A), some (vi i), some (vi k), o5] [] SH τ = if srch (σ 102) (tkP σ (σ 25 i) (xxor A (gvC σ i))) q = -1 then Ev X (d + 5) 296 171 [some (vr 100), some (vi a), some (vi A), some (vi i), o4', o5'] [] SH τ else some (some (vi (if a = 0 then (i : Int) else srch (σ 102) (tkP σ (σ 25 i) (xxor A (gvC σ i))) q)), SH, τ) := by
  have hF := h.2.1
  have qr := h.2.2.2.1.2.2.2 i hi
  have r2 := h.2.2.2.1.2.1
  have t102 : τ 102 = σ 102 := chg_row c0 (fun _ => rfl) rfl
  have t110 : τ 110 i = σ 25 i := by rw [chg_row c0 (k := 110) (fun _ => rfl) rfl]; exact qr.2.2.1
  have s := s295 (X := X) h c0 hg hi
  have g8 := gvC_rg h hi
  have x1 := x8I hA.1 hA.2 g8.1 g8.2
  intro q
  induction q with
  | zero =>
    intro k e o5
    obtain rfl : k = 20 := by omega
    refine ⟨some (vi 20), o5, fun d => ?_⟩
    rw [b296_85, if_pos (by omega), if_pos (show srch (σ 102) (tkP σ (σ 25 i) (xxor A (gvC σ i))) 0 = -1 from rfl)]
    rfl
  | succ q ih =>
    intro k e o5
    obtain ⟨o4', o5', ih⟩ := ih (k + 1) (by omega) (some (vi (σ 102 k)))
    have wk := hF.2.1.1 k (by omega)
    have tk : τ 102 k = σ 102 k := by rw [t102]
    by_cases p : σ 102 k ≠ 0 ∧ tkP σ (σ 25 i) (xxor A (gvC σ i)) (σ 102 k)
    · have sy := srch_y (q := q) e p
      obtain ⟨p0, p1, p2, p3⟩ := p
      have u := Gru_uq (n := 128) (fun b hb => Gru_C hF.2.2.2 hb) (fun b hb => Gru_C hg hb) (σ 102 k).toNat (by omega)
      have u8 := Gru_8 hF (σ 102 k).toNat (by omega)
      have x0 := (x8I x1.1 x1.2.1 u8.1 u8.2).2.2.mpr p3.symm
      rw [u] at x0
      refine ⟨none, none, fun d => ?_⟩
      rw [sy, if_neg (by omega)]
      have k2 := xdiv2 (j := k) (by omega)
      rcases ha with rfl | rfl
      · rw [if_pos rfl, b296_85, if_neg (by omega)]
        simp (disch := first | omega | assumption | (simp (disch := omega) only [ite_self, Int.reduceAdd, xadd_eq, xsub_eq, xmul_eq, xneg_eq, xwr_eq, xwr_nk, xwr_nj, Int.toNat_natCast, x_nc, tk, t110, x0] <;> first | omega | assumption) | fail) only [↓if_pos, ↓if_neg, ↓b296_0, ↓b296_9, ↓b296_4, ↓b296_11, ↓b296_15, ↓b296_41, ↓b296_27, ↓b296_47, ↓b296_45, ↓b296_33, ↓b296_177, ↓b296_57, ↓b296_171, ↓b296_66, ↓b296_76, ↓b296_82, ↓b296_79, ↓b296_92, ↓b296_165, ↓b296_106, ↓b296_117, ↓b296_131, ↓b296_137, ↓b296_152, ↓b296_149, ↓b296_160, ↓b296_156, ↓b296_164, tk, t110, ↓s, x0, x_bdi, x_bdn, ite_self, Int.reduceAdd, xadd_eq, xsub_eq, xmul_eq, xneg_eq, xwr_eq, xwr_nk, xwr_nj, Int.toNat_natCast, x_nc]
      · rw [if_neg (by decide), b296_85, if_neg (by omega)]
        simp (disch := first | omega | assumption | (simp (disch := omega) only [ite_self, Int.reduceAdd, xadd_eq, xsub_eq, xmul_eq, xneg_eq, xwr_eq, xwr_nk, xwr_nj, Int.toNat_natCast, x_nc, tk, t110, x0] <;> first | omega | assumption) | fail) only [↓if_pos, ↓if_neg, ↓b296_0, ↓b296_9, ↓b296_4, ↓b296_11, ↓b296_15, ↓b296_41, ↓b296_27, ↓b296_47, ↓b296_45, ↓b296_33, ↓b296_177, ↓b296_57, ↓b296_171, ↓b296_66, ↓b296_76, ↓b296_82, ↓b296_79, ↓b296_92, ↓b296_165, ↓b296_106, ↓b296_117, ↓b296_131, ↓b296_137, ↓b296_152, ↓b296_149, ↓b296_160, ↓b296_156, ↓b296_164, tk, t110, ↓s, x0, k2, x_bdi, x_bdn, ite_self, Int.reduceAdd, xadd_eq, xsub_eq, xmul_eq, xneg_eq, xwr_eq, xwr_nk, xwr_nj, Int.toNat_natCast, x_nc]
    · have sn := srch_n (q := q) e p
      refine ⟨o4', o5', fun d => ?_⟩
      rw [sn]
      refine Eq.trans ?_ (ih d)
      rw [b296_85, if_neg (by omega)]
      by_cases p0 : σ 102 k = 0
      · simp (disch := first | omega | assumption | (simp (disch := omega) only [ite_self, Int.reduceAdd, xadd_eq, xsub_eq, xmul_eq, xneg_eq, xwr_eq, xwr_nk, xwr_nj, Int.toNat_natCast, x_nc, tk] <;> first | omega | assumption) | fail) only [↓if_pos, ↓if_neg, ↓b296_0, ↓b296_9, ↓b296_4, ↓b296_11, ↓b296_15, ↓b296_41, ↓b296_27, ↓b296_47, ↓b296_45, ↓b296_33, ↓b296_177, ↓b296_57, ↓b296_171, ↓b296_66, ↓b296_76, ↓b296_82, ↓b296_79, ↓b296_92, ↓b296_165, ↓b296_106, ↓b296_117, ↓b296_131, ↓b296_137, ↓b296_152, ↓b296_149, ↓b296_160, ↓b296_156, ↓b296_164, tk, x_bdi, x_bdn, ite_self, Int.reduceAdd, xadd_eq, xsub_eq, xmul_eq, xneg_eq, xwr_eq, xwr_nk, xwr_nj, Int.toNat_natCast, x_nc]
      · by_cases p1 : σ 102 k = σ 25 i
        · simp (disch := first | omega | assumption | (simp (disch := omega) only [ite_self, Int.reduceAdd, xadd_eq, xsub_eq, xmul_eq, xneg_eq, xwr_eq, xwr_nk, xwr_nj, Int.toNat_natCast, x_nc, tk, t110] <;> first | omega | assumption) | fail) only [↓if_pos, ↓if_neg, ↓b296_0, ↓b296_9, ↓b296_4, ↓b296_11, ↓b296_15, ↓b296_41, ↓b296_27, ↓b296_47, ↓b296_45, ↓b296_33, ↓b296_177, ↓b296_57, ↓b296_171, ↓b296_66, ↓b296_76, ↓b296_82, ↓b296_79, ↓b296_92, ↓b296_165, ↓b296_106, ↓b296_117, ↓b296_131, ↓b296_137, ↓b296_152, ↓b296_149, ↓b296_160, ↓b296_156, ↓b296_164, tk, t110, x_bdi, x_bdn, ite_self, Int.reduceAdd, xadd_eq, xsub_eq, xmul_eq, xneg_eq, xwr_eq, xwr_nk, xwr_nj, Int.toNat_natCast, x_nc]
        · by_cases p2 : xand (σ 102 k) (xxor (σ 25 i) (-1)) = 0
          · have p3 : σ 9 (σ 102 k).toNat ≠ xxor A (gvC σ i) := fun y => p ⟨p0, p1, p2, y⟩
            have u := Gru_uq (n := 128) (fun b hb => Gru_C hF.2.2.2 hb) (fun b hb => Gru_C hg hb) (σ 102 k).toNat (by omega)
            have u8 := Gru_8 hF (σ 102 k).toNat (by omega)
            have x0 : ¬ xxor (xxor A (gvC σ i)) (σ 9 (σ 102 k).toNat) = 0 := fun y => p3 ((x8I x1.1 x1.2.1 u8.1 u8.2).2.2.mp y).symm
            rw [u] at x0
            simp (disch := first | omega | assumption | (simp (disch := omega) only [ite_self, Int.reduceAdd, xadd_eq, xsub_eq, xmul_eq, xneg_eq, xwr_eq, xwr_nk, xwr_nj, Int.toNat_natCast, x_nc, tk, t110] <;> first | omega | assumption) | fail) only [↓if_pos, ↓if_neg, ↓b296_0, ↓b296_9, ↓b296_4, ↓b296_11, ↓b296_15, ↓b296_41, ↓b296_27, ↓b296_47, ↓b296_45, ↓b296_33, ↓b296_177, ↓b296_57, ↓b296_171, ↓b296_66, ↓b296_76, ↓b296_82, ↓b296_79, ↓b296_92, ↓b296_165, ↓b296_106, ↓b296_117, ↓b296_131, ↓b296_137, ↓b296_152, ↓b296_149, ↓b296_160, ↓b296_156, ↓b296_164, tk, t110, ↓s, x_bdi, x_bdn, ite_self, Int.reduceAdd, xadd_eq, xsub_eq, xmul_eq, xneg_eq, xwr_eq, xwr_nk, xwr_nj, Int.toNat_natCast, x_nc]
          · simp (disch := first | omega | assumption | (simp (disch := omega) only [ite_self, Int.reduceAdd, xadd_eq, xsub_eq, xmul_eq, xneg_eq, xwr_eq, xwr_nk, xwr_nj, Int.toNat_natCast, x_nc, tk, t110] <;> first | omega | assumption) | fail) only [↓if_pos, ↓if_neg, ↓b296_0, ↓b296_9, ↓b296_4, ↓b296_11, ↓b296_15, ↓b296_41, ↓b296_27, ↓b296_47, ↓b296_45, ↓b296_33, ↓b296_177, ↓b296_57, ↓b296_171, ↓b296_66, ↓b296_76, ↓b296_82, ↓b296_79, ↓b296_92, ↓b296_165, ↓b296_106, ↓b296_117, ↓b296_131, ↓b296_137, ↓b296_152, ↓b296_149, ↓b296_160, ↓b296_156, ↓b296_164, tk, t110, x_bdi, x_bdn, ite_self, Int.reduceAdd, xadd_eq, xsub_eq, xmul_eq, xneg_eq, xwr_eq, xwr_nk, xwr_nj, Int.toNat_natCast, x_nc]
theorem it296b (h : Core σ) (c0 : chg [138] [] σ τ) (hg : Gru (σ 102) (τ 138)) (hn : σ 23 0 = n) (hA : 0 ≤ A ∧ A < 8) (ha : a = 0 ∨ a = 1) : ∀ (q i : Nat), i + q = n → ∀ (o4 o5 : Option xV) d, Ev X (d + 5) 296 49 [some (vr 100), some (vi a), some (vi A), some (vi i), o4, o5] [] SH τ = some (some (vi (fstW σ A a n q)), SH, τ) := by
  have r2 := h.2.2.2.1.2.1
  have hF := h.2.1
  have t16 : τ 100 16 = n := by
    rw [c0 100 16 rfl (fun _ => absurd ‹_› (by decide)), h.2.2.2.1.2.2.1]
    exact hn
  have t102 : τ 102 = σ 102 := chg_row c0 (fun _ => rfl) rfl
  intro q
  induction q with
  | zero =>
    intro i e o4 o5 d
    obtain rfl : i = n := by omega
    rw [b296_49, if_pos (by omega), b296_177]
    rfl
  | succ q ih =>
    intro i e o4 o5 d
    have qr := h.2.2.2.1.2.2.2 i (by omega)
    have t107 : τ 107 i = σ 24 i := by rw [chg_row c0 (k := 107) (fun _ => rfl) rfl]; exact qr.1
    have t110 : τ 110 i = σ 25 i := by rw [chg_row c0 (k := 110) (fun _ => rfl) rfl]; exact qr.2.2.1
    obtain ⟨b, hb⟩ : ∃ b : Nat, σ 25 i = b := ⟨(σ 25 i).toNat, by omega⟩
    have ei : n - (q + 1) = i := by omega
    rw [fstW, ei]
    rw [b296_49, if_neg (by omega)]
    have t110b : τ 110 i = (b : Int) := by rw [t110]; exact hb
    by_cases z : σ 24 i = 0
    · have dm : dgW σ A i = -1 := by unfold dgW; rw [if_pos (Or.inl z)]
      rw [if_neg (fun y => y dm)]
      have ih := ih (i + 1) (by omega) o4 o5 d
      simp (disch := first | omega | assumption | (simp (disch := omega) only [ite_self, Int.reduceAdd, xadd_eq, xsub_eq, xmul_eq, xneg_eq, xwr_eq, xwr_nk, xwr_nj, Int.toNat_natCast, x_nc] <;> first | omega | assumption) | fail) only [↓if_pos, ↓if_neg, ↓b296_0, ↓b296_9, ↓b296_4, ↓b296_11, ↓b296_15, ↓b296_41, ↓b296_27, ↓b296_47, ↓b296_45, ↓b296_33, ↓b296_177, ↓b296_57, ↓b296_171, ↓b296_66, ↓b296_76, ↓b296_82, ↓b296_79, ↓b296_92, ↓b296_165, ↓b296_106, ↓b296_117, ↓b296_131, ↓b296_137, ↓b296_152, ↓b296_149, ↓b296_160, ↓b296_156, ↓b296_164, x_bdi, x_bdn, ite_self, Int.reduceAdd, xadd_eq, xsub_eq, xmul_eq, xneg_eq, xwr_eq, xwr_nk, xwr_nj, Int.toNat_natCast, x_nc]
      exact ih
    · by_cases w : isWy (σ 102) b
      · have dm : dgW σ A i = srch (σ 102) (tkP σ (σ 25 i) (xxor A (gvC σ i))) 20 := by
          unfold dgW
          rw [if_neg (fun y => y.elim z (fun y => y (by rw [hb, Int.toNat_natCast]; exact w)))]
        have s := s294y (X := X) (σ := τ) (b := b) (by rw [t102]; exact hF.2.1) (by rw [t102]; exact w)
        obtain ⟨o4', o5', kk⟩ := it296k (X := X) (a := a) (A := A) h c0 hg (i := i) (by omega) hA ha 20 0 (by omega) o5
        have kk : ∀ d, Ev X (d + 5) 296 85 [some (vr 100), some (vi a), some (vi A), some (vi i), some (vi 0), o5] [] SH τ = _ := kk
        have e1 : Ev X (d + 5) 296 57 [some (vr 100), some (vi a), some (vi A), some (vi i), o4, o5] [] SH τ = Ev X (d + 5) 296 85 [some (vr 100), some (vi a), some (vi A), some (vi i), some (vi 0), o5] [] SH τ := by
          simp (disch := first | omega | assumption | (simp (disch := omega) only [ite_self, Int.reduceAdd, xadd_eq, xsub_eq, xmul_eq, xneg_eq, xwr_eq, xwr_nk, xwr_nj, Int.toNat_natCast, x_nc, t110b] <;> first | omega | assumption) | fail) only [↓if_pos, ↓if_neg, ↓b296_0, ↓b296_9, ↓b296_4, ↓b296_11, ↓b296_15, ↓b296_41, ↓b296_27, ↓b296_47, ↓b296_45, ↓b296_33, ↓b296_177, ↓b296_57, ↓b296_171, ↓b296_66, ↓b296_76, ↓b296_82, ↓b296_79, ↓b296_92, ↓b296_165, ↓b296_106, ↓b296_117, ↓b296_131, ↓b296_137, ↓b296_152, ↓b296_149, ↓b296_160, ↓b296_156, ↓b296_164, t110b, ↓s, s, x_bdi, x_bdn, ite_self, Int.reduceAdd, xadd_eq, xsub_eq, xmul_eq, xneg_eq, xwr_eq, xwr_nk, xwr_nj, Int.toNat_natCast, x_nc]
        refine e1.trans ((kk d).trans ?_)
        rw [dm]
        by_cases y : srch (σ 102) (tkP σ (σ 25 i) (xxor A (gvC σ i))) 20 = -1
        · rw [if_pos y, if_neg (fun u => u y), b296_171, xadd_eq (by omega) (by omega)]
          exact ih (i + 1) (by omega) o4' o5' d
        · rw [if_neg y, if_pos y]
      · have dm : dgW σ A i = -1 := by
          unfold dgW
          rw [hb, Int.toNat_natCast, if_pos (Or.inr w)]
        have s := s294n (X := X) (σ := τ) (b := b) (by rw [t102]; exact hF.2.1) (by rw [t102]; exact w)
        rw [if_neg (fun y => y dm)]
        have ih := ih (i + 1) (by omega) o4 o5 d
        simp (disch := first | omega | assumption | (simp (disch := omega) only [ite_self, Int.reduceAdd, xadd_eq, xsub_eq, xmul_eq, xneg_eq, xwr_eq, xwr_nk, xwr_nj, Int.toNat_natCast, x_nc, t110b] <;> first | omega | assumption) | fail) only [↓if_pos, ↓if_neg, ↓b296_0, ↓b296_9, ↓b296_4, ↓b296_11, ↓b296_15, ↓b296_41, ↓b296_27, ↓b296_47, ↓b296_45, ↓b296_33, ↓b296_177, ↓b296_57, ↓b296_171, ↓b296_66, ↓b296_76, ↓b296_82, ↓b296_79, ↓b296_92, ↓b296_165, ↓b296_106, ↓b296_117, ↓b296_131, ↓b296_137, ↓b296_152, ↓b296_149, ↓b296_160, ↓b296_156, ↓b296_164, t110b, ↓s, s, x_bdi, x_bdn, ite_self, Int.reduceAdd, xadd_eq, xsub_eq, xmul_eq, xneg_eq, xwr_eq, xwr_nk, xwr_nj, Int.toNat_natCast, x_nc]
        exact ih
theorem pr_wins (h : Core σ) : Pair X 44 296 [some (vr 0), some (vi a), none, none, none] [some (vr 100), some (vi a), none, none, none, none] σ (Post σ) := by
  by_cases ha : a < 0 ∨ 1 < a
  · refine Pair_q0 (r := -1) (r' := -1) h (fun d => ?_) (fun d => ?_) rfl
    · simp (disch := first | omega | assumption | (simp (disch := omega) only [ite_self, Int.reduceAdd, xadd_eq, xsub_eq, xmul_eq, xneg_eq, xwr_eq, xwr_nk, xwr_nj, Int.toNat_natCast, x_nc] <;> first | omega | assumption) | fail) only [↓if_pos, ↓if_neg, ↓b44_0, ↓b44_9, ↓b44_4, ↓b44_11, ↓b44_40, ↓b44_26, ↓b44_46, ↓b44_44, ↓b44_32, ↓b44_123, ↓b44_59, ↓b44_97, ↓b44_71, ↓b44_98, ↓b44_90, ↓b44_117, ↓b44_106, ↓b44_94, ↓b44_114, ↓b44_110, ↓b44_116, x_bdi, x_bdn, ite_self, Int.reduceAdd, xadd_eq, xsub_eq, xmul_eq, xneg_eq, xwr_eq, xwr_nk, xwr_nj, Int.toNat_natCast, x_nc]
    · simp (disch := first | omega | assumption | (simp (disch := omega) only [ite_self, Int.reduceAdd, xadd_eq, xsub_eq, xmul_eq, xneg_eq, xwr_eq, xwr_nk, xwr_nj, Int.toNat_natCast, x_nc] <;> first | omega | assumption) | fail) only [↓if_pos, ↓if_neg, ↓b296_0, ↓b296_9, ↓b296_4, ↓b296_11, ↓b296_15, ↓b296_41, ↓b296_27, ↓b296_47, ↓b296_45, ↓b296_33, ↓b296_177, ↓b296_57, ↓b296_171, ↓b296_66, ↓b296_76, ↓b296_82, ↓b296_79, ↓b296_92, ↓b296_165, ↓b296_106, ↓b296_117, ↓b296_131, ↓b296_137, ↓b296_152, ↓b296_149, ↓b296_160, ↓b296_156, ↓b296_164, x_bdi, x_bdn, ite_self, Int.reduceAdd, xadd_eq, xsub_eq, xmul_eq, xneg_eq, xwr_eq, xwr_nk, xwr_nj, Int.toNat_natCast, x_nc]
  · have ha2 : a = 0 ∨ a = 1 := by omega
    have r := h.2.2.2.1
    obtain ⟨n, hn⟩ : ∃ n : Nat, σ 23 0 = n := ⟨(σ 23 0).toNat, by have := r.1; omega⟩
    obtain ⟨τ, s1, c0, hg⟩ := s293 (X := X) (σ := σ) h.2.1.2.1
    have l1 := it44a (X := X) (a := a) h hn n 0 (by omega) none
    have m1 := it296a (X := X) (a := a) h c0 hg hn n 0 (by omega) none none
    have xr := xf_rg h n (by omega)
    have l1 : ∀ d, Ev X (d + 5) 44 15 [some (vr 0), some (vi a), some (vi 0), some (vi 0), none] [] SH σ = _ := l1
    have m1 : ∀ d, Ev X (d + 5) 296 19 [some (vr 100), some (vi a), some (vi 0), some (vi 0), none, none] [] SH τ = _ := m1
    have e1 : ∀ d, Ev X (d + 100) 44 0 [some (vr 0), some (vi a), none, none, none] [] SH σ = Ev X (d + 100) 44 40 [some (vr 0), some (vi a), some (vi (xf (gvC σ) n)), some (vi n), none] [] SH σ := by
      intro d
      refine Eq.trans ?_ (l1 (d + 95))
      simp (disch := first | omega | assumption | (simp (disch := omega) only [ite_self, Int.reduceAdd, xadd_eq, xsub_eq, xmul_eq, xneg_eq, xwr_eq, xwr_nk, xwr_nj, Int.toNat_natCast, x_nc] <;> first | omega | assumption) | fail) only [↓if_pos, ↓if_neg, ↓b44_0, ↓b44_9, ↓b44_4, ↓b44_11, ↓b44_40, ↓b44_26, ↓b44_46, ↓b44_44, ↓b44_32, ↓b44_123, ↓b44_59, ↓b44_97, ↓b44_71, ↓b44_98, ↓b44_90, ↓b44_117, ↓b44_106, ↓b44_94, ↓b44_114, ↓b44_110, ↓b44_116, x_bdi, x_bdn, ite_self, Int.reduceAdd, xadd_eq, xsub_eq, xmul_eq, xneg_eq, xwr_eq, xwr_nk, xwr_nj, Int.toNat_natCast, x_nc]
    have e2 : ∀ d, Ev X (d + 100) 296 0 [some (vr 100), some (vi a), none, none, none, none] [] SH σ = Ev X (d + 100) 296 41 [some (vr 100), some (vi a), some (vi (xf (gvC σ) n)), some (vi n), none, none] [] SH τ := by
      intro d
      refine Eq.trans ?_ (m1 (d + 95))
      simp (disch := first | omega | assumption | (simp (disch := omega) only [ite_self, Int.reduceAdd, xadd_eq, xsub_eq, xmul_eq, xneg_eq, xwr_eq, xwr_nk, xwr_nj, Int.toNat_natCast, x_nc] <;> first | omega | assumption) | fail) only [↓if_pos, ↓if_neg, ↓b296_0, ↓b296_9, ↓b296_4, ↓b296_11, ↓b296_15, ↓b296_41, ↓b296_27, ↓b296_47, ↓b296_45, ↓b296_33, ↓b296_177, ↓b296_57, ↓b296_171, ↓b296_66, ↓b296_76, ↓b296_82, ↓b296_79, ↓b296_92, ↓b296_165, ↓b296_106, ↓b296_117, ↓b296_131, ↓b296_137, ↓b296_152, ↓b296_149, ↓b296_160, ↓b296_156, ↓b296_164, ↓s1, x_bdi, x_bdn, ite_self, Int.reduceAdd, xadd_eq, xsub_eq, xmul_eq, xneg_eq, xwr_eq, xwr_nk, xwr_nj, Int.toNat_natCast, x_nc]
    generalize hA : xf (gvC σ) n = A at xr e1 e2
    by_cases z : A = 0
    · refine ⟨-1, σ, τ, fun d => (e1 d).trans ?_, fun d => (e2 d).trans ?_, Post_sc h (chg_mo rfl c0)⟩
      · simp (disch := first | omega | assumption | (simp (disch := omega) only [ite_self, Int.reduceAdd, xadd_eq, xsub_eq, xmul_eq, xneg_eq, xwr_eq, xwr_nk, xwr_nj, Int.toNat_natCast, x_nc] <;> first | omega | assumption) | fail) only [↓if_pos, ↓if_neg, ↓b44_0, ↓b44_9, ↓b44_4, ↓b44_11, ↓b44_40, ↓b44_26, ↓b44_46, ↓b44_44, ↓b44_32, ↓b44_123, ↓b44_59, ↓b44_97, ↓b44_71, ↓b44_98, ↓b44_90, ↓b44_117, ↓b44_106, ↓b44_94, ↓b44_114, ↓b44_110, ↓b44_116, x_bdi, x_bdn, ite_self, Int.reduceAdd, xadd_eq, xsub_eq, xmul_eq, xneg_eq, xwr_eq, xwr_nk, xwr_nj, Int.toNat_natCast, x_nc]
      · simp (disch := first | omega | assumption | (simp (disch := omega) only [ite_self, Int.reduceAdd, xadd_eq, xsub_eq, xmul_eq, xneg_eq, xwr_eq, xwr_nk, xwr_nj, Int.toNat_natCast, x_nc] <;> first | omega | assumption) | fail) only [↓if_pos, ↓if_neg, ↓b296_0, ↓b296_9, ↓b296_4, ↓b296_11, ↓b296_15, ↓b296_41, ↓b296_27, ↓b296_47, ↓b296_45, ↓b296_33, ↓b296_177, ↓b296_57, ↓b296_171, ↓b296_66, ↓b296_76, ↓b296_82, ↓b296_79, ↓b296_92, ↓b296_165, ↓b296_106, ↓b296_117, ↓b296_131, ↓b296_137, ↓b296_152, ↓b296_149, ↓b296_160, ↓b296_156, ↓b296_164, x_bdi, x_bdn, ite_self, Int.reduceAdd, xadd_eq, xsub_eq, xmul_eq, xneg_eq, xwr_eq, xwr_nk, xwr_nj, Int.toNat_natCast, x_nc]
    · have l2 := it44b (X := X) (a := a) (A := A) h hn ha2 n 0 (by omega) none
      have m2 := it296b (X := X) (a := a) (A := A) h c0 hg hn xr ha2 n 0 (by omega) none none
      have l2 : ∀ d, Ev X (d + 5) 44 48 [some (vr 0), some (vi a), some (vi A), some (vi 0), none] [] SH σ = _ := l2
      have m2 : ∀ d, Ev X (d + 5) 296 49 [some (vr 100), some (vi a), some (vi A), some (vi 0), none, none] [] SH τ = _ := m2
      refine ⟨fstW σ A a n n, σ, τ, fun d => (e1 d).trans ?_, fun d => (e2 d).trans ?_, Post_sc h (chg_mo rfl c0)⟩
      · refine Eq.trans ?_ (l2 (d + 95))
        simp (disch := first | omega | assumption | (simp (disch := omega) only [ite_self, Int.reduceAdd, xadd_eq, xsub_eq, xmul_eq, xneg_eq, xwr_eq, xwr_nk, xwr_nj, Int.toNat_natCast, x_nc] <;> first | omega | assumption) | fail) only [↓if_pos, ↓if_neg, ↓b44_0, ↓b44_9, ↓b44_4, ↓b44_11, ↓b44_40, ↓b44_26, ↓b44_46, ↓b44_44, ↓b44_32, ↓b44_123, ↓b44_59, ↓b44_97, ↓b44_71, ↓b44_98, ↓b44_90, ↓b44_117, ↓b44_106, ↓b44_94, ↓b44_114, ↓b44_110, ↓b44_116, x_bdi, x_bdn, ite_self, Int.reduceAdd, xadd_eq, xsub_eq, xmul_eq, xneg_eq, xwr_eq, xwr_nk, xwr_nj, Int.toNat_natCast, x_nc]
      · refine Eq.trans ?_ (m2 (d + 95))
        simp (disch := first | omega | assumption | (simp (disch := omega) only [ite_self, Int.reduceAdd, xadd_eq, xsub_eq, xmul_eq, xneg_eq, xwr_eq, xwr_nk, xwr_nj, Int.toNat_natCast, x_nc] <;> first | omega | assumption) | fail) only [↓if_pos, ↓if_neg, ↓b296_0, ↓b296_9, ↓b296_4, ↓b296_11, ↓b296_15, ↓b296_41, ↓b296_27, ↓b296_47, ↓b296_45, ↓b296_33, ↓b296_177, ↓b296_57, ↓b296_171, ↓b296_66, ↓b296_76, ↓b296_82, ↓b296_79, ↓b296_92, ↓b296_165, ↓b296_106, ↓b296_117, ↓b296_131, ↓b296_137, ↓b296_152, ↓b296_149, ↓b296_160, ↓b296_156, ↓b296_164, x_bdi, x_bdn, ite_self, Int.reduceAdd, xadd_eq, xsub_eq, xmul_eq, xneg_eq, xwr_eq, xwr_nk, xwr_nj, Int.toNat_natCast, x_nc]
end WIM
