/-! PAIRS: grundy, wins -/
/-- GRUNDY of a cell of the row -/
def gvC (σ : xM) (c : Nat) : Int := if σ 24 c = 0 then 0 else σ 9 (σ 25 c).toNat
def xf (g : Nat → Int) : Nat → Int
  | 0 => 0
  | n + 1 => xxor (xf g n) (g n)
def tkP (σ : xM) (b T v : Int) : Prop := v ≠ b ∧ xand v (xxor b (-1)) = 0 ∧ σ 9 v.toNat = T
noncomputable def srch (w : Nat → Int) (P : Int → Prop) : Nat → Int
  | 0 => -1
  | q + 1 => @ite Int (w (20 - (q + 1)) ≠ 0 ∧ P (w (20 - (q + 1)))) (Classical.propDecidable _) (((20 - (q + 1)) / 2 : Nat) : Int) (srch w P q)
section WIN
variable {X : Nat × (Nat → Int)} {σ τ : xM} {n : Nat} {a : Int}
theorem srch_y {w : Nat → Int} {P : Int → Prop} {q k : Nat} (e : k + (q + 1) = 20) (h : w k ≠ 0 ∧ P (w k)) : srch w P (q + 1) = ((k / 2 : Nat) : Int) := by
  obtain rfl : k = 20 - (q + 1) := by omega
  rw [srch, if_pos h]
theorem srch_n {w : Nat → Int} {P : Int → Prop} {q k : Nat} (e : k + (q + 1) = 20) (h : ¬ (w k ≠ 0 ∧ P (w k))) : srch w P (q + 1) = srch w P q := by
  obtain rfl : k = 20 - (q + 1) := by omega
  rw [srch, if_neg h]
theorem srch_rg {w : Nat → Int} {P : Int → Prop} : ∀ q, q ≤ 20 → srch w P q = -1 ∨ (0 ≤ srch w P q ∧ srch w P q ≤ 9)
  | 0, _ => Or.inl rfl
  | q + 1, hq => by
    by_cases h : w (20 - (q + 1)) ≠ 0 ∧ P (w (20 - (q + 1)))
    · rw [srch_y (k := 20 - (q + 1)) (by omega) h]
      omega
    · rw [srch_n (k := 20 - (q + 1)) (by omega) h]
      exact srch_rg q (by omega)
theorem Gru_8 (h : Cform σ) : ∀ b, b < 128 → 0 ≤ σ 9 b ∧ σ 9 b < 8 := by
  intro b hb
  have h1 := Gru_pc (fun b hb => Gru_C h.2.2.2 hb) (Nat.le_refl 128) b hb
  have h2 := (Gru_C h.2.2.2 hb).1
  have := pc_rg b
  omega
theorem x8 : ∀ x, x < 8 → ∀ y, y < 8 → 0 ≤ xxor ((x : Nat) : Int) ((y : Nat) : Int) ∧ xxor ((x : Nat) : Int) ((y : Nat) : Int) < 8 ∧ (xxor ((x : Nat) : Int) ((y : Nat) : Int) = 0 ↔ x = y) := by decide
theorem x8I {x y : Int} (h1 : 0 ≤ x) (h2 : x < 8) (h3 : 0 ≤ y) (h4 : y < 8) : 0 ≤ xxor x y ∧ xxor x y < 8 ∧ (xxor x y = 0 ↔ x = y) := by
  have := x8 x.toNat (by omega) y.toNat (by omega)
  rw [Int.toNat_of_nonneg h1, Int.toNat_of_nonneg h3] at this
  omega
theorem gvC_rg (h : Core σ) {c : Nat} (hc : (c : Int) < σ 23 0) : 0 ≤ gvC σ c ∧ gvC σ c < 8 := by
  have q := h.2.2.2.1.2.2.2 c hc
  unfold gvC
  split
  · omega
  · exact Gru_8 h.2.1 _ (by omega)
theorem xf_rg (h : Core σ) : ∀ m : Nat, (m : Int) ≤ σ 23 0 → 0 ≤ xf (gvC σ) m ∧ xf (gvC σ) m < 8
  | 0, _ => ⟨show (0 : Int) ≤ 0 by decide, show (0 : Int) < 8 by decide⟩
  | m + 1, hm => by
    have h1 := xf_rg h m (by omega)
    have h2 := gvC_rg h (c := m) (by omega)
    have := x8I h1.1 h1.2 h2.1 h2.2
    exact ⟨this.1, this.2.1⟩
theorem f43_gv (h : Core σ) {c : Nat} (hc : (c : Int) < σ 23 0) : f43 σ c = gvC σ c := by
  have r := h.2.2.2.1
  have q := r.2.2.2 c hc
  have r2 := r.2.1
  have e : f136 σ 23 c = 1 := by unfold f136; rw [if_neg (by omega), if_neg (by omega), if_neg (by omega)]
  unfold f43 gvC f64
  rw [e, if_neg (by decide), Int.toNat_natCast, if_neg (show ¬ σ 25 c < 0 by omega), if_neg (show ¬ 128 ≤ σ 25 c by omega)]
/-- the model's grundyOf, behind its reckoning -/
theorem s295 (h : Core σ) (c0 : chg [138] [] σ τ) (hg : Gru (σ 102) (τ 138)) {c : Nat} (hc : (c : Int) < σ 23 0) : ∀ d, Ev X (d + 3) 295 0 [some (vr 100), some (vi c)] [] SH τ = some (some (vi (gvC σ c)), SH, τ) := by
  intro d
  have r := h.2.2.2.1
  have q := r.2.2.2 c hc
  have r2 := r.2.1
  have hF := h.2.1
  have t102 : τ 102 = σ 102 := chg_row c0 (fun _ => rfl) rfl
  have t107 : τ 107 c = σ 24 c := by rw [chg_row c0 (k := 107) (fun _ => rfl) rfl]; exact q.1
  have t110 : τ 110 c = σ 25 c := by rw [chg_row c0 (k := 110) (fun _ => rfl) rfl]; exact q.2.2.1
  obtain ⟨b, hb⟩ : ∃ b : Nat, σ 25 c = b := ⟨(σ 25 c).toNat, by omega⟩
  unfold gvC
  rw [hb, Int.toNat_natCast]
  rw [hb] at t110
  by_cases z : σ 24 c = 0
  · rw [if_pos z]
    simp (disch := first | omega | assumption | (simp (disch := omega) only [ite_self, Int.reduceAdd, xadd_eq, xsub_eq, xmul_eq, xneg_eq, xwr_eq, xwr_nk, xwr_nj, Int.toNat_natCast, x_nc] <;> first | omega | assumption) | fail) only [↓if_pos, ↓if_neg, ↓b295_0, ↓b295_36, ↓b295_9, ↓b295_37, ↓b295_19, ↓b295_22, x_bdi, x_bdn, ite_self, Int.reduceAdd, xadd_eq, xsub_eq, xmul_eq, xneg_eq, xwr_eq, xwr_nk, xwr_nj, Int.toNat_natCast, x_nc]
  · rw [if_neg z]
    by_cases w : isWy (σ 102) b
    · have s := s294y (X := X) (σ := τ) (b := b) (by rw [t102]; exact hF.2.1) (by rw [t102]; exact w)
      have u := Gru_uq (n := 128) (fun b hb => Gru_C hF.2.2.2 hb) (fun b hb => Gru_C hg hb) b (by omega)
      simp (disch := first | omega | assumption | (simp (disch := omega) only [ite_self, Int.reduceAdd, xadd_eq, xsub_eq, xmul_eq, xneg_eq, xwr_eq, xwr_nk, xwr_nj, Int.toNat_natCast, x_nc, t110] <;> first | omega | assumption) | fail) only [↓if_pos, ↓if_neg, ↓b295_0, ↓b295_36, ↓b295_9, ↓b295_37, ↓b295_19, ↓b295_22, t110, ↓s, u, x_bdi, x_bdn, ite_self, Int.reduceAdd, xadd_eq, xsub_eq, xmul_eq, xneg_eq, xwr_eq, xwr_nk, xwr_nj, Int.toNat_natCast, x_nc]
    · have s := s294n (X := X) (σ := τ) (b := b) (by rw [t102]; exact hF.2.1) (by rw [t102]; exact w)
      have u := (Gru_C hF.2.2.2 (b := b) (by omega)).2.2.1 w
      simp (disch := first | omega | assumption | (simp (disch := omega) only [ite_self, Int.reduceAdd, xadd_eq, xsub_eq, xmul_eq, xneg_eq, xwr_eq, xwr_nk, xwr_nj, Int.toNat_natCast, x_nc, t110] <;> first | omega | assumption) | fail) only [↓if_pos, ↓if_neg, ↓b295_0, ↓b295_36, ↓b295_9, ↓b295_37, ↓b295_19, ↓b295_22, t110, ↓s, u, x_bdi, x_bdn, ite_self, Int.reduceAdd, xadd_eq, xsub_eq, xmul_eq, xneg_eq, xwr_eq, xwr_nk, xwr_nj, Int.toNat_natCast, x_nc]
theorem pr_grundy (h : Core σ) : Pair X 42 292 [some (vr 0), some (vi a)] [some (vr 100), some (vi a)] σ (Post σ) := by
  have r := h.2.2.2.1
  have r2 := r.2.1
  have r3 := r.2.2.1
  by_cases z : 0 ≤ a ∧ a < σ 23 0
  · obtain ⟨c, rfl⟩ : ∃ c : Nat, a = c := ⟨a.toNat, by omega⟩
    obtain ⟨τ, s1, c0, hg⟩ := s293 (X := X) (σ := σ) h.2.1.2.1
    have s2 := s295 (X := X) h c0 hg z.2
    refine ⟨gvC σ c, σ, τ, fun d => ?_, fun d => ?_, Post_sc h (chg_mo rfl c0)⟩
    · refine Eq.trans s42 ?_
      have e : f136 σ 23 c = 1 := by unfold f136; rw [if_neg (by omega), if_neg (by omega), if_neg (by omega)]
      unfold f42
      rw [e, if_neg (by decide), f43_gv h z.2]
    · simp (disch := first | omega | assumption | (simp (disch := omega) only [ite_self, Int.reduceAdd, xadd_eq, xsub_eq, xmul_eq, xneg_eq, xwr_eq, xwr_nk, xwr_nj, Int.toNat_natCast, x_nc, f220] <;> first | omega | assumption) | fail) only [↓if_pos, ↓if_neg, ↓b292_0, ↓b292_5, ↓b292_10, ↓b292_8, ↓b292_14, ↓b292_19, ↓s220, ↓s1, ↓s2, x_bdi, x_bdn, ite_self, Int.reduceAdd, xadd_eq, xsub_eq, xmul_eq, xneg_eq, xwr_eq, xwr_nk, xwr_nj, Int.toNat_natCast, x_nc]
  · refine Pair_q0 (r := -1) (r' := -1) h (fun d => ?_) (fun d => ?_) rfl
    · refine Eq.trans s42 ?_
      have e : f136 σ 23 a = 0 := by
        unfold f136
        repeat' split
        all_goals omega
      unfold f42
      rw [e, if_pos rfl]
    · simp (disch := first | omega | assumption | (simp (disch := omega) only [ite_self, Int.reduceAdd, xadd_eq, xsub_eq, xmul_eq, xneg_eq, xwr_eq, xwr_nk, xwr_nj, Int.toNat_natCast, x_nc, f220] <;> first | omega | assumption) | fail) only [↓if_pos, ↓if_neg, ↓b292_0, ↓b292_5, ↓b292_10, ↓b292_8, ↓b292_14, ↓b292_19, ↓s220, x_bdi, x_bdn, ite_self, Int.reduceAdd, xadd_eq, xsub_eq, xmul_eq, xneg_eq, xwr_eq, xwr_nk, xwr_nj, Int.toNat_natCast, x_nc]
/-- digitTakenTo, for a way -/
theorem it75 (hF : Cform σ) {b : Nat} {T : Int} (hb : b < 128) (hw : isWy (σ 102) b) : ∀ (q k : Nat), k + q = 20 → ∀ d, Ev X (d + 1) 75 2 [some (vr 3), some (vi b), some (vi T), some (vi (nz (σ 102) k))] [] SH σ = some (some (vi (srch (σ 102) (tkP σ b T) q)), SH, σ) := by
  obtain ⟨h1, hW, hC, hG⟩ := hF
  obtain ⟨f1, f2, f3⟩ := hC
  obtain ⟨w0, wi, w1, w2⟩ := hw
  have ix : σ 8 b = nz (σ 102) wi := by
    have := (f2 wi w1 (by omega)).2.2
    rw [w2, Int.toNat_natCast] at this
    exact this
  have e73 : f73 σ 1 b = nz (σ 102) wi := by
    unfold f73
    rw [if_neg (by decide), if_pos (by omega), Int.toNat_natCast]
    exact ix
  have s73' := fun d => s73 (X := X) (d := d) (σ := σ) (a1 := 1) (a2 := (b : Int))
  rw [e73] at s73'
  intro q
  induction q with
  | zero =>
    intro k e d
    obtain rfl : k = 20 := by omega
    rw [b75_2, if_pos (by omega), b75_60]
    rfl
  | succ q ih =>
    intro k e d
    have ih := ih (k + 1) (by omega) d
    by_cases z : σ 102 k = 0
    · rw [srch_n e (fun y => y.1 z)]
      have : nz (σ 102) (k + 1) = nz (σ 102) k := by rw [nz, if_pos z]; rfl
      rw [this] at ih
      exact ih
    · have n1 : nz (σ 102) (k + 1) = nz (σ 102) k + 1 := by rw [nz, if_neg z]
      have n2 := nz_lt (w := σ 102) (show k < 20 by omega) z
      have n3 := nz_le (w := σ 102) 20
      obtain ⟨l1, l2, l3⟩ := f2 k (by omega) z
      have wk := hW.1 k (by omega)
      rw [n1] at ih
      have v63 : f63 σ b (σ 102 k) = if σ 102 k = b then 0 else if xand (σ 102 k) (xxor b (-1)) ≠ 0 then 0 else 1 := rfl
      have v64 : f64 σ (σ 102 k) = σ 9 (σ 102 k).toNat := by
        unfold f64
        rw [if_neg (by omega), if_neg (by omega)]
      have t63 := fun d => s63 (X := X) (d := d) (σ := σ) (a0 := (b : Int)) (a1 := σ 102 k)
      have t64 := fun d => s64 (X := X) (d := d) (σ := σ) (a1 := σ 102 k)
      rw [v64] at t64
      by_cases p : tkP σ b T (σ 102 k)
      · obtain ⟨p1, p2, p3⟩ := p
        have y63 : f63 σ b (σ 102 k) = 1 := by rw [v63, if_neg p1, if_neg (fun y => y p2)]
        rw [y63] at t63
        rw [srch_y e ⟨z, p1, p2, p3⟩]
        rw [b75_2, if_neg (by omega)]
        simp (disch := first | omega | assumption | (simp (disch := omega) only [ite_self, Int.reduceAdd, xadd_eq, xsub_eq, xmul_eq, xneg_eq, xwr_eq, xwr_nk, xwr_nj, Int.toNat_natCast, x_nc] <;> first | omega | assumption) | fail) only [↓if_pos, ↓if_neg, ↓b75_0, ↓b75_60, ↓b75_10, ↓b75_16, ↓b75_20, ↓b75_30, ↓b75_54, ↓b75_33, ↓b75_43, ↓b75_47, ↓s73', l1, l2, ↓t63, ↓t64, x_bdi, x_bdn, ite_self, Int.reduceAdd, xadd_eq, xsub_eq, xmul_eq, xneg_eq, xwr_eq, xwr_nk, xwr_nj, Int.toNat_natCast, x_nc]
      · rw [srch_n e (fun y => p y.2)]
        by_cases y : f63 σ b (σ 102 k) = 0
        · rw [y] at t63
          rw [b75_2, if_neg (by omega)]
          simp (disch := first | omega | assumption | (simp (disch := omega) only [ite_self, Int.reduceAdd, xadd_eq, xsub_eq, xmul_eq, xneg_eq, xwr_eq, xwr_nk, xwr_nj, Int.toNat_natCast, x_nc] <;> first | omega | assumption) | fail) only [↓if_pos, ↓if_neg, ↓b75_0, ↓b75_60, ↓b75_10, ↓b75_16, ↓b75_20, ↓b75_30, ↓b75_54, ↓b75_33, ↓b75_43, ↓b75_47, ↓s73', l1, l2, ↓t63, ↓t64, x_bdi, x_bdn, ite_self, Int.reduceAdd, xadd_eq, xsub_eq, xmul_eq, xneg_eq, xwr_eq, xwr_nk, xwr_nj, Int.toNat_natCast, x_nc]
          exact ih
        · have y1 : f63 σ b (σ 102 k) = 1 := by
            rcases z63 (σ := σ) (a0 := (b : Int)) (a1 := σ 102 k) with u | u
            · exact absurd u y
            · exact u
          have p3 : σ 9 (σ 102 k).toNat ≠ T := by
            intro u
            refine p ⟨fun w => y ?_, Classical.byContradiction (fun w => y ?_), u⟩
            · rw [v63, if_pos w]
            · rw [v63]
              by_cases w3 : σ 102 k = b
              · rw [if_pos w3]
              · rw [if_neg w3, if_pos w]
          rw [y1] at t63
          rw [b75_2, if_neg (by omega)]
          simp (disch := first | omega | assumption | (simp (disch := omega) only [ite_self, Int.reduceAdd, xadd_eq, xsub_eq, xmul_eq, xneg_eq, xwr_eq, xwr_nk, xwr_nj, Int.toNat_natCast, x_nc] <;> first | omega | assumption) | fail) only [↓if_pos, ↓if_neg, ↓b75_0, ↓b75_60, ↓b75_10, ↓b75_16, ↓b75_20, ↓b75_30, ↓b75_54, ↓b75_33, ↓b75_43, ↓b75_47, ↓s73', l1, l2, ↓t63, ↓t64, x_bdi, x_bdn, ite_self, Int.reduceAdd, xadd_eq, xsub_eq, xmul_eq, xneg_eq, xwr_eq, xwr_nk, xwr_nj, Int.toNat_natCast, x_nc]
          exact ih
theorem s75y (hF : Cform σ) {b : Nat} {T : Int} (hb : b < 128) (hw : isWy (σ 102) b) : ∀ d, Ev X (d + 1) 75 0 [some (vr 3), some (vi b), some (vi T), none] [] SH σ = some (some (vi (srch (σ 102) (tkP σ b T) 20)), SH, σ) := by
  intro d
  rw [b75_0]
  exact it75 hF hb hw 20 0 (by omega) d
theorem s75n (hF : Cform σ) {b : Nat} {T : Int} (hb : b < 128) (hw : ¬ isWy (σ 102) b) : ∀ d, Ev X (d + 1) 75 0 [some (vr 3), some (vi b), some (vi T), none] [] SH σ = some (some (vi (-1)), SH, σ) := by
  intro d
  obtain ⟨h1, hW, hC, hG⟩ := hF
  have n3 := nz_le (w := σ 102) 20
  have ix := hC.2.2 b hb (fun i hi hw' => Classical.byContradiction (fun z => hw ⟨by omega, i, hi, hw'⟩))
  have c0 := hC.1
  have e73 : f73 σ 1 b = -1 := by
    unfold f73
    rw [if_neg (by decide), if_pos (by omega), Int.toNat_natCast]
    exact ix
  have s73' := fun d => s73 (X := X) (d := d) (σ := σ) (a1 := 1) (a2 := (b : Int))
  rw [e73] at s73'
  rw [b75_0]
  by_cases z : σ 3 5 ≤ 0
  · rw [b75_2, if_pos z, b75_60]
  · rw [b75_2, if_neg z]
    simp (disch := first | omega | assumption | (simp (disch := omega) only [ite_self, Int.reduceAdd, xadd_eq, xsub_eq, xmul_eq, xneg_eq, xwr_eq, xwr_nk, xwr_nj, Int.toNat_natCast, x_nc] <;> first | omega | assumption) | fail) only [↓if_pos, ↓if_neg, ↓b75_0, ↓b75_60, ↓b75_10, ↓b75_16, ↓b75_20, ↓b75_30, ↓b75_54, ↓b75_33, ↓b75_43, ↓b75_47, ↓s73', x_bdi, x_bdn, ite_self, Int.reduceAdd, xadd_eq, xsub_eq, xmul_eq, xneg_eq, xwr_eq, xwr_nk, xwr_nj, Int.toNat_natCast, x_nc]
/-- the digit that a cell is to become -/
noncomputable def dgW (σ : xM) (A : Int) (c : Nat) : Int := @ite Int (σ 24 c = 0 ∨ ¬ isWy (σ 102) (σ 25 c).toNat) (Classical.propDecidable _) (-1) (srch (σ 102) (tkP σ (σ 25 c) (xxor A (gvC σ c))) 20)
/-- the first cell of the last q that can, and what is told of it -/
noncomputable def fstW (σ : xM) (A a : Int) (n : Nat) : Nat → Int
  | 0 => -1
  | q + 1 => @ite Int (dgW σ A (n - (q + 1)) ≠ -1) (Classical.propDecidable _) (if a = 0 then ((n - (q + 1) : Nat) : Int) else dgW σ A (n - (q + 1))) (fstW σ A a n q)
theorem it44a (h : Core σ) (hn : σ 23 0 = n) : ∀ (q i : Nat), i + q = n → ∀ (o4 : Option xV) d, Ev X (d + 5) 44 15 [some (vr 0), some (vi a), some (vi (xf (gvC σ) i)), some (vi i), o4] [] SH σ = Ev X (d + 5) 44 40 [some (vr 0), some (vi a), some (vi (xf (gvC σ) n)), some (vi n), o4] [] SH σ := by
  have r2 := h.2.2.2.1.2.1
  intro q
  induction q with
  | zero =>
    intro i e o4 d
    obtain rfl : i = n := by omega
    rw [b44_15, if_pos (by omega)]
  | succ q ih =>
    intro i e o4 d
    have ih := ih (i + 1) (by omega) o4 d
    have s := fun d => s43 (X := X) (d := d) (σ := σ) (a1 := (i : Int))
    rw [f43_gv h (by omega)] at s
    rw [xf] at ih
    rw [b44_15, if_neg (by omega)]
    simp (disch := first | omega | assumption | (simp (disch := omega) only [ite_self, Int.reduceAdd, xadd_eq, xsub_eq, xmul_eq, xneg_eq, xwr_eq, xwr_nk, xwr_nj, Int.toNat_natCast, x_nc] <;> first | omega | assumption) | fail) only [↓if_pos, ↓if_neg, ↓b44_0, ↓b44_9, ↓b44_4, ↓b44_11, ↓b44_26, ↓b44_46, ↓b44_44, ↓b44_32, ↓b44_48, ↓b44_123, ↓b44_59, ↓b44_97, ↓b44_71, ↓b44_98, ↓b44_90, ↓b44_117, ↓b44_106, ↓b44_94, ↓b44_114, ↓b44_110, ↓b44_116, ↓s, x_bdi, x_bdn, ite_self, Int.reduceAdd, xadd_eq, xsub_eq, xmul_eq, xneg_eq, xwr_eq, xwr_nk, xwr_nj, Int.toNat_natCast, x_nc]
    exact ih
theorem it44b (h : Core σ) (hn : σ 23 0 = n) {A : Int} (ha : a = 0 ∨ a = 1) : ∀ (q i : Nat), i + q = n → ∀ (o4 : Option xV) d, Ev X (d + 5) 44 48 [some (vr 0), some (vi a), some (vi A), some (vi i), o4] [] SH σ = some (some (vi (fstW σ A a n q)), SH, σ) := by
  have r2 := h.2.2.2.1.2.1
  intro q
  induction q with
  | zero =>
    intro i e o4 d
    obtain rfl : i = n := by omega
    rw [b44_48, if_pos (by omega), b44_123]
    rfl
  | succ q ih =>
    intro i e o4 d
    have qr := h.2.2.2.1.2.2.2 i (by omega)
    obtain ⟨b, hb⟩ : ∃ b : Nat, σ 25 i = b := ⟨(σ 25 i).toNat, by omega⟩
    have s := fun d => s43 (X := X) (d := d) (σ := σ) (a1 := (i : Int))
    rw [f43_gv h (by omega)] at s
    have ei : n - (q + 1) = i := by omega
    rw [fstW, ei]
    rw [b44_48, if_neg (by omega)]
    by_cases z : σ 24 i = 0
    · have dm : dgW σ A i = -1 := by unfold dgW; rw [if_pos (Or.inl z)]
      rw [if_neg (fun y => y dm)]
      have ih := ih (i + 1) (by omega) (some (vi (-1))) d
      simp (disch := first | omega | assumption | (simp (disch := omega) only [ite_self, Int.reduceAdd, xadd_eq, xsub_eq, xmul_eq, xneg_eq, xwr_eq, xwr_nk, xwr_nj, Int.toNat_natCast, x_nc] <;> first | omega | assumption) | fail) only [↓if_pos, ↓if_neg, ↓b44_0, ↓b44_9, ↓b44_4, ↓b44_11, ↓b44_40, ↓b44_26, ↓b44_46, ↓b44_44, ↓b44_32, ↓b44_123, ↓b44_59, ↓b44_97, ↓b44_71, ↓b44_98, ↓b44_90, ↓b44_117, ↓b44_106, ↓b44_94, ↓b44_114, ↓b44_110, ↓b44_116, x_bdi, x_bdn, ite_self, Int.reduceAdd, xadd_eq, xsub_eq, xmul_eq, xneg_eq, xwr_eq, xwr_nk, xwr_nj, Int.toNat_natCast, x_nc]
      exact ih
    · by_cases w : isWy (σ 102) b
      · have dm : dgW σ A i = srch (σ 102) (tkP σ b (xxor A (gvC σ i))) 20 := by
          unfold dgW
          rw [hb, Int.toNat_natCast, if_neg (fun y => y.elim z (fun y => y w))]
        have t := s75y (X := X) (σ := σ) (b := b) (T := xxor A (gvC σ i)) h.2.1 (by omega) w
        have sr := srch_rg (w := σ 102) (P := tkP σ b (xxor A (gvC σ i))) 20 (Nat.le_refl 20)
        rw [dm]
        generalize srch (σ 102) (tkP σ b (xxor A (gvC σ i))) 20 = R at t sr
        by_cases y : R = -1
        · subst y
          rw [if_neg (fun y => y rfl)]
          have ih := ih (i + 1) (by omega) (some (vi (-1))) d
          simp (disch := first | omega | assumption | (simp (disch := omega) only [ite_self, Int.reduceAdd, xadd_eq, xsub_eq, xmul_eq, xneg_eq, xwr_eq, xwr_nk, xwr_nj, Int.toNat_natCast, x_nc, hb] <;> first | omega | assumption) | fail) only [↓if_pos, ↓if_neg, ↓b44_0, ↓b44_9, ↓b44_4, ↓b44_11, ↓b44_40, ↓b44_26, ↓b44_46, ↓b44_44, ↓b44_32, ↓b44_123, ↓b44_59, ↓b44_97, ↓b44_71, ↓b44_98, ↓b44_90, ↓b44_117, ↓b44_106, ↓b44_94, ↓b44_114, ↓b44_110, ↓b44_116, ↓s, hb, ↓t, t, x_bdi, x_bdn, ite_self, Int.reduceAdd, xadd_eq, xsub_eq, xmul_eq, xneg_eq, xwr_eq, xwr_nk, xwr_nj, Int.toNat_natCast, x_nc]
          exact ih
        · rw [if_pos y]
          rcases ha with rfl | rfl
          · rw [if_pos rfl]
            simp (disch := first | omega | assumption | (simp (disch := omega) only [ite_self, Int.reduceAdd, xadd_eq, xsub_eq, xmul_eq, xneg_eq, xwr_eq, xwr_nk, xwr_nj, Int.toNat_natCast, x_nc, hb] <;> first | omega | assumption) | fail) only [↓if_pos, ↓if_neg, ↓b44_0, ↓b44_9, ↓b44_4, ↓b44_11, ↓b44_40, ↓b44_26, ↓b44_46, ↓b44_44, ↓b44_32, ↓b44_123, ↓b44_59, ↓b44_97, ↓b44_71, ↓b44_98, ↓b44_90, ↓b44_117, ↓b44_106, ↓b44_94, ↓b44_114, ↓b44_110, ↓b44_116, ↓s, hb, ↓t, t, x_bdi, x_bdn, ite_self, Int.reduceAdd, xadd_eq, xsub_eq, xmul_eq, xneg_eq, xwr_eq, xwr_nk, xwr_nj, Int.toNat_natCast, x_nc]
          · rw [if_neg (by decide)]
            simp (disch := first | omega | assumption | (simp (disch := omega) only [ite_self, Int.reduceAdd, xadd_eq, xsub_eq, xmul_eq, xneg_eq, xwr_eq, xwr_nk, xwr_nj, Int.toNat_natCast, x_nc, hb] <;> first | omega | assumption) | fail) only [↓if_pos, ↓if_neg, ↓b44_0, ↓b44_9, ↓b44_4, ↓b44_11, ↓b44_40, ↓b44_26, ↓b44_46, ↓b44_44, ↓b44_32, ↓b44_123, ↓b44_59, ↓b44_97, ↓b44_71, ↓b44_98, ↓b44_90, ↓b44_117, ↓b44_106, ↓b44_94, ↓b44_114, ↓b44_110, ↓b44_116, ↓s, hb, ↓t, t, x_bdi, x_bdn, ite_self, Int.reduceAdd, xadd_eq, xsub_eq, xmul_eq, xneg_eq, xwr_eq, xwr_nk, xwr_nj, Int.toNat_natCast, x_nc]
      · have dm : dgW σ A i = -1 := by
          unfold dgW
          rw [hb, Int.toNat_natCast, if_pos (Or.inr w)]
        have t := s75n (X := X) (σ := σ) (b := b) (T := xxor A (gvC σ i)) h.2.1 (by omega) w
        rw [if_neg (fun y => y dm)]
        have ih := ih (i + 1) (by omega) (some (vi (-1))) d
        simp (disch := first | omega | assumption | (simp (disch := omega) only [ite_self, Int.reduceAdd, xadd_eq, xsub_eq, xmul_eq, xneg_eq, xwr_eq, xwr_nk, xwr_nj, Int.toNat_natCast, x_nc, hb] <;> first | omega | assumption) | fail) only [↓if_pos, ↓if_neg, ↓b44_0, ↓b44_9, ↓b44_4, ↓b44_11, ↓b44_40, ↓b44_26, ↓b44_46, ↓b44_44, ↓b44_32, ↓b44_123, ↓b44_59, ↓b44_97, ↓b44_71, ↓b44_98, ↓b44_90, ↓b44_117, ↓b44_106, ↓b44_94, ↓b44_114, ↓b44_110, ↓b44_116, ↓s, hb, ↓t, t, x_bdi, x_bdn, ite_self, Int.reduceAdd, xadd_eq, xsub_eq, xmul_eq, xneg_eq, xwr_eq, xwr_nk, xwr_nj, Int.toNat_natCast, x_nc]
        exact ih
end WIN
