/-! PAIRS: keep, back -/
def upf (f : Nat → Int) (o : Nat) (g : Nat → Int) (m : Nat) : Nat → Int := fun i => if o ≤ i ∧ i < o + m then g (i - o) else f i
def U2 (σ : xM) (k1 o1 : Nat) (g1 : Nat → Int) (k2 o2 : Nat) (g2 : Nat → Int) (m : Nat) : xM := xrow (xrow σ k1 (upf (σ k1) o1 g1 m)) k2 (upf (σ k2) o2 g2 m)
section UPD
variable {σ : xM} {f g g1 g2 : Nat → Int} {o m k1 k2 o1 o2 q : Nat}
theorem upf_0 : upf f o g 0 = f := by
  funext i
  unfold upf
  rw [if_neg (by omega)]
theorem upf_s : (fun i => if i = o + m then g m else upf f o g m i) = upf f o g (m + 1) := by
  funext i
  unfold upf
  by_cases h : i = o + m
  · rw [if_pos h, if_pos (by omega), show i - o = m by omega]
  · rw [if_neg h]
    by_cases h2 : o ≤ i ∧ i < o + m
    · rw [if_pos h2, if_pos (by omega)]
    · rw [if_neg h2, if_neg (by omega)]
theorem upf_in {j : Nat} (h : j < m) : upf f o g m (o + j) = g j := by
  unfold upf
  rw [if_pos (by omega), show o + j - o = j by omega]
theorem upf_in0 {j : Nat} (h : j < m) : upf f 0 g m j = g j := by
  unfold upf
  rw [if_pos (by omega), Nat.sub_zero]
theorem upf_out {i : Nat} (h : ¬ (o ≤ i ∧ i < o + m)) : upf f o g m i = f i := if_neg h
theorem U2_0 : U2 σ k1 o1 g1 k2 o2 g2 0 = σ := by
  unfold U2
  rw [upf_0, upf_0, xrow_self, xrow_self]
theorem U2_at (h1 : q ≠ k1) (h2 : q ≠ k2) : U2 σ k1 o1 g1 k2 o2 g2 m q = σ q := by
  unfold U2
  rw [xrow_nrow h2, xrow_nrow h1]
theorem U2_1 (h : k1 ≠ k2) : U2 σ k1 o1 g1 k2 o2 g2 m k1 = upf (σ k1) o1 g1 m := by
  unfold U2
  rw [xrow_nrow h, xrow_row]
theorem U2_2 : U2 σ k1 o1 g1 k2 o2 g2 m k2 = upf (σ k2) o2 g2 m := by
  unfold U2
  rw [xrow_row]
theorem U2_s (h : k1 ≠ k2) : xwr (xwr (U2 σ k1 o1 g1 k2 o2 g2 m) k1 (o1 + m) (g1 m)) k2 (o2 + m) (g2 m) = U2 σ k1 o1 g1 k2 o2 g2 (m + 1) := by
  funext a b
  by_cases h2 : a = k2
  · subst h2
    rw [xwr_rw, U2_2, ← upf_s]
    dsimp only
    by_cases e : b = o2 + m
    · rw [if_pos e, if_pos e]
    · rw [if_neg e, if_neg e, xwr_nk (fun z => h z.symm), U2_2]
  · rw [xwr_nk h2]
    by_cases h1 : a = k1
    · subst h1
      rw [xwr_rw, U2_1 h, U2_1 h, ← upf_s]
    · rw [xwr_nk h1, U2_at h1 h2, U2_at h1 h2]
theorem U2_s0 (h : k1 ≠ k2) : xwr (xwr (U2 σ k1 0 g1 k2 0 g2 m) k1 m (g1 m)) k2 m (g2 m) = U2 σ k1 0 g1 k2 0 g2 (m + 1) := by
  have := U2_s (σ := σ) (g1 := g1) (g2 := g2) (m := m) (o1 := 0) (o2 := 0) h
  rw [Nat.zero_add] at this
  exact this
theorem eqp_U2 {P : Nat → Nat → Bool} {σ τ : xM} (h1 : ∀ j, P k1 j = false) (h2 : ∀ j, P k2 j = false) (e : eqp P σ τ) : eqp P σ (U2 τ k1 o1 g1 k2 o2 g2 m) := eqp_xr h2 (eqp_xr h1 e)
theorem eqp_cpy {P : Nat → Nat → Bool} {σ τ : xM} (h1 : ∀ j, P (k1 + 1) j = false) (h2 : ∀ j, P (k1 + 2) j = false) (e : eqp P σ τ) : eqp P σ (cpy τ k1 k2 m) := eqp_xr h2 (eqp_xr h1 e)
end UPD
theorem Cbox_at {σ : xM} (h : Cbox σ) : ∀ b, b < 3 → RW (σ (32 + 3 * b) 0) (σ (33 + 3 * b)) (σ (34 + 3 * b)) (σ 140 b) (fun c => σ 142 (11 * b + c)) (fun c => σ 141 (11 * b + c)) := by
  intro b hb
  have : b = 0 ∨ b = 1 ∨ b = 2 := by omega
  rcases this with rfl | rfl | rfl
  · have := h.1
    simpa using this
  · exact h.2.1
  · exact h.2.2
theorem Cbox_of {σ : xM} (h : ∀ b, b < 3 → RW (σ (32 + 3 * b) 0) (σ (33 + 3 * b)) (σ (34 + 3 * b)) (σ 140 b) (fun c => σ 142 (11 * b + c)) (fun c => σ 141 (11 * b + c))) : Cbox σ := by
  refine ⟨?_, h 1 (by decide), h 2 (by decide)⟩
  have := h 0 (by decide)
  simpa using this
theorem RW_congr {cn cn' : Int} {fg bt fg' bt' fg2 bt2 fg2' bt2' : Nat → Int} (h : RW cn fg bt cn' fg' bt') (e1 : ∀ c : Nat, (c : Int) < cn → fg2 c = fg c) (e2 : ∀ c : Nat, (c : Int) < cn → bt2 c = bt c) (e3 : ∀ c : Nat, (c : Int) < cn → fg2' c = fg' c) (e4 : ∀ c : Nat, (c : Int) < cn → bt2' c = bt' c) : RW cn fg2 bt2 cn' fg2' bt2' := by
  obtain ⟨r1, r2, r3, r4⟩ := h
  refine ⟨r1, r2, r3, fun c hc => ?_⟩
  rw [e1 c hc, e2 c hc, e3 c hc, e4 c hc]
  exact r4 c hc
section PRE
variable {X : Nat × (Nat → Int)} {σ τ : xM} {a : Int} {d n b : Nat}
theorem it301 (hb : b < 3) (hn : σ 100 16 = n) (hn2 : n ≤ 11) (hf : ∀ c, c < n → σ 107 c = 0 ∨ σ 107 c = 1) : ∀ (q i : Nat), i + q = n → Ev X d 301 28 [some (vr 100), some (vi b), some (vi i)] [] SH (U2 σ 141 (11 * b) (σ 110) 142 (11 * b) (σ 107) i) = some (some (vi n), SH, U2 σ 141 (11 * b) (σ 110) 142 (11 * b) (σ 107) n) := by
  intro q
  induction q with
  | zero =>
    intro i e
    obtain rfl : i = n := by omega
    rw [b301_28, U2_at (by decide) (by decide), if_pos (by omega), b301_76, U2_at (by decide) (by decide), hn]
  | succ q ih =>
    intro i e
    have e1 : xadd (xmul 11 (b : Int)) i = ((11 * b + i : Nat) : Int) := by rw [xmul_eq (by omega) (by omega), xadd_eq (by omega) (by omega)]; omega
    rw [b301_28, U2_at (by decide) (by decide), if_neg (by omega), b301_36 (by omega) (by rw [e1]; omega) (by rw [U2_at (by decide) (by decide), Int.toNat_natCast]; exact hf i (by omega)), e1, Int.toNat_natCast, Int.toNat_natCast, U2_at (by decide) (by decide), U2_at (by decide) (by decide), U2_s (by decide), xadd_eq (by omega) (by omega)]
    exact ih (i + 1) (by omega)
theorem it303 (hb : b < 3) (hn : σ 100 16 = n) (hn2 : n ≤ 11) : ∀ (q i : Nat), i + q = n → (hf : ∀ c, c < n → σ 142 (11 * b + c) = 0 ∨ σ 142 (11 * b + c) = 1) → Ev X d 303 30 [some (vr 100), some (vi b), some (vi i)] [] SH (U2 σ 110 0 (fun j => σ 141 (11 * b + j)) 107 0 (fun j => σ 142 (11 * b + j)) i) = some (some (vi n), SH, xwr (xwr (xwr (U2 σ 110 0 (fun j => σ 141 (11 * b + j)) 107 0 (fun j => σ 142 (11 * b + j)) n) 100 59 0) 100 69 0) 100 70 0) := by
  intro q
  induction q with
  | zero =>
    intro i e hf
    obtain rfl : i = n := by omega
    rw [b303_30, U2_at (by decide) (by decide), if_pos (by omega), b303_78, U2_at (by decide) (by decide), hn]
  | succ q ih =>
    intro i e hf
    have e1 : xadd (xmul 11 (b : Int)) i = ((11 * b + i : Nat) : Int) := by rw [xmul_eq (by omega) (by omega), xadd_eq (by omega) (by omega)]; omega
    have nx := ih (i + 1) (by omega) hf
    have st := U2_s0 (σ := σ) (k1 := 110) (k2 := 107) (g1 := fun j => σ 141 (11 * b + j)) (g2 := fun j => σ 142 (11 * b + j)) (m := i) (by decide)
    have e141 : U2 σ 110 0 (fun j => σ 141 (11 * b + j)) 107 0 (fun j => σ 142 (11 * b + j)) i 141 = σ 141 := U2_at (by decide) (by decide)
    have e142 : U2 σ 110 0 (fun j => σ 141 (11 * b + j)) 107 0 (fun j => σ 142 (11 * b + j)) i 142 = σ 142 := U2_at (by decide) (by decide)
    rw [b303_30, U2_at (by decide) (by decide), if_neg (by omega)]
    refine Eq.trans (b303_38 (by rw [e1]; omega) (by omega) (by rw [e1, Int.toNat_natCast, e142]; exact hf i (by omega))) ?_
    rw [e1, Int.toNat_natCast, Int.toNat_natCast, e141, e142, xadd_eq (by omega) (by omega)]
    rw [st]
    exact nx
end PRE
section PRE2
variable {X : Nat × (Nat → Int)} {σ τ : xM} {a : Int} {d n b : Nat}
theorem s49 (hb : b < 3) : ∀ d, Ev X d 49 0 [some (vr 0), some (vi b)] [] SH σ = some (some (vr (32 + 3 * b)), SH, σ) := by
  intro d
  have : b = 0 ∨ b = 1 ∨ b = 2 := by omega
  rcases this with rfl | rfl | rfl
  · simp (disch := first | omega | assumption | (simp (disch := omega) only [Int.reduceAdd, xadd_eq, xsub_eq, xmul_eq, xneg_eq, xwr_eq, xwr_nk, xwr_nj, Int.toNat_natCast, x_nc] <;> first | omega | assumption) | fail) only [↓if_pos, ↓if_neg, ↓b49_0, ↓b49_28, ↓b49_33, ↓b49_38, ↓b49_43, x_bdi, x_bdn, Int.reduceAdd, xadd_eq, xsub_eq, xmul_eq, xneg_eq, xwr_eq, xwr_nk, xwr_nj, Int.toNat_natCast, x_nc]
  · simp (disch := first | omega | assumption | (simp (disch := omega) only [Int.reduceAdd, xadd_eq, xsub_eq, xmul_eq, xneg_eq, xwr_eq, xwr_nk, xwr_nj, Int.toNat_natCast, x_nc] <;> first | omega | assumption) | fail) only [↓if_pos, ↓if_neg, ↓b49_0, ↓b49_28, ↓b49_33, ↓b49_38, ↓b49_43, x_bdi, x_bdn, Int.reduceAdd, xadd_eq, xsub_eq, xmul_eq, xneg_eq, xwr_eq, xwr_nk, xwr_nj, Int.toNat_natCast, x_nc]
  · simp (disch := first | omega | assumption | (simp (disch := omega) only [Int.reduceAdd, xadd_eq, xsub_eq, xmul_eq, xneg_eq, xwr_eq, xwr_nk, xwr_nj, Int.toNat_natCast, x_nc] <;> first | omega | assumption) | fail) only [↓if_pos, ↓if_neg, ↓b49_0, ↓b49_28, ↓b49_33, ↓b49_38, ↓b49_43, x_bdi, x_bdn, Int.reduceAdd, xadd_eq, xsub_eq, xmul_eq, xneg_eq, xwr_eq, xwr_nk, xwr_nj, Int.toNat_natCast, x_nc]
theorem s49n (h : a < 0 ∨ 2 < a) : ∀ d, Ev X d 49 0 [some (vr 0), some (vi a)] [] SH σ = some (some vn, SH, σ) := by
  intro d
  simp (disch := first | omega | assumption | (simp (disch := omega) only [Int.reduceAdd, xadd_eq, xsub_eq, xmul_eq, xneg_eq, xwr_eq, xwr_nk, xwr_nj, Int.toNat_natCast, x_nc] <;> first | omega | assumption) | fail) only [↓if_pos, ↓if_neg, ↓b49_0, ↓b49_28, ↓b49_33, ↓b49_38, ↓b49_43, x_bdi, x_bdn, Int.reduceAdd, xadd_eq, xsub_eq, xmul_eq, xneg_eq, xwr_eq, xwr_nk, xwr_nj, Int.toNat_natCast, x_nc]
theorem box_row (hb : b < 3) : isRow (32 + 3 * b) := by
  have : b = 0 ∨ b = 1 ∨ b = 2 := by omega
  unfold isRow
  omega
/-- cells that a box's row has no part in -/
theorem Pbox_no (P : Nat → Nat → Bool) (hb : b < 3) (h : ∀ k, 32 ≤ k → k ≤ 40 → ∀ j, P k j = false) : (∀ j, P (32 + 3 * b) j = false) ∧ (∀ j, P (32 + 3 * b + 1) j = false) ∧ (∀ j, P (32 + 3 * b + 2) j = false) := ⟨h _ (by omega) (by omega), h _ (by omega) (by omega), h _ (by omega) (by omega)⟩
theorem cl3240 {P : Nat → Nat → Bool} (h : (∀ j, P 32 j = false) ∧ (∀ j, P 33 j = false) ∧ (∀ j, P 34 j = false) ∧ (∀ j, P 35 j = false) ∧ (∀ j, P 36 j = false) ∧ (∀ j, P 37 j = false) ∧ (∀ j, P 38 j = false) ∧ (∀ j, P 39 j = false) ∧ (∀ j, P 40 j = false)) : ∀ k, 32 ≤ k → k ≤ 40 → ∀ j, P k j = false := by
  intro k h1 h2
  have : k = 32 ∨ k = 33 ∨ k = 34 ∨ k = 35 ∨ k = 36 ∨ k = 37 ∨ k = 38 ∨ k = 39 ∨ k = 40 := by omega
  rcases this with rfl | rfl | rfl | rfl | rfl | rfl | rfl | rfl | rfl
  · exact h.1
  · exact h.2.1
  · exact h.2.2.1
  · exact h.2.2.2.1
  · exact h.2.2.2.2.1
  · exact h.2.2.2.2.2.1
  · exact h.2.2.2.2.2.2.1
  · exact h.2.2.2.2.2.2.2.1
  · exact h.2.2.2.2.2.2.2.2
theorem pr_keep (h : Core σ) : Pair X 48 301 [some (vr 0), some (vi a), none] [some (vr 100), some (vi a), none] σ (Post σ) := by
  have h' := h
  obtain ⟨h1, h2, h3, h4, h5, h6, h7, h8, h9, h10⟩ := h'
  obtain ⟨r1, r2, r3, r4⟩ := h.2.2.2.1
  by_cases ha : a < 0 ∨ 2 < a
  · have e1 := s49n (X := X) (σ := σ) ha
    refine Pair_q0 (r := -1) (r' := -1) h (fun d => ?_) (fun d => ?_) rfl
    · simp (disch := first | omega | assumption | (simp (disch := omega) only [Int.reduceAdd, xadd_eq, xsub_eq, xmul_eq, xneg_eq, xwr_eq, xwr_nk, xwr_nj, Int.toNat_natCast, x_nc] <;> first | omega | assumption) | fail) only [↓if_pos, ↓if_neg, ↓b48_0, ↓b48_5, ↓b48_5_2, ↓b48_20, ↓b48_10, ↓b48_22, ↓b48_30, ↓e1, x_bdi, x_bdn, Int.reduceAdd, xadd_eq, xsub_eq, xmul_eq, xneg_eq, xwr_eq, xwr_nk, xwr_nj, Int.toNat_natCast, x_nc]
    · simp (disch := first | omega | assumption | (simp (disch := omega) only [Int.reduceAdd, xadd_eq, xsub_eq, xmul_eq, xneg_eq, xwr_eq, xwr_nk, xwr_nj, Int.toNat_natCast, x_nc, f302] <;> first | omega | assumption) | fail) only [↓if_pos, ↓if_neg, ↓b301_0, ↓b301_4, ↓b301_14, ↓b301_7, ↓b301_16, ↓b301_28, ↓b301_76, ↓b301_36, ↓s302, x_bdi, x_bdn, Int.reduceAdd, xadd_eq, xsub_eq, xmul_eq, xneg_eq, xwr_eq, xwr_nk, xwr_nj, Int.toNat_natCast, x_nc]
  · obtain ⟨b, rfl⟩ : ∃ b : Nat, a = b := ⟨a.toNat, by omega⟩
    have hb : b < 3 := by omega
    have e1 := s49 (X := X) (σ := σ) hb
    have hk := box_row hb
    by_cases z : σ 23 0 = 0
    · refine Pair_q0 (r := -1) (r' := -1) h (fun d => ?_) (fun d => ?_) rfl
      · simp (disch := first | omega | assumption | (simp (disch := omega) only [Int.reduceAdd, xadd_eq, xsub_eq, xmul_eq, xneg_eq, xwr_eq, xwr_nk, xwr_nj, Int.toNat_natCast, x_nc] <;> first | omega | assumption) | fail) only [↓if_pos, ↓if_neg, ↓b48_0, ↓b48_5, ↓b48_5_2, ↓b48_20, ↓b48_10, ↓b48_22, ↓b48_30, ↓e1, x_bdi, x_bdn, Int.reduceAdd, xadd_eq, xsub_eq, xmul_eq, xneg_eq, xwr_eq, xwr_nk, xwr_nj, Int.toNat_natCast, x_nc]
      · simp (disch := first | omega | assumption | (simp (disch := omega) only [Int.reduceAdd, xadd_eq, xsub_eq, xmul_eq, xneg_eq, xwr_eq, xwr_nk, xwr_nj, Int.toNat_natCast, x_nc, f302] <;> first | omega | assumption) | fail) only [↓if_pos, ↓if_neg, ↓b301_0, ↓b301_4, ↓b301_14, ↓b301_7, ↓b301_16, ↓b301_28, ↓b301_76, ↓b301_36, ↓s302, x_bdi, x_bdn, Int.reduceAdd, xadd_eq, xsub_eq, xmul_eq, xneg_eq, xwr_eq, xwr_nk, xwr_nj, Int.toNat_natCast, x_nc]
    · obtain ⟨n, hn⟩ : ∃ n : Nat, σ 23 0 = n := ⟨(σ 23 0).toNat, by omega⟩
      have e2 := fun d => s144 (X := X) (d := d) (σ := σ) (k := 32 + 3 * b) (k1 := 23) hk (Or.inl rfl) (by omega) r1 r2 (fun c hc => (r4 c hc).2.1)
      rw [hn, Int.toNat_natCast] at e2
      generalize hσ1 : cpy (xwr σ (32 + 3 * b) 0 (n : Int)) (32 + 3 * b) 23 n = σ1 at e2
      have fr : ∀ q, q ≠ 32 + 3 * b → q ≠ 33 + 3 * b → q ≠ 34 + 3 * b → σ1 q = σ q := by
        intro q y1 y2 y3
        rw [← hσ1]
        unfold cpy
        rw [xrow_nrow (by omega), xrow_nrow (by omega), xwr_row y1]
      have u16 : σ1 100 16 = n := by rw [fr 100 (by omega) (by omega) (by omega)]; omega
      have u23 : σ1 23 = σ 23 := fr 23 (by omega) (by omega) (by omega)
      have lp := fun d => it301 (X := X) (σ := xwr σ1 140 b (n : Int)) (b := b) (n := n) (d := d) hb (by rw [xwr_nk (by decide)]; exact u16) (by omega) (fun c hc => by
        rw [xwr_nk (by decide), fr 107 (by omega) (by omega) (by omega), (r4 c (by omega)).1]
        exact (r4 c (by omega)).2.1) n 0 (by omega)
      rw [U2_0] at lp
      have lp : ∀ d, Ev X d 301 28 [some (vr 100), some (vi b), some (vi 0)] [] SH (xwr σ1 140 b (n : Int)) = _ := lp
      refine ⟨n, σ1, U2 (xwr σ1 140 b (n : Int)) 141 (11 * b) (xwr σ1 140 b (n : Int) 110) 142 (11 * b) (xwr σ1 140 b (n : Int) 107) n, fun d => ?_, fun d => ?_, ?_⟩
      rotate_left
      · have e5 : Ev X (d + 100) 301 0 [some (vr 100), some (vi b), none] [] SH σ1 = Ev X (d + 100) 301 28 [some (vr 100), some (vi b), some (vi 0)] [] SH (xwr σ1 140 b (n : Int)) := by
          simp (disch := first | omega | assumption | (simp (disch := omega) only [Int.reduceAdd, xadd_eq, xsub_eq, xmul_eq, xneg_eq, xwr_eq, xwr_nk, xwr_nj, Int.toNat_natCast, x_nc, f302, u16] <;> first | omega | assumption) | fail) only [↓if_pos, ↓if_neg, ↓b301_0, ↓b301_4, ↓b301_14, ↓b301_7, ↓b301_16, ↓b301_76, ↓b301_36, ↓s302, u16, x_bdi, x_bdn, Int.reduceAdd, xadd_eq, xsub_eq, xmul_eq, xneg_eq, xwr_eq, xwr_nk, xwr_nj, Int.toNat_natCast, x_nc]
        exact e5.trans (lp _)
      · have E : ∀ (P : Nat → Nat → Bool), (∀ k, 32 ≤ k → k ≤ 40 → ∀ j, P k j = false) → (∀ j, P 140 j = false) → (∀ j, P 141 j = false) → (∀ j, P 142 j = false) → eqp P σ (U2 (xwr σ1 140 b (n : Int)) 141 (11 * b) (xwr σ1 140 b (n : Int) 110) 142 (11 * b) (xwr σ1 140 b (n : Int) 107) n) := by
          intro P p1 p2 p3 p4
          refine eqp_U2 p3 p4 (eqp_wr (p2 _) ?_)
          obtain ⟨q1, q2, q3⟩ := Pbox_no P hb p1
          rw [← hσ1]
          exact eqp_cpy q2 q3 (eqp_wr (q1 _) eqp_rf)
        have no : ∀ (P : Nat → Nat → Bool), ((∀ j, P 32 j = false) ∧ (∀ j, P 33 j = false) ∧ (∀ j, P 34 j = false) ∧ (∀ j, P 35 j = false) ∧ (∀ j, P 36 j = false) ∧ (∀ j, P 37 j = false) ∧ (∀ j, P 38 j = false) ∧ (∀ j, P 39 j = false) ∧ (∀ j, P 40 j = false)) → (∀ j, P 140 j = false) → (∀ j, P 141 j = false) → (∀ j, P 142 j = false) → eqp P σ (U2 (xwr σ1 140 b (n : Int)) 141 (11 * b) (xwr σ1 140 b (n : Int) 110) 142 (11 * b) (xwr σ1 140 b (n : Int) 107) n) := fun P c1 c2 c3 c4 => E P (cl3240 c1) c2 c3 c4
        refine ⟨⟨Ctape_eqp (no _ ⟨(fun _ => rfl), (fun _ => rfl), (fun _ => rfl), (fun _ => rfl), (fun _ => rfl), (fun _ => rfl), (fun _ => rfl), (fun _ => rfl), (fun _ => rfl)⟩ (fun _ => rfl) (fun _ => rfl) (fun _ => rfl)) h1, Cform_eqp (no _ ⟨(fun _ => rfl), (fun _ => rfl), (fun _ => rfl), (fun _ => rfl), (fun _ => rfl), (fun _ => rfl), (fun _ => rfl), (fun _ => rfl), (fun _ => rfl)⟩ (fun _ => rfl) (fun _ => rfl) (fun _ => rfl)) h2, Cwant_eqp (no _ ⟨(fun _ => rfl), (fun _ => rfl), (fun _ => rfl), (fun _ => rfl), (fun _ => rfl), (fun _ => rfl), (fun _ => rfl), (fun _ => rfl), (fun _ => rfl)⟩ (fun _ => rfl) (fun _ => rfl) (fun _ => rfl)) h3, Crow_eqp (no _ ⟨(fun _ => rfl), (fun _ => rfl), (fun _ => rfl), (fun _ => rfl), (fun _ => rfl), (fun _ => rfl), (fun _ => rfl), (fun _ => rfl), (fun _ => rfl)⟩ (fun _ => rfl) (fun _ => rfl) (fun _ => rfl)) h4, Cgoal_eqp (no _ ⟨(fun _ => rfl), (fun _ => rfl), (fun _ => rfl), (fun _ => rfl), (fun _ => rfl), (fun _ => rfl), (fun _ => rfl), (fun _ => rfl), (fun _ => rfl)⟩ (fun _ => rfl) (fun _ => rfl) (fun _ => rfl)) h5, ?_, Csee_eqp (no _ ⟨(fun _ => rfl), (fun _ => rfl), (fun _ => rfl), (fun _ => rfl), (fun _ => rfl), (fun _ => rfl), (fun _ => rfl), (fun _ => rfl), (fun _ => rfl)⟩ (fun _ => rfl) (fun _ => rfl) (fun _ => rfl)) h7, Cact_eqp (no _ ⟨(fun _ => rfl), (fun _ => rfl), (fun _ => rfl), (fun _ => rfl), (fun _ => rfl), (fun _ => rfl), (fun _ => rfl), (fun _ => rfl), (fun _ => rfl)⟩ (fun _ => rfl) (fun _ => rfl) (fun _ => rfl)) h8, Crd_eqp (no _ ⟨(fun _ => rfl), (fun _ => rfl), (fun _ => rfl), (fun _ => rfl), (fun _ => rfl), (fun _ => rfl), (fun _ => rfl), (fun _ => rfl), (fun _ => rfl)⟩ (fun _ => rfl) (fun _ => rfl) (fun _ => rfl)) h9, Cmis_eqp (no _ ⟨(fun _ => rfl), (fun _ => rfl), (fun _ => rfl), (fun _ => rfl), (fun _ => rfl), (fun _ => rfl), (fun _ => rfl), (fun _ => rfl), (fun _ => rfl)⟩ (fun _ => rfl) (fun _ => rfl) (fun _ => rfl)) h10⟩, Or.inl (no _ ⟨(fun _ => rfl), (fun _ => rfl), (fun _ => rfl), (fun _ => rfl), (fun _ => rfl), (fun _ => rfl), (fun _ => rfl), (fun _ => rfl), (fun _ => rfl)⟩ (fun _ => rfl) (fun _ => rfl) (fun _ => rfl)), Or.inl (no _ ⟨(fun _ => rfl), (fun _ => rfl), (fun _ => rfl), (fun _ => rfl), (fun _ => rfl), (fun _ => rfl), (fun _ => rfl), (fun _ => rfl), (fun _ => rfl)⟩ (fun _ => rfl) (fun _ => rfl) (fun _ => rfl))⟩
        refine Cbox_of (fun b' hb' => ?_)
        have old := Cbox_at h6 b' hb'
        have v140 : U2 (xwr σ1 140 b (n : Int)) 141 (11 * b) (xwr σ1 140 b (n : Int) 110) 142 (11 * b) (xwr σ1 140 b (n : Int) 107) n 140 b' = if b' = b then (n : Int) else σ 140 b' := by
          rw [U2_at (by decide) (by decide), xwr_rw]
          dsimp only
          rw [fr 140 (by omega) (by omega) (by omega)]
        have v141 : U2 (xwr σ1 140 b (n : Int)) 141 (11 * b) (xwr σ1 140 b (n : Int) 110) 142 (11 * b) (xwr σ1 140 b (n : Int) 107) n 141 = upf (σ 141) (11 * b) (σ 110) n := by
          rw [U2_1 (by decide), xwr_row (by decide), xwr_row (by decide), fr 141 (by omega) (by omega) (by omega), fr 110 (by omega) (by omega) (by omega)]
        have v142 : U2 (xwr σ1 140 b (n : Int)) 141 (11 * b) (xwr σ1 140 b (n : Int) 110) 142 (11 * b) (xwr σ1 140 b (n : Int) 107) n 142 = upf (σ 142) (11 * b) (σ 107) n := by
          rw [U2_2, xwr_row (by decide), xwr_row (by decide), fr 142 (by omega) (by omega) (by omega), fr 107 (by omega) (by omega) (by omega)]
        rw [v140, v141, v142]
        rw [U2_at (by omega) (by omega), U2_at (by omega) (by omega), U2_at (by omega) (by omega), xwr_row (by omega), xwr_row (by omega), xwr_row (by omega)]
        by_cases eb : b' = b
        · subst eb
          have w0 : σ1 (32 + 3 * b') 0 = n := by
            rw [← hσ1]
            unfold cpy
            rw [xrow_ne (by omega), xrow_ne (by omega), xwr_eq]
          have w1 : ∀ c, c < n → σ1 (33 + 3 * b') c = σ 24 c := by
            intro c hc
            rw [← hσ1]
            unfold cpy
            rw [show 33 + 3 * b' = 32 + 3 * b' + 1 by omega, xrow_ne (by omega), xrow_eq, if_pos hc, xwr_nk (by omega)]
          have w2 : ∀ c, c < n → σ1 (34 + 3 * b') c = σ 25 c := by
            intro c hc
            rw [← hσ1]
            unfold cpy
            rw [show 34 + 3 * b' = 32 + 3 * b' + 2 by omega, xrow_eq, if_pos hc, xwr_nk (by omega)]
          rw [w0, if_pos rfl]
          refine ⟨by omega, by omega, rfl, fun c hc => ?_⟩
          have q := r4 c (by omega)
          dsimp only
          rw [w1 c (by omega), w2 c (by omega), upf_in (by omega), upf_in (by omega)]
          exact q
        · rw [if_neg eb, fr _ (by omega) (by omega) (by omega), fr _ (by omega) (by omega) (by omega), fr _ (by omega) (by omega) (by omega)]
          have o2 := old.2.1
          refine RW_congr old (fun c _ => rfl) (fun c _ => rfl) (fun c hc => ?_) (fun c hc => ?_)
          · rw [upf_out (by omega)]
          · rw [upf_out (by omega)]
      · have e5 := fun d => e2 d
        simp (disch := first | omega | assumption | (simp (disch := omega) only [Int.reduceAdd, xadd_eq, xsub_eq, xmul_eq, xneg_eq, xwr_eq, xwr_nk, xwr_nj, Int.toNat_natCast, x_nc] <;> first | omega | assumption) | fail) only [↓if_pos, ↓if_neg, ↓b48_0, ↓b48_5, ↓b48_5_2, ↓b48_20, ↓b48_10, ↓b48_22, ↓b48_30, ↓e1, ↓e5, u23, hn, x_bdi, x_bdn, Int.reduceAdd, xadd_eq, xsub_eq, xmul_eq, xneg_eq, xwr_eq, xwr_nk, xwr_nj, Int.toNat_natCast, x_nc]
end PRE2
theorem s5' {X : Nat × (Nat → Int)} {σ : xM} : ∀ d, Ev X (d + 2) 5 0 [some (vr 0)] [] SH σ = some (none, SH, xwr (xwr (xwr (xwr (xwr (xwr (xwr σ 47 1 0) 47 2 0) 41 1 0) 49 3 (-1)) 49 7 0) 70 6 0) 70 9 (-1)) := fun d => s5
/-- another row on both sides: what is left of the rest -/
theorem Post_row {σ τ : xM} (h : Core σ) (e : ∀ k j, k ≠ 23 → k ≠ 24 → k ≠ 25 → k ≠ 41 → k ≠ 47 → k ≠ 49 → k ≠ 70 → k ≠ 107 → k ≠ 110 → k ≠ 100 → τ k j = σ k j) (e41 : τ 41 0 = σ 41 0) (em : ∀ j, j ≠ 16 → j ≠ 59 → j ≠ 69 → j ≠ 70 → τ 100 j = σ 100 j) (hR : Crow τ) (z1 : τ 41 1 = 0) (z2 : τ 100 59 = 0) (z3 : τ 47 1 = 0) (z4 : τ 47 2 = 0) (z5 : τ 100 69 = 0) (z6 : τ 100 70 = 0) (f1 : ForgL τ) (f2 : ForgN τ) : Post σ τ := by
  obtain ⟨h1, h2, h3, h4, h5, h6, ⟨s1, s2, s3, s4, s5, s6, s7⟩, h8, h9, h10⟩ := h
  have E : ∀ (A : List Nat) (S : List (Nat × Nat)), (∀ k, [23, 24, 25, 41, 47, 49, 70, 107, 110].contains k = true → A.contains k = false ∧ ∀ j, S.contains (k, j) = false) → (A.contains 100 = false ∧ S.contains (100, 16) = false ∧ S.contains (100, 59) = false ∧ S.contains (100, 69) = false ∧ S.contains (100, 70) = false) → eqp (pin A S) σ τ := by
    intro A S q1 q2 k j hk
    have q3 : ∀ k', [23, 24, 25, 41, 47, 49, 70, 107, 110].contains k' = true → k ≠ k' := by
      intro k' hk' z
      subst z
      obtain ⟨z1, z2⟩ := q1 k hk'
      unfold pin at hk
      rw [z1, z2] at hk
      cases hk
    by_cases y : k = 100
    · subst y
      have q4 : ∀ j', S.contains (100, j') = false → j ≠ j' := by
        intro j' hj' z
        subst z
        unfold pin at hk
        rw [q2.1, hj'] at hk
        cases hk
      exact em j (q4 16 q2.2.1) (q4 59 q2.2.2.1) (q4 69 q2.2.2.2.1) (q4 70 q2.2.2.2.2)
    · exact e k j (q3 23 rfl) (q3 24 rfl) (q3 25 rfl) (q3 41 rfl) (q3 47 rfl) (q3 49 rfl) (q3 70 rfl) (q3 107 rfl) (q3 110 rfl) y
  have cl : ∀ k, [23, 24, 25, 41, 47, 49, 70, 107, 110].contains k = true → k = 23 ∨ k = 24 ∨ k = 25 ∨ k = 41 ∨ k = 47 ∨ k = 49 ∨ k = 70 ∨ k = 107 ∨ k = 110 := by
    intro k hk
    simpa using hk
  refine ⟨⟨Ctape_eqp (E _ _ ?_ (by decide)) h1, Cform_eqp (E _ _ ?_ (by decide)) h2, Cwant_eqp (E _ _ ?_ (by decide)) h3, hR, Cgoal_eqp (E _ _ ?_ (by decide)) h5, Cbox_eqp (E _ _ ?_ (by decide)) h6, ?_, ?_, Crd_eqp (E _ _ ?_ (by decide)) h9, Cmis_eqp (E _ _ ?_ (by decide)) h10⟩, Or.inr f1, Or.inr f2⟩
  all_goals first
    | (intro k hk
       rcases cl k hk with rfl | rfl | rfl | rfl | rfl | rfl | rfl | rfl | rfl <;> exact ⟨rfl, fun j => rfl⟩)
    | skip
  · unfold Csee
    rw [e41, z1, z2, em 60 (by decide) (by decide) (by decide) (by decide)]
    exact ⟨s1, s2, s3, by omega, by omega, rfl, fun i hi => by omega⟩
  · unfold Cact
    rw [z3, z4, z5, z6]
    exact ⟨by omega, by omega, by omega, rfl, by omega, fun i hi => by omega⟩
theorem pr_back {X : Nat × (Nat → Int)} {σ : xM} {a : Int} (h : Core σ) : Pair X 50 303 [some (vr 0), some (vi a), none] [some (vr 100), some (vi a), none] σ (Post σ) := by
  have h6 := h.2.2.2.2.2.1
  by_cases ha : a < 0 ∨ 2 < a
  · have e1 := s49n (X := X) (σ := σ) ha
    refine Pair_q0 (r := -1) (r' := -1) h (fun d => ?_) (fun d => ?_) rfl
    · simp (disch := first | omega | assumption | (simp (disch := omega) only [Int.reduceAdd, xadd_eq, xsub_eq, xmul_eq, xneg_eq, xwr_eq, xwr_nk, xwr_nj, Int.toNat_natCast, x_nc] <;> first | omega | assumption) | fail) only [↓if_pos, ↓if_neg, ↓b50_0, ↓b50_5, ↓b50_5_2, ↓b50_17, ↓b50_10, ↓b50_19, ↓b50_27, ↓b50_31, ↓e1, x_bdi, x_bdn, Int.reduceAdd, xadd_eq, xsub_eq, xmul_eq, xneg_eq, xwr_eq, xwr_nk, xwr_nj, Int.toNat_natCast, x_nc]
    · simp (disch := first | omega | assumption | (simp (disch := omega) only [Int.reduceAdd, xadd_eq, xsub_eq, xmul_eq, xneg_eq, xwr_eq, xwr_nk, xwr_nj, Int.toNat_natCast, x_nc, f302] <;> first | omega | assumption) | fail) only [↓if_pos, ↓if_neg, ↓b303_0, ↓b303_4, ↓b303_16, ↓b303_7, ↓b303_18, ↓b303_30, ↓b303_78, ↓b303_38, ↓s302, x_bdi, x_bdn, Int.reduceAdd, xadd_eq, xsub_eq, xmul_eq, xneg_eq, xwr_eq, xwr_nk, xwr_nj, Int.toNat_natCast, x_nc]
  · obtain ⟨b, rfl⟩ : ∃ b : Nat, a = b := ⟨a.toNat, by omega⟩
    have hb : b < 3 := by omega
    have e1 := s49 (X := X) (σ := σ) hb
    have hk := box_row hb
    obtain ⟨r1, r2, r3, r4⟩ := Cbox_at h6 b hb
    by_cases z : σ (32 + 3 * b) 0 = 0
    · refine Pair_q0 (r := -1) (r' := -1) h (fun d => ?_) (fun d => ?_) rfl
      · simp (disch := first | omega | assumption | (simp (disch := omega) only [Int.reduceAdd, xadd_eq, xsub_eq, xmul_eq, xneg_eq, xwr_eq, xwr_nk, xwr_nj, Int.toNat_natCast, x_nc] <;> first | omega | assumption) | fail) only [↓if_pos, ↓if_neg, ↓b50_0, ↓b50_5, ↓b50_5_2, ↓b50_17, ↓b50_10, ↓b50_19, ↓b50_27, ↓b50_31, ↓e1, x_bdi, x_bdn, Int.reduceAdd, xadd_eq, xsub_eq, xmul_eq, xneg_eq, xwr_eq, xwr_nk, xwr_nj, Int.toNat_natCast, x_nc]
      · simp (disch := first | omega | assumption | (simp (disch := omega) only [Int.reduceAdd, xadd_eq, xsub_eq, xmul_eq, xneg_eq, xwr_eq, xwr_nk, xwr_nj, Int.toNat_natCast, x_nc, f302] <;> first | omega | assumption) | fail) only [↓if_pos, ↓if_neg, ↓b303_0, ↓b303_4, ↓b303_16, ↓b303_7, ↓b303_18, ↓b303_30, ↓b303_78, ↓b303_38, ↓s302, x_bdi, x_bdn, Int.reduceAdd, xadd_eq, xsub_eq, xmul_eq, xneg_eq, xwr_eq, xwr_nk, xwr_nj, Int.toNat_natCast, x_nc]
    · obtain ⟨n, hn⟩ : ∃ n : Nat, σ (32 + 3 * b) 0 = n := ⟨(σ (32 + 3 * b) 0).toNat, by omega⟩
      have e2 := fun d => s144 (X := X) (d := d) (σ := σ) (k := 23) (k1 := 32 + 3 * b) (Or.inl rfl) hk (by omega) r1 r2 (fun c hc => by
        have := (r4 c hc).2.1
        rw [show 32 + 3 * b + 1 = 33 + 3 * b by omega]
        exact this)
      rw [hn, Int.toNat_natCast] at e2
      have e3 := s5' (X := X) (σ := cpy (xwr σ 23 0 (n : Int)) 23 (32 + 3 * b) n)
      generalize hσ1 : xwr (xwr (xwr (xwr (xwr (xwr (xwr (cpy (xwr σ 23 0 (n : Int)) 23 (32 + 3 * b) n) 47 1 0) 47 2 0) 41 1 0) 49 3 (-1)) 49 7 0) 70 6 0) 70 9 (-1) = σ1 at e3
      have w23 : σ1 23 0 = n := by
        rw [← hσ1]
        unfold cpy
        simp (disch := decide) only [xwr_nk, xrow_ne, xwr_eq]
      have w24 : ∀ c, c < n → σ1 24 c = σ (33 + 3 * b) c := by
        intro c hc
        rw [← hσ1]
        unfold cpy
        simp (disch := decide) only [xwr_nk, xrow_ne, xrow_eq]
        rw [if_pos hc, xwr_nk (by omega), show 32 + 3 * b + 1 = 33 + 3 * b by omega]
      have w25 : ∀ c, c < n → σ1 25 c = σ (34 + 3 * b) c := by
        intro c hc
        rw [← hσ1]
        unfold cpy
        simp (disch := decide) only [xwr_nk, xrow_ne, xrow_eq]
        rw [if_pos hc, xwr_nk (by omega), show 32 + 3 * b + 2 = 34 + 3 * b by omega]
      have wm : ∀ k, 100 ≤ k → σ1 k = σ k := by
        intro k hk
        rw [← hσ1]
        unfold cpy
        rw [xwr_row (by omega), xwr_row (by omega), xwr_row (by omega), xwr_row (by omega), xwr_row (by omega), xwr_row (by omega), xwr_row (by omega), xrow_nrow (by omega), xrow_nrow (by omega), xwr_row (by omega)]
      have lp := fun d => it303 (X := X) (σ := xwr σ1 100 16 (n : Int)) (b := b) (n := n) (d := d) hb xwr_eq (by omega) n 0 (by omega) (fun c hc => by
        have q := r4 c (by omega)
        dsimp only at q
        rw [xwr_nk (by decide), wm 142 (by decide), q.1]
        exact q.2.1)
      rw [U2_0] at lp
      have lp : ∀ d, Ev X d 303 30 [some (vr 100), some (vi b), some (vi 0)] [] SH (xwr σ1 100 16 (n : Int)) = _ := lp
      have u140 : σ1 140 b = n := by rw [wm 140 (by decide)]; omega
      generalize hσ2 : xwr (xwr (xwr (U2 (xwr σ1 100 16 (n : Int)) 110 0 (fun j => xwr σ1 100 16 (n : Int) 141 (11 * b + j)) 107 0 (fun j => xwr σ1 100 16 (n : Int) 142 (11 * b + j)) n) 100 59 0) 100 69 0) 100 70 0 = σ2 at lp
      refine ⟨n, σ1, σ2, fun d => ?_, fun d => ?_, ?_⟩
      · simp (disch := first | omega | assumption | (simp (disch := omega) only [Int.reduceAdd, xadd_eq, xsub_eq, xmul_eq, xneg_eq, xwr_eq, xwr_nk, xwr_nj, Int.toNat_natCast, x_nc] <;> first | omega | assumption) | fail) only [↓if_pos, ↓if_neg, ↓b50_0, ↓b50_5, ↓b50_5_2, ↓b50_17, ↓b50_10, ↓b50_19, ↓b50_27, ↓b50_31, ↓e1, ↓e2, ↓e3, w23, x_bdi, x_bdn, Int.reduceAdd, xadd_eq, xsub_eq, xmul_eq, xneg_eq, xwr_eq, xwr_nk, xwr_nj, Int.toNat_natCast, x_nc]
      · have e5 : Ev X (d + 100) 303 0 [some (vr 100), some (vi b), none] [] SH σ1 = Ev X (d + 100) 303 30 [some (vr 100), some (vi b), some (vi 0)] [] SH (xwr σ1 100 16 (n : Int)) := by
          simp (disch := first | omega | assumption | (simp (disch := omega) only [Int.reduceAdd, xadd_eq, xsub_eq, xmul_eq, xneg_eq, xwr_eq, xwr_nk, xwr_nj, Int.toNat_natCast, x_nc, f302, u140] <;> first | omega | assumption) | fail) only [↓if_pos, ↓if_neg, ↓b303_0, ↓b303_4, ↓b303_16, ↓b303_7, ↓b303_18, ↓b303_78, ↓b303_38, ↓s302, u140, x_bdi, x_bdn, Int.reduceAdd, xadd_eq, xsub_eq, xmul_eq, xneg_eq, xwr_eq, xwr_nk, xwr_nj, Int.toNat_natCast, x_nc]
        exact e5.trans (lp _)
      · refine Post_row h ?_ ?_ ?_ ?_ ?_ ?_ ?_ ?_ ?_ ?_ ?_ ?_
        · intro k j y1 y2 y3 y4 y5 y6 y7 y8 y9 y10
          rw [← hσ2, xwr_nk y10, xwr_nk y10, xwr_nk y10, U2_at y9 y8, xwr_nk y10, ← hσ1]
          unfold cpy
          rw [xwr_nk y7, xwr_nk y7, xwr_nk y6, xwr_nk y6, xwr_nk y4, xwr_nk y5, xwr_nk y5, xrow_ne y3, xrow_ne y2, xwr_nk y1]
        · rw [← hσ2, xwr_nk (by decide), xwr_nk (by decide), xwr_nk (by decide), U2_at (by decide) (by decide), xwr_nk (by decide), ← hσ1]
          unfold cpy
          simp (disch := decide) only [xwr_nk, xwr_nj, xrow_ne]
        · intro j y1 y2 y3 y4
          rw [← hσ2, xwr_nj y4, xwr_nj y3, xwr_nj y2, U2_at (by decide) (by decide), xwr_nj y1, wm 100 (by decide)]
        · unfold Crow
          have v23 : σ2 23 0 = n := by
            rw [← hσ2, xwr_nk (by decide), xwr_nk (by decide), xwr_nk (by decide), U2_at (by decide) (by decide), xwr_nk (by decide)]
            exact w23
          have v24 : σ2 24 = σ1 24 := by
            rw [← hσ2, xwr_row (by decide), xwr_row (by decide), xwr_row (by decide), U2_at (by decide) (by decide), xwr_row (by decide)]
          have v25 : σ2 25 = σ1 25 := by
            rw [← hσ2, xwr_row (by decide), xwr_row (by decide), xwr_row (by decide), U2_at (by decide) (by decide), xwr_row (by decide)]
          have v16 : σ2 100 16 = n := by
            rw [← hσ2, xwr_nj (by decide), xwr_nj (by decide), xwr_nj (by decide), U2_at (by decide) (by decide), xwr_eq]
          have v107 : σ2 107 = upf (σ 107) 0 (fun j => σ 142 (11 * b + j)) n := by
            rw [← hσ2, xwr_row (by decide), xwr_row (by decide), xwr_row (by decide), U2_2, xwr_row (by decide), xwr_row (by decide), wm 107 (by decide), wm 142 (by decide)]
          have v110 : σ2 110 = upf (σ 110) 0 (fun j => σ 141 (11 * b + j)) n := by
            rw [← hσ2, xwr_row (by decide), xwr_row (by decide), xwr_row (by decide), U2_1 (by decide), xwr_row (by decide), xwr_row (by decide), wm 110 (by decide), wm 141 (by decide)]
          rw [v23, v24, v25, v16, v107, v110]
          refine ⟨by omega, by omega, rfl, fun c hc => ?_⟩
          have q := r4 c (by omega)
          rw [upf_in0 (by omega), upf_in0 (by omega), w24 c (by omega), w25 c (by omega)]
          exact q
        · rw [← hσ2, xwr_nk (by decide), xwr_nk (by decide), xwr_nk (by decide), U2_at (by decide) (by decide), xwr_nk (by decide), ← hσ1]
          simp (disch := decide) only [xwr_nk, xwr_eq]
        · rw [← hσ2]
          simp (disch := decide) only [xwr_nj, xwr_eq]
        · rw [← hσ2, xwr_nk (by decide), xwr_nk (by decide), xwr_nk (by decide), U2_at (by decide) (by decide), xwr_nk (by decide), ← hσ1]
          simp (disch := decide) only [xwr_nk, xwr_nj, xwr_eq]
        · rw [← hσ2, xwr_nk (by decide), xwr_nk (by decide), xwr_nk (by decide), U2_at (by decide) (by decide), xwr_nk (by decide), ← hσ1]
          simp (disch := decide) only [xwr_nk, xwr_nj, xwr_eq]
        · rw [← hσ2]
          simp (disch := decide) only [xwr_nj, xwr_eq]
        · rw [← hσ2]
          simp (disch := decide) only [xwr_nj, xwr_eq]
        · rw [← hσ2, ← hσ1]
          unfold ForgL
          simp (disch := decide) only [xwr_nk, xwr_nj, xwr_eq, U2_at]
          exact ⟨trivial, trivial⟩
        · rw [← hσ2, ← hσ1]
          unfold ForgN
          simp (disch := decide) only [xwr_nk, xwr_nj, xwr_eq, U2_at]
          exact ⟨trivial, trivial⟩
