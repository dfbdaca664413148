/-! PAIRS: stick, undo, redo -/
section PRC
variable {X : Nat × (Nat → Int)} {σ τ : xM} {a b c : Int} {d k m : Nat}
theorem s6' {σ : xM} : ∀ d, Ev X (d + 1) 6 0 [some (vr 0)] [] SH σ = some (none, SH, xwr (xwr (xwr (xwr σ 49 3 (-1)) 49 7 0) 70 6 0) 70 9 (-1)) := fun d => s6
theorem s298 {n p : Nat} (h1 : n < 11) (h2 : p < 7) : Ev X d 298 0 [some (vr 100), some (vi (10 * (n : Int) + p))] [] SH σ = some (none, SH, xwr σ 110 n (xxor (σ 110 n) (xshl 1 p))) := by
  obtain ⟨-, -, -, e1, e2⟩ := act8 n h1 p h2
  rw [b298_0 (by rw [e1]; omega), e1, e2, Int.toNat_natCast]
/-- the memory where a stick was turned over on both sides; known ACTS are no other -/
theorem Post_flip (h : Core σ) {n p : Nat} {w : Int} (hn : (n : Int) < σ 23 0) (hp : p < 7) (hq : σ 24 n = 0 → p < 5) (hw : w = xxor (σ 25 n) (xshl 1 p)) (e : ∀ k j, k ≠ 25 → k ≠ 47 → k ≠ 48 → k ≠ 49 → k ≠ 70 → k ≠ 110 → k ≠ 139 → ¬ (k = 100 ∧ (j = 69 ∨ j = 70)) → τ k j = σ k j) (e25 : τ 25 = fun i => if i = n then w else σ 25 i) (e110 : τ 110 = fun i => if i = n then w else σ 110 i) (hA : Cact τ) (f1 : ForgL τ) (f2 : ForgN τ) : Post σ τ := by
  obtain ⟨h1, h2, h3, h4, h5, h6, h7, h8, h9, h10⟩ := h
  have E : ∀ (A : List Nat) (S : List (Nat × Nat)), (∀ k, [25, 47, 48, 49, 70, 110, 139].contains k = true → A.contains k = false ∧ ∀ j, S.contains (k, j) = false) → (A.contains 100 = false ∧ S.contains (100, 69) = false ∧ S.contains (100, 70) = false) → eqp (pin A S) σ τ := by
    intro A S q1 q2 k j hk
    have q3 : ∀ k', [25, 47, 48, 49, 70, 110, 139].contains k' = true → k ≠ k' := by
      intro k' hk' z
      subst z
      obtain ⟨z1, z2⟩ := q1 k hk'
      unfold pin at hk
      rw [z1, z2] at hk
      cases hk
    refine e k j (q3 25 rfl) (q3 47 rfl) (q3 48 rfl) (q3 49 rfl) (q3 70 rfl) (q3 110 rfl) (q3 139 rfl) (fun z => ?_)
    obtain ⟨rfl, z⟩ := z
    unfold pin at hk
    rcases z with rfl | rfl
    · rw [q2.1, q2.2.1] at hk; cases hk
    · rw [q2.1, q2.2.2] at hk; cases hk
  have cl : ∀ k, [25, 47, 48, 49, 70, 110, 139].contains k = true → k = 25 ∨ k = 47 ∨ k = 48 ∨ k = 49 ∨ k = 70 ∨ k = 110 ∨ k = 139 := by
    intro k hk
    simpa using hk
  refine ⟨⟨Ctape_eqp (E _ _ ?_ (by decide)) h1, Cform_eqp (E _ _ ?_ (by decide)) h2, Cwant_eqp (E _ _ ?_ (by decide)) h3, ?_, Cgoal_eqp (E _ _ ?_ (by decide)) h5, Cbox_eqp (E _ _ ?_ (by decide)) h6, Csee_eqp (E _ _ ?_ (by decide)) h7, hA, Crd_eqp (E _ _ ?_ (by decide)) h9, Cmis_eqp (E _ _ ?_ (by decide)) h10⟩, Or.inr f1, Or.inr f2⟩
  all_goals first
    | (intro k hk
       rcases cl k hk with rfl | rfl | rfl | rfl | rfl | rfl | rfl <;> exact ⟨rfl, fun j => rfl⟩)
    | skip
  have hb := (h4.2.2.2 n hn).2.2.2
  have fl := flp (σ 25 n).toNat (by omega) p hp
  rw [Int.toNat_of_nonneg hb.1] at fl
  unfold Crow
  rw [e25, e110, show τ 23 0 = σ 23 0 from e 23 0 (by decide) (by decide) (by decide) (by decide) (by decide) (by decide) (by decide) (by decide), show τ 100 16 = σ 100 16 from e 100 16 (by decide) (by decide) (by decide) (by decide) (by decide) (by decide) (by decide) (by decide), show τ 24 = σ 24 from funext (fun j => e 24 j (by decide) (by decide) (by decide) (by decide) (by decide) (by decide) (by decide) (by omega)), show τ 107 = σ 107 from funext (fun j => e 107 j (by decide) (by decide) (by decide) (by decide) (by decide) (by decide) (by decide) (by omega))]
  refine RW_wr h4 ?_ ?_ ?_
  · rw [hw]; exact fl.1
  · rw [hw]; exact fl.2.1
  · intro _ z
    rw [hw]
    have := hb.2.2 z
    exact fl.2.2 (by omega) (hq z)
theorem pr_stick (h : Core σ) (hc : c = 0 ∨ c = 1) : Pair X 14 297 [some (vr 0), some (vi a), some (vi b), some (vi c)] [some (vr 100), some (vi a), some (vi b), some (vi c), none] σ (Post σ) := by
  have hR := h.2.2.2.1
  have hpe := hp_eq (a := a) (b := b) hR
  obtain ⟨r1, r2, r3, r4⟩ := hR
  have m16 : σ 100 16 ≤ 11 := by omega
  by_cases hp : f137 σ 23 a b = 0
  · have hp2 : f279 σ a b = 0 := by rw [← hpe]; exact hp
    have e1 := fun d => s137 (X := X) (d := d) (σ := σ) (k := 23) (a1 := a) (a2 := b) (Or.inl rfl)
    have e2 := fun d => s279 (X := X) (d := d) (σ := σ) (a1 := a) (a2 := b) m16
    rw [hp] at e1
    rw [hp2] at e2
    refine Pair_q0 (r := 0) (r' := 0) h (fun d => ?_) (fun d => ?_) rfl
    · simp (disch := first | omega | assumption | (simp (disch := omega) only [Int.reduceAdd, xadd_eq, xsub_eq, xmul_eq, xneg_eq, xwr_eq, xwr_nk, xwr_nj, Int.toNat_natCast, x_nc] <;> first | omega | assumption) | fail) only [↓if_pos, ↓if_neg, ↓b14_0, ↓b14_9, ↓b14_25, ↓b14_12, ↓b14_21, ↓b14_27, ↓b14_36, ↓b14_45, ↓b14_49, ↓e1, x_bdi, x_bdn, Int.reduceAdd, xadd_eq, xsub_eq, xmul_eq, xneg_eq, xwr_eq, xwr_nk, xwr_nj, Int.toNat_natCast, x_nc]
    · simp (disch := first | omega | assumption | (simp (disch := omega) only [Int.reduceAdd, xadd_eq, xsub_eq, xmul_eq, xneg_eq, xwr_eq, xwr_nk, xwr_nj, Int.toNat_natCast, x_nc] <;> first | omega | assumption) | fail) only [↓if_pos, ↓if_neg, ↓b297_0, ↓b297_6, ↓b297_32, ↓b297_9, ↓b297_27, ↓b297_23, ↓b297_28, ↓b297_34, ↓b297_85, ↓b297_43, ↓b297_130, ↓b297_46, ↓b297_75, ↓b297_53, ↓e2, x_bdi, x_bdn, Int.reduceAdd, xadd_eq, xsub_eq, xmul_eq, xneg_eq, xwr_eq, xwr_nk, xwr_nj, Int.toNat_natCast, x_nc]
  · obtain ⟨z1, z2, z3, z4, z5⟩ := p137 hp
    obtain ⟨n, rfl⟩ : ∃ n : Nat, a = n := ⟨a.toNat, by omega⟩
    obtain ⟨p, rfl⟩ : ∃ p : Nat, b = p := ⟨b.toNat, by omega⟩
    obtain ⟨g1, g2, g3, g4, g5, g6⟩ := r4 n z2
    have hpv : f137 σ 23 n p = 1 := by
      rcases z137 (σ := σ) (k := 23) (a1 := (n : Int)) (a2 := (p : Int)) with z | z
      · exact absurd z hp
      · exact z
    have hq : σ 24 n = 0 → p < 5 := by
      intro z
      unfold f137 at hpv
      rw [Int.toNat_natCast, show (23 + 1 : Nat) = 24 from rfl, if_pos z] at hpv
      repeat' split at hpv
      all_goals first | omega | (exact absurd hpv (by decide))
    have e1 := fun d => s137 (X := X) (d := d) (σ := σ) (k := 23) (a1 := (n : Int)) (a2 := (p : Int)) (Or.inl rfl)
    have e2 := fun (ρ : xM) (hρ : ρ 100 16 = σ 100 16 ∧ ρ 107 = σ 107) d => s279 (X := X) (d := d) (σ := ρ) (a1 := (n : Int)) (a2 := (p : Int)) (by rw [hρ.1]; exact m16)
    have e2' : ∀ ρ : xM, ρ 100 16 = σ 100 16 ∧ ρ 107 = σ 107 → f279 ρ n p = 1 := by
      intro ρ hρ
      rw [← hpv, hpe]
      unfold f279 f220 f280
      rw [hρ.1, hρ.2]
    rw [hpv] at e1
    have e3 := fun d => s138 (X := X) (d := d) (σ := σ) (k := 23) (a1 := (n : Int)) (a2 := (p : Int)) (Or.inl rfl)
    have v3 : f138 σ 23 n p = if xand (xshr (σ 25 n) p) 1 ≠ 1 then 0 else 1 := by
      unfold f138
      rw [hpv, if_neg (by decide), Int.toNat_natCast]
    rw [v3] at e3
    by_cases q : (if xand (xshr (σ 25 n) p) 1 ≠ 1 then (0 : Int) else 1) = c
    · have e2 := e2 σ ⟨rfl, rfl⟩
      rw [e2' σ ⟨rfl, rfl⟩] at e2
      refine Pair_q0 (r := 0) (r' := 0) h (fun d => ?_) (fun d => ?_) rfl
      · simp (disch := first | omega | assumption | (simp (disch := omega) only [Int.reduceAdd, xadd_eq, xsub_eq, xmul_eq, xneg_eq, xwr_eq, xwr_nk, xwr_nj, Int.toNat_natCast, x_nc] <;> first | omega | assumption) | fail) only [↓if_pos, ↓if_neg, ↓b14_0, ↓b14_9, ↓b14_25, ↓b14_12, ↓b14_21, ↓b14_27, ↓b14_36, ↓b14_45, ↓b14_49, ↓e1, ↓e3, x_bdi, x_bdn, Int.reduceAdd, xadd_eq, xsub_eq, xmul_eq, xneg_eq, xwr_eq, xwr_nk, xwr_nj, Int.toNat_natCast, x_nc]
      · by_cases y : xand (xshr (σ 25 n) p) 1 = 1
        · rw [if_neg (fun z => z y)] at q
          rw [← g3] at y
          simp (disch := first | omega | assumption | (simp (disch := omega) only [Int.reduceAdd, xadd_eq, xsub_eq, xmul_eq, xneg_eq, xwr_eq, xwr_nk, xwr_nj, Int.toNat_natCast, x_nc] <;> first | omega | assumption) | fail) only [↓if_pos, ↓if_neg, ↓b297_0, ↓b297_6, ↓b297_32, ↓b297_9, ↓b297_27, ↓b297_23, ↓b297_28, ↓b297_34, ↓b297_85, ↓b297_43, ↓b297_130, ↓b297_46, ↓b297_75, ↓b297_53, ↓e2, x_bdi, x_bdn, Int.reduceAdd, xadd_eq, xsub_eq, xmul_eq, xneg_eq, xwr_eq, xwr_nk, xwr_nj, Int.toNat_natCast, x_nc]
        · rw [if_pos y] at q
          rw [← g3] at y
          simp (disch := first | omega | assumption | (simp (disch := omega) only [Int.reduceAdd, xadd_eq, xsub_eq, xmul_eq, xneg_eq, xwr_eq, xwr_nk, xwr_nj, Int.toNat_natCast, x_nc] <;> first | omega | assumption) | fail) only [↓if_pos, ↓if_neg, ↓b297_0, ↓b297_6, ↓b297_32, ↓b297_9, ↓b297_27, ↓b297_23, ↓b297_28, ↓b297_34, ↓b297_85, ↓b297_43, ↓b297_130, ↓b297_46, ↓b297_75, ↓b297_53, ↓e2, x_bdi, x_bdn, Int.reduceAdd, xadd_eq, xsub_eq, xmul_eq, xneg_eq, xwr_eq, xwr_nk, xwr_nj, Int.toNat_natCast, x_nc]
    · have a8 := (act8 n (by omega) p (by omega)).1
      have e4 := fun d => s139 (X := X) (d := d) (σ := σ) (k := 23) (a1 := (n : Int)) (a2 := (p : Int)) (Or.inl rfl)
      have v4 : g139 σ 23 n p = xwr σ 25 n (xxor (σ 25 n) (xshl 1 p)) := by
        unfold g139
        rw [hpv, if_neg (by decide), Int.toNat_natCast]
      rw [v4] at e4
      obtain ⟨k1, k2, k3, k4, k5, k6⟩ := h.2.2.2.2.2.2.2.1
      have hm : ∀ ρ : xM, ρ 110 = σ 110 → ¬ (if xand (xshr (ρ 110 n) p) 1 ≠ 1 then (0 : Int) else 1) = c := by
        intro ρ hρ
        rw [hρ, g3]
        exact q
      generalize hbv : xxor (σ 25 n) (xshl 1 p) = bv at e4
      by_cases dn : σ 47 1 < 100
      · have e5 := fun d => s54a (X := X) (d := d) (σ := xwr σ 25 n bv) (a := (n : Int)) (b := (p : Int)) k1 dn
        rw [a8] at e5
        rw [show xwr σ 25 n bv 47 1 = σ 47 1 from xwr_nk (by decide)] at e5
        have e6 := fun d => s6' (X := X) (σ := xwr (xwr (xwr (xwr σ 25 n bv) 48 (σ 47 1).toNat (8 * (n : Int) + p)) 47 1 (σ 47 1 + 1)) 47 2 (σ 47 1 + 1)) d
        generalize hσ1 : xwr (xwr (xwr (xwr (xwr (xwr (xwr (xwr σ 25 n bv) 48 (σ 47 1).toNat (8 * (n : Int) + p)) 47 1 (σ 47 1 + 1)) 47 2 (σ 47 1 + 1)) 49 3 (-1)) 49 7 0) 70 6 0) 70 9 (-1) = σ1 at e6
        have u16 : σ1 100 16 = σ 100 16 ∧ σ1 107 = σ 107 := by
          rw [← hσ1]
          simp (disch := decide) only [xwr_nk, xwr_row]
          exact ⟨trivial, trivial⟩
        have u69 : σ1 100 69 = σ 47 1 := by
          rw [← hσ1]
          simp (disch := decide) only [xwr_nk]
          exact k4
        have u110 : σ1 110 = σ 110 := by
          rw [← hσ1]
          simp (disch := decide) only [xwr_row]
        have e2 := e2 σ1 u16
        rw [e2' σ1 u16] at e2
        have hm := hm σ1 u110
        have e7 := fun (ρ : xM) d => s298 (X := X) (d := d) (σ := ρ) (n := n) (p := p) (by omega) (by omega)
        refine ⟨1, σ1, xwr (xwr (xwr (xwr σ1 139 (σ 47 1).toNat (10 * (n : Int) + p)) 100 69 (σ 47 1 + 1)) 100 70 0) 110 n bv, fun d => ?_, fun d => ?_, ?_⟩
        · simp (disch := first | omega | assumption | (simp (disch := omega) only [Int.reduceAdd, xadd_eq, xsub_eq, xmul_eq, xneg_eq, xwr_eq, xwr_nk, xwr_nj, Int.toNat_natCast, x_nc] <;> first | omega | assumption) | fail) only [↓if_pos, ↓if_neg, ↓b14_0, ↓b14_9, ↓b14_25, ↓b14_12, ↓b14_21, ↓b14_27, ↓b14_36, ↓b14_45, ↓b14_49, ↓e1, ↓e3, ↓e4, ↓e5, ↓e6, x_bdi, x_bdn, Int.reduceAdd, xadd_eq, xsub_eq, xmul_eq, xneg_eq, xwr_eq, xwr_nk, xwr_nj, Int.toNat_natCast, x_nc]
        · have mk : xadd (xmul 10 (n : Int)) p = 10 * (n : Int) + p := by rw [xmul_eq (by omega) (by omega), xadd_eq (by omega) (by omega)]
          have mk2 : xsub (xadd (σ 47 1) 1) 1 = σ 47 1 := by rw [xadd_eq (by omega) (by omega), xsub_eq (by omega) (by omega)]; omega
          by_cases y : xand (xshr (σ1 110 n) p) 1 = 1
          · rw [if_neg (fun z => z y)] at hm
            simp (disch := first | omega | assumption | (simp (disch := omega) only [Int.reduceAdd, xadd_eq, xsub_eq, xmul_eq, xneg_eq, xwr_eq, xwr_nk, xwr_nj, Int.toNat_natCast, x_nc, u69] <;> first | omega | assumption) | fail) only [↓if_pos, ↓if_neg, ↓b297_0, ↓b297_6, ↓b297_32, ↓b297_9, ↓b297_27, ↓b297_23, ↓b297_28, ↓b297_34, ↓b297_85, ↓b297_43, ↓b297_130, ↓b297_46, ↓b297_75, ↓b297_53, ↓e2, u69, mk, Int.add_sub_cancel, ↓e7, e7, u110, g3, hbv, x_bdi, x_bdn, Int.reduceAdd, xadd_eq, xsub_eq, xmul_eq, xneg_eq, xwr_eq, xwr_nk, xwr_nj, Int.toNat_natCast, x_nc]
          · rw [if_pos y] at hm
            simp (disch := first | omega | assumption | (simp (disch := omega) only [Int.reduceAdd, xadd_eq, xsub_eq, xmul_eq, xneg_eq, xwr_eq, xwr_nk, xwr_nj, Int.toNat_natCast, x_nc, u69] <;> first | omega | assumption) | fail) only [↓if_pos, ↓if_neg, ↓b297_0, ↓b297_6, ↓b297_32, ↓b297_9, ↓b297_27, ↓b297_23, ↓b297_28, ↓b297_34, ↓b297_85, ↓b297_43, ↓b297_130, ↓b297_46, ↓b297_75, ↓b297_53, ↓e2, u69, mk, Int.add_sub_cancel, ↓e7, e7, u110, g3, hbv, x_bdi, x_bdn, Int.reduceAdd, xadd_eq, xsub_eq, xmul_eq, xneg_eq, xwr_eq, xwr_nk, xwr_nj, Int.toNat_natCast, x_nc]
        · refine Post_flip h (w := bv) z2 (by omega) hq hbv.symm ?_ ?_ ?_ ?_ ?_ ?_
          · intro k j y1 y2 y3 y4 y5 y6 y7 y8
            rw [← hσ1]
            rw [xwr_nk y6]
            have w1 : ∀ (ρ : xM) (x : Int), xwr ρ 100 70 x k j = ρ k j := fun ρ x => if_neg (fun z => y8 ⟨z.1, Or.inr z.2⟩)
            have w2 : ∀ (ρ : xM) (x : Int), xwr ρ 100 69 x k j = ρ k j := fun ρ x => if_neg (fun z => y8 ⟨z.1, Or.inl z.2⟩)
            rw [w1, w2, xwr_nk y7, xwr_nk y5, xwr_nk y5, xwr_nk y4, xwr_nk y4, xwr_nk y2, xwr_nk y2, xwr_nk y3, xwr_nk y1]
          · rw [← hσ1]
            simp (disch := decide) only [xwr_row]
            exact xwr_rw
          · rw [xwr_rw]
            simp (disch := decide) only [xwr_row]
            rw [u110]
          · rw [← hσ1]
            unfold Cact
            simp (disch := decide) only [xwr_eq, xwr_nk, xwr_nj, xwr_row]
            refine ⟨by omega, by omega, by omega, trivial, by omega, fun i hi => ?_⟩
            by_cases y : i = (σ 47 1).toNat
            · subst y
              exact ⟨n, p, xwr_eq, xwr_eq, z2, by omega, hq⟩
            · obtain ⟨cc, pp, w1, w2, w3⟩ := k6 i (by omega)
              exact ⟨cc, pp, by rw [xwr_nj y]; exact w1, by rw [xwr_nj y]; exact w2, w3⟩
          · rw [← hσ1]
            unfold ForgL
            simp (disch := decide) only [xwr_eq, xwr_nk, xwr_nj]
            exact ⟨trivial, trivial⟩
          · rw [← hσ1]
            unfold ForgN
            simp (disch := decide) only [xwr_eq, xwr_nk, xwr_nj]
            exact ⟨trivial, trivial⟩
      · have dn : σ 47 1 = 100 := by omega
        have e5 := fun d => s54b (X := X) (d := d) (σ := xwr σ 25 n bv) (a := (n : Int)) (b := (p : Int)) dn
        rw [a8, show xwr σ 25 n bv 48 = σ 48 from xwr_row (by decide)] at e5
        have e6 := fun d => s6' (X := X) (σ := xwr (xwr (xwr (xwr (xrow (xwr σ 25 n bv) 48 (shf (σ 48) 99)) 47 1 99) 48 99 (8 * (n : Int) + p)) 47 1 100) 47 2 100) d
        generalize hσ1 : xwr (xwr (xwr (xwr (xwr (xwr (xwr (xwr (xrow (xwr σ 25 n bv) 48 (shf (σ 48) 99)) 47 1 99) 48 99 (8 * (n : Int) + p)) 47 1 100) 47 2 100) 49 3 (-1)) 49 7 0) 70 6 0) 70 9 (-1) = σ1 at e6
        have u16 : σ1 100 16 = σ 100 16 ∧ σ1 107 = σ 107 := by
          rw [← hσ1]
          simp (disch := decide) only [xwr_nk, xwr_row, xrow_ne, xrow_nrow]
          exact ⟨trivial, trivial⟩
        have u69 : σ1 100 69 = 100 := by
          rw [← hσ1]
          simp (disch := decide) only [xwr_nk, xrow_ne]
          omega
        have u110 : σ1 110 = σ 110 := by
          rw [← hσ1]
          simp (disch := decide) only [xwr_row, xrow_nrow]
        have u139 : σ1 139 = σ 139 := by
          rw [← hσ1]
          simp (disch := decide) only [xwr_row, xrow_nrow]
        have e2 := e2 σ1 u16
        rw [e2' σ1 u16] at e2
        have hm := hm σ1 u110
        have e7 := fun (ρ : xM) d => s298 (X := X) (d := d) (σ := ρ) (n := n) (p := p) (by omega) (by omega)
        refine ⟨1, σ1, xwr (xwr (xwr (xwr (xwr (xrow σ1 139 (shf (σ 139) 99)) 100 69 99) 139 99 (10 * (n : Int) + p)) 100 69 100) 100 70 0) 110 n bv, fun d => ?_, fun d => ?_, ?_⟩
        · simp (disch := first | omega | assumption | (simp (disch := omega) only [Int.reduceAdd, xadd_eq, xsub_eq, xmul_eq, xneg_eq, xwr_eq, xwr_nk, xwr_nj, Int.toNat_natCast, x_nc] <;> first | omega | assumption) | fail) only [↓if_pos, ↓if_neg, ↓b14_0, ↓b14_9, ↓b14_25, ↓b14_12, ↓b14_21, ↓b14_27, ↓b14_36, ↓b14_45, ↓b14_49, ↓e1, ↓e3, ↓e4, ↓e5, ↓e6, x_bdi, x_bdn, Int.reduceAdd, xadd_eq, xsub_eq, xmul_eq, xneg_eq, xwr_eq, xwr_nk, xwr_nj, Int.toNat_natCast, x_nc]
        · have mk : xadd (xmul 10 (n : Int)) p = 10 * (n : Int) + p := by rw [xmul_eq (by omega) (by omega), xadd_eq (by omega) (by omega)]
          have k46 := it297 (X := X) (σ := σ1) (a := (n : Int)) (b := (p : Int)) 99 0 (xkill (some (vi c))) (by omega)
          rw [shf_0, xrow_self, u139] at k46
          obtain ⟨o', k46⟩ := k46
          have k46 : ∀ d, Ev X d 297 46 [some (vr 100), some (vi n), some (vi p), xkill (some (vi c)), some (vi 1)] [] SH σ1 = Ev X d 297 75 [some (vr 100), some (vi n), some (vi p), o', some (vi 100)] [] SH (xrow σ1 139 (shf (σ 139) 99)) := k46
          have y69 : xrow σ1 139 (shf (σ 139) 99) 100 69 = 100 := by rw [xrow_ne (by decide)]; exact u69
          have y110 : xrow σ1 139 (shf (σ 139) 99) 110 = σ 110 := by rw [xrow_nrow (by decide)]; exact u110
          have t99 : xsub 100 1 = 99 := by decide
          have t100 : xadd 99 1 = 100 := by decide
          have n99 : (99 : Int).toNat = 99 := rfl
          by_cases y : xand (xshr (σ1 110 n) p) 1 = 1
          · rw [if_neg (fun z => z y)] at hm
            simp (disch := first | omega | assumption | (simp (disch := omega) only [Int.reduceAdd, xadd_eq, xsub_eq, xmul_eq, xneg_eq, xwr_eq, xwr_nk, xwr_nj, Int.toNat_natCast, x_nc, u69, y69, t99, t100, n99] <;> first | omega | assumption) | fail) only [↓if_pos, ↓if_neg, ↓b297_0, ↓b297_6, ↓b297_32, ↓b297_9, ↓b297_27, ↓b297_23, ↓b297_28, ↓b297_34, ↓b297_85, ↓b297_43, ↓b297_130, ↓b297_75, ↓b297_53, ↓e2, ↓k46, y69, t99, t100, n99, mk, ↓e7, y110, g3, hbv, x_bdi, x_bdn, Int.reduceAdd, xadd_eq, xsub_eq, xmul_eq, xneg_eq, xwr_eq, xwr_nk, xwr_nj, Int.toNat_natCast, x_nc]
          · rw [if_pos y] at hm
            simp (disch := first | omega | assumption | (simp (disch := omega) only [Int.reduceAdd, xadd_eq, xsub_eq, xmul_eq, xneg_eq, xwr_eq, xwr_nk, xwr_nj, Int.toNat_natCast, x_nc, u69, y69, t99, t100, n99] <;> first | omega | assumption) | fail) only [↓if_pos, ↓if_neg, ↓b297_0, ↓b297_6, ↓b297_32, ↓b297_9, ↓b297_27, ↓b297_23, ↓b297_28, ↓b297_34, ↓b297_85, ↓b297_43, ↓b297_130, ↓b297_75, ↓b297_53, ↓e2, ↓k46, y69, t99, t100, n99, mk, ↓e7, y110, g3, hbv, x_bdi, x_bdn, Int.reduceAdd, xadd_eq, xsub_eq, xmul_eq, xneg_eq, xwr_eq, xwr_nk, xwr_nj, Int.toNat_natCast, x_nc]
        · refine Post_flip h (w := bv) z2 (by omega) hq hbv.symm ?_ ?_ ?_ ?_ ?_ ?_
          · intro k j y1 y2 y3 y4 y5 y6 y7 y8
            rw [← hσ1]
            rw [xwr_nk y6]
            have w1 : ∀ (ρ : xM) (x : Int), xwr ρ 100 70 x k j = ρ k j := fun ρ x => if_neg (fun z => y8 ⟨z.1, Or.inr z.2⟩)
            have w2 : ∀ (ρ : xM) (x : Int), xwr ρ 100 69 x k j = ρ k j := fun ρ x => if_neg (fun z => y8 ⟨z.1, Or.inl z.2⟩)
            rw [w1, w2, xwr_nk y7, w2, xrow_ne y7, xwr_nk y5, xwr_nk y5, xwr_nk y4, xwr_nk y4, xwr_nk y2, xwr_nk y2, xwr_nk y3, xwr_nk y2, xrow_ne y3, xwr_nk y1]
          · rw [← hσ1]
            simp (disch := decide) only [xwr_row, xrow_nrow]
            exact xwr_rw
          · rw [xwr_rw]
            simp (disch := decide) only [xwr_row, xrow_nrow]
            rw [u110]
          · rw [← hσ1]
            unfold Cact
            simp (disch := decide) only [xwr_eq, xwr_nk, xwr_nj, xwr_row, xrow_ne, xrow_nrow]
            refine ⟨by omega, by omega, by omega, trivial, by omega, fun i hi => ?_⟩
            by_cases y : i = 99
            · subst y
              exact ⟨n, p, xwr_eq, xwr_eq, z2, by omega, hq⟩
            · obtain ⟨cc, pp, w1, w2, w3⟩ := k6 (i + 1) (by omega)
              refine ⟨cc, pp, ?_, ?_, w3⟩
              · rw [xwr_nj y, xwr_nk (by decide), xrow_eq]
                unfold shf
                rw [if_pos (by omega)]
                exact w1
              · rw [xwr_nj y, xwr_nk (by decide), xrow_eq]
                unfold shf
                rw [if_pos (by omega)]
                exact w2
          · rw [← hσ1]
            unfold ForgL
            simp (disch := decide) only [xwr_eq, xwr_nk, xwr_nj, xrow_ne]
            exact ⟨trivial, trivial⟩
          · rw [← hσ1]
            unfold ForgN
            simp (disch := decide) only [xwr_eq, xwr_nk, xwr_nj, xrow_ne]
            exact ⟨trivial, trivial⟩
end PRC
