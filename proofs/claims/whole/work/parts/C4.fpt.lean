/-! PATHS, in the class: what Net keeps -/
def CAp : List Nat := [13, 81, 82, 83, 84, 85, 86, 87, 88, 89, 91, 92, 93, 94]
def CSp : List (Nat × Nat) := [(71, 9), (71, 10), (71, 11), (71, 12), (71, 13), (71, 14), (71, 15), (71, 16), (10, 8), (70, 5), (70, 6), (70, 7), (90, 0)]
def RWX (σ : xM) (k x : Nat) : Prop := CD (σ 102) (nM σ) (σ 107) x ∧ ∀ c, c < nM σ → BW (σ 102) (σ 107) c (dig x c) = σ k c
noncomputable def SS (σ : xM) (x0 xa : Nat) : PS := bfs (nbC (σ 102) (nM σ) (σ 107) 1 1) xa 151 0 ([(x0, -1)], decide (x0 = xa))
def PTH (σ : xM) : Prop := ∃ x0 xa, RWX σ 110 x0 ∧ RWX σ 111 xa ∧ RLC σ (SS σ x0 xa) ∧ σ 70 7 = mvS (SS σ x0 xa)
/-- of the codes, the first from which just one sum can be made true -/
noncomputable def pzF (σ : xM) (k x0 : Nat) : Int := match ((nbC (σ 102) (nM σ) (σ 107) 2 k x0).take 200).find? (fun y => decide ((nbC (σ 102) (nM σ) (σ 107) 1 k y).length = 1)) with
  | some y => (y : Int)
  | none => -1
def PZL (σ : xM) : Prop := ∃ x0 k : Nat, RWX σ 110 x0 ∧ (k = 1 ∨ k = 2) ∧ σ 70 9 = (k : Int) ∧ σ 70 10 = pzF σ k x0
def CacheN (σ : xM) : Prop := (σ 70 6 = 0 ∨ (σ 70 6 = 1 ∧ PTH σ)) ∧ (σ 70 9 = -1 ∨ PZL σ)
section FPT
variable {X : Nat × (Nat → Int)} {σ τ : xM}
theorem CacheN_fg (h : ForgN σ) : CacheN σ := ⟨Or.inl h.1, Or.inl h.2⟩
theorem CacheN_eqp (e : eqp PN σ τ) (h : CacheN σ) : CacheN τ := by
  have r : ∀ {k : Nat}, k ∈ [70, 93, 94, 102, 107, 108, 110, 111] → τ k = σ k := fun {k} hk => funext (fun j => e k j (by
    unfold PN pin
    rw [Bool.or_eq_true]
    exact Or.inl (by simpa using hk)))
  have e16 : τ 100 16 = σ 100 16 := e 100 16 rfl
  have en : nM τ = nM σ := by unfold nM; rw [e16]
  unfold CacheN PTH PZL RWX SS pzF RLC at h ⊢
  rw [en, r (k := 70) (by decide), r (k := 93) (by decide), r (k := 94) (by decide), r (k := 102) (by decide), r (k := 107) (by decide), r (k := 110) (by decide), r (k := 111) (by decide)]
  exact h
theorem okW_1 {cs : Nat → Int} {n c : Nat} (h : okW cs n) (hc : c < n) : cs c ≠ -1 := by
  intro z
  have := (h.1 c hc).1
  rw [z] at this
  exact absurd this (by decide)
/-- a row that is a sum has a code -/
theorem RWX_of {k : Nat} (h : Core σ) (hb : ∀ c, c < nM σ → 0 ≤ σ k c ∧ σ k c < 128) (ok : okW (chM σ k) (nM σ)) : ∃ x, RWX σ k x ∧ ∀ c, c < nM σ → f73 σ (σ 107 c) (σ k c) = (dig x c : Int) ∧ dig x c < 20 := by
  obtain ⟨_, hF, _, hr, _⟩ := h
  obtain ⟨x, h1, h2⟩ := row_cd (σ := σ) (n := nM σ) (fg := σ 107) (bs := σ k) hF.2.1 hF.2.2.1 (fun c hc => by
    have := hr.2.2.2 c (by unfold nM at hc; have := hr.2.2.1; omega)
    rw [this.1]
    exact this.2.1) hb (fun c hc => okW_1 ok hc)
  exact ⟨x, ⟨h1, fun c hc => (h2 c hc).1⟩, fun c hc => ⟨(h2 c hc).2, mo_32 (h1.2 c hc)⟩⟩
theorem f73_cg (e : τ 8 = σ 8) (a b : Int) : f73 τ a b = f73 σ a b := by
  unfold f73
  rw [e]
theorem NST_of {n : Nat} (h : Core σ) (hn : n = nM σ) (hn0 : 0 < σ 100 16) (e90 : σ 90 0 = (n : Int)) (e91 : ∀ c, c < n → σ 91 c = σ 107 c) : NST σ n := by
  obtain ⟨_, ⟨f1, f2, f3, f4⟩, ⟨w1, w2, w3, w4, w5, w6⟩, ⟨r1, r2, r3, r4⟩, _, _, _, _, rd, _⟩ := h
  have hn' : (n : Int) = σ 100 16 := by rw [hn]; unfold nM; omega
  refine ⟨f2, f3, by omega, by omega, e90, e91, fun c hc => ?_, ⟨(σ 10 2).toNat, by omega, w6, by omega⟩, fun j hj => ?_⟩
  · have := r4 c (by omega)
    rw [this.1]
    exact this.2.1
  · exact (rd j hj).2.2
/-- findPath -/
theorem s103 (h : Core σ) (hN : CacheN σ) (hk : lkM σ) (o1 : okW (chM σ 110) (nM σ)) (o2 : okW (chM σ 111) (nM σ)) : ∃ τ, (∀ d, Ev X (d + 22) 103 0 [some (vr 70), some (vr 23), some (vr 26), none, none, none, none, none] [] SH σ = some (none, SH, τ)) ∧ chg CAp CSp σ τ ∧ PTH τ ∧ CacheN τ := by
  by_cases y : σ 70 6 = 0
  · obtain ⟨k0, k1, k2⟩ := hk
    have hcr := h.2.2.2.1
    have hcg := h.2.2.2.2.1
    obtain ⟨r1, r2, r3, r4⟩ := hcr
    obtain ⟨g1, g2, g3, g4⟩ := hcg
    have nE : (nM σ : Int) = σ 100 16 := by unfold nM; omega
    obtain ⟨x0, X0, D0⟩ := RWX_of h (fun c hc => by
      have := r4 c (by omega)
      rw [this.2.2.1]
      exact ⟨this.2.2.2.1, this.2.2.2.2.1⟩) o1
    obtain ⟨xa, XA, DA⟩ := RWX_of h (fun c hc => by
      have := g4 c (by omega)
      rw [this.2.2.1]
      exact ⟨this.2.2.2.1, this.2.2.2.2.1⟩) o2
    have e144 := fun d => s144 (X := X) (d := d) (σ := xwr σ 70 6 1) (k := 90) (k1 := 23) (by unfold isRow; omega) (by unfold isRow; omega) (by decide) r1 r2 (fun c hc => (r4 c hc).2.1)
    generalize hσ1 : cpy (xwr (xwr σ 70 6 1) 90 0 ((xwr σ 70 6 1) 23 0)) 90 23 ((xwr σ 70 6 1) 23 0).toNat = σ1 at e144
    have c1 : chg CAp CSp σ σ1 := by
      rw [← hσ1]
      unfold cpy
      exact chg_xr rfl (chg_xr rfl (chg_wr rfl (chg_wr rfl chg_rf)))
    have h90 : σ1 90 0 = (nM σ : Int) := by
      rw [← hσ1, cpy_at (by decide) (by decide), xwr_eq, xwr_nk (by decide)]
      omega
    have h91 : ∀ c, c < nM σ → σ1 91 c = σ 107 c := by
      intro c hc
      have e : σ1 91 c = σ 24 c := by
        rw [← hσ1]
        unfold cpy
        have lt : c < ((xwr σ 70 6 1) 23 0).toNat := by rw [xwr_nk (by decide)]; omega
        show (if (91 : Nat) = 90 + 2 then _ else if (91 : Nat) = 90 + 1 then _ else _) = _
        rw [if_neg (by decide), if_pos (by decide)]
        dsimp only
        rw [if_pos lt, xwr_nk (by decide), xwr_nk (by decide)]
      rw [e, (r4 c (by omega)).1]
    have C1 : Core σ1 := Core_chg h c1 (Or.inl rfl) (Or.inl rfl) (Or.inl rfl) (Or.inl rfl) (Or.inl rfl) (Or.inl rfl) (Or.inl rfl) (Or.inl rfl) (Or.inl rfl) (Or.inl rfl)
    have q1 : ∀ {k j : Nat}, pin CAp CSp k j = false → rdC k = false → σ1 k j = σ k j := fun a b => chg_at c1 a b
    have v1 := s189 (X := X) (σ := σ1) (n := nM σ) (k0 := 23) (x := x0) (by unfold isRow; omega) (by omega) ((q1 rfl rfl).trans (by omega)) X0.1.1 (fun c hc => by
      rw [f73_cg (chg_row c1 (fun _ => rfl) rfl), q1 (k := 24) rfl rfl, q1 (k := 25) rfl rfl, ← (r4 c (by omega)).1, ← (r4 c (by omega)).2.2.1]
      exact D0 c hc)
    generalize hσ2 : xwr (xwr (xwr σ1 93 0 (x0 : Int)) 94 0 (-1)) 70 5 1 = σ2
    have c2 : chg CAp CSp σ σ2 := by
      rw [← hσ2]
      exact chg_wr rfl (chg_wr rfl (chg_wr rfl c1))
    have q2 : ∀ {k j : Nat}, pin CAp CSp k j = false → rdC k = false → σ2 k j = σ k j := fun a b => chg_at c2 a b
    have v2 := s189 (X := X) (σ := σ2) (n := nM σ) (k0 := 26) (x := xa) (by unfold isRow; omega) (by omega) ((q2 rfl rfl).trans (by omega)) XA.1.1 (fun c hc => by
      rw [f73_cg (chg_row c2 (fun _ => rfl) rfl), q2 (k := 27) rfl rfl, q2 (k := 28) rfl rfl, ← (g4 c (by omega)).1, ← (g4 c (by omega)).2.2.1, ← k2 c (by omega)]
      exact DA c hc)
    have C2 : Core σ2 := Core_chg h c2 (Or.inl rfl) (Or.inl rfl) (Or.inl rfl) (Or.inl rfl) (Or.inl rfl) (Or.inl rfl) (Or.inl rfl) (Or.inl rfl) (Or.inl rfl) (Or.inl rfl)
    have n2 : nM σ2 = nM σ := by unfold nM; rw [q2 rfl rfl]
    have r102 : σ2 102 = σ 102 := chg_row c2 (fun _ => rfl) rfl
    have r107 : σ2 107 = σ 107 := chg_row c2 (fun _ => rfl) rfl
    have hN2 : NST σ2 (nM σ) := NST_of C2 n2.symm (by rw [q2 rfl rfl]; exact k0) (by
      rw [← hσ2, xwr_nk (by decide), xwr_nk (by decide), xwr_nk (by decide)]
      exact h90) (fun c hc => by
      rw [r107, ← hσ2, xwr_nk (by decide), xwr_nk (by decide), xwr_nk (by decide)]
      exact h91 c hc)
    have L2 : RLC σ2 ([(x0, -1)], decide (x0 = xa)) := by
      refine ⟨?_, fun j hj => ?_⟩
      · rw [← hσ2, xwr_eq]
        rfl
      · have : j = 0 := by
          simp at hj
          exact hj
        subst this
        refine ⟨?_, ?_⟩
        · rw [← hσ2, xwr_nk (by decide), xwr_nk (by decide), xwr_eq]
          rfl
        · rw [← hσ2, xwr_nk (by decide), xwr_eq]
          rfl
    have W2 : WPS (CD (σ 102) (nM σ) (σ 107)) ([(x0, -1)], decide (x0 = xa)) := by
      refine ⟨by simp, by simp, fun _ => rfl, fun j hj h0 => ?_, fun e he => ?_⟩
      · simp at hj
        omega
      · rw [List.mem_singleton.mp he]
        exact X0.1
    have W2' : WPS (CD (σ2 102) (nM σ) (σ2 107)) ([(x0, -1)], decide (x0 = xa)) := by rw [r102, r107]; exact W2
    obtain ⟨σ3, o6, o7, t1, t2, t3⟩ := it103o (X := X) (n := nM σ) (aim := xa) 151 0 _ σ2 (by omega) hN2 L2 W2'
    rw [r102, r107] at t1 t3
    change RLC σ3 (SS σ x0 xa) at t3
    have WS : WPS (CD (σ 102) (nM σ) (σ 107)) (SS σ x0 xa) := bfs_W (fun x _ z hz => nbC_CD z hz) 151 0 _ W2
    have c3 : chg CAp CSp σ (xwr σ3 70 7 (mvS (SS σ x0 xa))) := chg_wr rfl (chg_tr c2 (chg_mo (by decide) t2))
    have P3 : PTH (xwr σ3 70 7 (mvS (SS σ x0 xa))) := by
      have n3 : nM (xwr σ3 70 7 (mvS (SS σ x0 xa))) = nM σ := by unfold nM; rw [chg_at c3 rfl rfl]
      have a102 : (xwr σ3 70 7 (mvS (SS σ x0 xa))) 102 = σ 102 := chg_row c3 (fun _ => rfl) rfl
      have a107 : (xwr σ3 70 7 (mvS (SS σ x0 xa))) 107 = σ 107 := chg_row c3 (fun _ => rfl) rfl
      have a110 : (xwr σ3 70 7 (mvS (SS σ x0 xa))) 110 = σ 110 := chg_row c3 (fun _ => rfl) rfl
      have a111 : (xwr σ3 70 7 (mvS (SS σ x0 xa))) 111 = σ 111 := chg_row c3 (fun _ => rfl) rfl
      have eS : SS (xwr σ3 70 7 (mvS (SS σ x0 xa))) x0 xa = SS σ x0 xa := by
        show bfs _ _ _ _ _ = _
        rw [n3, a102, a107]
        rfl
      refine ⟨x0, xa, ?_, ?_, ?_, ?_⟩
      · unfold RWX
        rw [n3, a102, a107, a110]
        exact X0
      · unfold RWX
        rw [n3, a102, a107, a111]
        exact XA
      · rw [eS]
        refine ⟨by rw [xwr_nj (by decide)]; exact t3.1, fun j hj => ⟨?_, ?_⟩⟩
        · rw [xwr_nk (by decide)]
          exact (t3.2 j hj).1
        · rw [xwr_nk (by decide)]
          exact (t3.2 j hj).2
      · rw [eS, xwr_eq]
    refine ⟨xwr σ3 70 7 (mvS (SS σ x0 xa)), fun d => ?_, c3, P3, ⟨Or.inr ⟨?_, P3⟩, ?_⟩⟩
    · rw [b103_0, if_pos y]
      refine Eq.trans b103_8 ?_
      refine x_bind (e144 _) ?_
      dsimp only
      refine Eq.trans b103_21 ?_
      refine x_bind (v1 (d + 20)) ?_
      dsimp only
      refine Eq.trans (b103_34 (t2 := (x0 : Int)) (t1 := 0) (by omega)) ?_
      rw [show (0 : Int).toNat = 0 from rfl, hσ2]
      refine x_bind (v2 (d + 20)) ?_
      dsimp only
      refine Eq.trans (b103_55 (t0 := (xa : Int))) ?_
      have s93 : σ2 93 0 = (x0 : Int) := (L2.2 0 (by simp)).1
      have go : ∀ o1 o2, Ev X (d + 22) 103 77 [some (vr 70), o1, o2, some (vl (xa : Int)), none, some (vi (bI (decide (x0 = xa)))), some (vi 0), none] [] SH σ2 = some (none, SH, xwr σ3 70 7 (mvS (SS σ x0 xa))) := by
        intro o1 o2
        refine Eq.trans (t1 (d + 1) o1 o2 none) ?_
        change Ev X (d + 22) 103 198 [some (vr 70), o1, o2, some (vl (xa : Int)), none, some (vi (bI (SS σ x0 xa).2)), o6, o7 none] [] SH σ3 = _
        rw [b103_198]
        by_cases z : (SS σ x0 xa).2 = true
        · rw [z, if_neg (by decide)]
          refine Eq.trans b103_204 ?_
          refine x_bind (s106 t3 WS (d + 21)) ?_
          dsimp only
          refine Eq.trans b103_208 ?_
          rw [b103_227]
          unfold mvS
          rw [if_pos z]
        · have z' : (SS σ x0 xa).2 = false := by
            cases hh : (SS σ x0 xa).2 with
            | false => rfl
            | true => exact absurd hh z
          rw [z', if_pos (by decide), b103_211]
          unfold mvS
          rw [if_neg z]
          by_cases u : 150 < (SS σ x0 xa).1.length
          · rw [if_pos u, if_neg (by rw [t3.1]; omega), b103_221, b103_227]
          · rw [if_neg u, if_pos (by rw [t3.1]; omega), b103_226, b103_227]
      rw [s93]
      by_cases u : x0 = xa
      · rw [if_neg (fun z => z (lc_0.mpr u)), b103_67, b103_72]
        have := go (some (vr 23)) (xkill (some (vr 26)))
        rw [decide_eq_true u] at this
        exact this
      · rw [if_pos (fun z => u (lc_0.mp z)), b103_71, b103_72]
        have := go (some (vr 23)) (xkill (some (vr 26)))
        rw [decide_eq_false u] at this
        exact this
    · rw [xwr_nj (by decide), chg_at t2 rfl rfl, ← hσ2, xwr_nj (by decide), xwr_nk (by decide), xwr_nk (by decide), ← hσ1, cpy_at (by decide) (by decide), xwr_nk (by decide), xwr_eq]
    · have s9 : (xwr σ3 70 7 (mvS (SS σ x0 xa))) 70 9 = σ 70 9 := chg_at c3 rfl rfl
      have s10 : (xwr σ3 70 7 (mvS (SS σ x0 xa))) 70 10 = σ 70 10 := chg_at c3 rfl rfl
      have n3 : nM (xwr σ3 70 7 (mvS (SS σ x0 xa))) = nM σ := by unfold nM; rw [chg_at c3 rfl rfl]
      have a102 : (xwr σ3 70 7 (mvS (SS σ x0 xa))) 102 = σ 102 := chg_row c3 (fun _ => rfl) rfl
      have a107 : (xwr σ3 70 7 (mvS (SS σ x0 xa))) 107 = σ 107 := chg_row c3 (fun _ => rfl) rfl
      have a110 : (xwr σ3 70 7 (mvS (SS σ x0 xa))) 110 = σ 110 := chg_row c3 (fun _ => rfl) rfl
      have := hN.2
      unfold PZL RWX pzF at this ⊢
      rw [s9, s10, n3, a102, a107, a110]
      exact this
  · obtain ⟨n1, n2⟩ := hN
    rcases n1 with n1 | n1
    · exact absurd n1 y
    · refine ⟨σ, fun d => ?_, chg_rf, n1.2, ⟨Or.inr n1, n2⟩⟩
      rw [b103_0, if_neg y, b103_7]
end FPT
