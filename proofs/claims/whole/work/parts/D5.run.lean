/-! THE START holds what must hold; THE LAW RUNS -/
section RUN
variable {σ : xM}
def wyB (w : Nat → Int) (b : Nat) : Bool := decide (0 < b) && (List.range 20).any (fun i => decide (w i = (b : Int)))
theorem wyB_iff {w : Nat → Int} {b : Nat} : wyB w b = true ↔ isWy w b := by
  unfold wyB isWy
  rw [Bool.and_eq_true, decide_eq_true_iff, List.any_eq_true]
  constructor
  · intro ⟨h1, i, h2, h3⟩
    exact ⟨h1, i, List.mem_range.mp h2, of_decide_eq_true h3⟩
  · intro ⟨h1, i, h2, h3⟩
    exact ⟨h1, i, List.mem_range.mpr h2, decide_eq_true h3⟩
def gruB (w g : Nat → Int) : Bool := (List.range 128).all (fun b => decide (0 ≤ g b ∧ g b ≤ 20) && (cond (wyB w b) ((List.range 21).all (fun t => decide (¬ (t : Int) < g b) || (List.range b).any (fun v => wyB w v && (sbs v b && decide (g v = (t : Int))))) && (List.range b).all (fun v => !(wyB w v && sbs v b) || decide (g v ≠ g b))) (decide (g b = 0))))
theorem gruB_G {w g : Nat → Int} (h : gruB w g = true) : Gru w g := by
  intro b hb
  have q := List.all_eq_true.mp h b (List.mem_range.mpr hb)
  rw [Bool.and_eq_true, decide_eq_true_iff] at q
  obtain ⟨⟨q1, q2⟩, q3⟩ := q
  refine ⟨q1, q2, fun n => ?_, fun y => ?_⟩
  · have : wyB w b = false := by
      cases hh : wyB w b with
      | false => rfl
      | true => exact absurd (wyB_iff.mp hh) n
    rw [this] at q3
    exact of_decide_eq_true q3
  · rw [wyB_iff.mpr y] at q3
    dsimp only [cond] at q3
    rw [Bool.and_eq_true] at q3
    obtain ⟨a1, a2⟩ := q3
    refine ⟨fun t ht => ?_, fun v hv hw hs e => ?_⟩
    · have := List.all_eq_true.mp a1 t (List.mem_range.mpr (by omega))
      rw [Bool.or_eq_true, decide_eq_true_iff] at this
      rcases this with z | z
      · exact absurd ht z
      · obtain ⟨v, v1, v2⟩ := List.any_eq_true.mp z
        rw [Bool.and_eq_true, Bool.and_eq_true, decide_eq_true_iff] at v2
        exact ⟨v, List.mem_range.mp v1, wyB_iff.mp v2.1, v2.2.1, v2.2.2⟩
    · have := List.all_eq_true.mp a2 v (List.mem_range.mpr hv)
      rw [wyB_iff.mpr hw, hs] at this
      simp at this
      exact this e
def wL : Nat → Int := fun i => wlL.getD i 0
theorem wf_L : WF wL := by
  refine ⟨by decide, by decide, ?_⟩
  have : ∀ i, i < 20 → ∀ j, j < 20 → wL i = wL j → wL i ≠ 0 → i = j := by decide
  exact fun i j hi hj => this i hi j hj
theorem gru_L : gruB wL (fun b => glL.getD b 0) = true := by decide +kernel
theorem fc_L1 : nz wL 20 = 10 ∧ ∀ i, i < 20 → wL i ≠ 0 → nz wL i < 20 ∧ llL.getD (nz wL i) 0 = wL i ∧ dlL.getD (nz wL i) 0 = ((i / 2 : Nat) : Int) ∧ xlL.getD (wL i).toNat 0 = nz wL i := by decide +kernel
theorem fc_L2 : ((List.range 128).all (fun b => (List.range 20).any (fun i => decide (wL i = (b : Int) ∧ b ≠ 0)) || decide (xlL.getD b 0 = -1))) = true := by decide +kernel
/-- what the start's check says -/
theorem inv_0 (h : okM σ = true) (t : TP σ) : Inv σ := by
  unfold okM at h
  rw [Bool.and_eq_true, Bool.and_eq_true] at h
  obtain ⟨h1, h2, h3⟩ := h
  have e1 : ∀ i, i < 20 → σ 102 i = wL i ∧ σ 4 i = wL i ∧ σ 6 i = llL.getD i 0 ∧ σ 7 i = dlL.getD i 0 := fun i hi => of_decide_eq_true (List.all_eq_true.mp h1 i (List.mem_range.mpr hi))
  have e2 : ∀ b, b < 128 → σ 8 b = xlL.getD b 0 ∧ σ 9 b = glL.getD b 0 := fun b hb => of_decide_eq_true (List.all_eq_true.mp h2 b (List.mem_range.mpr hb))
  have sl : ∀ k j v, (k, j, v) ∈ slL → σ k j = v := fun k j v hm => of_decide_eq_true (List.all_eq_true.mp h3 (k, j, v) hm)
  have ew : ∀ i, i < 20 → wL i = σ 102 i := fun i hi => (e1 i hi).1.symm
  have s1 := sl 1 1 0 (by decide)
  have s2 := sl 1 2 0 (by decide)
  have s3 := sl 1 3 (-1) (by decide)
  have m1 := sl 100 1 0 (by decide)
  have m2 := sl 100 2 0 (by decide)
  have m3 := sl 100 3 (-1) (by decide)
  have s35 := sl 3 5 10 (by decide)
  have s102 := sl 10 2 0 (by decide)
  have s103 := sl 10 3 0 (by decide)
  have m35 := sl 100 35 0 (by decide)
  have m37 := sl 100 37 0 (by decide)
  have s23 := sl 23 0 0 (by decide)
  have m16 := sl 100 16 0 (by decide)
  have s26 := sl 26 0 0 (by decide)
  have m17 := sl 100 17 0 (by decide)
  have s32 := sl 32 0 0 (by decide)
  have s38 := sl 38 0 0 (by decide)
  have s350 := sl 35 0 0 (by decide)
  have m140 := sl 140 0 0 (by decide)
  have m141 := sl 140 1 0 (by decide)
  have m142 := sl 140 2 0 (by decide)
  have s410 := sl 41 0 0 (by decide)
  have s411 := sl 41 1 0 (by decide)
  have m59 := sl 100 59 0 (by decide)
  have m60 := sl 100 60 0 (by decide)
  have s471 := sl 47 1 0 (by decide)
  have s472 := sl 47 2 0 (by decide)
  have m69 := sl 100 69 0 (by decide)
  have m70 := sl 100 70 0 (by decide)
  have m51 := sl 100 51 1 (by decide)
  have rd : ∀ j, j < 8 → (15 + j, 0, r0 j) ∈ slL ∧ (52 + j, 0, r0 j) ∈ slL ∧ (73 + j, 0, r0 j) ∈ slL := by decide
  have fw : ∀ g, g < 10 → (104, g, FW g) ∈ slL := by decide
  have WFs : WF (σ 102) := WF_cg ew wf_L
  have GRs : Gru (σ 102) (σ 9) := by
    have g := Gru_cg ew (gruB_G gru_L)
    intro b hb
    obtain ⟨g1, g2, g3', g4⟩ := g b hb
    have eb := (e2 b hb).2
    rw [eb]
    refine ⟨g1, g2, g3', fun y => ?_⟩
    obtain ⟨a1, a2⟩ := g4 y
    refine ⟨fun t ht => ?_, fun v hv hw hs => ?_⟩
    · obtain ⟨v, v1, v2, v3, v4⟩ := a1 t ht
      exact ⟨v, v1, v2, v3, by rw [(e2 v (by omega)).2]; exact v4⟩
    · rw [(e2 v (by omega)).2]
      exact a2 v hv hw hs
  have FCs : FC (σ 102) (σ 3 5) (σ 6) (σ 7) (σ 8) := by
    refine FC_cg ew ⟨?_, fun i hi hn => ?_, fun b hb hno => ?_⟩
    · rw [s35, fc_L1.1]
      rfl
    · obtain ⟨a1, a2, a3, a4⟩ := fc_L1.2 i hi hn
      have r := (wf_L.1 i hi)
      refine ⟨by rw [(e1 _ a1).2.2.1]; exact a2, by rw [(e1 _ a1).2.2.2]; exact a3, by rw [(e2 _ (by omega)).1]; exact a4⟩
    · have := List.all_eq_true.mp fc_L2 b (List.mem_range.mpr hb)
      rw [Bool.or_eq_true] at this
      rcases this with z | z
      · obtain ⟨i, i1, i2⟩ := List.any_eq_true.mp z
        have i2 := of_decide_eq_true i2
        exact absurd (hno i (List.mem_range.mp i1) i2.1) i2.2
      · rw [(e2 b hb).1]
        exact of_decide_eq_true z
  refine ⟨⟨?_, ⟨fun i hi => by rw [(e1 i hi).1, (e1 i hi).2.1], WFs, FCs, GRs⟩, ?_, ?_, ?_, ?_, ?_, ?_, ?_, ?_⟩, CacheL_fg ⟨sl 49 3 (-1) (by decide), sl 49 7 0 (by decide)⟩, CacheN_fg ⟨sl 70 6 0 (by decide), sl 70 9 (-1) (by decide)⟩⟩
  · refine ⟨funext (fun j => by rw [(t j).1, (t j).2]), fun i => by rw [(t i).1]; omega, by omega, by omega, by omega, by omega, by omega⟩
  · refine ⟨by omega, by omega, by omega, by omega, fun i hi => by omega, ?_⟩
    rw [s102]
    refine ⟨fun i hi => ?_, fun i hi => absurd hi (Nat.not_lt_zero _), fun z => absurd rfl z⟩
    have : i = 0 := by
      have : i ≤ 0 := hi
      omega
    subst this
    exact (by decide : (0 : Int) ≤ 40)
  · exact ⟨by omega, by omega, by omega, fun c hc => by omega⟩
  · exact ⟨by omega, by omega, by omega, fun c hc => by omega⟩
  · exact ⟨⟨by omega, by omega, by omega, fun c hc => by omega⟩, ⟨by omega, by omega, by omega, fun c hc => by omega⟩, ⟨by omega, by omega, by omega, fun c hc => by omega⟩⟩
  · exact ⟨by omega, by omega, by omega, by omega, by omega, by omega, fun i hi => by omega⟩
  · exact ⟨by omega, by omega, by omega, by omega, by omega, fun i hi => by omega⟩
  · intro j hj
    obtain ⟨a, b, c⟩ := rd j hj
    exact ⟨sl _ _ _ a, sl _ _ _ b, sl _ _ _ c⟩
  · exact ⟨m51, fun g hg => sl _ _ _ (fw g hg)⟩
/-- from the law's entry to its loop -/
theorem lw_ini : ∃ σ2, Inv σ2 ∧ ∀ X, Ev X 101 0 0 [some (vc 99), none, none, none] [] [] (fun _ _ => 0) = Ev X 101 0 16 [some (vc 99), some (vr 0), some (vr 100), none] [] SH σ2 := by
  have h := ini_ok
  unfold iniB at h
  cases e1 : xgv 12000 100 1 0 (xent 1 [vr 0]) [] sA mA with
  | none =>
    rw [e1] at h
    cases h
  | some q =>
    obtain ⟨v, s1, σ1⟩ := q
    rw [e1] at h
    cases v with
    | some _ => cases h
    | none =>
      dsimp only at h
      rw [Bool.and_eq_true, decide_eq_true_iff] at h
      obtain ⟨h1, h⟩ := h
      subst h1
      cases e2 : xgv 12000 100 191 0 (xent 191 [vr 100]) [] sC (mC σ1) with
      | none =>
        rw [e2] at h
        cases h
      | some q =>
        obtain ⟨v, s2, σ2⟩ := q
        rw [e2] at h
        cases v with
        | some _ => cases h
        | none =>
          dsimp only at h
          rw [Bool.and_eq_true, decide_eq_true_iff] at h
          obtain ⟨h2, h⟩ := h
          subst h2
          obtain ⟨a1, a2⟩ := xgv_ev _ _ _ _ _ _ _ _ _ e1
          obtain ⟨b1, b2⟩ := xgv_ev _ _ _ _ _ _ _ _ _ e2
          have tA : TP mA := TP_nw (fun _ => ⟨rfl, rfl⟩) (Or.inr (by decide))
          have t2 : TP σ2 := b2 (TP_nw (a2 tA) (Or.inr (by decide)))
          refine ⟨σ2, inv_0 h t2, fun X => ?_⟩
          refine Eq.trans (b := Ev X 101 0 4 [some (vc 99), none, none, none] [vr 0, vr 0] sA mA) (Ev_run (k := 2) rfl) ?_
          refine Eq.trans (Ev_call (mj := 1) (pc' := 7) (As := [vr 0]) (r := [vr 0]) rfl rfl) ?_
          refine x_bind (Ev_of (a1 X)) ?_
          dsimp only
          refine Eq.trans (b := Ev X 101 0 12 [some (vc 99), some (vr 0), none, none] [vr 100, vr 100] sC (mC σ1)) (Ev_run (k := 3) rfl) ?_
          refine Eq.trans (Ev_call (mj := 191) (pc' := 15) (As := [vr 100]) (r := [vr 100]) rfl rfl) ?_
          refine x_bind (Ev_of (b1 X)) ?_
          dsimp only
          exact Ev_run (k := 1) rfl
/-- the law's run, for every script -/
theorem lw_runs (L : Nat) (xs : Nat → Int32) (hL : L ≤ 3072) : ∃ σ', Ev (L, fun j => (xs j).toInt) 101 0 0 [some (vc 99), none, none, none] [] [] (fun _ _ => 0) = some (some (vi 1), SH, σ') := by
  obtain ⟨σ2, hI, hE⟩ := lw_ini
  obtain ⟨σ', h⟩ := lw_loop (X := (L, fun j => (xs j).toInt)) (fun j => by
    have := Int32.toInt_lt (xs j)
    show (xs j).toInt < 2147483648
    omega) hL L 0 σ2 (by show L ≤ 0 + L; omega) (by omega) hI
  refine ⟨σ', ?_⟩
  rw [hE, b0_16]
  exact h 0
end RUN
