/-! WALKS: chooseAs, open, isSpent -/
def nil2 : Nat → Nat → Nat := fun _ _ => 0
section ASN
variable {X : Nat × (Nat → Int)} {σ ω τ : xM} {k k1 n : Nat} {op : Nat → List Nat} {ct cl : Nat → Nat → Nat} {sy : Nat → Nat → Int} {wt : Nat → Nat → Nat} {fg bt : Nat → Int}
/-- chooseAs: one cell -/
theorem s177 (hk : isWlk k) (hF : FRM ω) {ld br : Int} {c : Nat} (hc : c < n) (hn : n ≤ 11) (hfg : fg c = 0 ∨ fg c = 1) {F : Nat → Nat → Bool} (hFd : ∀ i, F c i = decide (xand (f71 ω (fg c) (i : Int)) ld = ld ∧ xand (f71 ω (fg c) (i : Int)) br = 0)) (e0 : ∀ q, ¬ (k + 10 ≤ q ∧ q ≤ k + 14) → σ q = ω q) (hW : WKT k n (updL op c []) nil2 nil2 (syF ω fg) (wtF ω fg) σ) : ∃ τ, (∀ d, Ev X (d + 6) 177 0 [some (vr k), some (vi c), some (vi (fg c)), some (vi ld), some (vi br), none, none] [] SH σ = some (none, SH, τ)) ∧ (∀ q, ¬ (k + 10 ≤ q ∧ q ≤ k + 14) → τ q = ω q) ∧ WKT k n (updL op c (opF ω fg F c)) nil2 nil2 (syF ω fg) (wtF ω fg) τ := by
  have k50 : k = 50 ∨ k = 71 := hk
  have nc := f72_rg hF (fg c)
  have lp : ∀ (m i : Nat) (σ : xM), i + m = (f72 ω (fg c)).toNat → (∀ q, ¬ (k + 10 ≤ q ∧ q ≤ k + 14) → σ q = ω q) → WKT k n (updL op c ((List.range i).filter (F c))) nil2 nil2 (syF ω fg) (wtF ω fg) σ → ∃ τ, (∀ d o6, Ev X (d + 6) 177 3 [some (vr k), some (vi c), some (vi (fg c)), some (vi ld), some (vi br), some (vi i), o6] [] SH σ = some (none, SH, τ)) ∧ (∀ q, ¬ (k + 10 ≤ q ∧ q ≤ k + 14) → τ q = ω q) ∧ WKT k n (updL op c (opF ω fg F c)) nil2 nil2 (syF ω fg) (wtF ω fg) τ := by
    intro m
    induction m with
    | zero =>
      intro i σ e1 e2 e3
      have e1 : i = (f72 ω (fg c)).toNat := by omega
      refine ⟨σ, fun d o6 => ?_, e2, by unfold opF; rw [← e1]; exact e3⟩
      have f72e : f72 σ (fg c) = f72 ω (fg c) := by
        unfold f72
        rw [e2 3 (by omega)]
      refine Eq.trans (b177_3 hk) ?_
      refine x_bind s72 ?_
      dsimp only
      refine Eq.trans (b177_13 (t1 := f72 σ (fg c)) (t0 := (i : Int))) ?_
      rw [f72e, if_pos (by omega), b177_59]
    | succ m ih =>
      intro i σ e1 e2 e3
      have f72e : f72 σ (fg c) = f72 ω (fg c) := by
        unfold f72
        rw [e2 3 (by omega)]
      have F' := FRM_cg hF e2 hk
      have f71e : ∀ (a b : Int), f71 σ a b = f71 ω a b := fun a b => f71_cg (by rw [e2 3 (by omega)]) (e2 6 (by omega)) a b
      have st : ∀ d o6, Ev X (d + 6) 177 3 [some (vr k), some (vi c), some (vi (fg c)), some (vi ld), some (vi br), some (vi i), o6] [] SH σ = Ev X (d + 6) 177 26 [some (vr k), some (vi c), some (vi (fg c)), some (vi ld), some (vi br), some (vi i), o6] [vi (f71 ω (fg c) (i : Int))] SH σ := by
        intro d o6
        refine Eq.trans (b177_3 hk) ?_
        refine x_bind s72 ?_
        dsimp only
        refine Eq.trans (b177_13 (t1 := f72 σ (fg c)) (t0 := (i : Int))) ?_
        rw [f72e, if_neg (by omega)]
        refine Eq.trans (b177_16 hk) ?_
        refine x_bind (s71 F'.2.1) ?_
        rw [f71e]
        rfl
      have rs : (List.range (i + 1)).filter (F c) = (List.range i).filter (F c) ++ (if F c i = true then [i] else []) := by
        rw [List.range_succ, List.filter_append]
        congr 1
        by_cases y : F c i = true
        · rw [if_pos y, List.filter_cons_of_pos y, List.filter_nil]
        · rw [if_neg y, List.filter_cons_of_neg y, List.filter_nil]
      by_cases y : xand (f71 ω (fg c) (i : Int)) ld = ld ∧ xand (f71 ω (fg c) (i : Int)) br = 0
      · have Fy : F c i = true := by rw [hFd]; exact decide_eq_true y
        have ul : updL op c ((List.range i).filter (F c)) c = (List.range i).filter (F c) := if_pos rfl
        obtain ⟨τ1, q1, q2, q3⟩ := s176 (X := X) (fg := fg c) hk F' e3 (c := c) (i := i) hc (by
          rw [ul]
          have := rng_le (m := i) (f := F c)
          omega) (by omega) (by
          unfold syF
          exact (f74_cg (by rw [e2 3 (by omega)]) (e2 7 (by omega)) _ _).symm) (by
          unfold wtF
          rw [f71e]) (by unfold nil2; omega)
        have e3' : WKT k n (updL op c ((List.range (i + 1)).filter (F c))) nil2 nil2 (syF ω fg) (wtF ω fg) τ1 := by
          refine WKT_op q3 (fun c' hc' => ?_)
          rw [rs, if_pos Fy, ul]
          unfold updL
          split <;> rfl
        obtain ⟨τ, p1, p2, p3⟩ := ih (i + 1) τ1 (by omega) (fun q hq => (q2 q hq).trans (e2 q hq)) e3'
        refine ⟨τ, fun d o6 => ?_, p2, p3⟩
        rw [st, b177_26, if_neg (fun z => z y.1), b177_36, if_neg (fun z => z y.2)]
        refine Eq.trans (b177_44 hk) ?_
        refine x_bind (q1 d) ?_
        dsimp only
        refine Eq.trans b177_53 ?_
        rw [xad1 (by omega)]
        exact p1 d _
      · have Fy : ¬ F c i = true := by rw [hFd]; exact fun z => y (of_decide_eq_true z)
        obtain ⟨τ, p1, p2, p3⟩ := ih (i + 1) σ (by omega) e2 (by rw [rs, if_neg Fy, List.append_nil]; exact e3)
        refine ⟨τ, fun d o6 => ?_, p2, p3⟩
        rw [st, b177_26]
        by_cases z : xand (f71 ω (fg c) (i : Int)) ld = ld
        · rw [if_neg (fun w => w z), b177_36, if_pos (fun w => y ⟨z, w⟩), b177_53, xad1 (by omega)]
          exact p1 d _
        · rw [if_pos z, b177_53, xad1 (by omega)]
          exact p1 d _
  obtain ⟨τ, p1, p2, p3⟩ := lp (f72 ω (fg c)).toNat 0 σ (by omega) e0 hW
  refine ⟨τ, fun d => ?_, p2, p3⟩
  rw [b177_0]
  exact p1 d _
/-- open -/
theorem s173 (hk : isWlk k) (hk1 : isRow k1) (h0 : σ k1 0 = (n : Int)) (hn : n ≤ 11) {fr st : Int} : ∃ (τ : xM) (ls : Int), (∀ d, Ev X (d + 1) 173 0 [some (vr k), some (vr k1), some (vi fr), some (vi st), none] [] SH σ = some (none, SH, τ)) ∧ (∀ q j, q ≠ k + 14 → ¬ (q = k ∧ (j = 9 ∨ j = 10 ∨ j = 11 ∨ j = 14 ∨ j = 16)) → τ q j = σ q j) ∧ WKT k n (fun _ => []) ct cl sy wt τ ∧ τ k 10 = isum (fun c => if σ (k1 + 1) c = 0 then 0 else 1) n ∧ τ k 11 = ls ∧ τ k 14 = st ∧ τ k 16 = fr ∧ (∀ c : Nat, c < n → ls < (c : Int) → σ (k1 + 1) c ≠ 0) := by
  have k50 : k = 50 ∨ k = 71 := hk
  have r50 : k1 + 2 < 50 ∨ k1 = 90 := by
    unfold isRow at hk1
    omega
  have lp : ∀ (m c : Nat) (τ : xM) (o3 : Option xV), c + m = n → (∀ q j, q ≠ k + 14 → ¬ (q = k ∧ (j = 9 ∨ j = 10 ∨ j = 11 ∨ j = 14 ∨ j = 16)) → τ q j = σ q j) → τ k 9 = (n : Int) → (∀ j, j < c → τ (k + 14) j = 0) → (∀ j : Nat, j < c → τ k 11 < (j : Int) → σ (k1 + 1) j ≠ 0) → τ k 11 < (c : Int) → ∃ τ', (∀ d o2, Ev X d 173 34 [some (vr k), some (vr k1), o2, o3, some (vi c)] [] SH τ = some (none, SH, τ')) ∧ (∀ q j, q ≠ k + 14 → ¬ (q = k ∧ (j = 9 ∨ j = 10 ∨ j = 11 ∨ j = 14 ∨ j = 16)) → τ' q j = σ q j) ∧ (∀ j, j ≠ 11 → τ' k j = τ k j) ∧ (∀ j, j < n → τ' (k + 14) j = 0) ∧ ∀ j : Nat, j < n → τ' k 11 < (j : Int) → σ (k1 + 1) j ≠ 0 := by
    intro m
    induction m with
    | zero =>
      intro c τ o3 e1 e2 e3 e4 e5 e6
      refine ⟨τ, fun d o2 => ?_, e2, fun _ _ => rfl, fun j hj => e4 j (by omega), fun j hj => e5 j (by omega)⟩
      rw [b173_34 hk, if_pos (by omega), b173_80]
    | succ m ih =>
      intro c τ o3 e1 e2 e3 e4 e5 e6
      have x1 : xadd (c : Int) 1 = ((c + 1 : Nat) : Int) := xad1 (by omega)
      have rg : (xwr τ (k + 14) c 0) (k1 + 1) c = σ (k1 + 1) c := by
        rw [xwr_nk (by omega), e2 _ _ (by omega) (by omega)]
      have nx : ∀ v : Int, (v = τ k 11 ∧ σ (k1 + 1) c ≠ 0) ∨ v = (c : Int) → ∃ τ', (∀ d o2, Ev X d 173 34 [some (vr k), some (vr k1), o2, xkill o3, some (vi ((c + 1 : Nat) : Int))] [] SH (xwr (xwr τ (k + 14) c 0) k 11 v) = some (none, SH, τ')) ∧ (∀ q j, q ≠ k + 14 → ¬ (q = k ∧ (j = 9 ∨ j = 10 ∨ j = 11 ∨ j = 14 ∨ j = 16)) → τ' q j = σ q j) ∧ (∀ j, j ≠ 11 → τ' k j = τ k j) ∧ (∀ j, j < n → τ' (k + 14) j = 0) ∧ ∀ j : Nat, j < n → τ' k 11 < (j : Int) → σ (k1 + 1) j ≠ 0 := by
        intro v hv
        obtain ⟨τ', p1, p2, p3, p4, p5⟩ := ih (c + 1) (xwr (xwr τ (k + 14) c 0) k 11 v) (xkill o3) (by omega) (fun q j h1 h2 => by
          unfold xwr
          rw [if_neg (by omega), if_neg (by omega)]
          exact e2 q j h1 h2) (by rw [xwr_nj (by decide), xwr_nk (by omega)]; exact e3) (fun j hj => by
          rw [xwr_nk (by omega)]
          by_cases y : j = c
          · rw [y, xwr_eq]
          · rw [xwr_nj y]
            exact e4 j (by omega)) (fun j hj hl => by
          rw [xwr_eq] at hl
          rcases hv with hv | hv
          · by_cases y : j = c
            · rw [y]
              exact hv.2
            · exact e5 j (by omega) (by omega)
          · exact absurd hl (by omega)) (by rw [xwr_eq]; omega)
        refine ⟨τ', p1, p2, fun j hj => ?_, p4, p5⟩
        rw [p3 j hj, xwr_nj hj, xwr_nk (by omega)]
      by_cases z : σ (k1 + 1) c = 0
      · obtain ⟨τ', p1, p2⟩ := nx (c : Int) (Or.inr rfl)
        refine ⟨τ', fun d o2 => ?_, p2⟩
        rw [b173_34 hk, if_neg (by omega), b173_43 hk hk1 (by omega), Int.toNat_natCast, if_pos (by rw [rg]; exact z), b173_69, b173_71 hk, x1]
        exact p1 d o2
      · obtain ⟨τ', p1, p2⟩ := nx (τ k 11) (Or.inl ⟨rfl, z⟩)
        refine ⟨τ', fun d o2 => ?_, p2⟩
        rw [b173_34 hk, if_neg (by omega), b173_43 hk hk1 (by omega), Int.toNat_natCast, if_neg (by rw [rg]; exact z), b173_62 hk, b173_71 hk, x1, xwr_nk (by omega)]
        exact p1 d o2
  generalize hg : xwr (xwr (xwr (xwr (xwr σ k 9 (n : Int)) k 10 (isum (fun c => if σ (k1 + 1) c = 0 then 0 else 1) n)) k 16 fr) k 14 st) k 11 (-1) = σ1
  have q9 : σ1 k 9 = (n : Int) := by rw [← hg]; simp (disch := decide) only [xwr_nj, xwr_eq]
  have q10 : σ1 k 10 = isum (fun c => if σ (k1 + 1) c = 0 then 0 else 1) n := by rw [← hg]; simp (disch := decide) only [xwr_nj, xwr_eq]
  have q16 : σ1 k 16 = fr := by rw [← hg]; simp (disch := decide) only [xwr_nj, xwr_eq]
  have q14 : σ1 k 14 = st := by rw [← hg]; simp (disch := decide) only [xwr_nj, xwr_eq]
  have q11 : σ1 k 11 = -1 := by rw [← hg, xwr_eq]
  have qq : ∀ q j, q ≠ k + 14 → ¬ (q = k ∧ (j = 9 ∨ j = 10 ∨ j = 11 ∨ j = 14 ∨ j = 16)) → σ1 q j = σ q j := by
    intro q j _ h
    rw [← hg]
    unfold xwr
    rw [if_neg (by omega), if_neg (by omega), if_neg (by omega), if_neg (by omega), if_neg (by omega)]
  obtain ⟨τ, p1, p2, p3, p4, p5⟩ := lp n 0 σ1 (some (vi st)) (by omega) qq q9 (fun j hj => absurd hj (by omega)) (fun j hj => absurd hj (by omega)) (by omega)
  refine ⟨τ, τ k 11, fun d => ?_, p2, ⟨(p3 9 (by decide)).trans q9, hn, fun c hc => ⟨by simp, p4 c hc, fun e he => absurd he (by simp)⟩⟩, (p3 10 (by decide)).trans q10, rfl, (p3 14 (by decide)).trans q14, (p3 16 (by decide)).trans q16, p5⟩
  refine Eq.trans (b173_0 hk hk1) ?_
  rw [h0]
  have e141 := s141 (X := X) (d := d) (σ := xwr σ k 9 (n : Int)) (k := k1) hk1 (by rw [xwr_nk (by omega)]; omega) (by rw [xwr_nk (by omega)]; omega)
  rw [xwr_row (by omega), xwr_nk (by omega), h0, Int.toNat_natCast] at e141
  refine x_bind e141 ?_
  dsimp only
  refine Eq.trans (b173_13 (t1 := isum (fun c => if σ (k1 + 1) c = 0 then 0 else 1) n) hk) ?_
  rw [hg]
  exact p1 _ _
end ASN
