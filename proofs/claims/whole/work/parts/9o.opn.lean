/-! WALKS: chooseBy, chooseAs, open -/
def opF (ω : xM) (fg : Nat → Int) (F : Nat → Nat → Bool) (c : Nat) : List Nat := (List.range (f72 ω (fg c)).toNat).filter (F c)
def syF (ω : xM) (fg : Nat → Int) (c i : Nat) : Int := f74 ω (fg c) (i : Int)
def wtF (ω : xM) (fg : Nat → Int) (c i : Nat) : Nat := (pc (f71 ω (fg c) (i : Int)).toNat).toNat
def ctF (ω : xM) (fg bt : Nat → Int) (c i : Nat) : Nat := dfN (bt c) (f71 ω (fg c) (i : Int))
def clF (ω : xM) (fg bt : Nat → Int) (c i : Nat) : Nat := dfN (f71 ω (fg c) (i : Int)) (bt c)
section OPN
variable {X : Nat × (Nat → Int)} {σ ω τ : xM} {k k1 n : Nat} {op : Nat → List Nat} {ct cl : Nat → Nat → Nat} {sy : Nat → Nat → Int} {wt : Nat → Nat → Nat} {fg bt : Nat → Int}
theorem WKT_op {op' : Nat → List Nat} (h : WKT k n op ct cl sy wt σ) (e : ∀ c, c < n → op' c = op c) : WKT k n op' ct cl sy wt σ := by
  obtain ⟨h1, h2, h3⟩ := h
  refine ⟨h1, h2, fun c hc => ?_⟩
  have := h3 c hc
  simp only [e c hc]
  exact this
theorem f72_rg (hF : FRM ω) (a : Int) : 0 ≤ f72 ω a ∧ f72 ω a ≤ 20 := by
  unfold f72
  have := hF.1
  have := hF.2.1
  split <;> omega
theorem FRM_cg (hF : FRM ω) (e : ∀ q, ¬ (k + 10 ≤ q ∧ q ≤ k + 14) → σ q = ω q) (hk : isWlk k) : FRM σ := by
  unfold isWlk at hk
  unfold FRM
  rw [e 3 (by omega), e 6 (by omega), e 7 (by omega)]
  exact hF
theorem rng_le {m : Nat} {f : Nat → Bool} : ((List.range m).filter f).length ≤ m := by
  have := List.length_filter_le f (List.range m)
  rw [List.length_range] at this
  exact this
theorem dfN_pc {a b : Int} (h1 : 0 ≤ a) (h2 : a < 128) (h3 : 0 ≤ b) (h4 : b < 128) : f319 σ (xand a (xxor b (-1))) = (dfN a b : Int) := by
  have r := bndI h1 h2 h3 h4
  rw [f319_pc r.1 r.2]
  unfold dfN
  have := pc_rg (xand a (xxor b (-1))).toNat
  omega
/-- chooseBy, in a cell -/
theorem it174 (hk : isWlk k) (hk1 : isRow k1) (hF : FRM ω) {t l : Nat} (ht : t ≤ 3) (hl : l ≤ 3) (efg : ω (k1 + 1) = fg) (ebt : ω (k1 + 2) = bt) (hfg : ∀ c, c < n → fg c = 0 ∨ fg c = 1) (hbt : ∀ c, c < n → 0 ≤ bt c ∧ bt c < 128) {c : Nat} (hc : c < n) (hn : n ≤ 11) {F : Nat → Nat → Bool} (hFd : ∀ i, F c i = decide (ctF ω fg bt c i ≤ t ∧ clF ω fg bt c i ≤ l)) : ∀ (m i : Nat) (σ : xM), i + m = (f72 ω (fg c)).toNat → (∀ q, ¬ (k + 10 ≤ q ∧ q ≤ k + 14) → σ q = ω q) → WKT k n (updL op c ((List.range i).filter (F c))) (ctF ω fg bt) (clF ω fg bt) (syF ω fg) (wtF ω fg) σ → ∃ τ, (∀ d o6 o7 o8, ∃ p5 p6 p7 p8, Ev X (d + 6) 174 15 [some (vr k), some (vr k1), some (vi t), some (vi l), some (vi c), some (vi i), o6, o7, o8] [] SH σ = Ev X (d + 6) 174 3 [some (vr k), some (vr k1), some (vi t), some (vi l), some (vi ((c + 1 : Nat) : Int)), p5, p6, p7, p8] [] SH τ) ∧ (∀ q, ¬ (k + 10 ≤ q ∧ q ≤ k + 14) → τ q = ω q) ∧ WKT k n (updL op c (opF ω fg F c)) (ctF ω fg bt) (clF ω fg bt) (syF ω fg) (wtF ω fg) τ := by
  have k50 : k = 50 ∨ k = 71 := hk
  have r50 : k1 + 2 < 50 ∨ k1 = 90 := by
    unfold isRow at hk1
    omega
  have nc := f72_rg hF (fg c)
  intro m
  induction m with
  | zero =>
    intro i σ e1 e2 e3
    have e1 : i = (f72 ω (fg c)).toNat := by omega
    refine ⟨σ, fun d o6 o7 o8 => ⟨some (vi i), o6, o7, o8, ?_⟩, e2, by unfold opF; rw [← e1]; exact e3⟩
    refine Eq.trans (b174_15 hk hk1 (by omega)) ?_
    refine x_bind s72 ?_
    dsimp only
    refine Eq.trans (b174_31 (t1 := f72 σ (σ (k1 + 1) c)) (t0 := (i : Int))) ?_
    rw [e2 (k1 + 1) (by omega), efg]
    have f72e : f72 σ (fg c) = f72 ω (fg c) := by
      unfold f72
      rw [e2 3 (by omega)]
    rw [f72e, if_pos (by omega), b174_126, xad1 (by omega)]
  | succ m ih =>
    intro i σ e1 e2 e3
    have f72e : f72 σ (fg c) = f72 ω (fg c) := by
      unfold f72
      rw [e2 3 (by omega)]
    have F' := FRM_cg hF e2 hk
    have efg' : σ (k1 + 1) = fg := (e2 (k1 + 1) (by omega)).trans efg
    have ebt' : σ (k1 + 2) = bt := (e2 (k1 + 2) (by omega)).trans ebt
    have rb := f71_rg hF (fg c) (i : Int)
    have rt := hbt c hc
    have f71e : ∀ (a b : Int), f71 σ a b = f71 ω a b := fun a b => f71_cg (by rw [e2 3 (by omega)]) (e2 6 (by omega)) a b
    have st : ∀ d o6 o7 o8, ∃ p6, Ev X (d + 6) 174 15 [some (vr k), some (vr k1), some (vi t), some (vi l), some (vi c), some (vi i), o6, o7, o8] [] SH σ = Ev X (d + 6) 174 84 [some (vr k), some (vr k1), some (vi t), some (vi l), some (vi c), some (vi i), p6, some (vi (ctF ω fg bt c i : Int)), o8] [vi (clF ω fg bt c i : Int)] SH σ := by
      intro d o6 o7 o8
      refine ⟨some (vi (f71 ω (fg c) (i : Int))), ?_⟩
      refine Eq.trans (b174_15 hk hk1 (by omega)) ?_
      refine x_bind s72 ?_
      dsimp only
      refine Eq.trans (b174_31 (t1 := f72 σ (σ (k1 + 1) c)) (t0 := (i : Int))) ?_
      rw [efg', f72e, if_neg (by omega)]
      refine Eq.trans (b174_34 hk hk1 (by omega)) ?_
      rw [Int.toNat_natCast, efg']
      refine x_bind (s71 F'.2.1) ?_
      rw [f71e]
      dsimp only
      refine Eq.trans (b174_50 hk1 (by omega)) ?_
      rw [Int.toNat_natCast, ebt']
      refine x_bind s319 ?_
      rw [dfN_pc rt.1 rt.2 rb.1 rb.2]
      dsimp only
      refine Eq.trans (b174_67 hk1 (by omega)) ?_
      rw [Int.toNat_natCast, ebt']
      refine x_bind s319 ?_
      rw [dfN_pc rb.1 rb.2 rt.1 rt.2]
      rfl
    have rs : (List.range (i + 1)).filter (F c) = (List.range i).filter (F c) ++ (if F c i = true then [i] else []) := by
      rw [List.range_succ, List.filter_append]
      congr 1
      by_cases y : F c i = true
      · rw [if_pos y, List.filter_cons_of_pos y, List.filter_nil]
      · rw [if_neg y, List.filter_cons_of_neg y, List.filter_nil]
    by_cases y : ctF ω fg bt c i ≤ t ∧ clF ω fg bt c i ≤ l
    · have Fy : F c i = true := by rw [hFd]; exact decide_eq_true y
      have ul : updL op c ((List.range i).filter (F c)) c = (List.range i).filter (F c) := if_pos rfl
      obtain ⟨τ1, q1, q2, q3⟩ := s176 (X := X) (fg := fg c) hk F' e3 (c := c) (i := i) hc (by
        rw [ul]
        have := rng_le (m := i) (f := F c)
        omega) (by omega) (by
        unfold syF
        exact (f74_cg (by rw [e2 3 (by omega)]) (e2 7 (by omega)) _ _).symm) (by
        unfold wtF
        rw [f71e]) ⟨by omega, by omega⟩
      have e3' : WKT k n (updL op c ((List.range (i + 1)).filter (F c))) (ctF ω fg bt) (clF ω fg bt) (syF ω fg) (wtF ω fg) τ1 := by
        refine WKT_op q3 (fun c' hc' => ?_)
        rw [rs, if_pos Fy, ul]
        unfold updL
        split <;> rfl
      obtain ⟨τ, p1, p2, p3⟩ := ih (i + 1) τ1 (by omega) (fun q hq => (q2 q hq).trans (e2 q hq)) e3'
      refine ⟨τ, fun d o6 o7 o8 => ?_, p2, p3⟩
      obtain ⟨p6, h6⟩ := st d o6 o7 o8
      obtain ⟨r5, r6, r7, r8, hr⟩ := p1 d p6 (some (vi (ctF ω fg bt c i : Int))) (some (vi (clF ω fg bt c i : Int)))
      refine ⟨r5, r6, r7, r8, ?_⟩
      rw [h6, b174_84, if_neg (by omega), b174_92, if_neg (by omega)]
      refine Eq.trans (b174_98 hk1 (by omega)) ?_
      refine x_bind s175 ?_
      dsimp only
      have c4 : f175 σ (ctF ω fg bt c i : Int) (clF ω fg bt c i : Int) = ((4 * ctF ω fg bt c i + clF ω fg bt c i : Nat) : Int) := by
        unfold f175
        rw [xmul_eq (by omega) (by omega), xadd_eq (by omega) (by omega)]
        omega
      refine Eq.trans (b174_117 (t4 := f175 σ (ctF ω fg bt c i : Int) (clF ω fg bt c i : Int)) (t3 := (i : Int)) (t2 := σ (k1 + 1) ((c : Int)).toNat) (t1 := (c : Int)) hk) ?_
      rw [c4, Int.toNat_natCast, efg']
      refine x_bind (q1 _) ?_
      dsimp only
      refine Eq.trans b174_120 ?_
      rw [xad1 (by omega)]
      exact hr
    · have Fy : ¬ F c i = true := by rw [hFd]; exact fun z => y (of_decide_eq_true z)
      obtain ⟨τ, p1, p2, p3⟩ := ih (i + 1) σ (by omega) e2 (by rw [rs, if_neg Fy, List.append_nil]; exact e3)
      refine ⟨τ, fun d o6 o7 o8 => ?_, p2, p3⟩
      obtain ⟨p6, h6⟩ := st d o6 o7 o8
      obtain ⟨r5, r6, r7, r8, hr⟩ := p1 d p6 (some (vi (ctF ω fg bt c i : Int))) (some (vi (clF ω fg bt c i : Int)))
      refine ⟨r5, r6, r7, r8, ?_⟩
      rw [h6, b174_84]
      by_cases z : (t : Int) < (ctF ω fg bt c i : Int)
      · rw [if_pos z, b174_120, xad1 (by omega)]
        exact hr
      · rw [if_neg z, b174_92, if_pos (by omega), b174_120, xad1 (by omega)]
        exact hr
theorem s174 (hk : isWlk k) (hk1 : isRow k1) (hF : FRM ω) {t l : Nat} (ht : t ≤ 3) (hl : l ≤ 3) (efg : ω (k1 + 1) = fg) (ebt : ω (k1 + 2) = bt) (hfg : ∀ c, c < n → fg c = 0 ∨ fg c = 1) (hbt : ∀ c, c < n → 0 ≤ bt c ∧ bt c < 128) (hW : WKT k n (fun _ => []) (ctF ω fg bt) (clF ω fg bt) (syF ω fg) (wtF ω fg) ω) : ∃ τ, (∀ d, Ev X (d + 6) 174 0 [some (vr k), some (vr k1), some (vi t), some (vi l), none, none, none, none, none] [] SH ω = some (none, SH, τ)) ∧ (∀ q, ¬ (k + 10 ≤ q ∧ q ≤ k + 14) → τ q = ω q) ∧ WKT k n (opF ω fg (fun c i => decide (ctF ω fg bt c i ≤ t ∧ clF ω fg bt c i ≤ l))) (ctF ω fg bt) (clF ω fg bt) (syF ω fg) (wtF ω fg) τ := by
  have k50 : k = 50 ∨ k = 71 := hk
  have hn := hW.2.1
  have lp : ∀ (m c : Nat) (σ : xM), c + m = n → (∀ q, ¬ (k + 10 ≤ q ∧ q ≤ k + 14) → σ q = ω q) → WKT k n (fun c' => if c' < c then opF ω fg (fun c i => decide (ctF ω fg bt c i ≤ t ∧ clF ω fg bt c i ≤ l)) c' else []) (ctF ω fg bt) (clF ω fg bt) (syF ω fg) (wtF ω fg) σ → ∃ τ, (∀ d o5 o6 o7 o8, Ev X (d + 6) 174 3 [some (vr k), some (vr k1), some (vi t), some (vi l), some (vi c), o5, o6, o7, o8] [] SH σ = some (none, SH, τ)) ∧ (∀ q, ¬ (k + 10 ≤ q ∧ q ≤ k + 14) → τ q = ω q) ∧ WKT k n (opF ω fg (fun c i => decide (ctF ω fg bt c i ≤ t ∧ clF ω fg bt c i ≤ l))) (ctF ω fg bt) (clF ω fg bt) (syF ω fg) (wtF ω fg) τ := by
    intro m
    induction m with
    | zero =>
      intro c σ e1 e2 e3
      refine ⟨σ, fun d o5 o6 o7 o8 => ?_, e2, WKT_op e3 (fun c' hc' => by rw [if_pos (by omega)])⟩
      rw [b174_3 hk, if_pos (by rw [e3.1]; omega), b174_132]
    | succ m ih =>
      intro c σ e1 e2 e3
      obtain ⟨τ1, q1, q2, q3⟩ := it174 (X := X) (op := fun c' => if c' < c then opF ω fg (fun c i => decide (ctF ω fg bt c i ≤ t ∧ clF ω fg bt c i ≤ l)) c' else []) (n := n) hk hk1 hF ht hl efg ebt hfg hbt (c := c) (by omega) hn (F := fun c i => decide (ctF ω fg bt c i ≤ t ∧ clF ω fg bt c i ≤ l)) (fun _ => rfl) (f72 ω (fg c)).toNat 0 σ (by omega) e2 (WKT_op e3 (fun c' hc' => by
        unfold updL
        by_cases y : c' = c
        · rw [if_pos y, y, if_neg (by omega)]
          rfl
        · rw [if_neg y]))
      obtain ⟨τ, p1, p2, p3⟩ := ih (c + 1) τ1 (by omega) q2 (WKT_op q3 (fun c' hc' => by
        unfold updL
        by_cases y : c' = c
        · rw [if_pos (by omega), if_pos y, y]
        · rw [if_neg y]
          dsimp only
          by_cases z : c' < c
          · rw [if_pos (by omega), if_pos z]
          · rw [if_neg (by omega), if_neg z]))
      refine ⟨τ, fun d o5 o6 o7 o8 => ?_, p2, p3⟩
      rw [b174_3 hk, if_neg (by rw [e3.1]; omega), b174_12]
      obtain ⟨r5, r6, r7, r8, hr⟩ := q1 d o6 o7 o8
      exact hr.trans (p1 d r5 r6 r7 r8)
  obtain ⟨τ, p1, p2, p3⟩ := lp n 0 ω (by omega) (fun _ _ => rfl) (WKT_op hW (fun c' hc' => by rw [if_neg (by omega)]))
  refine ⟨τ, fun d => ?_, p2, p3⟩
  rw [b174_0]
  exact p1 d _ _ _ _
end OPN
