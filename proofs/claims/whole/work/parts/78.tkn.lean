/-! THE NEXT TOKEN, in the model -/
section TKN
variable {X : Nat × (Nat → Int)} {μ ρ : xM} {sg : Int → Bool} {n p q : Nat} {o1 o2 : Option xV}
theorem xwr_id {k j : Nat} {x : Int} (h : ρ k j = x) : xwr ρ k j x = ρ := by
  funext a b
  unfold xwr
  split
  · rename_i z
    rw [z.1, z.2, h]
  · rfl
theorem s198 (hS : ∀ (ρ : xM) (c : Int), ρ 100 10 = μ 100 10 → f202 ρ c = if sg c = true then 1 else 0) (hS3 : sg 3 = false) (h5 : μ 100 5 = n) (hn : n ≤ 300) (hb : ∀ i, 0 ≤ μ 101 i ∧ μ 101 i ≤ 255) (h4 : μ 100 4 = p) (hp : p ≤ n) : ∃ ν, (∀ d, Ev X (d + 1) 198 0 [some (vr 100), none, none] [] SH μ = some (none, SH, ν)) ∧ chg [] [(100, 4), (100, 6), (100, 7), (100, 8), (100, 9)] μ ν ∧ TkM (μ 101) n sg ν (runE isBl (μ 101) (n - p) p) := by
  have rg := runE_rg (P := isBl) (tx := μ 101) (n - p) p
  have lp := it198 (X := X) (o1 := none) (o2 := none) h5 hn hb (n - p) p (by omega)
  rw [xwr_id h4] at lp
  generalize runE isBl (μ 101) (n - p) p = q at rg lp
  have c0 := s199z (X := X) (ρ := μ) (n := n) (q := p) h5 hn h4 (by omega)
  have hbq := hb q
  generalize hρ : xwr (xwr (xwr (xwr μ 100 4 (q : Int)) 100 7 (q : Int)) 100 9 0) 100 8 0 = ρ
  have r5 : ρ 100 5 = n := by rw [← hρ, xwr_nj (by decide), xwr_nj (by decide), xwr_nj (by decide), xwr_nj (by decide)]; exact h5
  have r2 : ρ 101 = μ 101 := by rw [← hρ, xwr_row (by decide), xwr_row (by decide), xwr_row (by decide), xwr_row (by decide)]
  have r10 : ρ 100 10 = μ 100 10 := by rw [← hρ, xwr_nj (by decide), xwr_nj (by decide), xwr_nj (by decide), xwr_nj (by decide)]
  have r4 : ρ 100 4 = q := by rw [← hρ, xwr_nj (by decide), xwr_nj (by decide), xwr_nj (by decide), xwr_eq]
  have r7 : ρ 100 7 = q := by rw [← hρ, xwr_nj (by decide), xwr_nj (by decide), xwr_eq]
  have r8 : ρ 100 8 = 0 := by rw [← hρ, xwr_eq]
  have r9 : ρ 100 9 = 0 := by rw [← hρ, xwr_nj (by decide), xwr_eq]
  have cρ : chg [] [(100, 4), (100, 6), (100, 7), (100, 8), (100, 9)] μ ρ := by rw [← hρ]; exact chg_wr rfl (chg_wr rfl (chg_wr rfl (chg_wr rfl chg_rf)))
  have c1 := s199z (X := X) (ρ := xwr (xwr μ 100 4 (q : Int)) 100 7 (q : Int)) (n := n) (q := q) (by rw [xwr_nj (by decide), xwr_nj (by decide)]; exact h5) hn (by rw [xwr_nj (by decide), xwr_eq]) (by omega)
  rw [xwr_row (by decide), xwr_row (by decide)] at c1
  have st : ∀ d, Ev X (d + 1) 198 0 [some (vr 100), none, none] [] SH μ = Ev X (d + 1) 198 46 [some (vr 100), none, none] [vi (hr (μ 101) n q)] SH (xwr (xwr μ 100 4 (q : Int)) 100 7 (q : Int)) := by
    intro d
    refine Eq.trans b198_0 ?_
    refine x_bind (c0 _) ?_
    dsimp only
    refine Eq.trans (lp d) ?_
    refine Eq.trans b198_33 ?_
    rw [xwr_eq]
    refine x_bind (c1 _) ?_
    rfl
  unfold TkM
  by_cases e : q = n
  · have v : hr (μ 101) n q = -1 := if_neg (by omega)
    rw [v] at st
    refine ⟨xwr (xwr ρ 100 6 0) 100 4 (q : Int), fun d => ?_, chg_wr rfl (chg_wr rfl cρ), ?_, Or.inl ⟨e, ?_, xwr_eq⟩⟩
    · rw [st, b198_46, if_neg (by decide), hρ, b198_63, b198_233, xwr_eq, if_neg (by decide), b198_241, xwr_nj (by decide), r4, xadd_eq (by omega) (by omega), b198_251, Int.add_zero]
    · rw [xwr_nj (by decide), xwr_nj (by decide)]; exact r7
    · rw [xwr_nj (by decide), xwr_eq]
  · have v : hr (μ 101) n q = μ 101 q := if_pos (by omega)
    rw [v] at st
    have st1 : ∀ d, Ev X (d + 1) 198 0 [some (vr 100), none, none] [] SH μ = Ev X (d + 1) 198 75 [some (vr 100), some (vi (μ 101 q)), some (vi 0)] [vi (f200 ρ (μ 101 q))] SH ρ := by
      intro d
      rw [st, b198_46, if_pos hbq.1, hρ]
      refine Eq.trans b198_71 ?_
      refine x_bind s200 ?_
      rfl
    cases lt : isLt (μ 101 q) with
    | true =>
      have lt' := of_decide_eq_true lt
      have f1 : f200 ρ (μ 101 q) = 1 := by
        unfold f200
        rw [if_neg (by omega), if_neg (by omega)]
      obtain ⟨o1', w⟩ := it198w (X := X) (ρ := ρ) (q := q) r5 hn r4 (n - q) 0 (some (vi (μ 101 q))) (by omega)
      rw [show pk (ρ 101) q (min 0 8) = 0 from rfl, xwr_id r9, Nat.add_zero, r2] at w
      have rgw := runE_rg (P := isLt) (tx := μ 101) (n - q) q
      generalize runE isLt (μ 101) (n - q) q = e1 at w rgw ⊢
      have st2 : ∀ d, Ev X (d + 1) 198 0 [some (vr 100), none, none] [] SH μ = Ev X (d + 1) 198 119 [some (vr 100), o1', some (vi (e1 - q : Nat))] [] SH (xwr ρ 100 9 (pk (μ 101) q (min (e1 - q) 8))) := by
        intro d
        rw [st1, f1, b198_75, if_neg (by decide)]
        exact w d
      by_cases y : e1 - q ≤ 8
      · rw [show min (e1 - q) 8 = e1 - q by omega] at st2
        refine ⟨xwr (xwr (xwr ρ 100 9 (pk (μ 101) q (e1 - q))) 100 6 1) 100 4 (e1 : Int), fun d => ?_, chg_wr rfl (chg_wr rfl (chg_wr rfl cρ)), ?_, Or.inr (Or.inl ⟨by omega, rfl, fun _ => ⟨?_, xwr_eq, ?_⟩, fun z => absurd y z⟩)⟩
        · rw [st2, b198_119, if_pos (by omega), b198_130, b198_131, b198_233, xwr_eq, if_neg (by decide), b198_241, xwr_nj (by decide), xwr_nj (by decide), r4, xadd_eq (by omega) (by omega), b198_251, show (q : Int) + ((e1 - q : Nat) : Int) = (e1 : Int) by omega]
        · rw [xwr_nj (by decide), xwr_nj (by decide), xwr_nj (by decide)]; exact r7
        · rw [xwr_nj (by decide), xwr_eq]
        · rw [xwr_nj (by decide), xwr_nj (by decide), xwr_eq]
      · refine ⟨xwr (xwr ρ 100 9 (pk (μ 101) q (min (e1 - q) 8))) 100 6 3, fun d => ?_, chg_wr rfl (chg_wr rfl cρ), ?_, Or.inr (Or.inl ⟨by omega, rfl, fun z => absurd z y, fun _ => xwr_eq⟩)⟩
        · rw [st2, b198_119, if_neg (by omega), b198_126, b198_131, b198_233, xwr_eq, if_pos rfl, b198_251]
        · rw [xwr_nj (by decide), xwr_nj (by decide)]; exact r7
    | false =>
      have lt' : ¬ (97 ≤ μ 101 q ∧ μ 101 q ≤ 122) := of_decide_eq_false lt
      have f1 : f200 ρ (μ 101 q) = 0 := by
        unfold f200
        repeat' split
        all_goals omega
      have st3 : ∀ d, Ev X (d + 1) 198 0 [some (vr 100), none, none] [] SH μ = Ev X (d + 1) 198 141 [some (vr 100), some (vi (μ 101 q)), some (vi 0)] [vi (f201 ρ (μ 101 q))] SH ρ := by
        intro d
        rw [st1, f1, b198_75, if_pos rfl]
        refine Eq.trans b198_137 ?_
        refine x_bind s201 ?_
        rfl
      cases dg : isDg (μ 101 q) with
      | true =>
        have dg' := of_decide_eq_true dg
        have f2 : f201 ρ (μ 101 q) = 1 := by
          unfold f201
          rw [if_neg (by omega), if_neg (by omega)]
        obtain ⟨o1', w⟩ := it198n (X := X) (ρ := ρ) (q := q) r5 hn r4 (n - q) 0 (some (vi (μ 101 q))) (by omega)
        rw [show mval (ρ 101) q (min 0 4) = 0 from rfl, xwr_id r8, Nat.add_zero, r2] at w
        have rgw := runE_rg (P := isDg) (tx := μ 101) (n - q) q
        generalize runE isDg (μ 101) (n - q) q = e1 at w rgw ⊢
        have st2 : ∀ d, Ev X (d + 1) 198 0 [some (vr 100), none, none] [] SH μ = Ev X (d + 1) 198 186 [some (vr 100), o1', some (vi (e1 - q : Nat))] [] SH (xwr ρ 100 8 (mval (μ 101) q (min (e1 - q) 4))) := by
          intro d
          rw [st3, f2, b198_141, if_neg (by decide)]
          exact w d
        by_cases y : e1 - q ≤ 4
        · rw [show min (e1 - q) 4 = e1 - q by omega] at st2
          have c2 := s199h (X := X) (ρ := xwr ρ 100 8 (mval (μ 101) q (e1 - q))) (n := n) (q := q) (k := e1 - q) (by rw [xwr_nj (by decide)]; exact r5) hn (by rw [xwr_nj (by decide)]; exact r4) (by omega)
          rw [xwr_row (by decide), r2, show q + (e1 - q) = e1 by omega] at c2
          have st4 : ∀ d, Ev X (d + 1) 198 0 [some (vr 100), none, none] [] SH μ = Ev X (d + 1) 198 200 [some (vr 100), o1', some (vi (e1 - q : Nat))] [vi (f200 (xwr ρ 100 8 (mval (μ 101) q (e1 - q))) (hr (μ 101) n e1)), vr 100] SH (xwr ρ 100 8 (mval (μ 101) q (e1 - q))) := by
            intro d
            rw [st2, b198_186, if_neg (by omega)]
            refine Eq.trans b198_192 ?_
            refine x_bind (c2 _) ?_
            dsimp only
            refine Eq.trans b198_197 ?_
            refine x_bind s200 ?_
            rfl
          by_cases u : e1 < n ∧ isLt (μ 101 e1) = true
          · have u' := of_decide_eq_true u.2
            have f3 : f200 (xwr ρ 100 8 (mval (μ 101) q (e1 - q))) (hr (μ 101) n e1) = 1 := by
              rw [show hr (μ 101) n e1 = μ 101 e1 from if_pos u.1]
              unfold f200
              rw [if_neg (by omega), if_neg (by omega)]
            refine ⟨xwr (xwr ρ 100 8 (mval (μ 101) q (e1 - q))) 100 6 3, fun d => ?_, chg_wr rfl (chg_wr rfl cρ), ?_, Or.inr (Or.inr (Or.inl ⟨by omega, rfl, fun z => absurd u z.2, fun _ => xwr_eq⟩))⟩
            · rw [st4, f3, b198_200, if_neg (by decide), b198_203, b198_208, b198_233, xwr_eq, if_pos rfl, b198_251]
            · rw [xwr_nj (by decide), xwr_nj (by decide)]; exact r7
          · have f3 : f200 (xwr ρ 100 8 (mval (μ 101) q (e1 - q))) (hr (μ 101) n e1) = 0 := by
              unfold f200
              by_cases g : e1 < n
              · rw [show hr (μ 101) n e1 = μ 101 e1 from if_pos g]
                have u2 : ¬ (97 ≤ μ 101 e1 ∧ μ 101 e1 ≤ 122) := fun k => u ⟨g, decide_eq_true k⟩
                repeat' split
                all_goals omega
              · rw [show hr (μ 101) n e1 = -1 from if_neg g]
                rfl
            refine ⟨xwr (xwr (xwr ρ 100 8 (mval (μ 101) q (e1 - q))) 100 6 2) 100 4 (e1 : Int), fun d => ?_, chg_wr rfl (chg_wr rfl (chg_wr rfl cρ)), ?_, Or.inr (Or.inr (Or.inl ⟨by omega, rfl, fun _ => ⟨?_, xwr_eq, ?_⟩, fun z => absurd ⟨y, u⟩ z⟩))⟩
            · rw [st4, f3, b198_200, if_pos rfl, b198_207, b198_208, b198_233, xwr_eq, if_neg (by decide), b198_241, xwr_nj (by decide), xwr_nj (by decide), r4, xadd_eq (by omega) (by omega), b198_251, show (q : Int) + ((e1 - q : Nat) : Int) = (e1 : Int) by omega]
            · rw [xwr_nj (by decide), xwr_nj (by decide), xwr_nj (by decide)]; exact r7
            · rw [xwr_nj (by decide), xwr_eq]
            · rw [xwr_nj (by decide), xwr_nj (by decide), xwr_eq]
        · refine ⟨xwr (xwr ρ 100 8 (mval (μ 101) q (min (e1 - q) 4))) 100 6 3, fun d => ?_, chg_wr rfl (chg_wr rfl cρ), ?_, Or.inr (Or.inr (Or.inl ⟨by omega, rfl, fun z => absurd z.1 y, fun _ => xwr_eq⟩))⟩
          · rw [st2, b198_186, if_pos (by omega), b198_203, b198_208, b198_233, xwr_eq, if_pos rfl, b198_251]
          · rw [xwr_nj (by decide), xwr_nj (by decide)]; exact r7
      | false =>
        have dg' : ¬ (48 ≤ μ 101 q ∧ μ 101 q ≤ 57) := of_decide_eq_false dg
        have f2 : f201 ρ (μ 101 q) = 0 := by
          unfold f201
          repeat' split
          all_goals omega
        have st4 : ∀ d, Ev X (d + 1) 198 0 [some (vr 100), none, none] [] SH μ = Ev X (d + 1) 198 222 [some (vr 100), some (vi (μ 101 q)), some (vi 1)] [vi (f202 ρ (μ 101 q)), vr 100] SH ρ := by
          intro d
          rw [st3, f2, b198_141, if_pos rfl]
          refine Eq.trans b198_214 ?_
          refine x_bind s202 ?_
          rfl
        rw [hS ρ _ r10] at st4
        by_cases y : sg (μ 101 q) = true
        · rw [if_pos y] at st4
          have n3 : μ 101 q ≠ 3 := by
            intro z
            rw [z, hS3] at y
            cases y
          refine ⟨xwr (xwr ρ 100 6 (μ 101 q)) 100 4 ((q + 1 : Nat) : Int), fun d => ?_, chg_wr rfl (chg_wr rfl cρ), ?_, Or.inr (Or.inr (Or.inr ⟨by omega, rfl, rfl, fun _ => ⟨?_, xwr_eq⟩, fun z => absurd (y.symm.trans z) (by decide)⟩))⟩
          · rw [st4, b198_222, if_neg (by decide), b198_225, b198_230, b198_233, xwr_eq, if_neg n3, b198_241, xwr_nj (by decide), r4, xadd_eq (by omega) (by omega), b198_251, show (q : Int) + 1 = ((q + 1 : Nat) : Int) by omega]
          · rw [xwr_nj (by decide), xwr_nj (by decide)]; exact r7
          · rw [xwr_nj (by decide), xwr_eq]
        · rw [if_neg y] at st4
          refine ⟨xwr ρ 100 6 3, fun d => ?_, chg_wr rfl cρ, ?_, Or.inr (Or.inr (Or.inr ⟨by omega, rfl, rfl, fun z => absurd z y, fun _ => xwr_eq⟩))⟩
          · rw [st4, b198_222, if_pos rfl, b198_229, b198_230, b198_233, xwr_eq, if_pos rfl, b198_251]
          · rw [xwr_nj (by decide)]; exact r7
end TKN
