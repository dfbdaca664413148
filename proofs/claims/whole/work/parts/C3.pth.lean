/-! PATHS, in the class: findPath -/
def CAm : List Nat := [13, 81, 82, 83, 84, 85, 86, 87, 88, 89, 92, 93, 94]
def CSm : List (Nat × Nat) := [(71, 9), (71, 10), (71, 11), (71, 12), (71, 13), (71, 14), (71, 15), (71, 16), (10, 8), (70, 5)]
section PTHC
variable {X : Nat × (Nat → Int)} {σ τ ω : xM} {n : Nat}
theorem RES_cs {wt : Nat → Nat → Nat} {P : List (Nat → Nat)} (h : RES 71 n wt P σ) (c : chs [93, 94] [(70, 5)] σ τ) : RES 71 n wt P τ := by
  obtain ⟨h1, h2, h3, h4⟩ := h
  have e16 := c 71 16 rfl
  refine ⟨(c 71 15 rfl).trans h1, fun i hi a b => ?_, fun s hs => (c 88 s rfl).trans (h3 s hs), fun q i hq hi => (c 89 (20 * q + i) rfl).trans (h4 q i hq hi)⟩
  rw [e16] at a b ⊢
  exact (c 87 _ rfl).trans (h2 i hi a b)
theorem bI_0 {b : Bool} : bI b = 0 ↔ b = false := by
  cases b <;> decide
theorem it103 {wt : Nat → Nat → Nat} {P : List (Nat → Nat)} {aim i : Nat} (hP : P.length ≤ 256) : ∀ (m j : Nat) (S : PS) (ω : xM), j + m = P.length → RLC ω S → RES 71 n wt P ω → ω 71 16 = 0 → ∃ τ o7, (∀ d o1 o2, Ev X (d + 2) 103 120 [some (vr 70), o1, o2, some (vl (aim : Int)), none, some (vi (bI S.2)), some (vi i), some (vi j)] [] SH ω = Ev X (d + 2) 103 192 [some (vr 70), o1, o2, some (vl (aim : Int)), none, some (vi (bI (((P.drop j).map (fun q => cdN q n)).foldl (add1 aim (i : Int)) S).2)), some (vi i), o7] [] SH τ) ∧ chs [93, 94] [(70, 5)] ω τ ∧ RLC τ (((P.drop j).map (fun q => cdN q n)).foldl (add1 aim (i : Int)) S) := by
  intro m
  induction m with
  | zero =>
    intro j S ω e hR hS h16
    refine ⟨ω, some (vi j), fun d o1 o2 => ?_, chs_rf, ?_⟩
    · rw [b103_120, if_pos (by rw [hS.1]; omega), List.drop_of_length_le (by omega)]
      rfl
    · rw [List.drop_of_length_le (by omega)]
      exact hR
  | succ m ih =>
    intro j S ω e hR hS h16
    by_cases y : stp S
    · rw [fold_s y]
      refine ⟨ω, some (vi j), fun d o1 o2 => ?_, chs_rf, hR⟩
      rw [b103_120, if_neg (by rw [hS.1]; omega), b103_132]
      by_cases z : 150 < S.1.length
      · rw [if_pos (by rw [hR.1]; omega)]
      · have t : S.2 = true := by
          rcases y with y | y
          · exact y
          · exact absurd y z
        rw [if_neg (by rw [hR.1]; omega), b103_142, if_pos (by rw [t]; decide)]
    · have hl : S.1.length ≤ 150 := by
        refine Classical.byContradiction (fun z => y (Or.inr (by omega)))
      have h2 : S.2 = false := by
        cases hh : S.2 with
        | false => rfl
        | true => exact absurd (Or.inl hh) y
      have hj : j < P.length := by omega
      have ed : P.drop j = P[j] :: P.drop (j + 1) := List.drop_eq_getElem_cons hj
      obtain ⟨τ1, p1, p2, p3⟩ := s105 (X := X) (σ := ω) (S := S) (y := cdN P[j] n) (aim := aim) (o := (i : Int)) hR hl h2
      have hS1 := RES_cs hS p2
      have h161 : τ1 71 16 = 0 := (p2 71 16 rfl).trans h16
      obtain ⟨τ, o7, q1, q2, q3⟩ := ih (j + 1) (add1 aim (i : Int) S (cdN P[j] n)) τ1 (by omega) p3 hS1 h161
      rw [ed, List.map_cons, List.foldl_cons]
      refine ⟨τ, o7, fun d o1 o2 => ?_, chs_tr p2 q2, q3⟩
      refine Eq.trans ?_ (q1 d o1 o2)
      rw [b103_120, if_neg (by rw [hS.1]; omega), b103_132, if_neg (by rw [hR.1]; omega), b103_142, if_neg (by rw [h2]; decide)]
      refine Eq.trans b103_147 ?_
      refine x_bind (s188n hS h16 hj (by omega) d) ?_
      dsimp only
      refine Eq.trans (b103_157 (t1 := (cdN P[j] n : Int))) ?_
      refine x_bind (p1 (d + 1)) ?_
      dsimp only
      refine Eq.trans (b103_162 (t0 := bI (decide (cdN P[j] n ∉ S.1.map Prod.fst)))) ?_
      by_cases w : cdN P[j] n ∈ S.1.map Prod.fst
      · have ad : add1 aim (i : Int) S (cdN P[j] n) = S := by
          unfold add1
          rw [if_pos (Or.inr (Or.inr w))]
        rw [decide_eq_false (fun z => z w), if_pos (by decide), b103_183, b103_184, xad1 (by omega), ad, h2]
        rfl
      · have ad : add1 aim (i : Int) S (cdN P[j] n) = (S.1 ++ [(cdN P[j] n, (i : Int))], decide (cdN P[j] n = aim)) := by
          unfold add1
          rw [if_neg]
          rintro (z | z | z)
          · rw [h2] at z
            cases z
          · omega
          · exact w z
        rw [decide_eq_true w, if_neg (by decide), ad]
        refine Eq.trans b103_165 ?_
        refine x_bind (s188n hS1 h161 hj (by omega) d) ?_
        dsimp only
        refine Eq.trans (b103_174 (t0 := (cdN P[j] n : Int))) ?_
        by_cases v : cdN P[j] n = aim
        · rw [if_neg (fun z => z (lc_0.mpr v)), b103_179, b103_184, xad1 (by omega), decide_eq_true v]
          rfl
        · rw [if_pos (fun z => v (lc_0.mp z)), b103_183, b103_184, xad1 (by omega), decide_eq_false v]
          rfl
/-- the search as a whole -/
theorem it103o {aim : Nat} : ∀ (m i : Nat) (S : PS) (ω : xM), i + m = 151 → NST ω n → RLC ω S → WPS (CD (ω 102) n (ω 107)) S → ∃ (τ : xM) (o6 : Option xV) (o7 : Option xV → Option xV), (∀ d o1 o2 o7', Ev X (d + 21) 103 77 [some (vr 70), o1, o2, some (vl (aim : Int)), none, some (vi (bI S.2)), some (vi i), o7'] [] SH ω = Ev X (d + 21) 103 198 [some (vr 70), o1, o2, some (vl (aim : Int)), none, some (vi (bI (bfs (nbC (ω 102) n (ω 107) 1 1) aim m i S).2)), o6, (o7 o7')] [] SH τ) ∧ chg CAm CSm ω τ ∧ RLC τ (bfs (nbC (ω 102) n (ω 107) 1 1) aim m i S) := by
  intro m
  induction m with
  | zero =>
    intro i S ω e hN hR hW
    refine ⟨ω, some (vi i), fun o => o, fun d o1 o2 o7' => ?_, chg_rf, hR⟩
    have := hW.2.1
    rw [b103_77, if_pos (by rw [hR.1]; omega)]
    rfl
  | succ m ih =>
    intro i S ω e hN hR hW
    rw [bfs]
    by_cases hi : i < S.1.length
    · rw [dif_pos hi]
      by_cases y : S.1.length ≤ 150 ∧ S.2 = false
      · rw [if_pos y]
        have cx : CD (ω 102) n (ω 107) (S.1[i]'hi).1 := hW.2.2.2.2 _ (List.getElem_mem hi)
        obtain ⟨τ1, a1, a2, a3, wt, a4⟩ := s104 (X := X) (σ := ω) (n := n) (k := 1) (so := 1) (stop := 256) hN cx (Or.inl rfl) (by omega) (by omega)
        have R1 : RLC τ1 S := by
          refine ⟨(chg_at a2 rfl rfl).trans hR.1, fun j hj => ⟨(chg_at a2 rfl rfl).trans (hR.2 j hj).1, (chg_at a2 rfl rfl).trans (hR.2 j hj).2⟩⟩
        obtain ⟨τ2, o7, b1, b2, b3⟩ := it103 (X := X) (n := n) (wt := wt) (aim := aim) (i := i) (P := (nbW (ω 102) n (ω 107) 1 1 (S.1[i]'hi).1).take 256) (by rw [List.length_take]; omega) _ 0 S τ1 (Nat.zero_add _) R1 a4 a3
        have fe : (((nbW (ω 102) n (ω 107) 1 1 (S.1[i]'hi).1).take 256).drop 0).map (fun q => cdN q n) = (nbC (ω 102) n (ω 107) 1 1 (S.1[i]'hi).1).take 256 := by
          unfold nbC
          rw [List.drop_zero, List.map_take]
        rw [fe, fold_tk nbC_nd] at b1 b3
        have c12 : chg CAm CSm ω τ2 := chg_tr (chg_mo (by decide) a2) (chg_mo (by decide) (chs_g b2))
        have N2 := NST_chg hN c12 (by decide)
        have r102 : τ2 102 = ω 102 := chg_row c12 (fun _ => rfl) rfl
        have r107 : τ2 107 = ω 107 := chg_row c12 (fun _ => rfl) rfl
        have W2 := WPS_fold (aim := aim) (i := i) (nbC (ω 102) n (ω 107) 1 1 (S.1[i]'hi).1) S hW hi (fun x hx => nbC_CD x hx)
        obtain ⟨τ, o6, o7f, d1, d2, d3⟩ := ih (i + 1) _ τ2 (by omega) N2 b3 (by rw [r102, r107]; exact W2)
        rw [r102, r107] at d1 d3
        refine ⟨τ, o6, fun _ => o7f o7, fun d o1 o2 o7' => ?_, chg_tr c12 d2, d3⟩
        refine Eq.trans ?_ (d1 d o1 o2 o7)
        have l := hW.2.1
        rw [b103_77, if_neg (by rw [hR.1]; omega), b103_86, if_neg (by rw [hR.1]; omega), b103_96, if_neg (by rw [y.2]; decide)]
        refine Eq.trans (b103_101 (by omega)) ?_
        rw [Int.toNat_natCast, (hR.2 i hi).1]
        refine x_bind (a1 d) ?_
        dsimp only
        refine Eq.trans b103_117 ?_
        refine Eq.trans (b1 (d + 19) o1 o2) ?_
        rw [b103_192, xad1 (by omega)]
      · rw [if_neg y]
        refine ⟨ω, some (vi i), fun o => o, fun d o1 o2 o7' => ?_, chg_rf, hR⟩
        rw [b103_77, if_neg (by rw [hR.1]; omega), b103_86]
        by_cases z : 150 < S.1.length
        · rw [if_pos (by rw [hR.1]; omega)]
        · have t : S.2 = true := by
            cases hh : S.2 with
            | true => rfl
            | false => exact absurd ⟨by omega, hh⟩ y
          rw [if_neg (by rw [hR.1]; omega), b103_96, if_pos (by rw [t]; decide)]
    · rw [dif_neg hi]
      refine ⟨ω, some (vi i), fun o => o, fun d o1 o2 o7' => ?_, chg_rf, hR⟩
      rw [b103_77, if_pos (by rw [hR.1]; omega)]
/-- back from the last -/
theorem og_lt {P : Nat → Prop} {S : PS} (h : WPS P S) : ∀ j, 0 < j → j ≤ 150 → ogN S j < j := by
  intro j h0 _
  unfold ogN
  by_cases y : j < S.1.length
  · rw [List.getD_eq_getElem?_getD, List.getElem?_eq_getElem y, Option.getD_some]
    have := h.2.2.2.1 j y h0
    omega
  · rw [List.getD_eq_getElem?_getD, List.getElem?_eq_none (by omega), Option.getD_none]
    exact h0
theorem og_at {P : Nat → Prop} {S : PS} (h : WPS P S) {j : Nat} (h0 : 0 < j) (y : j < S.1.length) : (S.1[j]'y).2 = (ogN S j : Int) := by
  unfold ogN
  rw [List.getD_eq_getElem?_getD, List.getElem?_eq_getElem y, Option.getD_some]
  have := h.2.2.2.1 j y h0
  omega
theorem s106 {P : Nat → Prop} {S : PS} (hR : RLC σ S) (hW : WPS P S) : ∀ d, Ev X d 106 0 [some (vr 70), none, none] [] SH σ = some (some (vi (dpF (ogN S) 151 (S.1.length - 1) : Nat)), SH, σ) := by
  intro d
  have lp : ∀ (m j a : Nat), j ≤ m → j < S.1.length → a + j ≤ 150 → Ev X d 106 9 [some (vr 70), some (vi j), some (vi a)] [] SH σ = some (some (vi (a + dpF (ogN S) 151 j : Nat)), SH, σ) := by
    intro m
    induction m with
    | zero =>
      intro j a h1 h2 h3
      have : j = 0 := by omega
      subst this
      rw [b106_9, if_neg (by omega), b106_16, if_pos (by omega), b106_40, dpF, if_pos rfl]
      rfl
    | succ m ih =>
      intro j a h1 h2 h3
      have lj := hW.2.1
      by_cases y : j = 0
      · subst y
        rw [b106_9, if_neg (by omega), b106_16, if_pos (by omega), b106_40, dpF, if_pos rfl]
        rfl
      · have lt := og_lt hW j (by omega) (by omega)
        have := ih (ogN S j) (a + 1) (by omega) (by omega) (by omega)
        rw [b106_9, if_neg (by omega), b106_16, if_neg (by omega), b106_20, if_neg (by omega), b106_27 (by omega), Int.toNat_natCast, (hR.2 j h2).2, og_at hW (by omega) h2, xad1 (by omega), this, dpF_st (og_lt hW) (by omega : 0 < j) (by omega)]
        rw [show a + 1 + dpF (ogN S) 151 (ogN S j) = a + (dpF (ogN S) 151 (ogN S j) + 1) by omega]
  have l1 := hW.1
  have l2 := hW.2.1
  have := lp (S.1.length - 1) (S.1.length - 1) 0 (by omega) (by omega) (by omega)
  rw [Nat.zero_add] at this
  rw [b106_0, hR.1, xsub_eq (by omega) (by omega), show ((S.1.length : Nat) : Int) - 1 = ((S.1.length - 1 : Nat) : Int) by omega]
  exact this
theorem dp_0 {O : Nat → Nat} {f : Nat} : dpF O f 0 = 0 := by
  cases f with
  | zero => rfl
  | succ f => rw [dpF, if_pos rfl]
theorem itO_lt {P : Nat → Prop} {S : PS} (hW : WPS P S) : ∀ (s j : Nat), j < S.1.length → s ≤ dpF (ogN S) 151 j → itO (ogN S) s j < S.1.length
  | 0, j, h, _ => h
  | s + 1, j, h, g => by
    have l2 := hW.2.1
    have j0 : 0 < j := by
      refine Nat.pos_of_ne_zero (fun z => ?_)
      rw [z, dp_0] at g
      omega
    have lt := og_lt hW j j0 (by omega)
    rw [dpF_st (og_lt hW) j0 (by omega)] at g
    rw [itO]
    exact itO_lt hW s _ (by omega) (by omega)
theorem s107 {P : Nat → Prop} {S : PS} {sm : Nat} (hR : RLC σ S) (hW : WPS P S) (h7 : σ 70 7 = (dpF (ogN S) 151 (S.1.length - 1) : Nat)) (hs : sm ≤ dpF (ogN S) 151 (S.1.length - 1)) : ∃ h : itO (ogN S) (dpF (ogN S) 151 (S.1.length - 1) - sm) (S.1.length - 1) < S.1.length, ∀ d, Ev X d 107 0 [some (vr 70), some (vi sm), none, none] [] SH σ = some (some (vl ((S.1[itO (ogN S) (dpF (ogN S) 151 (S.1.length - 1) - sm) (S.1.length - 1)]'h).1 : Int)), SH, σ) := by
  have l1 := hW.1
  have l2 := hW.2.1
  have hh := itO_lt hW (dpF (ogN S) 151 (S.1.length - 1) - sm) (S.1.length - 1) (by omega) (by omega)
  refine ⟨hh, fun d => ?_⟩
  have lp : ∀ (s j : Nat), j < S.1.length → dpF (ogN S) 151 j = sm + s → Ev X d 107 12 [some (vr 70), some (vi sm), some (vi j), some (vi ((sm + s : Nat) : Int))] [] SH σ = some (some (vl (σ 93 (itO (ogN S) s j))), SH, σ) := by
    intro s
    induction s with
    | zero =>
      intro j h1 h2
      rw [b107_12, if_pos (by omega), b107_41, if_neg (by omega), b107_45, if_neg (by omega), b107_52 (by omega), Int.toNat_natCast, b107_64]
      rfl
    | succ s ih =>
      intro j h1 h2
      have j0 : 0 < j := by
        refine Nat.pos_of_ne_zero (fun z => ?_)
        rw [z, dp_0] at h2
        omega
      have lt := og_lt hW j j0 (by omega)
      have le := dpF_le (og_lt hW) 151 j (by omega)
      have st := dpF_st (og_lt hW) j0 (by omega : j ≤ 150)
      have := ih (ogN S j) (by omega) (by omega)
      rw [b107_12, if_neg (by omega), b107_17, if_neg (by omega), b107_21, if_neg (by omega), b107_28 (by omega), Int.toNat_natCast, (hR.2 j h1).2, og_at hW j0 h1, xadd_eq (by omega) (by omega), show ((sm + (s + 1) : Nat) : Int) + -1 = ((sm + s : Nat) : Int) by omega, this]
      rfl
  have := lp (dpF (ogN S) 151 (S.1.length - 1) - sm) (S.1.length - 1) (by omega) (by omega)
  rw [(hR.2 _ hh).1, show sm + (dpF (ogN S) 151 (S.1.length - 1) - sm) = dpF (ogN S) 151 (S.1.length - 1) by omega] at this
  rw [b107_0, hR.1, xsub_eq (by omega) (by omega), h7, show ((S.1.length : Nat) : Int) - 1 = ((S.1.length - 1 : Nat) : Int) by omega]
  exact this
end PTHC
