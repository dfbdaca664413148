/-! PATHS, in the model: seekPath, pathLength, step -/
section MPO
variable {X : Nat × (Nat → Int)} {σ μ τ : xM} {n len : Nat} {fg cd : Nat → Int}
/-- a kept row is made lean -/
theorem cp264 {i : Nat} (hn : μ 100 16 = (n : Int)) (hn2 : n ≤ 11) (hi : i ≤ 150) : ∃ τ, (∀ d o1 o2, Ev X d 264 96 [some (vr 100), o1, o2, some (vi i), some (vi 0)] [] SH μ = Ev X d 264 130 [some (vr 100), o1, o2, some (vi i), some (vi n)] [] SH τ) ∧ chs [126] [] μ τ ∧ ∀ c, c < n → τ 126 c = μ 129 (11 * i + c) := by
  have lp : ∀ (m c : Nat) (ω : xM), c + m = n → chs [126] [] μ ω → (∀ j, j < c → ω 126 j = μ 129 (11 * i + j)) → ∃ τ, (∀ d o1 o2, Ev X d 264 96 [some (vr 100), o1, o2, some (vi i), some (vi c)] [] SH ω = Ev X d 264 130 [some (vr 100), o1, o2, some (vi i), some (vi n)] [] SH τ) ∧ chs [126] [] μ τ ∧ ∀ c, c < n → τ 126 c = μ 129 (11 * i + c) := by
    intro m
    induction m with
    | zero =>
      intro c ω h h1 h2
      have : c = n := by omega
      subst this
      refine ⟨ω, fun d o1 o2 => ?_, h1, h2⟩
      rw [b264_96, if_pos (by rw [h1 100 16 rfl]; omega)]
    | succ m ih =>
      intro c ω h h1 h2
      have ix : xadd (xmul 11 (i : Int)) (c : Int) = ((11 * i + c : Nat) : Int) := by
        rw [xmul_eq (by omega) (by omega), xadd_eq (by omega) (by omega)]
        omega
      obtain ⟨τ, p1, p2, p3⟩ := ih (c + 1) (xwr ω 126 c (μ 129 (11 * i + c))) (by omega) (chs_wr rfl h1) (fun j hj => by
        by_cases z : j = c
        · rw [z, xwr_eq]
        · rw [xwr_nj (by omega)]
          exact h2 j (by omega))
      refine ⟨τ, fun d o1 o2 => ?_, p2, p3⟩
      rw [b264_96, if_neg (by rw [h1 100 16 rfl]; omega), b264_105 (by rw [ix]; omega) (by omega), ix, Int.toNat_natCast, Int.toNat_natCast, h1 129 _ rfl, xad1 (by omega)]
      exact p1 d o1 o2
  obtain ⟨τ, p1, p2, p3⟩ := lp n 0 μ (by omega) chs_rf (fun j hj => by omega)
  exact ⟨τ, p1, p2, p3⟩
theorem it264o {aim : Nat} (hW : WF (σ 102)) (hF : FC (σ 102) (σ 3 5) (σ 6) (σ 7) (σ 8)) (hA : CD (σ 102) n fg aim) : ∀ (m i : Nat) (S : PS) (μ : xM), i + m = 151 → MBS n len (σ 102) fg cd μ → RLM (σ 102) fg n μ S → WPS (CD (σ 102) n fg) S → ¬ ful S → (∀ c, c < n → μ 111 c = BW (σ 102) fg c (dig aim c)) → ∃ τ, chg CAr CSr μ τ ∧ ((ful (bfs (nbC (σ 102) n fg 1 1) aim m i S) ∧ ∀ d o1 o2 o4, Ev X (d + 6) 264 78 [some (vr 100), o1, o2, some (vi i), o4] [] SH μ = some (some (vi (-2)), SH, τ)) ∨ (¬ ful (bfs (nbC (σ 102) n fg 1 1) aim m i S) ∧ RLM (σ 102) fg n τ (bfs (nbC (σ 102) n fg 1 1) aim m i S) ∧ ∀ d o1 o2 o4, Ev X (d + 6) 264 78 [some (vr 100), o1, o2, some (vi i), o4] [] SH μ = some (some (vi (if (bfs (nbC (σ 102) n fg 1 1) aim m i S).2 = true then 0 else -1)), SH, τ))) := by
  have fin : ∀ (S : PS) (μ : xM), RLM (σ 102) fg n μ S → WPS (CD (σ 102) n fg) S → ∀ d o1 o2 o3 o4, Ev X (d + 6) 264 233 [some (vr 100), o1, o2, o3, o4] [] SH μ = some (some (vi (if S.2 = true then 0 else -1)), SH, μ) := by
    intro S μ hR hP d o1 o2 o3 o4
    have e57 := hR.2.2
    have := hP.1
    rw [b264_233]
    by_cases y : S.2 = true
    · rw [if_pos y] at e57
      rw [if_pos (by omega), if_pos y, b264_244, b264_245]
    · rw [if_neg y] at e57
      rw [if_neg (by omega), if_neg y, b264_240, b264_245]
  intro m
  induction m with
  | zero =>
    intro i S μ e hM hR hP hnf e111
    refine ⟨μ, chg_rf, Or.inr ⟨hnf, hR, fun d o1 o2 o4 => ?_⟩⟩
    have := hP.2.1
    rw [b264_78, if_pos (by rw [hR.1]; omega)]
    exact fin S μ hR hP d _ _ _ _
  | succ m ih =>
    intro i S μ e hM hR hP hnf e111
    rw [bfs]
    have l2 := hP.2.1
    by_cases hi : i < S.1.length
    · rw [dif_pos hi]
      by_cases y : S.1.length ≤ 150 ∧ S.2 = false
      · rw [if_pos y]
        have cx : CD (σ 102) n fg (S.1[i]'hi).1 := hP.2.2.2.2 _ (List.getElem_mem hi)
        have n16 := hM.1.2.2
        have n11 := hM.1.2.1
        obtain ⟨μ1, a1, a2, a3⟩ := cp264 (X := X) (μ := μ) (n := n) (i := i) n16 n11 (by omega)
        have M1 := MBS_chg hM (chs_g a2) rfl
        obtain ⟨μ2, b1, b2, b3, b4⟩ := bgn_x (X := X) (k := 1) (x := (S.1[i]'hi).1) M1 cx (fun c hc => by
          rw [a3 c hc]
          exact (hR.2.1 i hi).2 c hc)
        have M2 := MBS_chg M1 b2 rfl
        have R2 := RLM_chg (RLM_chg hR (chs_g a2) rfl) b2 rfl
        have c12 : chg CAr CSr μ μ2 := chg_tr (chg_mo (by decide) (chs_g a2)) (chg_mo (by decide) b2)
        obtain ⟨μ3, d1, d2⟩ := it264 (X := X) (σ := σ) (n := n) (fg := fg) (x := (S.1[i]'hi).1) (aim := aim) (i := i) hW hF hA (by omega) _ S μ2 b3 b4 R2 hP hi hnf (fun c hc => by
          rw [chg_at c12 rfl rfl]
          exact e111 c hc)
        have fe : (((enumF (moW (σ 102) fg) n 0 (fun _ => 0)).filter (fitX (σ 102) fg n 1 (S.1[i]'hi).1)).filter (gdB (fun q => truV (symP (syW (σ 102) fg) q) n = 1))).map (fun q => cdN q n) = nbC (σ 102) n fg 1 1 (S.1[i]'hi).1 := by
          rw [nb_eq (so := 1) (v := 1) (Or.inl ⟨rfl, rfl⟩)]
          rfl
        rw [fe] at d2
        have c13 : chg CAr CSr μ μ3 := chg_tr c12 (chg_mo (by decide) d1)
        have st : ∀ d o1 o2 o4, Ev X (d + 6) 264 78 [some (vr 100), o1, o2, some (vi i), o4] [] SH μ = Ev X (d + 6) 264 136 [some (vr 100), o1, o2, some (vi i), some (vi n)] [] SH μ2 := by
          intro d o1 o2 o4
          have e57 := hR.2.2
          rw [if_neg (by rw [y.2]; decide)] at e57
          rw [b264_78, if_neg (by rw [hR.1]; omega), b264_86, if_neg (by omega), b264_93]
          refine Eq.trans (a1 _ _ _) ?_
          refine Eq.trans b264_130 ?_
          refine x_bind (b1 _) ?_
          rfl
        rcases d2 with ⟨u, v⟩ | ⟨u, v1, v2⟩
        · have sp : bfs (nbC (σ 102) n fg 1 1) aim m (i + 1) ((nbC (σ 102) n fg 1 1 (S.1[i]'hi).1).foldl (add1 aim (i : Int)) S) = (nbC (σ 102) n fg 1 1 (S.1[i]'hi).1).foldl (add1 aim (i : Int)) S := by
            cases m with
            | zero => rfl
            | succ m =>
              rw [bfs]
              split
              · rw [if_neg (fun z => by have := u.2; omega)]
              · rfl
          rw [sp]
          exact ⟨μ3, c13, Or.inl ⟨u, fun d o1 o2 o4 => (st d o1 o2 o4).trans (v (d + 1) _ _ _)⟩⟩
        · have W2 := WPS_fold (aim := aim) (i := i) (nbC (σ 102) n fg 1 1 (S.1[i]'hi).1) S hP hi (fun x hx => nbC_CD x hx)
          obtain ⟨τ, p1, p2⟩ := ih (i + 1) _ μ3 (by omega) (MBS_chg M2 d1 rfl) v1 W2 u (fun c hc => by
            rw [chg_at c13 rfl rfl]
            exact e111 c hc)
          have st2 : ∀ d o1 o2 o4, Ev X (d + 6) 264 78 [some (vr 100), o1, o2, some (vi i), o4] [] SH μ = Ev X (d + 6) 264 78 [some (vr 100), o1, xkill o2, some (vi ((i + 1 : Nat) : Int)), some (vi n)] [] SH μ3 := by
            intro d o1 o2 o4
            rw [st, v2 (d + 1), b264_227, xad1 (by omega)]
          refine ⟨τ, chg_tr c13 p1, ?_⟩
          rcases p2 with ⟨u, v⟩ | ⟨u, v1, v2⟩
          · exact Or.inl ⟨u, fun d o1 o2 o4 => (st2 d o1 o2 o4).trans (v d _ _ _)⟩
          · exact Or.inr ⟨u, v1, fun d o1 o2 o4 => (st2 d o1 o2 o4).trans (v2 d _ _ _)⟩
      · rw [if_neg y]
        have t : S.2 = true := by
          cases hh : S.2 with
          | true => rfl
          | false =>
            refine absurd ⟨?_, hh⟩ y
            exact Classical.byContradiction (fun z => hnf ⟨hh, by omega⟩)
        refine ⟨μ, chg_rf, Or.inr ⟨hnf, hR, fun d o1 o2 o4 => ?_⟩⟩
        have e57 := hR.2.2
        rw [if_pos t] at e57
        rw [b264_78, if_neg (by rw [hR.1]; omega), b264_86, if_pos (by omega)]
        exact fin S μ hR hP d _ _ _ _
    · rw [dif_neg hi]
      refine ⟨μ, chg_rf, Or.inr ⟨hnf, hR, fun d o1 o2 o4 => ?_⟩⟩
      rw [b264_78, if_pos (by rw [hR.1]; omega)]
      exact fin S μ hR hP d _ _ _ _
/-- pathLength -/
theorem s268 {w : Nat → Int} {P : Nat → Prop} {S : PS} (hR : RLM w fg n μ S) (hW : WPS P S) (h2 : S.2 = true) : ∀ d, Ev X d 268 0 [some (vr 100), none, none] [] SH μ = some (some (vi (dpF (ogN S) 151 (S.1.length - 1) : Nat)), SH, μ) := by
  intro d
  have lp : ∀ (m j a : Nat), j ≤ m → j < S.1.length → a + j ≤ 150 → Ev X d 268 7 [some (vr 100), some (vi a), some (vi j)] [] SH μ = some (some (vi (a + dpF (ogN S) 151 j : Nat)), SH, μ) := by
    intro m
    induction m with
    | zero =>
      intro j a h1 h2 h3
      have : j = 0 := by omega
      subst this
      rw [b268_7 (by omega), show ((0 : Nat) : Int).toNat = 0 from rfl, (hR.2.1 0 h2).1, hW.2.2.1 h2, if_pos (by decide), b268_29, dp_0]
      rfl
    | succ m ih =>
      intro j a h1 h2 h3
      have lj := hW.2.1
      by_cases y : j = 0
      · subst y
        rw [b268_7 (by omega), show ((0 : Nat) : Int).toNat = 0 from rfl, (hR.2.1 0 h2).1, hW.2.2.1 h2, if_pos (by decide), b268_29, dp_0]
        rfl
      · have lt := og_lt hW j (by omega) (by omega)
        have := ih (ogN S j) (a + 1) (by omega) (by omega) (by omega)
        rw [b268_7 (by omega), Int.toNat_natCast, (hR.2.1 j h2).1, og_at hW (by omega) h2, if_neg (by omega), b268_16 (by omega), Int.toNat_natCast, (hR.2.1 j h2).1, og_at hW (by omega) h2, xad1 (by omega), this, dpF_st (og_lt hW) (by omega : 0 < j) (by omega)]
        rw [show a + 1 + dpF (ogN S) 151 (ogN S j) = a + (dpF (ogN S) 151 (ogN S j) + 1) by omega]
  have l1 := hW.1
  have l2 := hW.2.1
  have := lp (S.1.length - 1) (S.1.length - 1) 0 (by omega) (by omega) (by omega)
  rw [Nat.zero_add] at this
  have e57 := hR.2.2
  rw [if_pos h2] at e57
  rw [b268_0, e57, show ((S.1.length : Nat) : Int) - 1 = ((S.1.length - 1 : Nat) : Int) by omega]
  exact this
/-- up the path -/
theorem s269l {w : Nat → Int} {P : Nat → Prop} {S : PS} {c s : Nat} (hR : RLM w fg n μ S) (hW : WPS P S) (hc : c < n) (hn : n ≤ 11) (h107 : μ 107 = fg) (h102 : μ 102 = w) (hf : fg c = 0 ∨ fg c = 1) (hs : s ≤ dpF (ogN S) 151 (S.1.length - 1)) (h2 : S.2 = true) : ∃ h : itO (ogN S) s (S.1.length - 1) < S.1.length, ∀ d o1 o4 o5, Ev X (d + 2) 269 34 [some (vr 100), o1, some (vi c), some (vi s), o4, o5] [] SH μ = some (some (vi (rdB w (fg c) (BW w fg c (dig (S.1[itO (ogN S) s (S.1.length - 1)]'h).1 c)))), SH, μ) := by
  have l1 := hW.1
  have l2 := hW.2.1
  have hh := itO_lt hW s (S.1.length - 1) (by omega) hs
  refine ⟨hh, fun d o1 o4 o5 => ?_⟩
  have lp : ∀ (m t j : Nat), t + m = s → j < S.1.length → m ≤ dpF (ogN S) 151 j → itO (ogN S) m j = itO (ogN S) s (S.1.length - 1) → Ev X (d + 2) 269 43 [some (vr 100), o1, some (vi c), some (vi s), some (vi j), some (vi t)] [] SH μ = some (some (vi (rdB w (fg c) (BW w fg c (dig (S.1[itO (ogN S) s (S.1.length - 1)]'hh).1 c)))), SH, μ) := by
    intro m
    induction m with
    | zero =>
      intro t j h1 h2 h3 h4
      have ix : xadd (xmul 11 (j : Int)) (c : Int) = ((11 * j + c : Nat) : Int) := by
        rw [xmul_eq (by omega) (by omega), xadd_eq (by omega) (by omega)]
        omega
      have h4' : j = itO (ogN S) s (S.1.length - 1) := h4
      have r : μ 129 (11 * j + c) = BW w fg c (dig (S.1[itO (ogN S) s (S.1.length - 1)]'hh).1 c) := by
        rw [h4']
        exact (hR.2.1 _ hh).2 c hc
      rw [b269_43, if_pos (by omega)]
      refine Eq.trans (b269_64 (by omega) (by rw [ix]; omega)) ?_
      rw [ix, Int.toNat_natCast, Int.toNat_natCast, h107, r]
      refine x_bind (s222 (d := d) hf) ?_
      rw [h102]
      dsimp only
      exact b269_86
    | succ m ih =>
      intro t j h1 h2 h3 h4
      have j0 : 0 < j := by
        refine Nat.pos_of_ne_zero (fun z => ?_)
        rw [z, dp_0] at h3
        omega
      have lt := og_lt hW j j0 (by omega)
      have st := dpF_st (og_lt hW) j0 (by omega : j ≤ 150)
      have le := dpF_le (og_lt hW) 151 (S.1.length - 1) (by omega)
      rw [b269_43, if_neg (by omega), b269_49 (by omega), Int.toNat_natCast, (hR.2.1 j h2).1, og_at hW j0 h2, xad1 (by omega)]
      exact ih (t + 1) (ogN S j) (by omega) (by omega) (by omega) h4
  have e57 := hR.2.2
  rw [if_pos h2] at e57
  rw [b269_34, e57, show ((S.1.length : Nat) : Int) - 1 = ((S.1.length - 1 : Nat) : Int) by omega]
  exact lp s 0 _ (by omega) (by omega) hs rfl
end MPO
