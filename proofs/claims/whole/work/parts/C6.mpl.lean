/-! PATHS, in the model: seekPath's loops -/
def RLM (w fg : Nat → Int) (n : Nat) (μ : xM) (S : PS) : Prop := μ 100 56 = (S.1.length : Int) ∧ (∀ (j : Nat) (h : j < S.1.length), μ 130 j = (S.1[j]'h).2 ∧ ∀ c, c < n → μ 129 (11 * j + c) = BW w fg c (dig (S.1[j]'h).1 c)) ∧ μ 100 57 = if S.2 = true then (S.1.length : Int) - 1 else -1
def CAq : List Nat := [113, 114, 115, 124, 125, 127, 128, 129, 130]
def CSq : List (Nat × Nat) := [(100, 47), (100, 56), (100, 57)]
def CAr : List Nat := [113, 114, 115, 124, 125, 126, 127, 128, 129, 130]
def CSr : List (Nat × Nat) := [(100, 47), (100, 48), (100, 49), (100, 56), (100, 57)]
/-- too many, and none of them the goal -/
def ful (S : PS) : Prop := S.2 = false ∧ 150 < S.1.length
section MPL
variable {X : Nat × (Nat → Int)} {σ μ τ : xM} {n len : Nat} {fg cd : Nat → Int}
theorem RLM_chg {CA : List Nat} {CS : List (Nat × Nat)} {w : Nat → Int} {S : PS} (h : RLM w fg n μ S) (c : chg CA CS μ τ) (o : okc CA CS [129, 130] [(100, 56), (100, 57)] = true) : RLM w fg n τ S := by
  have e := eqp_ok o c
  obtain ⟨h1, h2, h3⟩ := h
  exact ⟨(e 100 56 rfl).trans h1, fun j hj => ⟨(e 130 j rfl).trans (h2 j hj).1, fun q hq => (e 129 _ rfl).trans ((h2 j hj).2 q hq)⟩, (e 100 57 rfl).trans h3⟩
/-- one row, told by its code, against a kept one -/
theorem s266 {k2 j x y : Nat} (hW : WF (σ 102)) (hF : FC (σ 102) (σ 3 5) (σ 6) (σ 7) (σ 8)) (hf : ∀ c, c < n → fg c = 0 ∨ fg c = 1) (ha : isArr k2) (hn : μ 100 16 = (n : Int)) (hn2 : n ≤ 11) (hj : j ≤ 150) (cx : CD (σ 102) n fg x) (cy : CD (σ 102) n fg y) (ex : ∀ c, c < n → μ 129 (11 * j + c) = BW (σ 102) fg c (dig x c)) (ey : ∀ c, c < n → μ k2 c = BW (σ 102) fg c (dig y c)) : ∀ d, Ev X d 266 0 [some (vr 100), some (vi j), some (vr k2), none] [] SH μ = some (some (vi (bI (decide (x = y)))), SH, μ) := by
  intro d
  by_cases z : x = y
  · rw [decide_eq_true z]
    exact s266y ha hn hn2 hj (fun c hc => by rw [ex c hc, ey c hc, z]) d
  · rw [decide_eq_false z]
    exact s266n ha hn hn2 hj (fun e => z (cd_uq (bs := fun _ => 0) hW hF hf cx cy (fun c hc => by rw [← ex c hc, ← ey c hc]; exact e c hc))) d
/-- isFound -/
theorem s267 {y : Nat} {S : PS} (hW : WF (σ 102)) (hF : FC (σ 102) (σ 3 5) (σ 6) (σ 7) (σ 8)) (hf : ∀ c, c < n → fg c = 0 ∨ fg c = 1) (hn : μ 100 16 = (n : Int)) (hn2 : n ≤ 11) (hS : WPS (CD (σ 102) n fg) S) (hR : RLM (σ 102) fg n μ S) (cy : CD (σ 102) n fg y) (ey : ∀ c, c < n → μ 125 c = BW (σ 102) fg c (dig y c)) : ∀ d, Ev X (d + 1) 267 0 [some (vr 100), some (vr 125), none] [] SH μ = some (some (vi (bI (decide (y ∈ S.1.map Prod.fst)))), SH, μ) := by
  intro d
  have l2 := hS.2.1
  have lp : ∀ (m j : Nat), j + m = S.1.length → (∀ (i : Nat) (h : i < S.1.length), i < j → (S.1[i]'h).1 ≠ y) → Ev X (d + 1) 267 2 [some (vr 100), some (vr 125), some (vi j)] [] SH μ = some (some (vi (bI (decide (y ∈ S.1.map Prod.fst)))), SH, μ) := by
    intro m
    induction m with
    | zero =>
      intro j e hno
      have ni : y ∉ S.1.map Prod.fst := by
        intro hy
        obtain ⟨e, he, h1⟩ := List.mem_map.mp hy
        obtain ⟨j, hj, h3⟩ := List.getElem_of_mem he
        exact hno j hj (by omega) (by rw [h3]; exact h1)
      rw [b267_2, if_pos (by rw [hR.1]; omega), b267_27, decide_eq_false ni]
      rfl
    | succ m ih =>
      intro j e hno
      have hj : j < S.1.length := by omega
      rw [b267_2, if_neg (by rw [hR.1]; omega)]
      refine Eq.trans b267_10 ?_
      refine x_bind (s266 (k2 := 125) (x := (S.1[j]'hj).1) (y := y) hW hF hf rfl hn hn2 (by omega) (hS.2.2.2.2 _ (List.getElem_mem hj)) cy (hR.2.1 j hj).2 ey d) ?_
      dsimp only
      refine Eq.trans (b267_16 (t0 := bI (decide ((S.1[j]'hj).1 = y)))) ?_
      by_cases z : (S.1[j]'hj).1 = y
      · have yi : y ∈ S.1.map Prod.fst := List.mem_map.mpr ⟨_, List.getElem_mem hj, z⟩
        rw [decide_eq_true z, if_neg (by decide), b267_19, decide_eq_true yi]
        rfl
      · rw [decide_eq_false z, if_pos (by decide), b267_21, xad1 (by omega)]
        exact ih (j + 1) (by omega) (fun i h hi => by
          by_cases v : i = j
          · subst v
            exact z
          · exact hno i h (by omega))
  rw [b267_0]
  exact lp S.1.length 0 (by omega) (fun i h hi => by omega)
/-- the rows of one walk -/
theorem it264 {x aim i : Nat} (hW : WF (σ 102)) (hF : FC (σ 102) (σ 3 5) (σ 6) (σ 7) (σ 8)) (hA : CD (σ 102) n fg aim) (hi2 : i ≤ 150) : ∀ (Q : List (Nat → Nat)) (S : PS) (μ : xM), SCN n (moW (σ 102) fg) (ctW (σ 102) fg (bX (σ 102) fg x)) (clW (σ 102) fg (bX (σ 102) fg x)) (BW (σ 102) fg) ((1 : Nat) : Int) ((1 : Nat) : Int) fg (σ 102) (syW (σ 102) fg) cd len μ → ADVB X n (moW (σ 102) fg) (ctW (σ 102) fg (bX (σ 102) fg x)) (clW (σ 102) fg (bX (σ 102) fg x)) (BW (σ 102) fg) (fitX (σ 102) fg n 1 x) Q μ → RLM (σ 102) fg n μ S → WPS (CD (σ 102) n fg) S → i < S.1.length → ¬ ful S → (∀ c, c < n → μ 111 c = BW (σ 102) fg c (dig aim c)) → ∃ τ, chg CAq CSq μ τ ∧ ((ful (((Q.filter (gdB (fun q => truV (symP (syW (σ 102) fg) q) n = 1))).map (fun q => cdN q n)).foldl (add1 aim (i : Int)) S) ∧ ∀ d o1 o2 o4, Ev X (d + 5) 264 136 [some (vr 100), o1, o2, some (vi i), o4] [] SH μ = some (some (vi (-2)), SH, τ)) ∨ (¬ ful (((Q.filter (gdB (fun q => truV (symP (syW (σ 102) fg) q) n = 1))).map (fun q => cdN q n)).foldl (add1 aim (i : Int)) S) ∧ RLM (σ 102) fg n τ (((Q.filter (gdB (fun q => truV (symP (syW (σ 102) fg) q) n = 1))).map (fun q => cdN q n)).foldl (add1 aim (i : Int)) S) ∧ ∀ d o1 o2 o4, Ev X (d + 5) 264 136 [some (vr 100), o1, o2, some (vi i), o4] [] SH μ = Ev X (d + 5) 264 227 [some (vr 100), o1, o2, some (vi i), o4] [] SH τ)) := by
  intro Q
  induction Q with
  | nil =>
    intro S μ hS hQ hR hP hi hnf e111
    by_cases y : S.2 = true
    · refine ⟨μ, chg_rf, Or.inr ⟨hnf, hR, fun d o1 o2 o4 => ?_⟩⟩
      have := hR.2.2
      rw [if_pos y] at this
      rw [b264_136, if_pos (by have := hP.1; omega)]
    · obtain ⟨μ1, a1, a2⟩ := hQ.1 rfl
      refine ⟨μ1, chg_mo (by decide) (chsA_g a2), Or.inr ⟨hnf, RLM_chg hR (chsA_g a2) rfl, fun d o1 o2 o4 => ?_⟩⟩
      have := hR.2.2
      rw [if_neg y] at this
      rw [b264_136, if_neg (by omega)]
      refine Eq.trans b264_143 ?_
      refine x_bind (a1 _ _ _ _) ?_
      dsimp only
      refine Eq.trans b264_147 ?_
      rw [if_pos rfl]
  | cons q Q ih =>
    intro S μ hS hQ hR hP hi hnf e111
    by_cases y : S.2 = true
    · rw [fold_s (Or.inl y)]
      refine ⟨μ, chg_rf, Or.inr ⟨hnf, hR, fun d o1 o2 o4 => ?_⟩⟩
      have := hR.2.2
      rw [if_pos y] at this
      rw [b264_136, if_pos (by have := hP.1; omega)]
    · have y2 : S.2 = false := by
        cases hh : S.2 with
        | false => rfl
        | true => exact absurd hh y
      have hl : S.1.length ≤ 150 := Classical.byContradiction (fun z => hnf ⟨y2, by omega⟩)
      have e57 := hR.2.2
      rw [if_neg y] at e57
      obtain ⟨μ1, nx1, a1, a2, a3, a4⟩ := hQ.2 q Q rfl
      have S1 := SCN_chg hS (chsA_g a2) rfl
      have hf := S1.2.2.2.2.1
      have n16 := S1.1.1
      have n11 := S1.1.2.1
      obtain ⟨μ2, b1, b2⟩ := s249 (X := X) (μ := μ1) (n := n) (k1 := 125) rfl (by decide) n16 n11 (by rw [S1.2.2.1]; exact hf)
      rw [truV_cs (row_tr S1 a3)] at b1
      have S2 := SCN_chg S1 b2 rfl
      have D2 := DNE_chg a3 b2 rfl
      have A2 := ADVB_dn (X := X) S2 (G := fitX (σ 102) fg n 1 x) (fun q => gdB_iff) D2 a4
      have cc : chg CAq CSq μ μ2 := chg_tr (chg_mo (by decide) (chsA_g a2)) (chg_mo (by decide) b2)
      have R2 := RLM_chg (RLM_chg hR (chsA_g a2) rfl) b2 rfl
      have e111' : ∀ c, c < n → μ2 111 c = BW (σ 102) fg c (dig aim c) := fun c hc => by
        rw [chg_at cc rfl rfl]
        exact e111 c hc
      have st : ∀ d o1 o2 o4, Ev X (d + 5) 264 136 [some (vr 100), o1, o2, some (vi i), o4] [] SH μ = Ev X (d + 5) 264 158 [some (vr 100), o1, o2, some (vi i), o4] [vi (tV1 (truV (symP (syW (σ 102) fg) q) n))] SH μ2 := by
        intro d o1 o2 o4
        rw [b264_136, if_neg (by omega)]
        refine Eq.trans b264_143 ?_
        refine x_bind (a1 _ _ _ _) ?_
        dsimp only
        refine Eq.trans b264_147 ?_
        rw [if_neg (by decide)]
        refine Eq.trans b264_150 ?_
        refine x_bind (b1 (d + 1)) ?_
        rfl
      by_cases t : truV (symP (syW (σ 102) fg) q) n = 1
      · have qm : ∀ c, c < n → q c < 32 := fun c hc => by have := mo_32 (a3.2.2.1 c hc); omega
        have cy : CD (σ 102) n fg (cdN q n) := ⟨cdN_lt n qm, fun c hc => by rw [dig_cd hc qm]; exact a3.2.2.1 c hc⟩
        have e125 : ∀ c, c < n → μ2 125 c = BW (σ 102) fg c (dig (cdN q n) c) := fun c hc => by
          rw [dig_cd hc qm]
          exact D2.2.1 c hc
        have fd := s267 (X := X) (σ := σ) (μ := μ2) (n := n) (fg := fg) (y := cdN q n) (S := S) hW hF hf S2.1.1 n11 hP R2 cy e125
        rw [List.filter_cons_of_pos (gdB_iff.mpr t), List.map_cons, List.foldl_cons]
        have st2 : ∀ d o1 o2 o4, Ev X (d + 5) 264 136 [some (vr 100), o1, o2, some (vi i), o4] [] SH μ = Ev X (d + 5) 264 169 [some (vr 100), o1, o2, some (vi i), o4] [vi (bI (decide (cdN q n ∈ S.1.map Prod.fst)))] SH μ2 := by
          intro d o1 o2 o4
          rw [st, t]
          refine Eq.trans b264_158 ?_
          rw [if_neg (by decide)]
          refine Eq.trans b264_161 ?_
          refine x_bind (fd (d + 3)) ?_
          rfl
        by_cases f : cdN q n ∈ S.1.map Prod.fst
        · have ad : add1 aim (i : Int) S (cdN q n) = S := by
            unfold add1
            rw [if_pos (Or.inr (Or.inr f))]
          rw [ad]
          obtain ⟨τ, p1, p2⟩ := ih S μ2 S2 A2 R2 hP hi hnf e111'
          have st3 : ∀ d o1 o2 o4, Ev X (d + 5) 264 136 [some (vr 100), o1, o2, some (vi i), o4] [] SH μ = Ev X (d + 5) 264 136 [some (vr 100), o1, o2, some (vi i), o4] [] SH μ2 := by
            intro d o1 o2 o4
            rw [st2, b264_169, decide_eq_true f, if_neg (by decide), b264_172]
          refine ⟨τ, chg_tr cc p1, ?_⟩
          rcases p2 with ⟨u, v⟩ | ⟨u, v1, v2⟩
          · exact Or.inl ⟨u, fun d o1 o2 o4 => (st3 d o1 o2 o4).trans (v d o1 o2 o4)⟩
          · exact Or.inr ⟨u, v1, fun d o1 o2 o4 => (st3 d o1 o2 o4).trans (v2 d o1 o2 o4)⟩
        · have ad : add1 aim (i : Int) S (cdN q n) = (S.1 ++ [(cdN q n, (i : Int))], decide (cdN q n = aim)) := by
            unfold add1
            rw [if_neg]
            rintro (z | z | z)
            · exact y z
            · omega
            · exact f z
          obtain ⟨μ3, g1, g2, g3, g4, g5, g6, g7⟩ := s265 (X := X) (μ := μ2) (n := n) (k1 := 125) (L := S.1.length) (o := (i : Int)) rfl (by decide) S2.1.1 n11 hl R2.1
          have c3 : chg CAq CSq μ2 μ3 := chg_mo (by decide) (chs_g g2)
          have S3 := SCN_chg S2 c3 rfl
          have n3 : ∀ c, c < n → μ3 129 (11 * S.1.length + c) = BW (σ 102) fg c (dig (cdN q n) c) := fun c hc => by rw [g6 c hc, e125 c hc]
          have as := s266 (X := X) (σ := σ) (μ := μ3) (n := n) (fg := fg) (k2 := 111) (j := S.1.length) (x := cdN q n) (y := aim) hW hF hf rfl S3.1.1 n11 hl cy hA n3 (fun c hc => by
            rw [g2 111 c rfl]
            exact e111' c hc)
          have WA := WPS_add (aim := aim) (i := i) (x := cdN q n) hP hi cy
          have li : i < (add1 aim (i : Int) S (cdN q n)).1.length := Nat.lt_of_lt_of_le hi add1_len
          have rows : ∀ (j : Nat) (h : j < (S.1 ++ [(cdN q n, (i : Int))]).length), μ3 130 j = ((S.1 ++ [(cdN q n, (i : Int))])[j]'h).2 ∧ ∀ c, c < n → μ3 129 (11 * j + c) = BW (σ 102) fg c (dig ((S.1 ++ [(cdN q n, (i : Int))])[j]'h).1 c) := by
            intro j hj
            by_cases z : j < S.1.length
            · rw [List.getElem_append_left z]
              refine ⟨(g5 j (by omega)).trans (R2.2.1 j z).1, fun c hc => ?_⟩
              rw [g7 _ (by omega)]
              exact (R2.2.1 j z).2 c hc
            · have : j = S.1.length := by
                rw [List.length_append, List.length_singleton] at hj
                omega
              subst this
              rw [List.getElem_append_right (Nat.le_refl _)]
              refine ⟨by rw [g4]; simp, fun c hc => ?_⟩
              rw [n3 c hc]
              simp
          have e573 : μ3 100 57 = -1 := by
            rw [g2 100 57 rfl, chg_at b2 rfl rfl, a2 100 57 rfl]
            exact e57
          have st3 : ∀ d o1 o2 o4, Ev X (d + 5) 264 136 [some (vr 100), o1, o2, some (vi i), o4] [] SH μ = Ev X (d + 5) 264 198 [some (vr 100), o1, o2, some (vi i), o4] [vi (bI (decide (cdN q n = aim)))] SH μ3 := by
            intro d o1 o2 o4
            rw [st2, b264_169, decide_eq_false f, if_pos (by decide)]
            refine Eq.trans b264_175 ?_
            refine x_bind (g1 _) ?_
            dsimp only
            refine Eq.trans b264_184 ?_
            rw [g3, xsub_eq (by omega) (by omega), show ((S.1.length + 1 : Nat) : Int) - 1 = ((S.1.length : Nat) : Int) by omega]
            refine x_bind (as _) ?_
            rfl
          by_cases v : cdN q n = aim
          · generalize hμ4 : xwr μ3 100 57 (S.1.length : Int) = μ4
            have c4 : chg CAq CSq μ3 μ4 := by
              rw [← hμ4]
              exact chg_wr rfl chg_rf
            have S4 := SCN_chg S3 c4 rfl
            have A4 := ADVB_dn (X := X) S4 (G := fitX (σ 102) fg n 1 x) (fun q => gdB_iff) (DNE_chg (DNE_chg D2 (chs_g g2) rfl) (CA := []) (CS := [(100, 57)]) (by rw [← hμ4]; exact chg_wr rfl chg_rf) rfl) a4
            have R4 : RLM (σ 102) fg n μ4 (add1 aim (i : Int) S (cdN q n)) := by
              rw [ad, decide_eq_true v]
              refine ⟨?_, fun j hj => ?_, ?_⟩
              · rw [← hμ4, xwr_nj (by decide), g3]
                simp
              · have := rows j hj
                rw [← hμ4]
                refine ⟨by rw [xwr_nk (by decide)]; exact this.1, fun c hc => by rw [xwr_nk (by decide)]; exact this.2 c hc⟩
              · rw [if_pos rfl, ← hμ4, xwr_eq]
                simp
            have nf : ¬ ful (add1 aim (i : Int) S (cdN q n)) := by
              intro z
              rw [ad, decide_eq_true v] at z
              exact Bool.noConfusion z.1
            obtain ⟨τ, p1, p2⟩ := ih _ μ4 S4 A4 R4 WA li nf (fun c hc => by
              rw [chg_at c4 rfl rfl, chg_at c3 rfl rfl]
              exact e111' c hc)
            have st4 : ∀ d o1 o2 o4, Ev X (d + 5) 264 136 [some (vr 100), o1, o2, some (vi i), o4] [] SH μ = Ev X (d + 5) 264 136 [some (vr 100), o1, o2, some (vi i), o4] [] SH μ4 := by
              intro d o1 o2 o4
              rw [st3, b264_198, decide_eq_true v, if_neg (by decide), b264_201, g3, xsub_eq (by omega) (by omega), show ((S.1.length + 1 : Nat) : Int) - 1 = ((S.1.length : Nat) : Int) by omega, hμ4]
            refine ⟨τ, chg_tr cc (chg_tr c3 (chg_tr c4 p1)), ?_⟩
            rcases p2 with ⟨u, v⟩ | ⟨u, v1, v2⟩
            · exact Or.inl ⟨u, fun d o1 o2 o4 => (st4 d o1 o2 o4).trans (v d o1 o2 o4)⟩
            · exact Or.inr ⟨u, v1, fun d o1 o2 o4 => (st4 d o1 o2 o4).trans (v2 d o1 o2 o4)⟩
          · have R3 : RLM (σ 102) fg n μ3 (add1 aim (i : Int) S (cdN q n)) := by
              rw [ad, decide_eq_false v]
              refine ⟨?_, rows, ?_⟩
              · rw [g3]
                simp
              · rw [if_neg (fun z => Bool.noConfusion z)]
                exact e573
            have lS : (add1 aim (i : Int) S (cdN q n)).1.length = S.1.length + 1 := by
              rw [ad]
              simp
            have sS : (add1 aim (i : Int) S (cdN q n)).2 = false := by
              rw [ad]
              exact decide_eq_false v
            by_cases full : S.1.length = 150
            · have st' : stp (add1 aim (i : Int) S (cdN q n)) := Or.inr (by omega)
              rw [fold_s st']
              refine ⟨μ3, chg_tr cc c3, Or.inl ⟨⟨sS, by omega⟩, fun d o1 o2 o4 => ?_⟩⟩
              rw [st3, b264_198, decide_eq_false v, if_pos (by decide), b264_214, if_neg (by rw [g3]; omega), b264_224]
            · have A3 := ADVB_dn (X := X) S3 (G := fitX (σ 102) fg n 1 x) (fun q => gdB_iff) (DNE_chg D2 (chs_g g2) rfl) a4
              obtain ⟨τ, p1, p2⟩ := ih _ μ3 S3 A3 R3 WA li (fun z => by have := z.2; omega) (fun c hc => by
                rw [chg_at c3 rfl rfl]
                exact e111' c hc)
              have st4 : ∀ d o1 o2 o4, Ev X (d + 5) 264 136 [some (vr 100), o1, o2, some (vi i), o4] [] SH μ = Ev X (d + 5) 264 136 [some (vr 100), o1, o2, some (vi i), o4] [] SH μ3 := by
                intro d o1 o2 o4
                rw [st3, b264_198, decide_eq_false v, if_pos (by decide), b264_214, if_pos (by rw [g3]; omega)]
              refine ⟨τ, chg_tr cc (chg_tr c3 p1), ?_⟩
              rcases p2 with ⟨u, v⟩ | ⟨u, v1, v2⟩
              · exact Or.inl ⟨u, fun d o1 o2 o4 => (st4 d o1 o2 o4).trans (v d o1 o2 o4)⟩
              · exact Or.inr ⟨u, v1, fun d o1 o2 o4 => (st4 d o1 o2 o4).trans (v2 d o1 o2 o4)⟩
      · rw [List.filter_cons_of_neg (fun z => t (gdB_iff.mp z))]
        obtain ⟨τ, p1, p2⟩ := ih S μ2 S2 A2 R2 hP hi hnf e111'
        have st3 : ∀ d o1 o2 o4, Ev X (d + 5) 264 136 [some (vr 100), o1, o2, some (vi i), o4] [] SH μ = Ev X (d + 5) 264 136 [some (vr 100), o1, o2, some (vi i), o4] [] SH μ2 := by
          intro d o1 o2 o4
          rw [st, b264_158, show tV1 (truV (symP (syW (σ 102) fg) q) n) = 0 from if_neg t, if_pos rfl]
        refine ⟨τ, chg_tr cc p1, ?_⟩
        rcases p2 with ⟨u, v⟩ | ⟨u, v1, v2⟩
        · exact Or.inl ⟨u, fun d o1 o2 o4 => (st3 d o1 o2 o4).trans (v d o1 o2 o4)⟩
        · exact Or.inr ⟨u, v1, fun d o1 o2 o4 => (st3 d o1 o2 o4).trans (v2 d o1 o2 o4)⟩
end MPL
