/-! PUZZLES, in the model; the pair puzzle -/
def RLZ (w fg : Nat → Int) (n : Nat) (μ : xM) (L : List Nat) : Prop := ∀ (j : Nat) (h : j < L.length), ∀ c, c < n → μ 131 (11 * j + c) = BW w fg c (dig (L[j]'h) c)
def CAu : List Nat := [113, 114, 115, 124, 125, 127, 128, 131]
def CSu : List (Nat × Nat) := [(100, 47)]
def CAv : List Nat := [113, 114, 115, 124, 125, 126, 127, 128]
def CSv : List (Nat × Nat) := [(100, 47), (100, 48), (100, 49)]
section PZM
variable {X : Nat × (Nat → Int)} {σ μ τ : xM} {n len k x : Nat} {w fg cd : Nat → Int}
/-- a found row is kept -/
theorem cp270 {a : Nat} (hn : μ 100 16 = (n : Int)) (hn2 : n ≤ 11) (ha : a < 200) : ∃ τ, (∀ d o1 o2 o3 o4 o7, ∃ o6 : Option xV, Ev X d 270 97 [some (vr 100), some (vi o1), some (vi o2), o3, o4, some (vi a), some (vi 0), o7] [] SH μ = Ev X d 270 132 [some (vr 100), some (vi o1), some (vi o2), o3, o4, some (vi a), o6, o7] [] SH τ) ∧ chs [131] [] μ τ ∧ (∀ c, c < n → τ 131 (11 * a + c) = μ 125 c) ∧ ∀ i, i < 11 * a → τ 131 i = μ 131 i := by
  have lp : ∀ (m c : Nat) (ω : xM), c + m = n → chs [131] [] μ ω → (∀ i, i < c → ω 131 (11 * a + i) = μ 125 i) → (∀ i, i < 11 * a → ω 131 i = μ 131 i) → ∃ τ, (∀ d o1 o2 o3 o4 o7, ∃ o6 : Option xV, Ev X d 270 97 [some (vr 100), some (vi o1), some (vi o2), o3, o4, some (vi a), some (vi c), o7] [] SH ω = Ev X d 270 132 [some (vr 100), some (vi o1), some (vi o2), o3, o4, some (vi a), o6, o7] [] SH τ) ∧ chs [131] [] μ τ ∧ (∀ c, c < n → τ 131 (11 * a + c) = μ 125 c) ∧ ∀ i, i < 11 * a → τ 131 i = μ 131 i := by
    intro m
    induction m with
    | zero =>
      intro c ω h h1 h2 h3
      have : c = n := by omega
      subst this
      refine ⟨ω, fun d o1 o2 o3 o4 o7 => ⟨some (vi c), ?_⟩, h1, h2, h3⟩
      rw [b270_97, if_pos (by rw [h1 100 16 rfl]; omega)]
    | succ m ih =>
      intro c ω h h1 h2 h3
      have ix : xadd (xmul 11 (a : Int)) (c : Int) = ((11 * a + c : Nat) : Int) := by
        rw [xmul_eq (by omega) (by omega), xadd_eq (by omega) (by omega)]
        omega
      obtain ⟨τ, p1, p2, p3, p4⟩ := ih (c + 1) (xwr ω 131 (11 * a + c) (μ 125 c)) (by omega) (chs_wr rfl h1) (fun i hi => by
        by_cases z : i = c
        · rw [z, xwr_eq]
        · rw [xwr_nj (by omega)]
          exact h2 i (by omega)) (fun i hi => by
        rw [xwr_nj (by omega)]
        exact h3 i hi)
      refine ⟨τ, fun d o1 o2 o3 o4 o7 => ?_, p2, p3, p4⟩
      obtain ⟨o6, e⟩ := p1 d o1 o2 o3 o4 o7
      refine ⟨o6, ?_⟩
      rw [b270_97, if_neg (by rw [h1 100 16 rfl]; omega), b270_106 (by omega) (by rw [ix]; omega), ix, Int.toNat_natCast, Int.toNat_natCast, h1 125 c rfl, xad1 (by omega)]
      exact e
  exact lp n 0 μ (by omega) chs_rf (fun i hi => by omega) (fun _ _ => rfl)
/-- isSum, then isTrueSum -/
theorem s224t (hn : μ 100 16 = (n : Int)) (hn2 : n ≤ 11) (hf : ∀ c, c < n → μ 107 c = 0 ∨ μ 107 c = 1) {cs : Nat → Int} (hcs : ∀ c, c < n → chM μ 125 c = cs c) : ∃ τ, chg [113, 114, 115] [] μ τ ∧ ((truV cs n = -1 ∧ ∀ d, Ev X (d + 2) 224 0 [some (vr 100), some (vr 125), none] [] SH μ = some (some (vi 0), SH, τ)) ∨ ((truV cs n = 0 ∨ truV cs n = 1) ∧ (∀ d, Ev X (d + 2) 224 0 [some (vr 100), some (vr 125), none] [] SH μ = some (some (vi 1), SH, τ)) ∧ f226 τ = truV cs n)) := by
  rw [← truV_cs hcs]
  by_cases ok : okW (chM μ 125) n
  · obtain ⟨τ, t1, t2, t3, t4, t5, t6, t7⟩ := s224Y (X := X) (σ := μ) (k1 := 125) rfl (by decide) hn hn2 hf ok
    have e := f226_I t3 t4 t5 t6 t7
    refine ⟨τ, t2, Or.inr ⟨?_, t1, ?_⟩⟩
    · rw [truV_y ok]
      unfold trI
      split <;> omega
    · rw [truV_y ok]
      exact e
  · obtain ⟨τ, t1, t2⟩ := s224N (X := X) (σ := μ) (k1 := 125) rfl (by decide) hn hn2 hf ok
    exact ⟨τ, t2, Or.inl ⟨truV_n ok, t1⟩⟩
theorem RLZ_chg {CA : List Nat} {CS : List (Nat × Nat)} {L : List Nat} (h : RLZ w fg n μ L) (c : chg CA CS μ τ) (o : okc CA CS [131] [] = true) : RLZ w fg n τ L := by
  have e := eqp_ok o c
  exact fun j hj q hq => (e 131 _ rfl).trans (h j hj q hq)
/-- false sums are gathered -/
theorem it270a {a2 : Int} : ∀ (Q : List (Nat → Nat)) (L : List Nat) (μ : xM), SCN n (moW w fg) (ctW w fg (bX w fg x)) (clW w fg (bX w fg x)) (BW w fg) (k : Int) (k : Int) fg w (syW w fg) cd len μ → ADVB X n (moW w fg) (ctW w fg (bX w fg x)) (clW w fg (bX w fg x)) (BW w fg) (fitX w fg n k x) Q μ → RLZ w fg n μ L → L.length ≤ 200 → ∃ τ, chg CAu CSu μ τ ∧ RLZ w fg n τ ((L ++ (Q.filter (gdB (fun q => truV (symP (syW w fg) q) n = 0))).map (fun q => cdN q n)).take 200) ∧ ∀ d o3 o4 o6 o7, ∃ o4' o6', Ev X (d + 5) 270 58 [some (vr 100), some (vi k), some (vi a2), o3, o4, some (vi L.length), o6, o7] [] SH μ = Ev X (d + 5) 270 138 [some (vr 100), some (vi k), some (vi a2), o3, o4', some (vi ((L ++ (Q.filter (gdB (fun q => truV (symP (syW w fg) q) n = 0))).map (fun q => cdN q n)).take 200).length), o6', o7] [] SH τ := by
  intro Q
  induction Q with
  | nil =>
    intro L μ hS hQ hR hL
    rw [List.filter_nil, List.map_nil, List.append_nil, List.take_of_length_le hL]
    by_cases y : L.length = 200
    · refine ⟨μ, chg_rf, hR, fun d o3 o4 o6 o7 => ⟨o4, o6, ?_⟩⟩
      rw [b270_58, if_pos (by omega)]
    · obtain ⟨μ1, a1, a2'⟩ := hQ.1 rfl
      refine ⟨μ1, chg_mo (by decide) (chsA_g a2'), RLZ_chg hR (chsA_g a2') rfl, fun d o3 o4 o6 o7 => ⟨o4, o6, ?_⟩⟩
      rw [b270_58, if_neg (by omega)]
      refine Eq.trans b270_66 ?_
      refine x_bind (a1 _ _ _ _) ?_
      dsimp only
      refine Eq.trans b270_70 ?_
      rw [if_pos rfl]
  | cons q Q ih =>
    intro L μ hS hQ hR hL
    by_cases y : L.length = 200
    · have tk : ∀ R : List Nat, (L ++ R).take 200 = L := fun R => by
        rw [List.take_append_of_le_length (by omega), List.take_of_length_le hL]
      rw [tk]
      refine ⟨μ, chg_rf, hR, fun d o3 o4 o6 o7 => ⟨o4, o6, ?_⟩⟩
      rw [b270_58, if_pos (by omega)]
    · obtain ⟨μ1, nx1, a1, a2', a3, a4⟩ := hQ.2 q Q rfl
      have S1 := SCN_chg hS (chsA_g a2') rfl
      have hf := S1.2.2.2.2.1
      obtain ⟨μ2, b2, b3⟩ := s224t (X := X) (μ := μ1) (n := n) S1.1.1 S1.1.2.1 (by rw [S1.2.2.1]; exact hf) (row_tr S1 a3)
      have S2 := SCN_chg S1 b2 rfl
      have D2 := DNE_chg a3 b2 rfl
      have A2 := ADVB_dn (X := X) S2 (G := fitX w fg n k x) (fun q => gdB_iff) D2 a4
      have cc : chg CAu CSu μ μ2 := chg_tr (chg_mo (by decide) (chsA_g a2')) (chg_mo (by decide) b2)
      have R2 := RLZ_chg (RLZ_chg hR (chsA_g a2') rfl) b2 rfl
      have st : ∀ d o3 o4 o6 o7, ∀ b : Int, (∀ d, Ev X (d + 2) 224 0 [some (vr 100), some (vr 125), none] [] SH μ1 = some (some (vi b), SH, μ2)) → Ev X (d + 5) 270 58 [some (vr 100), some (vi k), some (vi a2), o3, o4, some (vi L.length), o6, o7] [] SH μ = Ev X (d + 5) 270 81 [some (vr 100), some (vi k), some (vi a2), o3, o4, some (vi L.length), o6, o7] [vi b] SH μ2 := by
        intro d o3 o4 o6 o7 b hb
        rw [b270_58, if_neg (by omega)]
        refine Eq.trans b270_66 ?_
        refine x_bind (a1 _ _ _ _) ?_
        dsimp only
        refine Eq.trans b270_70 ?_
        rw [if_neg (by decide)]
        refine Eq.trans b270_73 ?_
        refine x_bind (hb (d + 2)) ?_
        rfl
      by_cases t : truV (symP (syW w fg) q) n = 0
      · rw [List.filter_cons_of_pos (gdB_iff.mpr t), List.map_cons, List.append_cons]
        have qm : ∀ c, c < n → q c < 32 := fun c hc => by have := mo_32 (a3.2.2.1 c hc); omega
        obtain ⟨μ3, g1, g2, g3, g4⟩ := cp270 (X := X) (μ := μ2) (n := n) (a := L.length) S2.1.1 S2.1.2.1 (by omega)
        have S3 := SCN_chg S2 (chs_g g2) rfl
        have A3 := ADVB_dn (X := X) S3 (G := fitX w fg n k x) (fun q => gdB_iff) (DNE_chg D2 (chs_g g2) rfl) a4
        have R3 : RLZ w fg n μ3 (L ++ [cdN q n]) := by
          intro j hj c hc
          have n11 := S2.1.2.1
          by_cases z : j < L.length
          · rw [List.getElem_append_left z, g4 _ (by omega)]
            exact R2 j z c hc
          · have : j = L.length := by
              rw [List.length_append, List.length_singleton] at hj
              omega
            subst this
            rw [List.getElem_append_right (Nat.le_refl _), g3 c hc, D2.2.1 c hc]
            simp only [Nat.sub_self, List.getElem_cons_zero]
            rw [dig_cd hc qm]
        obtain ⟨τ, p1, p2, p3⟩ := ih (L ++ [cdN q n]) μ3 S3 A3 R3 (by rw [List.length_append, List.length_singleton]; omega)
        refine ⟨τ, chg_tr cc (chg_tr (chg_mo (by decide) (chs_g g2)) p1), p2, fun d o3 o4 o6 o7 => ?_⟩
        rcases b3 with ⟨u, v⟩ | ⟨u, v1, v2⟩
        · omega
        · obtain ⟨o6', e⟩ := g1 (d + 5) (k : Int) a2 o3 o4 o7
          obtain ⟨o4'', o6'', e2⟩ := p3 d o3 (xkill o4) o6' o7
          refine ⟨o4'', o6'', ?_⟩
          rw [st d o3 o4 o6 o7 1 v1, b270_81, if_neg (by decide)]
          refine Eq.trans b270_84 ?_
          refine x_bind s226 ?_
          rw [v2, t]
          dsimp only
          refine Eq.trans b270_88 ?_
          rw [if_pos rfl, b270_94, e, b270_132, xad1 (by omega)]
          rw [List.length_append, List.length_singleton] at e2
          exact e2
      · rw [List.filter_cons_of_neg (fun z => t (gdB_iff.mp z))]
        obtain ⟨τ, p1, p2, p3⟩ := ih L μ2 S2 A2 R2 hL
        refine ⟨τ, chg_tr cc p1, p2, fun d o3 o4 o6 o7 => ?_⟩
        obtain ⟨o4', o6', e⟩ := p3 d o3 o4 o6 o7
        refine ⟨o4', o6', ?_⟩
        rcases b3 with ⟨u, v⟩ | ⟨u, v1, v2⟩
        · rw [st d o3 o4 o6 o7 0 v, b270_81, if_pos rfl]
          exact e
        · have t1 : truV (symP (syW w fg) q) n = 1 := by omega
          rw [st d o3 o4 o6 o7 1 v1, b270_81, if_neg (by decide)]
          refine Eq.trans b270_84 ?_
          refine x_bind s226 ?_
          rw [v2, t1]
          dsimp only
          refine Eq.trans b270_88 ?_
          rw [if_neg (by decide), b270_91]
          exact e
/-- true sums are counted, up to two -/
theorem it270c {a2 i len' : Int} : ∀ (Q : List (Nat → Nat)) (a : Nat) (μ : xM), SCN n (moW w fg) (ctW w fg (bX w fg x)) (clW w fg (bX w fg x)) (BW w fg) (k : Int) (k : Int) fg w (syW w fg) cd len μ → ADVB X n (moW w fg) (ctW w fg (bX w fg x)) (clW w fg (bX w fg x)) (BW w fg) (fitX w fg n k x) Q μ → a ≤ 2 → ∃ τ, chg CAv CSv μ τ ∧ ∀ d o3 o4, Ev X (d + 5) 270 195 [some (vr 100), some (vi k), some (vi a2), o3, o4, some (vi len'), some (vi i), some (vi a)] [] SH μ = Ev X (d + 5) 270 232 [some (vr 100), some (vi k), some (vi a2), o3, o4, some (vi len'), some (vi i), some (vi (min 2 (a + (Q.filter (gdB (fun q => truV (symP (syW w fg) q) n = 1))).length) : Nat))] [] SH τ := by
  intro Q
  induction Q with
  | nil =>
    intro a μ hS hQ ha
    by_cases y : a = 2
    · refine ⟨μ, chg_rf, fun d o3 o4 => ?_⟩
      subst y
      rw [b270_195, if_pos (by omega)]
      rfl
    · obtain ⟨μ1, a1, a2'⟩ := hQ.1 rfl
      refine ⟨μ1, chg_mo (by decide) (chsA_g a2'), fun d o3 o4 => ?_⟩
      rw [b270_195, if_neg (by omega)]
      refine Eq.trans b270_201 ?_
      refine x_bind (a1 _ _ _ _) ?_
      dsimp only
      refine Eq.trans b270_205 ?_
      rw [if_pos rfl, List.filter_nil, List.length_nil, show min 2 (a + 0) = a by omega]
  | cons q Q ih =>
    intro a μ hS hQ ha
    by_cases y : a = 2
    · refine ⟨μ, chg_rf, fun d o3 o4 => ?_⟩
      subst y
      rw [b270_195, if_pos (by omega), Nat.min_eq_left (by omega)]
    · obtain ⟨μ1, nx1, a1, a2', a3, a4⟩ := hQ.2 q Q rfl
      have S1 := SCN_chg hS (chsA_g a2') rfl
      have hf := S1.2.2.2.2.1
      obtain ⟨μ2, b1, b2⟩ := s249 (X := X) (μ := μ1) (n := n) (k1 := 125) rfl (by decide) S1.1.1 S1.1.2.1 (by rw [S1.2.2.1]; exact hf)
      rw [truV_cs (row_tr S1 a3)] at b1
      have S2 := SCN_chg S1 b2 rfl
      have D2 := DNE_chg a3 b2 rfl
      have A2 := ADVB_dn (X := X) S2 (G := fitX w fg n k x) (fun q => gdB_iff) D2 a4
      have cc : chg CAv CSv μ μ2 := chg_tr (chg_mo (by decide) (chsA_g a2')) (chg_mo (by decide) b2)
      have st : ∀ d o3 o4, ∃ o7, Ev X (d + 5) 270 195 [some (vr 100), some (vi k), some (vi a2), o3, o4, some (vi len'), some (vi i), some (vi a)] [] SH μ = Ev X (d + 5) 270 218 [some (vr 100), some (vi k), some (vi a2), o3, o4, some (vi len'), some (vi i), o7] [vi (tV1 (truV (symP (syW w fg) q) n)), vi a] SH μ2 := by
        intro d o3 o4
        refine ⟨some (vi a), ?_⟩
        rw [b270_195, if_neg (by omega)]
        refine Eq.trans b270_201 ?_
        refine x_bind (a1 _ _ _ _) ?_
        dsimp only
        refine Eq.trans b270_205 ?_
        rw [if_neg (by decide)]
        refine Eq.trans b270_208 ?_
        refine x_bind (b1 (d + 1)) ?_
        rfl
      by_cases t : truV (symP (syW w fg) q) n = 1
      · rw [List.filter_cons_of_pos (gdB_iff.mpr t), List.length_cons]
        obtain ⟨τ, p1, p2⟩ := ih (a + 1) μ2 S2 A2 (by omega)
        refine ⟨τ, chg_tr cc p1, fun d o3 o4 => ?_⟩
        obtain ⟨o7, e⟩ := st d o3 o4
        rw [e, t, b270_218, if_neg (by decide), b270_221, b270_226, xadd_eq (by omega) (by omega)]
        refine Eq.trans (p2 d o3 o4) ?_
        rw [show a + 1 + (Q.filter (gdB (fun q => truV (symP (syW w fg) q) n = 1))).length = a + ((Q.filter (gdB (fun q => truV (symP (syW w fg) q) n = 1))).length + 1) by omega]
      · rw [List.filter_cons_of_neg (fun z => t (gdB_iff.mp z))]
        obtain ⟨τ, p1, p2⟩ := ih a μ2 S2 A2 ha
        refine ⟨τ, chg_tr cc p1, fun d o3 o4 => ?_⟩
        obtain ⟨o7, e⟩ := st d o3 o4
        rw [e, show tV1 (truV (symP (syW w fg) q) n) = 0 from if_neg t, b270_218, if_pos rfl, b270_225, b270_226, xadd_eq (by omega) (by omega), Int.add_zero]
        exact p2 d o3 o4
/-- a kept row is made lean -/
theorem cq270 {i : Nat} {a1 a2 len' : Int} (hn : μ 100 16 = (n : Int)) (hn2 : n ≤ 11) (hi : i < 200) : ∃ τ, (∀ d o3 o4, ∃ o7 : Option xV, Ev X d 270 151 [some (vr 100), some (vi a1), some (vi a2), o3, o4, some (vi len'), some (vi i), some (vi 0)] [] SH μ = Ev X d 270 186 [some (vr 100), some (vi a1), some (vi a2), o3, o4, some (vi len'), some (vi i), o7] [] SH τ) ∧ chs [126] [] μ τ ∧ ∀ c, c < n → τ 126 c = μ 131 (11 * i + c) := by
  have lp : ∀ (m c : Nat) (ω : xM), c + m = n → chs [126] [] μ ω → (∀ j, j < c → ω 126 j = μ 131 (11 * i + j)) → ∃ τ, (∀ d o3 o4, ∃ o7 : Option xV, Ev X d 270 151 [some (vr 100), some (vi a1), some (vi a2), o3, o4, some (vi len'), some (vi i), some (vi c)] [] SH ω = Ev X d 270 186 [some (vr 100), some (vi a1), some (vi a2), o3, o4, some (vi len'), some (vi i), o7] [] SH τ) ∧ chs [126] [] μ τ ∧ ∀ c, c < n → τ 126 c = μ 131 (11 * i + c) := by
    intro m
    induction m with
    | zero =>
      intro c ω h h1 h2
      have : c = n := by omega
      subst this
      refine ⟨ω, fun d o3 o4 => ⟨some (vi c), ?_⟩, h1, h2⟩
      rw [b270_151, if_pos (by rw [h1 100 16 rfl]; omega)]
    | succ m ih =>
      intro c ω h h1 h2
      have ix : xadd (xmul 11 (i : Int)) (c : Int) = ((11 * i + c : Nat) : Int) := by
        rw [xmul_eq (by omega) (by omega), xadd_eq (by omega) (by omega)]
        omega
      obtain ⟨τ, p1, p2, p3⟩ := ih (c + 1) (xwr ω 126 c (μ 131 (11 * i + c))) (by omega) (chs_wr rfl h1) (fun j hj => by
        by_cases z : j = c
        · rw [z, xwr_eq]
        · rw [xwr_nj (by omega)]
          exact h2 j (by omega))
      refine ⟨τ, fun d o3 o4 => ?_, p2, p3⟩
      obtain ⟨o7, e⟩ := p1 d o3 o4
      refine ⟨o7, ?_⟩
      rw [b270_151, if_neg (by rw [h1 100 16 rfl]; omega), b270_160 (by rw [ix]; omega) (by omega), ix, Int.toNat_natCast, Int.toNat_natCast, h1 131 _ rfl, xad1 (by omega)]
      exact e
  exact lp n 0 μ (by omega) chs_rf (fun j hj => by omega)
/-- what the answer reads -/
noncomputable def pzR (w fg : Nat → Int) (c : Nat) (o : Option Nat) : Int := match o with
  | some y => rdB w (fg c) (BW w fg c (dig y c))
  | none => -1
theorem it270o {L : List Nat} {c : Nat} (hL : L.length ≤ 200) (hC : ∀ y, y ∈ L → CD w n fg y) (hc : c < n) : ∀ (m i : Nat) (μ : xM), i + m = L.length → MBS n len w fg cd μ → RLZ w fg n μ L → ∃ τ, chg CAv CSv μ τ ∧ ∀ d o3 o4 o7, Ev X (d + 6) 270 141 [some (vr 100), some (vi k), some (vi c), o3, o4, some (vi L.length), some (vi i), o7] [] SH μ = some (some (vi (pzR w fg c ((L.drop i).find? (pzB w n fg k)))), SH, τ) := by
  intro m
  induction m with
  | zero =>
    intro i μ e hM hR
    refine ⟨μ, chg_rf, fun d o3 o4 o7 => ?_⟩
    rw [b270_141, if_pos (by omega), b270_267, List.drop_of_length_le (by omega)]
    rfl
  | succ m ih =>
    intro i μ e hM hR
    have hi : i < L.length := by omega
    have n16 := hM.1.2.2
    have n11 := hM.1.2.1
    obtain ⟨μ1, a1, a2, a3⟩ := cq270 (X := X) (μ := μ) (n := n) (i := i) (a1 := (k : Int)) (a2 := (c : Int)) (len' := (L.length : Int)) n16 n11 (by omega)
    have M1 := MBS_chg hM (chs_g a2) rfl
    obtain ⟨μ2, b1, b2, b3, b4⟩ := bgn_x (X := X) (k := k) (x := L[i]) M1 (hC _ (List.getElem_mem hi)) (fun q hq => by
      rw [a3 q hq]
      exact hR i hi q hq)
    have M2 := MBS_chg M1 b2 rfl
    obtain ⟨μ3, d1, d2⟩ := it270c (X := X) (a2 := (c : Int)) (i := (i : Int)) (len' := (L.length : Int)) _ 0 μ2 b3 b4 (by omega)
    have fe : (((enumF (moW w fg) n 0 (fun _ => 0)).filter (fitX w fg n k L[i])).filter (gdB (fun q => truV (symP (syW w fg) q) n = 1))).length = (nbC w n fg 1 k L[i]).length := by
      rw [nb_eq (so := 1) (v := 1) (Or.inl ⟨rfl, rfl⟩)]
      unfold nbC
      rw [List.length_map]
    rw [fe, Nat.zero_add] at d2
    have c3 : chg CAv CSv μ μ3 := chg_tr (chg_mo (by decide) (chs_g a2)) (chg_tr (chg_mo (by decide) b2) d1)
    have st : ∀ d o3 o4 o7, Ev X (d + 6) 270 141 [some (vr 100), some (vi k), some (vi c), o3, o4, some (vi L.length), some (vi i), o7] [] SH μ = Ev X (d + 6) 270 232 [some (vr 100), some (vi k), some (vi c), o3, o4, some (vi L.length), some (vi i), some (vi (min 2 (nbC w n fg 1 k L[i]).length : Nat))] [] SH μ3 := by
      intro d o3 o4 o7
      rw [b270_141, if_neg (by omega), b270_148]
      obtain ⟨o7', e⟩ := a1 (d + 6) o3 o4
      rw [e]
      refine Eq.trans b270_186 ?_
      refine x_bind (b1 _) ?_
      dsimp only
      refine Eq.trans b270_192 ?_
      exact d2 (d + 1) o3 o4
    rw [List.drop_eq_getElem_cons hi, List.find?_cons]
    by_cases y : (nbC w n fg 1 k L[i]).length = 1
    · have pb : pzB w n fg k L[i] = true := decide_eq_true y
      have ix : xadd (xmul 11 (i : Int)) (c : Int) = ((11 * i + c : Nat) : Int) := by
        rw [xmul_eq (by omega) (by omega), xadd_eq (by omega) (by omega)]
        omega
      rw [pb]
      refine ⟨μ3, c3, fun d o3 o4 o7 => ?_⟩
      rw [st, y, b270_232, if_neg (by decide)]
      refine Eq.trans (b270_238 (by omega) (by rw [ix]; omega)) ?_
      rw [ix, Int.toNat_natCast, Int.toNat_natCast, show μ3 131 (11 * i + c) = μ 131 (11 * i + c) from chg_at c3 rfl rfl, hR i hi c hc, show μ3 107 = fg from (chg_row c3 (fun _ => rfl) rfl).trans hM.2.1.1]
      refine x_bind (s222 (d := d + 4) (hM.2.2.1 c hc)) ?_
      rw [show μ3 102 = w from (chg_row c3 (fun _ => rfl) rfl).trans hM.2.1.2]
      exact b270_260
    · have pb : pzB w n fg k L[i] = false := decide_eq_false y
      rw [pb]
      obtain ⟨τ, p1, p2⟩ := ih (i + 1) μ3 (by omega) (MBS_chg M2 d1 rfl) (RLZ_chg hR c3 rfl)
      refine ⟨τ, chg_tr c3 p1, fun d o3 o4 o7 => ?_⟩
      rw [st, b270_232, if_pos (by omega), b270_261, xad1 (by omega)]
      exact p2 d o3 o4 _
end PZM
