/-! PATHS, in the model: what a walk from a code needs; rows kept -/
def MBS (n len : Nat) (w fg cd : Nat → Int) (μ : xM) : Prop := (0 < n ∧ n ≤ 11 ∧ μ 100 16 = (n : Int)) ∧ (μ 107 = fg ∧ μ 102 = w) ∧ (∀ c, c < n → fg c = 0 ∨ fg c = 1) ∧ (∀ c, c < n → OT1 (BW w fg) c (moW w fg c) μ) ∧ (∀ c, c < n → ∀ i, i ∈ moW w fg c → 0 ≤ BW w fg c i ∧ BW w fg c i < 128) ∧ (WFP cd len ∧ len ≤ 200) ∧ (∀ i, i < len → enc (cd i) (μ 118 i) (μ 119 i)) ∧ μ 100 35 = (len : Int)
abbrev bX (w fg : Nat → Int) (x : Nat) : Nat → Int := fun c => BW w fg c (dig x c)
noncomputable def fitX (w fg : Nat → Int) (n k x : Nat) : (Nat → Nat) → Bool := gdB (fun q => fit (k : Int) (k : Int) (nsum (fun c => ctW w fg (bX w fg x) c (q c)) n) (nsum (fun c => clW w fg (bX w fg x) c (q c)) n))
section MPT
variable {X : Nat × (Nat → Int)} {μ τ : xM} {n len k x : Nat} {w fg cd : Nat → Int}
theorem MBS_chg {CA : List Nat} {CS : List (Nat × Nat)} (h : MBS n len w fg cd μ) (c : chg CA CS μ τ) (o : okc CA CS [107, 102, 118, 119, 122, 123] [(100, 16), (100, 35)] = true) : MBS n len w fg cd τ := by
  have e := eqp_ok o c
  have r : ∀ k, k ∈ [107, 102, 118, 119, 122, 123] → τ k = μ k := fun k hk => funext (fun j => (e k j (by
    unfold pin
    rw [Bool.or_eq_true]
    exact Or.inl (by simpa using hk))))
  have s : ∀ j, (100, j) ∈ [((100 : Nat), 16), (100, 35)] → τ 100 j = μ 100 j := fun j hj => e 100 j (by
    unfold pin
    rw [Bool.or_eq_true]
    exact Or.inr (by simpa using hj))
  unfold MBS OT1 at h ⊢
  rw [r 107 (by decide), r 102 (by decide), r 118 (by decide), r 119 (by decide), r 122 (by decide), r 123 (by decide), s 16 (by decide), s 35 (by decide)]
  exact h
/-- begin of a walk from a code -/
theorem bgn_x (h : MBS n len w fg cd μ) (hx : CD w n fg x) (e126 : ∀ c, c < n → μ 126 c = BW w fg c (dig x c)) : ∃ μ2, (∀ d, Ev X d 245 0 [some (vr 100), some (vi k), some (vi k)] [] SH μ = some (none, SH, μ2)) ∧ chg [124, 127, 128] [(100, 47), (100, 48), (100, 49)] μ μ2 ∧ SCN n (moW w fg) (ctW w fg (bX w fg x)) (clW w fg (bX w fg x)) (BW w fg) (k : Int) (k : Int) fg w (syW w fg) cd len μ2 ∧ ADVB X n (moW w fg) (ctW w fg (bX w fg x)) (clW w fg (bX w fg x)) (BW w fg) (fitX w fg n k x) ((enumF (moW w fg) n 0 (fun _ => 0)).filter (fitX w fg n k x)) μ2 := by
  obtain ⟨⟨n0, n1, e16⟩, ⟨e107, e102⟩, hf, hot, hB, ⟨hw, hl⟩, en, e35⟩ := h
  have sb := s245' (X := X) (μ := μ) (a1 := (k : Int)) (a2 := (k : Int)) (by omega)
  generalize hμ : xwr (xwr (xwr (xwr (xwr (xwr μ 100 47 0) 124 0 (-1)) 127 0 0) 128 0 0) 100 48 (k : Int)) 100 49 (k : Int) = μ2 at sb
  have c2 : chs [124, 127, 128] [(100, 47), (100, 48), (100, 49)] μ μ2 := by
    rw [← hμ]
    exact chs_wr rfl (chs_wr rfl (chs_wr rfl (chs_wr rfl (chs_wr rfl (chs_wr rfl chs_rf)))))
  have cc := chs_g c2
  have S2 : SCN n (moW w fg) (ctW w fg (bX w fg x)) (clW w fg (bX w fg x)) (BW w fg) (k : Int) (k : Int) fg w (syW w fg) cd len μ2 := by
    refine ⟨⟨(chg_at cc rfl rfl).trans e16, n1, ?_, ?_, fun c hc => ?_⟩, n0, (chg_row cc (fun _ => rfl) rfl).trans e107, (chg_row cc (fun _ => rfl) rfl).trans e102, hf, fun c hc i hi => ⟨rfl, dfN_7, dfN_7⟩, hw, hl, ?_, (chg_at cc rfl rfl).trans e35⟩
    · rw [← hμ, xwr_nj (by decide), xwr_eq]
    · rw [← hμ, xwr_eq]
    · obtain ⟨o1, o2, o3⟩ := hot c hc
      have e126' : μ2 126 c = BW w fg c (dig x c) := by
        rw [c2 126 c rfl]
        exact e126 c hc
      rw [e126', show μ2 123 = μ 123 from chg_row cc (fun _ => rfl) rfl, show μ2 122 = μ 122 from chg_row cc (fun _ => rfl) rfl]
      exact ⟨o1, o2, hB c hc _ (hx.2 c hc), fun e he => ⟨o3 e he, hB c hc _ (List.getElem_mem he), rfl, rfl⟩⟩
    · rw [show μ2 118 = μ 118 from chg_row cc (fun _ => rfl) rfl, show μ2 119 = μ 119 from chg_row cc (fun _ => rfl) rfl]
      exact en
  have z1 : μ2 100 47 = 0 := by rw [← hμ]; simp (disch := decide) only [xwr_nk, xwr_nj, xwr_eq]
  have z2 : μ2 124 0 = -1 := by rw [← hμ]; simp (disch := decide) only [xwr_nk, xwr_nj, xwr_eq]
  have z3 : μ2 127 0 = 0 := by rw [← hμ]; simp (disch := decide) only [xwr_nk, xwr_nj, xwr_eq]
  have z4 : μ2 128 0 = 0 := by rw [← hμ]; simp (disch := decide) only [xwr_nk, xwr_nj, xwr_eq]
  exact ⟨μ2, sb, cc, S2, ADVB_1 S2 (fun q => gdB_iff) z1 z2 z3 z4⟩
/-- the sums of a walk, as the model finds them -/
theorem nb_eq {so v : Int} (hv : (so = 1 ∧ v = 1) ∨ (so = 2 ∧ v = 0)) : ((enumF (moW w fg) n 0 (fun _ => 0)).filter (fitX w fg n k x)).filter (gdB (fun q => truV (symP (syW w fg) q) n = v)) = nbW w n fg so k x := by
  unfold nbW
  rw [List.filter_filter]
  refine List.filter_congr (fun q _ => ?_)
  unfold fitX bX
  rw [Bool.eq_iff_iff, Bool.and_eq_true, gdB_iff, gdB_iff, gdB_iff]
  have tv : truV (symP (syW w fg) q) n = v ↔ LK so (-1) n (fun _ => 0) 0 (isum (fun c => if fg c = 0 then 0 else 1) n) (symP (syW w fg) q) (nsum (fun c => wtB (BW w fg) c (q c)) n : Int) := by
    unfold LK
    by_cases ok : okW (symP (syW w fg) q) n
    · rw [truV_y ok]
      rcases hv with ⟨h1, h2⟩ | ⟨h1, h2⟩
      · subst h1 h2
        exact ⟨fun z => ⟨Or.inl rfl, ok, fun y => absurd y (by decide), fun _ => ⟨z, Or.inl rfl⟩⟩, fun z => (z.2.2.2 (by decide)).1⟩
      · subst h1 h2
        exact ⟨fun z => ⟨Or.inl rfl, ok, fun _ => z, fun y => absurd rfl y⟩, fun z => z.2.2.1 rfl⟩
    · rw [truV_n ok]
      exact ⟨fun z => by omega, fun z => absurd z.2.1 ok⟩
  rw [tv]
  unfold GD fit
  constructor
  · intro ⟨h3, h4⟩
    exact ⟨by omega, by omega, h3⟩
  · intro ⟨h1, h2, h3⟩
    exact ⟨h3, Or.inr ⟨by omega, by omega⟩⟩
def tV1 (v : Int) : Int := if v = 1 then 1 else 0
/-- isTrueRow -/
theorem s249 {k1 : Nat} (ha : isArr k1) (hk1 : k1 ≠ 113) (hn : μ 100 16 = (n : Int)) (hn2 : n ≤ 11) (hf : ∀ c, c < n → μ 107 c = 0 ∨ μ 107 c = 1) : ∃ τ, (∀ d, Ev X (d + 3) 249 0 [some (vr 100), some (vr k1)] [] SH μ = some (some (vi (tV1 (truV (chM μ k1) n))), SH, τ)) ∧ chg [113, 114, 115] [] μ τ := by
  by_cases ok : okW (chM μ k1) n
  · obtain ⟨τ, t1, t2, t3, t4, t5, t6, t7⟩ := s224Y (X := X) (σ := μ) (k1 := k1) ha hk1 hn hn2 hf ok
    have f226 := f226_I t3 t4 t5 t6 t7
    have tI : trI (rdSt r0 (chM μ k1) n) = 0 ∨ trI (rdSt r0 (chM μ k1) n) = 1 := by
      unfold trI
      split <;> omega
    refine ⟨τ, fun d => ?_, t2⟩
    rw [truV_y ok]
    refine Eq.trans b249_0 ?_
    refine x_bind (t1 _) ?_
    dsimp only
    refine Eq.trans b249_5 ?_
    rw [if_neg (by decide)]
    refine Eq.trans b249_8 ?_
    refine x_bind s226 ?_
    rw [f226]
    dsimp only
    refine Eq.trans b249_12 ?_
    rcases tI with z | z
    · rw [z, if_pos rfl, b249_19, b249_20 (Or.inl rfl)]
      rfl
    · rw [z, if_neg (by decide), b249_15, b249_20 (Or.inr rfl)]
      rfl
  · obtain ⟨τ, t1, t2⟩ := s224N (X := X) (σ := μ) (k1 := k1) ha hk1 hn hn2 hf ok
    refine ⟨τ, fun d => ?_, t2⟩
    rw [truV_n ok]
    refine Eq.trans b249_0 ?_
    refine x_bind (t1 _) ?_
    dsimp only
    refine Eq.trans b249_5 ?_
    rw [if_pos rfl, b249_19, b249_20 (Or.inl rfl)]
    rfl
theorem row_tr {mo : Nat → List Nat} {ct cl : Nat → Nat → Nat} {B : Nat → Nat → Int} {mg ml : Int} {sy : Nat → Nat → Int} {q nx : Nat → Nat} (hS : SCN n mo ct cl B mg ml fg w sy cd len μ) (hD : DNE n mo ct cl B q nx μ) : ∀ c, c < n → chM μ 125 c = symP sy q c := by
  intro c hc
  obtain ⟨⟨o1, o2, o3, o4, o5⟩, hn, e107, e102, hf, hm, hw, hl, en, e35⟩ := hS
  obtain ⟨d1, d2, d3, d4, d5⟩ := hD
  unfold chM symP
  rw [e102, e107, d2 c hc]
  exact (hm c hc _ (d3 c hc)).1
theorem s266y {k2 j : Nat} (ha : isArr k2) (hn : μ 100 16 = (n : Int)) (hn2 : n ≤ 11) (hj : j ≤ 150) (e : ∀ c, c < n → μ 129 (11 * j + c) = μ k2 c) : ∀ d, Ev X d 266 0 [some (vr 100), some (vi j), some (vr k2), none] [] SH μ = some (some (vi 1), SH, μ) := by
  intro d
  have lp : ∀ (m c : Nat), c + m = n → Ev X d 266 2 [some (vr 100), some (vi j), some (vr k2), some (vi c)] [] SH μ = some (some (vi 1), SH, μ) := by
    intro m
    induction m with
    | zero =>
      intro c h
      rw [b266_2, if_pos (by omega), b266_35]
    | succ m ih =>
      intro c h
      have ix : xadd (xmul 11 (j : Int)) (c : Int) = ((11 * j + c : Nat) : Int) := by
        rw [xmul_eq (by omega) (by omega), xadd_eq (by omega) (by omega)]
        omega
      rw [b266_2, if_neg (by omega), b266_10 ha (by rw [ix]; omega) (by omega), ix, Int.toNat_natCast, Int.toNat_natCast, if_pos (e c (by omega)), b266_29, xad1 (by omega)]
      exact ih (c + 1) (by omega)
  rw [b266_0]
  exact lp n 0 (by omega)
theorem s266n {k2 j : Nat} (ha : isArr k2) (hn : μ 100 16 = (n : Int)) (hn2 : n ≤ 11) (hj : j ≤ 150) (e : ¬ ∀ c, c < n → μ 129 (11 * j + c) = μ k2 c) : ∀ d, Ev X d 266 0 [some (vr 100), some (vi j), some (vr k2), none] [] SH μ = some (some (vi 0), SH, μ) := by
  intro d
  have lp : ∀ (m c : Nat), c + m = n → (∀ i, i < c → μ 129 (11 * j + i) = μ k2 i) → Ev X d 266 2 [some (vr 100), some (vi j), some (vr k2), some (vi c)] [] SH μ = some (some (vi 0), SH, μ) := by
    intro m
    induction m with
    | zero =>
      intro c h hc
      exact absurd (fun i hi => hc i (by omega)) e
    | succ m ih =>
      intro c h hc
      have ix : xadd (xmul 11 (j : Int)) (c : Int) = ((11 * j + c : Nat) : Int) := by
        rw [xmul_eq (by omega) (by omega), xadd_eq (by omega) (by omega)]
        omega
      rw [b266_2, if_neg (by omega), b266_10 ha (by rw [ix]; omega) (by omega), ix, Int.toNat_natCast, Int.toNat_natCast]
      by_cases y : μ 129 (11 * j + c) = μ k2 c
      · rw [if_pos y, b266_29, xad1 (by omega)]
        exact ih (c + 1) (by omega) (fun i hi => by
          by_cases z : i = c
          · rw [z]; exact y
          · exact hc i (by omega))
      · rw [if_neg y, b266_27]
  rw [b266_0]
  exact lp n 0 (by omega) (fun i hi => by omega)
/-- add -/
theorem s265 {k1 L : Nat} {o : Int} (ha : isArr k1) (hk : k1 ≠ 129) (hn : μ 100 16 = (n : Int)) (hn2 : n ≤ 11) (hL : L ≤ 150) (e56 : μ 100 56 = (L : Int)) : ∃ τ, (∀ d, Ev X d 265 0 [some (vr 100), some (vr k1), some (vi o), none] [] SH μ = some (none, SH, τ)) ∧ chs [129, 130] [(100, 56)] μ τ ∧ τ 100 56 = ((L + 1 : Nat) : Int) ∧ τ 130 L = o ∧ (∀ j, j ≠ L → τ 130 j = μ 130 j) ∧ (∀ c, c < n → τ 129 (11 * L + c) = μ k1 c) ∧ ∀ i, i < 11 * L → τ 129 i = μ 129 i := by
  have lp : ∀ (m c : Nat) (ω : xM), c + m = n → chs [129] [] μ ω → (∀ i, i < c → ω 129 (11 * L + i) = μ k1 i) → (∀ i, i < 11 * L → ω 129 i = μ 129 i) → ∃ τ, (∀ d, Ev X d 265 2 [some (vr 100), some (vr k1), some (vi o), some (vi c)] [] SH ω = Ev X d 265 33 [some (vr 100), some (vr k1), some (vi o), some (vi n)] [] SH τ) ∧ chs [129] [] μ τ ∧ (∀ i, i < n → τ 129 (11 * L + i) = μ k1 i) ∧ ∀ i, i < 11 * L → τ 129 i = μ 129 i := by
    intro m
    induction m with
    | zero =>
      intro c ω h h1 h2 h3
      have : c = n := by omega
      subst this
      refine ⟨ω, fun d => ?_, h1, h2, h3⟩
      rw [b265_2, if_pos (by rw [h1 100 16 rfl]; omega)]
    | succ m ih =>
      intro c ω h h1 h2 h3
      have ix : xadd (xmul 11 (ω 100 56)) (c : Int) = ((11 * L + c : Nat) : Int) := by
        rw [h1 100 56 rfl, e56, xmul_eq (by omega) (by omega), xadd_eq (by omega) (by omega)]
        omega
      have ek : ω k1 c = μ k1 c := h1 k1 c (by
        unfold pin
        simpa using hk)
      obtain ⟨τ, p1, p2, p3, p4⟩ := ih (c + 1) (xwr ω 129 (11 * L + c) (μ k1 c)) (by omega) (chs_wr rfl h1) (fun i hi => by
        by_cases z : i = c
        · rw [z, xwr_eq]
        · rw [xwr_nj (by omega)]
          exact h2 i (by omega)) (fun i hi => by
        rw [xwr_nj (by omega)]
        exact h3 i hi)
      refine ⟨τ, fun d => ?_, p2, p3, p4⟩
      rw [b265_2, if_neg (by rw [h1 100 16 rfl]; omega), b265_10 ha (by omega) (by rw [ix]; omega), ix, Int.toNat_natCast, Int.toNat_natCast, ek, xad1 (by omega)]
      exact p1 d
  obtain ⟨τ, p1, p2, p3, p4⟩ := lp n 0 μ (by omega) chs_rf (fun i hi => by omega) (fun _ _ => rfl)
  have q56 : τ 100 56 = (L : Int) := (p2 100 56 rfl).trans e56
  refine ⟨xwr (xwr τ 130 L o) 100 56 ((L + 1 : Nat) : Int), fun d => ?_, chs_wr rfl (chs_wr rfl (fun k j hk => p2 k j (by
    unfold pin at hk ⊢
    simp at hk ⊢
    exact hk.1.1))), by rw [xwr_eq], by rw [xwr_nk (by decide), xwr_eq], fun j hj => ?_, fun c hc => ?_, fun i hi => ?_⟩
  · rw [b265_0]
    refine Eq.trans (p1 d) ?_
    rw [b265_33 (by omega), q56, Int.toNat_natCast, xad1 (by omega)]
  · rw [xwr_nk (by decide), xwr_nj hj]
    exact p2 130 j rfl
  · rw [xwr_nk (by decide), xwr_nk (by decide)]
    exact p3 c hc
  · rw [xwr_nk (by decide), xwr_nk (by decide)]
    exact p4 i hi
end MPT
