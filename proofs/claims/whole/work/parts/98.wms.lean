/-! WANTED: the model's steps -/
/-- the sign that stands at the model's token -/
def sgc (μ : xM) : Int := if μ 100 6 = 43 then 26 else if μ 100 6 = 45 then 27 else if μ 100 6 = 42 then 28 else if μ 100 6 = 61 then 23 else if μ 100 6 = 60 then 24 else if μ 100 6 = 62 then 25 else if f205 μ 6385252 = 0 then (if f205 μ 28530 = 0 then -1 else 20) else 21
section WMS
variable {X : Nat × (Nat → Int)} {σ μ τ ν ρ : xM} {a h m n L : Nat} {tx : Nat → Int} {c r md m' : Int}
theorem f205_1 {k : Int} (z : f205 μ k ≠ 0) : μ 100 6 = 1 := by
  unfold f205 at z
  by_cases y : μ 100 6 = 1
  · exact y
  · rw [if_pos y] at z
    exact absurd rfl z
theorem sgc_rg : sgc μ = -1 ∨ sgc μ = 20 ∨ sgc μ = 21 ∨ sgc μ = 23 ∨ sgc μ = 24 ∨ sgc μ = 25 ∨ sgc μ = 26 ∨ sgc μ = 27 ∨ sgc μ = 28 := by
  unfold sgc
  repeat' split
  all_goals omega
theorem sgc_s : (sgc μ = 26 ↔ μ 100 6 = 43) ∧ (sgc μ = 27 ↔ μ 100 6 = 45) ∧ (sgc μ = 28 ↔ μ 100 6 = 42) ∧ (sgc μ = 23 ↔ μ 100 6 = 61) ∧ (sgc μ = 24 ↔ μ 100 6 = 60) ∧ (sgc μ = 25 ↔ μ 100 6 = 62) := by
  unfold sgc
  repeat' split
  all_goals omega
theorem sgc_w : (sgc μ = 21 ↔ f205 μ 6385252 ≠ 0) ∧ (sgc μ ≠ 21 → (sgc μ = 20 ↔ f205 μ 28530 ≠ 0)) := by
  have u := f205_1 (μ := μ) (k := 6385252)
  have v := f205_1 (μ := μ) (k := 28530)
  unfold sgc
  repeat' split
  all_goals omega
theorem sgc_kd (hT : TK tx n sgN σ μ) (z : sgc μ ≠ -1) : σ 1 5 ≠ 0 ∧ σ 1 5 ≠ 4 ∧ μ 100 6 ≠ 41 ∧ μ 100 6 ≠ 0 := by
  have u := f205_1 (μ := μ) (k := 6385252)
  have v := f205_1 (μ := μ) (k := 28530)
  obtain ⟨k3, k1, k0, k2, k4, k8⟩ := TK_kd hT
  unfold sgc at z
  repeat' split at z
  all_goals omega
theorem sgc_n (z : μ 100 6 = 0 ∨ μ 100 6 = 40 ∨ μ 100 6 = 41) : sgc μ = -1 := by
  have u := f205_1 (μ := μ) (k := 6385252)
  have v := f205_1 (μ := μ) (k := 28530)
  unfold sgc
  repeat' split
  all_goals omega
theorem m230 (d : Nat) : Ev X (d + 1) 230 0 [some (vr 100), none] [] SH μ = Ev X (d + 1) 230 115 [some (vr 100), none] [vi (sgc μ)] SH μ := by
  unfold sgc
  by_cases c1 : μ 100 6 = 43
  · rw [if_pos c1, b230_0, if_neg (fun z => z c1), b230_9]
  rw [if_neg c1, b230_0, if_pos c1]
  by_cases c2 : μ 100 6 = 45
  · rw [if_pos c2, b230_14, if_neg (fun z => z c2), b230_23]
  rw [if_neg c2, b230_14, if_pos c2]
  by_cases c3 : μ 100 6 = 42
  · rw [if_pos c3, b230_28, if_neg (fun z => z c3), b230_37]
  rw [if_neg c3, b230_28, if_pos c3]
  by_cases c4 : μ 100 6 = 61
  · rw [if_pos c4, b230_42, if_neg (fun z => z c4), b230_51]
  rw [if_neg c4, b230_42, if_pos c4]
  by_cases c5 : μ 100 6 = 60
  · rw [if_pos c5, b230_56, if_neg (fun z => z c5), b230_65]
  rw [if_neg c5, b230_56, if_pos c5]
  by_cases c6 : μ 100 6 = 62
  · rw [if_pos c6, b230_70, if_neg (fun z => z c6), b230_79]
  rw [if_neg c6, b230_70, if_pos c6]
  refine Eq.trans b230_84 ?_
  refine x_bind s205 ?_
  dsimp only
  refine Eq.trans b230_91 ?_
  by_cases c7 : f205 μ 6385252 = 0
  · rw [if_pos c7, if_pos c7]
    refine Eq.trans b230_99 ?_
    refine x_bind s205 ?_
    dsimp only
    refine Eq.trans b230_106 ?_
    by_cases c8 : f205 μ 28530 = 0
    · rw [if_pos c8, if_pos c8, b230_114]
    · rw [if_neg c8, if_neg c8, b230_109]
  · rw [if_neg c7, if_neg c7, b230_94]
theorem MR_sg (h2 : μ 100 2 = 0) (h6 : μ 100 6 ≠ 0 ∨ ∀ d, Ev X d 229 0 [some (vr 100), none, none] [] SH μ = some (some (vi 1), SH, μ)) (run : ∀ d, Ev X (d + 7) 230 0 [some (vr 100), none] [] SH μ = some (some (vi m'), SH, ν)) : MR X 2 μ m' ν := by
  intro d o3
  have t : Ev X (d + 8) 228 87 [some (vr 100), some (vi 2), some (vi 0), o3] [] SH μ = Ev X (d + 8) 228 57 [some (vr 100), some (vi m'), some (vi 0), o3] [] SH ν := by
    rw [b228_87, if_neg (by decide)]
    refine Eq.trans b228_92 ?_
    refine x_bind (run d) ?_
    dsimp only
    refine Eq.trans b228_96 ?_
    exact b228_104
  rw [b228_57, if_neg (fun z => z h2), b228_64, if_neg (by decide), b228_68, if_neg (by decide), b228_73]
  by_cases z : μ 100 6 ≠ 0
  · rw [if_pos z]
    exact t
  · rw [if_neg z]
    refine Eq.trans b228_80 ?_
    refine x_bind (h6.resolve_left z _) ?_
    dsimp only
    refine Eq.trans b228_84 ?_
    rw [if_neg (by decide)]
    exact t
theorem MR_op (hm : md ≠ 2) (h2 : μ 100 2 = 0) (run : ∀ d, Ev X (d + 7) 237 0 [some (vr 100), some (vi md), none, none, none] [] SH μ = some (some (vi m'), SH, ν)) : MR X md μ m' ν := by
  intro d o3
  rw [b228_57, if_neg (fun z => z h2), b228_64, if_neg (by decide), b228_68, if_pos hm, b228_87, if_pos hm]
  refine Eq.trans b228_99 ?_
  refine x_bind (run d) ?_
  exact b228_104
/-- a sign is held -/
theorem t217 (hb : ∀ i, 0 ≤ tx i ∧ tx i ≤ 255) (hn : n ≤ 200) (ha : a ≤ 7) (hc : c ≠ 30 ∧ c ≠ 22) (hJ : JW tx n a h 0 L σ μ) (k0 : σ 1 5 ≠ 0) (k4 : σ 1 5 ≠ 4) : ∃ τ ν, (∀ d, Ev X (d + 5) 159 0 [some (vr 1), none] [] SH σ = some (none, SH, τ)) ∧ (∀ d, Ev X (d + 2) 230 217 [some (vr 100), some (vi c)] [] SH μ = some (some (vi (if c = 20 ∨ c = 21 then 0 else 1)), SH, ν)) ∧ JW tx n a (h + 1) 0 L τ ν ∧ ν 120 h = c ∧ (∀ j, j < h → ν 120 j = μ 120 j) ∧ chg [] CT σ τ ∧ chg [120] WM μ ν := by
  obtain ⟨τ, ν1, ν, p1, p2, p3, p4, p5, p6, p7, p8⟩ := sj_hold (X := X) (c := c) (a' := a) hb (by rw [if_neg (by omega)]; omega) hn ha hJ k0 k4
  refine ⟨τ, ν, p1, fun d => ?_, p4, p5, p6, p7, p8⟩
  have h2 := hJ.1.2.2.2
  rw [b230_217, if_pos (by omega)]
  refine Eq.trans b230_226 ?_
  refine x_bind (p2 _) ?_
  dsimp only
  refine Eq.trans b230_231 ?_
  refine x_bind (p3 _) ?_
  dsimp only
  refine Eq.trans b230_235 ?_
  by_cases y : c = 21
  · rw [if_pos y, b230_247, b230_252, if_pos (by omega)]
  · rw [if_neg y, b230_241]
    by_cases z : c = 20
    · rw [if_neg (fun w => w z), b230_247, b230_252, if_pos (by omega)]
    · rw [if_pos z, b230_251, b230_252, if_neg (by omega)]
theorem m_op (hb : ∀ i, 0 ≤ tx i ∧ tx i ≤ 255) (hn : n ≤ 200) (ha : a ≤ 7) (hJ : JW tx n a h m L σ μ) (hc : sgc μ = c) (hr : (c = 20 ∧ r = 20) ∨ (c = 21 ∧ r = 21) ∨ (c = 26 ∧ r = 26) ∨ (c = 27 ∧ r = 26) ∨ (c = 28 ∧ r = 28)) (hp : PD r h m μ) (hs : BS r h μ) : ∃ τ ν, (∀ d, Ev X (d + 5) 159 0 [some (vr 1), none] [] SH σ = some (none, SH, τ)) ∧ MR X 2 μ (if c = 20 ∨ c = 21 then 0 else 1) ν ∧ JW tx n a (h + 1) 0 L τ ν ∧ ν 120 h = c ∧ (∀ j, j < h → ν 120 j = μ 120 j) ∧ chg [] CT σ τ ∧ chg [116, 117, 120] WM μ ν := by
  obtain ⟨hT, hS, hB⟩ := hJ
  have bd := TJ_le hT hn
  obtain ⟨k0, k4, k41, k6⟩ := sgc_kd hT.2.1 (by omega)
  obtain ⟨ν0, p1, p2, p3⟩ := sj_settle (X := X) hS (by omega) ha hp hs
  have s7 : ν0 100 7 = μ 100 7 := chg_at p2 rfl rfl
  have s120 : ν0 120 = μ 120 := chg_row p2 (fun _ => rfl) rfl
  obtain ⟨τ, ν, q1, q2, q3, q4, q5, q6, q7⟩ := t217 (X := X) (c := c) (σ := σ) (μ := ν0) (h := h) hb hn ha (by omega) ⟨TJ_cc chg_rf (chg_mo (by decide) p2) hT, p3, by omega⟩ k0 k4
  rw [s120] at q5
  have fr : f235 μ c = r := by
    rcases hr with ⟨r1, r2⟩ | ⟨r1, r2⟩ | ⟨r1, r2⟩ | ⟨r1, r2⟩ | ⟨r1, r2⟩ <;> rw [r1, r2] <;> rfl
  refine ⟨τ, ν, q1, MR_sg hT.2.2.2 (Or.inl k6) (fun d => ?_), q3, q4, q5, q6, chg_tr (chg_mo (by decide) p2) (chg_mo (by decide) q7)⟩
  rw [m230, hc, b230_115, if_pos k41, b230_163, if_pos (by omega)]
  refine Eq.trans b230_174 ?_
  refine x_bind s235 ?_
  dsimp only
  refine Eq.trans b230_178 ?_
  rw [fr, if_pos (by omega)]
  refine Eq.trans b230_209 ?_
  refine x_bind s235 ?_
  rw [fr]
  dsimp only
  refine Eq.trans (b230_214 (t1 := r)) ?_
  refine x_bind (p1 _) ?_
  exact q2 _
theorem rk_23 {x : Int} (z : x = 30 ∨ x < 23) : f235 μ x ≠ 23 := by
  unfold f235
  repeat' split
  all_goals omega
theorem m_cmp (hb : ∀ i, 0 ≤ tx i ∧ tx i ≤ 255) (hn : n ≤ 200) (ha : a ≤ 7) (hJ : JW tx n a h m L σ μ) (hc : sgc μ = c) (hr : c = 23 ∨ c = 24 ∨ c = 25) (hp : PD 26 h m μ) (hs : BS 23 h μ) : ∃ τ ν, (∀ d, Ev X (d + 5) 159 0 [some (vr 1), none] [] SH σ = some (none, SH, τ)) ∧ MR X 2 μ 1 ν ∧ JW tx n a (h + 1) 0 L τ ν ∧ ν 120 h = c ∧ (∀ j, j < h → ν 120 j = μ 120 j) ∧ chg [] CT σ τ ∧ chg [116, 117, 120] WM μ ν := by
  obtain ⟨hT, hS, hB⟩ := hJ
  have bd := TJ_le hT hn
  obtain ⟨k0, k4, k41, k6⟩ := sgc_kd hT.2.1 (by omega)
  obtain ⟨ν0, p1, p2, p3⟩ := sj_settle (X := X) (r := 26) hS (by omega) ha hp (by
    rcases hs with hs | hs | hs
    · exact Or.inl hs
    · exact Or.inr (Or.inl hs)
    · exact Or.inr (Or.inr (by omega)))
  have s7 : ν0 100 7 = μ 100 7 := chg_at p2 rfl rfl
  have s120 : ν0 120 = μ 120 := chg_row p2 (fun _ => rfl) rfl
  have s38 : ν0 100 38 = (h : Int) := by
    obtain ⟨k, _, _, _, e4, _⟩ := p3
    rw [e4, Nat.add_zero]
  have tp : f232 ν0 = 30 ∨ f232 ν0 < 23 := by
    by_cases y : h = 0
    · left
      unfold f232
      rw [if_neg (fun w => w (by omega))]
    · rw [f232_at (m := h - 1) (by omega) (by omega), s120]
      rcases hs with hs | hs | hs
      · exact absurd hs y
      · exact Or.inl hs
      · exact Or.inr hs
  obtain ⟨τ, ν, q1, q2, q3, q4, q5, q6, q7⟩ := t217 (X := X) (c := c) (σ := σ) (μ := ν0) (h := h) hb hn ha (by omega) ⟨TJ_cc chg_rf (chg_mo (by decide) p2) hT, p3, by omega⟩ k0 k4
  rw [s120] at q5
  rw [if_neg (by omega)] at q2
  have fr : f235 μ c = 23 := by
    rcases hr with r1 | r1 | r1 <;> rw [r1] <;> rfl
  refine ⟨τ, ν, q1, MR_sg hT.2.2.2 (Or.inl k6) (fun d => ?_), q3, q4, q5, q6, chg_tr (chg_mo (by decide) p2) (chg_mo (by decide) q7)⟩
  rw [m230, hc, b230_115, if_pos k41, b230_163, if_pos (by omega)]
  refine Eq.trans b230_174 ?_
  refine x_bind s235 ?_
  dsimp only
  refine Eq.trans b230_178 ?_
  rw [fr, if_neg (by decide)]
  refine Eq.trans b230_183 ?_
  refine x_bind (p1 _) ?_
  dsimp only
  refine Eq.trans b230_189 ?_
  refine x_bind (s232 (by omega) (by omega)) ?_
  dsimp only
  refine Eq.trans b230_193 ?_
  refine x_bind s235 ?_
  dsimp only
  refine Eq.trans b230_196 ?_
  rw [if_pos (rk_23 tp)]
  exact q2 _
/-- a comparison stands where one is pending -/
theorem m_sk (hb : ∀ i, 0 ≤ tx i ∧ tx i ≤ 255) (hn : n ≤ 200) (ha : a ≤ 7) (hJ : JW tx n a (h + 1) m L σ μ) (hc : sgc μ = c) (hr : c = 23 ∨ c = 24 ∨ c = 25) (hp : PD 26 (h + 1) m μ) (hs : μ 120 h = 23 ∨ μ 120 h = 24 ∨ μ 120 h = 25) : ∃ ν, MR X 2 μ 2 ν ∧ FL (g168 σ) ν ∧ chg [116, 117, 120] WM μ ν := by
  obtain ⟨hT, hS, hB⟩ := hJ
  have bd := TJ_le hT hn
  obtain ⟨k0, k4, k41, k6⟩ := sgc_kd hT.2.1 (by omega)
  obtain ⟨ν0, p1, p2, p3⟩ := sj_settle (X := X) (r := 26) hS (by omega) ha hp (Or.inr (Or.inr (by rw [show h + 1 - 1 = h by omega]; omega)))
  have s120 : ν0 120 = μ 120 := chg_row p2 (fun _ => rfl) rfl
  have s38 : ν0 100 38 = ((h + 1 : Nat) : Int) := by
    obtain ⟨k, _, _, _, e4, _⟩ := p3
    rw [e4, Nat.add_zero]
  have tp : f235 ν0 (f232 ν0) = 23 := by
    rw [f232_at s38 (by omega), s120]
    rcases hs with r1 | r1 | r1 <;> rw [r1] <;> rfl
  have hT0 : TJ tx n σ ν0 := TJ_cc chg_rf (chg_mo (by decide) p2) hT
  obtain ⟨r1, r2, r3, r4⟩ := tk_rf (X := X) (RS_w (by omega) hb) hT0.2.1 hT0.2.2.2
  have fr : f235 μ c = 23 := by
    rcases hr with r1 | r1 | r1 <;> rw [r1] <;> rfl
  refine ⟨g206 ν0 2, MR_sg hT.2.2.2 (Or.inl k6) (fun d => ?_), r2, chg_tr (chg_mo (by decide) p2) (chg_mo (by decide) r4)⟩
  rw [m230, hc, b230_115, if_pos k41, b230_163, if_pos (by omega)]
  refine Eq.trans b230_174 ?_
  refine x_bind s235 ?_
  dsimp only
  refine Eq.trans b230_178 ?_
  rw [fr, if_neg (by decide)]
  refine Eq.trans b230_183 ?_
  refine x_bind (p1 _) ?_
  dsimp only
  refine Eq.trans b230_189 ?_
  refine x_bind (s232 (by omega) (by omega)) ?_
  dsimp only
  refine Eq.trans b230_193 ?_
  refine x_bind s235 ?_
  dsimp only
  refine Eq.trans b230_196 ?_
  rw [tp, if_neg (by decide)]
  refine Eq.trans b230_201 ?_
  refine x_bind s206 ?_
  dsimp only
  refine Eq.trans b230_206 ?_
  rw [b230_217, if_neg (by have := r2.2.2; omega), b230_224]
/-- no sign where one is wanted -/
theorem m_bad {b : Int} (hb : ∀ i, 0 ≤ tx i ∧ tx i ≤ 255) (hn : n ≤ 200) (hT : TJ tx n σ μ) (hc : sgc μ = -1) (ho : ∀ d, Ev X d 229 0 [some (vr 100), none, none] [] SH μ = some (some (vi b), SH, μ)) (hw : (b = 1 ∧ μ 100 6 ≠ 41) ∨ (b = 0 ∧ μ 100 6 ≠ 0)) : MR X 2 μ 2 (g206 μ 2) ∧ f168 σ = 0 ∧ FL (g168 σ) (g206 μ 2) ∧ chg [] CT σ (g168 σ) ∧ chg [] CM μ (g206 μ 2) := by
  obtain ⟨r1, r2, r3, r4⟩ := tk_rf (X := X) (RS_w (by omega) hb) hT.2.1 hT.2.2.2
  refine ⟨MR_sg hT.2.2.2 ?_ (fun d => ?_), r1, r2, r3, r4⟩
  · rcases hw with ⟨w1, w2⟩ | ⟨w1, w2⟩
    · rw [w1] at ho
      exact Or.inr ho
    · exact Or.inl w2
  · have e : Ev X (d + 7) 230 163 [some (vr 100), some (vi (-1))] [] SH μ = some (some (vi 2), SH, g206 μ 2) := by
      rw [b230_163, if_neg (by decide)]
      refine Eq.trans b230_167 ?_
      refine x_bind s206 ?_
      exact b230_172
    rw [m230, hc, b230_115]
    by_cases y : μ 100 6 = 41
    · rw [if_neg (fun z => z y)]
      refine Eq.trans b230_125 ?_
      refine x_bind (ho _) ?_
      dsimp only
      refine Eq.trans b230_129 ?_
      rw [if_pos (by omega)]
      exact e
    · rw [if_pos y]
      exact e
theorem m_opn (e : μ 100 38 = (h : Int)) (hh : h ≤ 210) : ((∃ j, j < h ∧ μ 120 j = 30) → ∀ d, Ev X d 229 0 [some (vr 100), none, none] [] SH μ = some (some (vi 1), SH, μ)) ∧ ((∀ j, j < h → μ 120 j ≠ 30) → ∀ d, Ev X d 229 0 [some (vr 100), none, none] [] SH μ = some (some (vi 0), SH, μ)) := by
  obtain ⟨u1, u2⟩ := it229 (X := X) e hh h 0 0 (by omega) (Or.inl rfl)
  refine ⟨fun z d => ?_, fun z d => ?_⟩
  · obtain ⟨j, j1, j2⟩ := z
    refine Eq.trans b229_0 ?_
    exact u1 (Or.inr ⟨j, Nat.zero_le _, j1, j2⟩) d
  · refine Eq.trans b229_0 ?_
    refine u2 (fun w => ?_) d
    rcases w with w | ⟨j, j0, j1, j2⟩
    · exact absurd w (by decide)
    · exact z j j1 j2
/-- the closing sign -/
theorem m_close (hb : ∀ i, 0 ≤ tx i ∧ tx i ≤ 255) (hn : n ≤ 200) (ha : a + 1 ≤ 7) (hJ : JW tx n (a + 1) (h + 1) m L σ μ) (h6 : μ 100 6 = 41) (h30 : μ 120 h = 30) (hp : PD 0 (h + 1) m μ) : ∃ τ ν, (∀ d, Ev X (d + 5) 159 0 [some (vr 1), none] [] SH σ = some (none, SH, τ)) ∧ MR X 2 μ 2 ν ∧ JW tx n a h 0 L τ ν ∧ (∀ j, j < h → ν 120 j = μ 120 j) ∧ chg [] CT σ τ ∧ chg [116, 117, 120] WM μ ν := by
  obtain ⟨hT, hS, hB⟩ := hJ
  have bd := TJ_le hT hn
  obtain ⟨k3, k1, k0, k2, k4, k8⟩ := TK_kd hT.2.1
  have hh : μ 100 38 = ((h + 1 + m : Nat) : Int) ∧ m ≤ L := by
    obtain ⟨k, e1, _, _, e4, _⟩ := hS
    exact ⟨e4, by omega⟩
  have op := (m_opn (X := X) hh.1 (by omega)).1 ⟨h, by omega, h30⟩
  obtain ⟨ν0, p1, p2, p3⟩ := sj_settle (X := X) (r := 0) hS (by omega) ha hp (Or.inr (Or.inl h30))
  have s7 : ν0 100 7 = μ 100 7 := chg_at p2 rfl rfl
  have s120 : ν0 120 = μ 120 := chg_row p2 (fun _ => rfl) rfl
  obtain ⟨k, e1, e2, e3, e4, e5, e6, e7, e8, e9⟩ := p3
  rw [c22] at e8
  generalize hν : xwr (xwr ν0 100 38 (h : Int)) 100 39 (a : Int) = ν1
  have c1 : chg [] [(100, 38), (100, 39)] ν0 ν1 := by
    rw [← hν]
    exact chg_wr rfl (chg_wr rfl chg_rf)
  have s1 : SJ a h 0 L σ ν1 := by
    refine ⟨k, e1, (chg_at c1 rfl rfl).trans e2, e3, ?_, ?_, fun i hi => absurd hi (by omega), ?_, ?_, e9⟩
    · rw [← hν, xwr_nj (by decide), xwr_eq, Nat.add_zero]
    · rw [show ν1 116 = ν0 116 from chg_row c1 (fun _ => rfl) rfl, show ν1 117 = ν0 117 from chg_row c1 (fun _ => rfl) rfl]
      exact e5
    · rw [show ν1 100 36 = ν0 100 36 from chg_at c1 rfl rfl]
      exact e7
    · rw [← hν, xwr_eq, c22]
      omega
  have c2 : chg [116, 117, 120] WM0 μ ν1 := chg_tr (chg_mo (by decide) p2) (chg_mo (by decide) c1)
  obtain ⟨τ, ν, q1, q2, q3, q4, q5, q6⟩ := tj_adv (X := X) hb hn (TJ_cc chg_rf c2 hT) (by omega) (by omega)
  have t7 : ν1 100 7 = ν0 100 7 := chg_at c1 rfl rfl
  refine ⟨τ, ν, q1, MR_sg hT.2.2.2 (Or.inl (by omega)) (fun d => ?_), ⟨q5, SJ_cg q3 q4 s1, by omega⟩, fun j hj => ?_, q3, chg_tr (chg_mo (by decide) c2) (chg_mo (by decide) q4)⟩
  · rw [m230, sgc_n (Or.inr (Or.inr h6)), b230_115, if_neg (fun z => z h6)]
    refine Eq.trans b230_125 ?_
    refine x_bind (op _) ?_
    dsimp only
    refine Eq.trans b230_129 ?_
    rw [if_neg (by decide)]
    refine Eq.trans b230_132 ?_
    refine x_bind (p1 _) ?_
    dsimp only
    refine Eq.trans b230_137 ?_
    rw [show xsub (ν0 100 38) 1 = (h : Int) by rw [e4, xsub_eq (by omega) (by omega)]; omega, show xsub (ν0 100 39) 1 = (a : Int) by rw [e8, xsub_eq (by omega) (by omega)]; omega, hν]
    refine x_bind (q2 _) ?_
    exact b230_161
  · rw [show ν 120 = ν1 120 from chg_row q4 (fun _ => rfl) rfl, show ν1 120 = ν0 120 from chg_row c1 (fun _ => rfl) rfl, s120]
end WMS
