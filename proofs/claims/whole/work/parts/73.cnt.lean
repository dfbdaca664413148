/-! Numerals.countNumbers -/
noncomputable def ctB (w : Nat → Int) : Nat → (Nat → Prop) → Int
  | 0, S => @ite Int (S 0) (Classical.propDecidable _) 1 0
  | b + 1, S => isum (fun g => ctB w b (RB2 w g S)) 10
/-- a digit's counts of sticks, as bits -/
def KN (w : Nat → Int) (g : Nat) : Nat := if w (2 * g + 1) ≠ 0 then 2 ^ pn (w (2 * g)) ||| 2 ^ pn (w (2 * g + 1)) else 2 ^ pn (w (2 * g))
section CNT
variable {X : Nat × (Nat → Int)} {σ τ : xM} {w : Nat → Int} {S S' : Nat → Prop} {b g g' : Nat}
theorem KN_S : mkL (cntD w g) (KN w g) := by
  intro t
  unfold KN cntD
  by_cases z : w (2 * g + 1) ≠ 0
  · rw [if_pos z, Nat.testBit_or, Bool.or_eq_true, Nat.testBit_two_pow, Nat.testBit_two_pow, decide_eq_true_eq, decide_eq_true_eq]
    constructor
    · rintro (h | h)
      · exact Or.inl h.symm
      · exact Or.inr ⟨z, h.symm⟩
    · rintro (h | ⟨_, h⟩)
      · exact Or.inl h.symm
      · exact Or.inr h.symm
  · rw [if_neg z, Nat.testBit_two_pow, decide_eq_true_eq]
    constructor
    · intro h
      exact Or.inl h.symm
    · rintro (h | ⟨y, _⟩)
      · exact h.symm
      · exact absurd y z
theorem KN_RB (h : KN w g = KN w g') : RB2 w g S = RB2 w g' S := by
  funext t
  unfold RB2
  have e : ∀ s, cntD w g s ↔ cntD w g' s := fun s => by rw [← KN_S s, ← KN_S s, h]
  exact propext ⟨fun ⟨s, h1, h2⟩ => ⟨s, (e s).mp h1, h2⟩, fun ⟨s, h1, h2⟩ => ⟨s, (e s).mpr h1, h2⟩⟩
theorem ctB_rg : ∀ (b : Nat) (S : Nat → Prop), 0 ≤ ctB w b S ∧ ctB w b S ≤ ((10 ^ b : Nat) : Int)
  | 0, S => by
    unfold ctB
    split <;> simp
  | b + 1, S => by
    unfold ctB
    have := isum_rg (f := fun g => ctB w b (RB2 w g S)) (B := ((10 ^ b : Nat) : Int)) (fun i => ctB_rg b _) (Int.natCast_nonneg _) 10
    rw [Nat.pow_succ]
    omega
theorem isum_0 {f : Nat → Int} : ∀ n, (∀ i, i < n → f i = 0) → isum f n = 0
  | 0, _ => rfl
  | n + 1, h => by
    rw [isum, isum_0 n (fun i hi => h i (by omega)), h n (by omega)]
    rfl
theorem ctB_no : ∀ (b : Nat) (S : Nat → Prop), (¬ ∃ t, S t ∧ TL w b t) → ctB w b S = 0
  | 0, S, h => by
    unfold ctB
    rw [if_neg (fun z => h ⟨0, z, by rw [TL_0]⟩)]
  | b + 1, S, h => by
    unfold ctB
    refine isum_0 10 (fun g hg => ctB_no b _ (fun ⟨t, ⟨s, h1, h2⟩, gs, h3, h4, h5⟩ => h ⟨t + s, h2, g :: gs, by rw [List.length_cons, h3], fun x hx => ?_, s, h1, by omega, ?_⟩))
    · rcases List.mem_cons.mp hx with rfl | hx
      · exact hg
      · exact h4 x hx
    · rw [show t + s - s = t by omega]
      exact h5
/-- digits of like counts, gathered -/
def GI (w : Nat → Int) (τ : xM) (D : Nat) : Prop := ∃ G : Nat, τ 96 4 = G ∧ G ≤ D ∧ (∀ j, j < G → ∃ x : Nat, x < 10 ∧ τ 98 j = x) ∧ (∀ j, j < G → 0 ≤ τ 99 j ∧ τ 99 j ≤ D) ∧ (∀ F : Nat → Int, (∀ g g', g < 10 → g' < 10 → KN w g = KN w g' → F g = F g') → isum (fun j => τ 99 j * F (τ 98 j).toNat) G = isum F D)
/-- class cells of the count -/
def numC (σ τ : xM) : Prop := chg [97, 98, 99] [(96, 4)] σ τ
theorem s118K (hF : Cform σ) (c : numC σ τ) (hg : g < 10) : ∀ d, Ev X (d + 1) 118 0 [some (vr 96), some (vi g), none, none] [] SH τ = some (some (vi (KN (σ 102) g)), SH, τ) := by
  intro d
  obtain ⟨h4, hW, -, -⟩ := hF
  have t4 : τ 4 = σ 4 := chg_row c (fun _ => rfl) rfl
  have w1 := hW.1 (2 * g) (by omega)
  have w1' := hW.2.1 g hg
  have w2 := hW.1 (2 * g + 1) (by omega)
  have i1 : xmul 2 (g : Int) = ((2 * g : Nat) : Int) := by rw [xmul_eq (by omega) (by omega)]; omega
  have i2 : xadd ((2 * g : Nat) : Int) 0 = ((2 * g : Nat) : Int) := by rw [xadd_eq (by omega) (by omega)]; omega
  have i3 : xadd ((2 * g : Nat) : Int) 1 = ((2 * g + 1 : Nat) : Int) := by rw [xadd_eq (by omega) (by omega)]; omega
  have e0 : f70 τ g 0 = σ 102 (2 * g) := by
    unfold f70
    rw [if_neg (by omega), if_neg (by omega), if_neg (by decide), if_neg (by decide), i1, i2, Int.toNat_natCast, t4, h4 _ (by omega), if_pos (by omega)]
  have e1 : f70 τ g 1 = if σ 102 (2 * g + 1) ≠ 0 then σ 102 (2 * g + 1) else -1 := by
    unfold f70
    rw [if_neg (by omega), if_neg (by omega), if_neg (by decide), if_neg (by decide), i1, i3, Int.toNat_natCast, t4, h4 _ (by omega)]
  have p1 := pn_pc (σ 102 (2 * g))
  have p2 := pn_pc (σ 102 (2 * g + 1))
  refine Eq.trans s118 ?_
  have v : f118 τ g = KN (σ 102) g := by
    unfold f118 KN
    rw [e0, e1, f319_pc (a := σ 102 (2 * g)) (by omega) (by omega), p1.1]
    have q1 : 2 ^ pn (σ 102 (2 * g)) < 256 := Nat.lt_of_le_of_lt (Nat.pow_le_pow_right (by decide) p1.2) (by decide)
    by_cases z : σ 102 (2 * g + 1) ≠ 0
    · rw [if_pos z, if_pos (by omega), if_pos z, f319_pc (a := σ 102 (2 * g + 1)) (by omega) (by omega), p2.1, xshl_1 (pn (σ 102 (2 * g))) (by omega)]
      exact xor_2 q1 (by omega)
    · rw [if_neg z, if_neg (by omega), if_neg z]
      exact xshl_1 _ (by omega)
  rw [v]
theorem isum_up {f : Nat → Int} {j : Nat} {c : Int} : ∀ n, j < n → isum (fun i => if i = j then f i + c else f i) n = isum f n + c
  | 0, h => by omega
  | n + 1, h => by
    rw [isum, isum]
    by_cases e : j = n
    · subst e
      rw [isum_congr (g := f) j (fun i hi => if_neg (by omega)), if_pos rfl]
      omega
    · rw [isum_up n (by omega), if_neg (fun z => e z.symm)]
      omega
/-- where a digit's like stands, or none -/
theorem it117g (hF : Cform σ) (c : numC σ τ) {D G : Nat} (hD : D < 10) (hG : τ 96 4 = G) (hG2 : G ≤ D) (h98 : ∀ j, j < G → ∃ x : Nat, x < 10 ∧ τ 98 j = x) : ∀ (q i : Nat), i + q = G → ∃ j : Nat, j ≤ G ∧ (j < G → KN (σ 102) (τ 98 j).toNat = KN (σ 102) D) ∧ ∀ d, Ev X (d + 2) 117 15 [some (vr 96), some (vi D), some (vi i)] [] SH τ = Ev X (d + 2) 117 47 [some (vr 96), some (vi D), some (vi j)] [] SH τ := by
  intro q
  induction q with
  | zero =>
    intro i e
    obtain rfl : i = G := by omega
    refine ⟨i, Nat.le_refl _, fun z => by omega, fun d => ?_⟩
    rw [b117_15, if_pos (by omega)]
  | succ q ih =>
    intro i e
    obtain ⟨x, x1, x2⟩ := h98 i (by omega)
    have s1 := s118K (X := X) hF c x1
    have s2 := s118K (X := X) hF c hD
    have e1 : ∀ d, Ev X (d + 2) 117 15 [some (vr 96), some (vi D), some (vi i)] [] SH τ = Ev X (d + 2) 117 38 [some (vr 96), some (vi D), some (vi i)] [vi (KN (σ 102) D), vi (KN (σ 102) x)] SH τ := by
      intro d
      rw [b117_15, if_neg (by omega)]
      refine Eq.trans (b117_23 (by omega)) ?_
      rw [Int.toNat_natCast, x2]
      refine x_bind (s1 d) ?_
      dsimp only
      refine Eq.trans b117_33 ?_
      refine x_bind (s2 d) ?_
      rfl
    by_cases z : KN (σ 102) x = KN (σ 102) D
    · refine ⟨i, by omega, fun _ => by rw [x2, Int.toNat_natCast]; exact z, fun d => ?_⟩
      rw [e1, b117_38, if_pos (by omega)]
    · obtain ⟨j, j1, j2, j3⟩ := ih (i + 1) (by omega)
      refine ⟨j, j1, j2, fun d => ?_⟩
      rw [e1, b117_38, if_neg (by omega), b117_41, xadd_eq (by omega) (by omega)]
      exact j3 d
theorem it117 (hF : Cform σ) : ∀ (q D : Nat) (o2 : Option xV) (τ : xM), D + q = 10 → numC σ τ → GI (σ 102) τ D → ∃ τ', numC σ τ' ∧ chg [98, 99] [(96, 4)] τ τ' ∧ GI (σ 102) τ' 10 ∧ ∀ d, Ev X (d + 2) 117 7 [some (vr 96), some (vi D), o2] [] SH τ = some (none, SH, τ') := by
  intro q
  induction q with
  | zero =>
    intro D o2 τ e c h
    obtain rfl : D = 10 := by omega
    refine ⟨τ, c, chg_rf, h, fun d => ?_⟩
    rw [b117_7, if_pos (by omega), b117_95]
  | succ q ih =>
    intro D o2 τ e c h
    obtain ⟨G, g1, g2, g3, g4, g5⟩ := h
    obtain ⟨j, j1, j2, j3⟩ := it117g (X := X) hF c (show D < 10 by omega) g1 g2 g3 G 0 (by omega)
    by_cases y : j = G
    · subst y
      have nx : GI (σ 102) (xwr (xwr (xwr (xwr τ 98 j D) 99 j 0) 96 4 ((j : Int) + 1)) 99 j 1) (D + 1) := by
        refine ⟨j + 1, ?_, by omega, fun i hi => ?_, fun i hi => ?_, fun F hFr => ?_⟩
        · simp (disch := decide) only [xwr_nk, xwr_eq]; omega
        · simp (disch := decide) only [xwr_nk]
          by_cases z : i = j
          · subst z; exact ⟨D, by omega, xwr_eq⟩
          · rw [xwr_nj z]; exact g3 i (by omega)
        · by_cases z : i = j
          · subst z; rw [xwr_eq]; omega
          · rw [xwr_nj z, xwr_nk (by decide), xwr_nj z, xwr_nk (by decide)]
            have := g4 i (by omega)
            omega
        · rw [isum, isum, ← g5 F hFr]
          refine congr (congrArg HAdd.hAdd (isum_congr j (fun i hi => ?_))) ?_
          · have z : i ≠ j := by omega
            simp (disch := first | decide | assumption) only [xwr_nk, xwr_nj]
          · simp (disch := decide) only [xwr_nk, xwr_eq]
            rw [Int.toNat_natCast, Int.one_mul]
      obtain ⟨τ', a1, a2, a3, a4⟩ := ih (D + 1) (some (vi j)) _ (by omega) (chg_wr rfl (chg_wr rfl (chg_wr rfl (chg_wr rfl c)))) nx
      refine ⟨τ', a1, chg_tr (chg_wr rfl (chg_wr rfl (chg_wr rfl (chg_wr rfl chg_rf)))) a2, a3, fun d => ?_⟩
      rw [b117_7, if_neg (by omega), b117_13]
      refine (j3 d).trans ?_
      have xj : xadd (j : Int) 1 = (j : Int) + 1 := xadd_eq (by omega) (by omega)
      have xD : xadd (D : Int) 1 = ((D + 1 : Nat) : Int) := xadd_eq (by omega) (by omega)
      have x01 : xadd 0 1 = 1 := by decide
      rw [b117_47, if_neg (by omega), b117_55 (by omega), b117_79 (by omega), Int.toNat_natCast, g1, xj, xD]
      rw [show (xwr (xwr (xwr τ 98 j (D : Int)) 99 j 0) 96 4 ((j : Int) + 1)) 99 j = 0 by simp (disch := decide) only [xwr_nk, xwr_eq]]
      rw [x01]
      exact a4 d
    · have jG : j < G := by omega
      have kk := j2 jG
      obtain ⟨x, x1, x2⟩ := g3 j jG
      have b4 := g4 j jG
      rw [x2, Int.toNat_natCast] at kk
      have nx : GI (σ 102) (xwr τ 99 j (τ 99 j + 1)) (D + 1) := by
        refine ⟨G, by rw [xwr_nk (by decide)]; exact g1, by omega, fun i hi => by rw [xwr_nk (by decide)]; exact g3 i hi, fun i hi => ?_, fun F hFr => ?_⟩
        · by_cases z : i = j
          · subst z; rw [xwr_eq]; omega
          · rw [xwr_nj z]
            have := g4 i hi
            omega
        · rw [isum, ← g5 F hFr, ← hFr x D x1 (by omega) kk, ← isum_up (f := fun i => τ 99 i * F (τ 98 i).toNat) (j := j) G jG]
          refine isum_congr G (fun i hi => ?_)
          by_cases z : i = j
          · subst z
            rw [if_pos rfl, xwr_eq, xwr_nk (by decide), Int.add_mul, x2, Int.toNat_natCast, Int.one_mul]
          · rw [if_neg z, xwr_nj z, xwr_nk (by decide)]
      obtain ⟨τ', a1, a2, a3, a4⟩ := ih (D + 1) (some (vi j)) _ (by omega) (chg_wr rfl c) nx
      refine ⟨τ', a1, chg_tr (chg_wr rfl chg_rf) a2, a3, fun d => ?_⟩
      rw [b117_7, if_neg (by omega), b117_13]
      refine (j3 d).trans ?_
      rw [b117_47, if_pos (by omega), b117_79 (by omega), Int.toNat_natCast, xadd_eq (by omega) (by omega), xadd_eq (by omega) (by omega)]
      exact a4 d
theorem s117 (hF : Cform σ) (c : numC σ τ) : ∃ τ', numC σ τ' ∧ chg [98, 99] [(96, 4)] τ τ' ∧ GI (σ 102) τ' 10 ∧ ∀ d, Ev X (d + 2) 117 0 [some (vr 96), none, none] [] SH τ = some (none, SH, τ') := by
  obtain ⟨τ', a1, a2, a3, a4⟩ := it117 (X := X) hF 10 0 none (xwr τ 96 4 0) (by omega) (chg_wr rfl c) ⟨0, xwr_eq, Nat.le_refl _, fun j hj => by omega, fun j hj => by omega, fun F _ => rfl⟩
  refine ⟨τ', a1, chg_tr (chg_wr rfl chg_rf) a2, a3, fun d => ?_⟩
  rw [b117_0]
  exact a4 d
end CNT
