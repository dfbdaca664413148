/-! THE LAW: what is wanted, worked off on both sides -/
def JN (c x y : Int) : Int := if c = -1062 then (if lcmp' x y ≤ 0 then 0 else 1) else if c = -1061 then (if lcmp' x y ≠ 0 then 0 else 1) else if c = -1060 then (if 0 ≤ lcmp' x y then 0 else 1) else if c = -1045 then lsub' x y else if c = -1043 then ladd' x y else if c = -7 then (if lcmp' x 0 = 0 then 0 else if lcmp' y 0 = 0 then 0 else 1) else if c = -6 then (if lcmp' x 0 ≠ 0 then 1 else if lcmp' y 0 = 0 then 0 else 1) else lmul' x y
def lvl (l r s f c : Int) : Int := if 0 ≤ c then c else if c = -1 then l else if c = -2 then r else if c = -3 then s else f
/-- the pile behind i codes -/
def lst (cd : Nat → Int) (l r s f : Int) : Nat → Nat → Int
  | 0 => fun _ => 0
  | i + 1 => fun j => if -4 ≤ cd i then (if j = (dp cd i).toNat then lvl l r s f (cd i) else lst cd l r s f i j) else if cd i = -5 then (if j = (dp cd i).toNat - 1 then (if lcmp' (lst cd l r s f i ((dp cd i).toNat - 1)) 0 ≠ 0 then 0 else 1) else lst cd l r s f i j) else (if j = (dp cd i).toNat - 2 then JN (cd i) (lst cd l r s f i ((dp cd i).toNat - 2)) (lst cd l r s f i ((dp cd i).toNat - 1)) else lst cd l r s f i j)
/-- whether the law allows it -/
def lawV (cd : Nat → Int) (len : Nat) (l r s f : Int) : Int := if len = 0 then 1 else if lcmp' (lst cd l r s f len 0) 0 = 0 then 0 else 1
/-- what was changed, as a list, and nothing beside it -/
def chs (CA : List Nat) (CS : List (Nat × Nat)) (σ τ : xM) : Prop := ∀ k j, pin CA CS k j = false → τ k j = σ k j
section CHS
variable {CA : List Nat} {CS : List (Nat × Nat)} {σ τ ρ : xM}
theorem chs_rf : chs CA CS σ σ := fun _ _ _ => rfl
theorem chs_tr (h : chs CA CS σ τ) (g : chs CA CS τ ρ) : chs CA CS σ ρ := fun k j a => (g k j a).trans (h k j a)
theorem chs_wr {k j : Nat} {x : Int} (h : pin CA CS k j = true) (e : chs CA CS σ τ) : chs CA CS σ (xwr τ k j x) := by
  intro a b h1
  rw [← e a b h1]
  refine if_neg (fun z => ?_)
  rw [z.1, z.2, h] at h1
  cases h1
theorem chs_g (h : chs CA CS σ τ) : chg CA CS σ τ := fun k j a _ => h k j a
end CHS
section LAW
variable {X : Nat × (Nat → Int)} {σ μ τ ν : xM} {len n k1 : Nat} {cd : Nat → Int} {l r s f : Int}
theorem s90 {c x y : Int} (d : Nat) : Ev X d 90 0 [some (vi c), some (vl x), none, some (vl y), none] [] SH σ = some (some (vl (JN c x y)), SH, σ) := by
  unfold JN
  rw [b90_0]
  by_cases c1 : c = -1062
  · rw [if_pos c1, if_pos c1, b90_116]
    split
    · rw [b90_126, b90_127]
    · rw [b90_122, b90_127]
  rw [if_neg c1, if_neg c1]
  by_cases c2 : c = -1061
  · rw [if_pos c2, if_pos c2, b90_128]
    split
    · rw [b90_138, b90_139]
    · rw [b90_134, b90_139]
  rw [if_neg c2, if_neg c2]
  by_cases c3 : c = -1060
  · rw [if_pos c3, if_pos c3, b90_104]
    split
    · rw [b90_114, b90_115]
    · rw [b90_110, b90_115]
  rw [if_neg c3, if_neg c3]
  by_cases c4 : c = -1045
  · rw [if_pos c4, if_pos c4, b90_144]
  rw [if_neg c4, if_neg c4]
  by_cases c5 : c = -1043
  · rw [if_pos c5, if_pos c5, b90_140]
  rw [if_neg c5, if_neg c5]
  by_cases c6 : c = -7
  · rw [if_pos c6, if_pos c6, b90_86]
    split
    · rw [b90_102, b90_103]
    · rw [b90_92]
      split
      · rw [b90_102, b90_103]
      · rw [b90_98, b90_103]
  rw [if_neg c6, if_neg c6]
  by_cases c7 : c = -6
  · rw [if_pos c7, if_pos c7, b90_68]
    split
    · rw [b90_80, b90_85]
    · rw [b90_74]
      split
      · rw [b90_84, b90_85]
      · rw [b90_80, b90_85]
  rw [if_neg c7, if_neg c7, b90_148]
theorem s253 {c q x y : Int} (h : (c = -6 ∧ q = 20) ∨ (c = -7 ∧ q = 21) ∨ (c = -1060 ∧ q = 24) ∨ (c = -1062 ∧ q = 25) ∨ (c = -1061 ∧ q = 23) ∨ (c = -1043 ∧ q = 26) ∨ (c = -1045 ∧ q = 27) ∨ (c = -1042 ∧ q = 28)) (d : Nat) : Ev X d 253 0 [some (vi q), some (vl x), none, some (vl y), none] [] SH σ = some (some (vl (JN c x y)), SH, σ) := by
  unfold JN
  rw [b253_0]
  rcases h with ⟨a, b⟩ | ⟨a, b⟩ | ⟨a, b⟩ | ⟨a, b⟩ | ⟨a, b⟩ | ⟨a, b⟩ | ⟨a, b⟩ | ⟨a, b⟩ <;> subst a <;> subst b
  · simp only [Int.reduceNeg, Int.reduceEq, if_true, if_false]
    rw [b253_48]
    split
    · rw [b253_60, b253_65]
    · rw [b253_54]
      split
      · rw [b253_64, b253_65]
      · rw [b253_60, b253_65]
  · simp only [Int.reduceNeg, Int.reduceEq, if_true, if_false]
    rw [b253_66]
    split
    · rw [b253_82, b253_83]
    · rw [b253_72]
      split
      · rw [b253_82, b253_83]
      · rw [b253_78, b253_83]
  · simp only [Int.reduceNeg, Int.reduceEq, if_true, if_false]
    rw [b253_96]
    split
    · rw [b253_106, b253_107]
    · rw [b253_102, b253_107]
  · simp only [Int.reduceNeg, Int.reduceEq, if_true, if_false]
    rw [b253_108]
    split
    · rw [b253_118, b253_119]
    · rw [b253_114, b253_119]
  · simp only [Int.reduceNeg, Int.reduceEq, if_true, if_false]
    rw [b253_84]
    split
    · rw [b253_94, b253_95]
    · rw [b253_90, b253_95]
  · simp only [Int.reduceNeg, Int.reduceEq, if_true, if_false]
    rw [b253_120]
  · simp only [Int.reduceNeg, Int.reduceEq, if_true, if_false]
    rw [b253_124]
  · simp only [Int.reduceNeg, Int.reduceEq, if_true, if_false]
    rw [b253_128]
theorem p88 {h : Nat} {v : Int} (e : τ 10 8 = (h : Int)) (hh : h < 64) (d : Nat) : Ev X d 88 0 [some (vr 10), some (vl v), none] [] SH τ = some (none, SH, xwr (xwr τ 13 h v) 10 8 ((h + 1 : Nat) : Int)) := by
  rw [b88_0, if_neg (by omega), b88_9 (by omega), b88_29, e, Int.toNat_natCast, xadd_eq (by omega) (by omega)]
  rfl
theorem p89 {h : Nat} (e : τ 10 8 = ((h + 1 : Nat) : Int)) (hh : h < 64) (d : Nat) : Ev X d 89 0 [some (vr 10)] [] SH τ = some (some (vl (τ 13 h)), SH, xwr τ 10 8 (h : Int)) := by
  have x : xsub ((h + 1 : Nat) : Int) 1 = (h : Int) := by
    rw [xsub_eq (by omega) (by omega)]
    omega
  rw [b89_0, if_pos (by omega), b89_9 (by rw [e, x]; omega), e, x, Int.toNat_natCast]
theorem dp_nn (w : WFP cd len) {i : Nat} (hi : i ≤ len) : 0 ≤ dp cd i ∧ dp cd i ≤ 40 := by
  refine ⟨?_, w.1 i hi⟩
  cases i with
  | zero => exact Int.le_refl 0
  | succ i =>
    have := w.2.1 i (by omega)
    omega
theorem it87 (w : WFP cd len) (hl : len ≤ 200) (h0 : len ≠ 0) : ∀ (m i : Nat) (τ : xM), i + m = len → τ 10 8 = dp cd i → (∀ j, j < (dp cd i).toNat → τ 13 j = lst cd l r s f i j) → τ 11 = cd → τ 10 2 = (len : Int) → ∃ τ', (∀ d o6 o7 o8, Ev X (d + 1) 87 17 [some (vr 10), some (vi l), some (vi r), some (vi s), some (vi f), some (vi i), o6, o7, o8] [] SH τ = some (some (vi (lawV cd len l r s f)), SH, τ')) ∧ chs [13] [(10, 8)] τ τ' := by
  intro m
  induction m with
  | zero =>
    intro i τ e e1 e2 e3 e4
    have e : i = len := by omega
    subst e
    have one := w.2.2 h0
    rw [one] at e1 e2
    refine ⟨xwr τ 10 8 ((0 : Nat) : Int), fun d o6 o7 o8 => ?_, chs_wr rfl chs_rf⟩
    rw [b87_17, if_pos (by omega)]
    refine Eq.trans b87_165 ?_
    refine x_bind (p89 (h := 0) e1 (by decide) _) ?_
    dsimp only
    refine Eq.trans b87_169 ?_
    rw [e2 0 (by decide)]
    unfold lawV
    rw [if_neg h0]
    split
    · rw [b87_178, b87_179 (Or.inl rfl)]
    · rw [b87_174, b87_179 (Or.inr rfl)]
  | succ m ih =>
    intro i τ e e1 e2 e3 e4
    have xi : xadd (i : Int) 1 = ((i + 1 : Nat) : Int) := xadd_eq (by omega) (by omega)
    obtain ⟨n0, n1⟩ := dp_nn w (i := i) (by omega)
    have n2 := w.2.1 i (by omega)
    have n3 := w.1 (i + 1) (by omega)
    obtain ⟨h, hh⟩ : ∃ h : Nat, dp cd i = (h : Int) := ⟨(dp cd i).toNat, by omega⟩
    have st : ∀ d o6 o7 o8, Ev X (d + 1) 87 17 [some (vr 10), some (vi l), some (vi r), some (vi s), some (vi f), some (vi i), o6, o7, o8] [] SH τ = if cd i < 0 then Ev X (d + 1) 87 58 [some (vr 10), some (vi l), some (vi r), some (vi s), some (vi f), some (vi i), some (vi (cd i)), o7, o8] [] SH τ else Ev X (d + 1) 87 48 [some (vr 10), some (vi l), some (vi r), some (vi s), some (vi f), some (vi i), some (vi (cd i)), o7, o8] [] SH τ := by
      intro d o6 o7 o8
      rw [b87_17, if_neg (by omega), b87_26, if_neg (by omega), b87_34 (by omega), Int.toNat_natCast, e3]
    by_cases lf : -4 ≤ cd i
    · have ds : dp cd (i + 1) = dp cd i + 1 := by
        rw [dp, dl, if_pos lf]
      obtain ⟨τ', p1, p2⟩ := ih (i + 1) (xwr (xwr τ 13 h (lvl l r s f (cd i))) 10 8 ((h + 1 : Nat) : Int)) (by omega) (by rw [xwr_eq, ds]; omega) (fun j hj => by
        rw [xwr_row (by decide), xwr_rw, lst]
        dsimp only
        rw [if_pos lf, hh, Int.toNat_natCast]
        by_cases y : j = h
        · rw [if_pos y, if_pos y]
        · rw [if_neg y, if_neg y]
          exact e2 j (by omega)) (by rw [xwr_row (by decide), xwr_row (by decide)]; exact e3) (by rw [xwr_nj (by decide), xwr_nk (by decide)]; exact e4)
      refine ⟨τ', fun d o6 o7 o8 => ?_, chs_tr (chs_wr rfl (chs_wr rfl chs_rf)) p2⟩
      rw [st]
      by_cases y : cd i < 0
      · have tl : ∀ v, lvl l r s f (cd i) = v → Ev X (d + 1) 87 104 [some (vr 10), some (vi l), some (vi r), some (vi s), some (vi f), some (vi i), some (vi (cd i)), o7, o8] [vl v, vr 10] SH τ = some (some (vi (lawV cd len l r s f)), SH, τ') := by
          intro v hv
          refine Eq.trans b87_104 ?_
          refine x_bind (p88 (e1.trans hh) (by omega) _) ?_
          dsimp only
          refine Eq.trans b87_107 ?_
          rw [b87_159, xi, ← hv]
          exact p1 d _ _ _
        rw [if_pos y, b87_58, if_neg (by omega), b87_65]
        by_cases y1 : cd i = -1
        · rw [if_neg (fun z => z y1), b87_72, tl l (by unfold lvl; rw [if_neg (by omega), if_pos y1])]
        · rw [if_pos y1, b87_77]
          by_cases y2 : cd i = -2
          · rw [if_neg (fun z => z y2), b87_84, tl r (by unfold lvl; rw [if_neg (by omega), if_neg y1, if_pos y2])]
          · rw [if_pos y2, b87_89]
            by_cases y3 : cd i = -3
            · rw [if_neg (fun z => z y3), b87_96, tl s (by unfold lvl; rw [if_neg (by omega), if_neg y1, if_neg y2, if_pos y3])]
            · rw [if_pos y3, b87_101, tl f (by unfold lvl; rw [if_neg (by omega), if_neg y1, if_neg y2, if_neg y3])]
      · rw [if_neg y]
        refine Eq.trans b87_48 ?_
        refine x_bind (p88 (e1.trans hh) (by omega) _) ?_
        dsimp only
        refine Eq.trans b87_55 ?_
        rw [b87_159, xi]
        have : lvl l r s f (cd i) = cd i := by
          unfold lvl
          rw [if_pos (by omega)]
        rw [← this, this]
        rw [this] at p1
        exact p1 d _ _ _
    · by_cases nt : cd i = -5
      · have ds : dp cd (i + 1) = dp cd i := by
          rw [dp, dl, if_neg lf, if_pos nt]
          omega
        obtain ⟨g, hg⟩ : ∃ g : Nat, h = g + 1 := ⟨h - 1, by omega⟩
        subst hg
        have vq : ∀ q : Int, q = (if lcmp' (τ 13 g) 0 ≠ 0 then 0 else 1) → ∃ τ', (∀ d o6 o7 o8, Ev X (d + 1) 87 17 [some (vr 10), some (vi l), some (vi r), some (vi s), some (vi f), some (vi ((i + 1 : Nat) : Int)), o6, o7, o8] [] SH (xwr (xwr (xwr τ 10 8 (g : Int)) 13 g q) 10 8 ((g + 1 : Nat) : Int)) = some (some (vi (lawV cd len l r s f)), SH, τ')) ∧ chs [13] [(10, 8)] (xwr (xwr (xwr τ 10 8 (g : Int)) 13 g q) 10 8 ((g + 1 : Nat) : Int)) τ' := by
          intro q hq
          refine ih (i + 1) _ (by omega) (by rw [xwr_eq, ds, hh]) (fun j hj => ?_) (by rw [xwr_row (by decide), xwr_row (by decide), xwr_row (by decide)]; exact e3) (by rw [xwr_nj (by decide), xwr_nk (by decide), xwr_nj (by decide)]; exact e4)
          rw [xwr_row (by decide), xwr_rw, lst]
          dsimp only
          rw [if_neg lf, if_pos nt, hh, Int.toNat_natCast, Nat.add_sub_cancel]
          by_cases y : j = g
          · rw [if_pos y, if_pos y, hq, e2 g (by omega)]
          · rw [if_neg y, if_neg y, xwr_row (by decide)]
            exact e2 j (by omega)
        obtain ⟨τ', p1, p2⟩ := vq _ rfl
        refine ⟨τ', fun d o6 o7 o8 => ?_, chs_tr (chs_wr rfl (chs_wr rfl (chs_wr rfl chs_rf))) p2⟩
        rw [st, if_pos (by omega), b87_58, if_pos (by omega), b87_110, if_neg (fun z => z nt)]
        refine Eq.trans b87_117 ?_
        refine x_bind (p89 (e1.trans hh) (by omega) _) ?_
        dsimp only
        refine Eq.trans (b87_122 (t1 := τ 13 g)) ?_
        have tl : ∀ v, v = (if lcmp' (τ 13 g) 0 ≠ 0 then (0 : Int) else 1) → Ev X (d + 1) 87 132 [some (vr 10), some (vi l), some (vi r), some (vi s), some (vi f), some (vi i), some (vi (cd i)), o7, o8] [vl v, vr 10] SH (xwr τ 10 8 (g : Int)) = some (some (vi (lawV cd len l r s f)), SH, τ') := by
          intro v hv
          refine Eq.trans b87_132 ?_
          refine x_bind (p88 (h := g) xwr_eq (by omega) _) ?_
          dsimp only
          refine Eq.trans b87_135 ?_
          rw [b87_159, xi, hv]
          exact p1 d _ _ _
        by_cases y : lcmp' (τ 13 g) 0 ≠ 0
        · rw [if_pos y, b87_131, tl 0 (by rw [if_pos y])]
        · rw [if_neg y, b87_127, tl 1 (by rw [if_neg y])]
      · have ds : dp cd (i + 1) = dp cd i - 1 := by
          rw [dp, dl, if_neg lf, if_neg nt]
          omega
        obtain ⟨g, hg⟩ : ∃ g : Nat, h = g + 2 := ⟨h - 2, by omega⟩
        subst hg
        have s1 : (xwr τ 10 8 ((g + 1 : Nat) : Int)) 13 = τ 13 := xwr_row (by decide)
        have vq : ∃ τ', (∀ d o6 o7 o8, Ev X (d + 1) 87 17 [some (vr 10), some (vi l), some (vi r), some (vi s), some (vi f), some (vi ((i + 1 : Nat) : Int)), o6, o7, o8] [] SH (xwr (xwr (xwr (xwr τ 10 8 ((g + 1 : Nat) : Int)) 10 8 (g : Int)) 13 g (JN (cd i) (τ 13 g) (τ 13 (g + 1)))) 10 8 ((g + 1 : Nat) : Int)) = some (some (vi (lawV cd len l r s f)), SH, τ')) ∧ chs [13] [(10, 8)] (xwr (xwr (xwr (xwr τ 10 8 ((g + 1 : Nat) : Int)) 10 8 (g : Int)) 13 g (JN (cd i) (τ 13 g) (τ 13 (g + 1)))) 10 8 ((g + 1 : Nat) : Int)) τ' := by
          refine ih (i + 1) _ (by omega) (by rw [xwr_eq, ds, hh]; omega) (fun j hj => ?_) (by rw [xwr_row (by decide), xwr_row (by decide), xwr_row (by decide), xwr_row (by decide)]; exact e3) (by rw [xwr_nj (by decide), xwr_nk (by decide), xwr_nj (by decide), xwr_nj (by decide)]; exact e4)
          rw [xwr_row (by decide), xwr_rw, lst]
          dsimp only
          rw [if_neg lf, if_neg nt, hh, Int.toNat_natCast, Nat.add_sub_cancel, show g + 2 - 1 = g + 1 by omega]
          by_cases y : j = g
          · rw [if_pos y, if_pos y, e2 g (by omega), e2 (g + 1) (by omega)]
          · rw [if_neg y, if_neg y, xwr_row (by decide), xwr_row (by decide)]
            exact e2 j (by omega)
        obtain ⟨τ', p1, p2⟩ := vq
        refine ⟨τ', fun d o6 o7 o8 => ?_, chs_tr (chs_wr rfl (chs_wr rfl (chs_wr rfl (chs_wr rfl chs_rf)))) p2⟩
        rw [st, if_pos (by omega), b87_58, if_pos (by omega), b87_110, if_pos nt]
        refine Eq.trans b87_138 ?_
        refine x_bind (p89 (h := g + 1) (e1.trans hh) (by omega) _) ?_
        dsimp only
        refine Eq.trans (b87_142 (t0 := τ 13 (g + 1))) ?_
        refine x_bind (p89 (h := g) xwr_eq (by omega) _) ?_
        rw [s1]
        dsimp only
        refine Eq.trans (b87_151 (t2 := τ 13 g) (t1 := cd i)) ?_
        refine x_bind (s90 _) ?_
        dsimp only
        refine Eq.trans (b87_156 (t1 := JN (cd i) (τ 13 g) (τ 13 (g + 1)))) ?_
        refine x_bind (p88 (h := g) xwr_eq (by omega) _) ?_
        dsimp only
        refine Eq.trans b87_159 ?_
        rw [xi]
        exact p1 d _ _ _
theorem s87 (w : WFP cd len) (hl : len ≤ 200) (e3 : τ 11 = cd) (e4 : τ 10 2 = (len : Int)) : ∃ τ', (∀ d, Ev X (d + 1) 87 0 [some (vr 10), some (vi l), some (vi r), some (vi s), some (vi f), none, none, none, none] [] SH τ = some (some (vi (lawV cd len l r s f)), SH, τ')) ∧ chs [13] [(10, 8)] τ τ' := by
  by_cases h0 : len = 0
  · refine ⟨τ, fun d => ?_, chs_rf⟩
    rw [b87_0, if_neg (by omega), b87_7]
    unfold lawV
    rw [if_pos h0]
  · obtain ⟨τ', p1, p2⟩ := it87 (X := X) (l := l) (r := r) (s := s) (f := f) w hl h0 len 0 (xwr τ 10 8 0) (by omega) xwr_eq (fun j hj => absurd hj (by rw [dp]; exact Nat.not_lt_zero _)) ((xwr_row (by decide)).trans e3) ((xwr_nj (by decide)).trans e4)
    refine ⟨τ', fun d => ?_, chs_tr (chs_wr rfl chs_rf) p2⟩
    rw [b87_0, if_pos (by omega), b87_9]
    exact p1 d _ _ _
end LAW
