/-! WALKS, in the model: one step of advance -/
def AC : List (Nat × Nat) := [(100, 47)]
def ODO (n : Nat) (mo : Nat → List Nat) (ct cl : Nat → Nat → Nat) (B : Nat → Nat → Int) (mg ml : Int) (μ : xM) : Prop := μ 100 16 = (n : Int) ∧ n ≤ 11 ∧ μ 100 48 = mg ∧ μ 100 49 = ml ∧ ∀ c, c < n → (mo c).length ≤ 20 ∧ μ 123 c = ((mo c).length : Int) ∧ (0 ≤ μ 126 c ∧ μ 126 c < 128) ∧ ∀ (e : Nat) (h : e < (mo c).length), μ 122 (20 * c + e) = B c (mo c)[e] ∧ (0 ≤ B c (mo c)[e] ∧ B c (mo c)[e] < 128) ∧ dfN (μ 126 c) (B c (mo c)[e]) = ct c (mo c)[e] ∧ dfN (B c (mo c)[e]) (μ 126 c) = cl c (mo c)[e]
def MST (ct cl : Nat → Nat → Nat) (B : Nat → Nat → Int) (l : Nat) (p nx : Nat → Nat) (μ : xM) : Prop := μ 100 47 = (l : Int) ∧ (∀ j, j ≤ l → μ 124 j = (nx j : Int) - 1) ∧ (∀ j, j < l → μ 125 j = B j (p j)) ∧ ∀ j, j ≤ l → μ 127 j = (nsum (fun c => ct c (p c)) j : Int) ∧ μ 128 j = (nsum (fun c => cl c (p c)) j : Int)
/-- too much is taken or laid -/
def ovr (mg ml : Int) (t l : Nat) : Prop := 0 ≤ mg ∧ (mg < (t : Int) ∨ ml < (l : Int))
def fit (mg ml : Int) (t l : Nat) : Prop := mg < 0 ∨ ((t : Int) = mg ∧ (l : Int) = ml)
section ADV
variable {X : Nat × (Nat → Int)} {μ0 μ : xM} {n l : Nat} {mo : Nat → List Nat} {ct cl : Nat → Nat → Nat} {B : Nat → Nat → Int} {mg ml : Int} {p nx : Nat → Nat}
theorem b246_0' {d : Nat} {o1 o2 o3 : Option xV} {σ : xM} : Ev X d 246 0 [some (vr 100), o1, o2, o3] [] SH σ = if (σ 100 47) < 0 then Ev X d 246 252 [some (vr 100), o1, o2, o3] [] SH σ else Ev X d 246 7 [some (vr 100), o1, o2, o3] [] SH σ := Eq.trans (b := (Ev X d 246 4 [some (vr 100), o1, o2, o3] [vi (σ 100 47)] SH σ)) (Ev_run (k := 2) rfl) (Ev_br rfl rfl rfl)
theorem dfN_7 {a b : Int} : dfN a b ≤ 7 := by
  unfold dfN
  have := pc_rg (xand a (xxor b (-1))).toNat
  omega
theorem dfN_i {a b : Int} : pc (xand a (xxor b (-1))).toNat = (dfN a b : Int) := by
  unfold dfN
  have := pc_rg (xand a (xxor b (-1))).toNat
  omega
/-- no option is left at a level -/
theorem adv_up (hO : ODO n mo ct cl B mg ml μ0) (hs : chs [124, 125, 127, 128] AC μ0 μ) (h47 : μ 100 47 = (l : Int)) (h124 : μ 124 l = (nx l : Int) - 1) (hl : l < n) (he : (mo l).length ≤ nx l) (hx : nx l ≤ 1000) : ∃ μ1, (∀ d o1 o2 o3, Ev X d 246 0 [some (vr 100), o1, o2, o3] [] SH μ = Ev X d 246 0 [some (vr 100), o1, o2, o3] [] SH μ1) ∧ chs [124, 125, 127, 128] AC μ0 μ1 ∧ μ1 100 47 = (l : Int) - 1 ∧ (∀ j, j < l → μ1 124 j = μ 124 j) ∧ μ1 125 = μ 125 ∧ μ1 127 = μ 127 ∧ μ1 128 = μ 128 := by
  obtain ⟨a1, a2, a3, a4, a5⟩ := hO
  have x1 : xadd (μ 124 l) 1 = (nx l : Int) := by
    rw [h124, xadd_eq (by omega) (by omega)]
    omega
  refine ⟨xwr (xwr μ 124 l (nx l : Int)) 100 47 ((l : Int) - 1), fun d o1 o2 o3 => ?_, chs_wr rfl (chs_wr rfl hs), xwr_eq, fun j hj => ?_, ?_, ?_, ?_⟩
  · rw [b246_0', if_neg (by omega), b246_7 (by omega) (by omega), h47, Int.toNat_natCast, x1, xwr_eq, show μ 123 l = μ0 123 l from hs 123 l rfl, (a5 l hl).2.1, if_neg (by omega), b246_41, xwr_nk (by decide), h47, xsub_eq (by omega) (by omega)]
  · rw [xwr_nk (by decide), xwr_nj (by omega)]
  · rw [xwr_row (by decide), xwr_row (by decide)]
  · rw [xwr_row (by decide), xwr_row (by decide)]
  · rw [xwr_row (by decide), xwr_row (by decide)]
/-- an option is taken -/
theorem adv_st (hO : ODO n mo ct cl B mg ml μ0) (hs : chs [124, 125, 127, 128] AC μ0 μ) (hM : MST ct cl B l p nx μ) (hl : l < n) (hb : nsum (fun c => ct c (p c)) l ≤ 1000 ∧ nsum (fun c => cl c (p c)) l ≤ 1000) {i : Nat} (he : nx l < (mo l).length) (hi : (mo l)[nx l] = i) : ∃ μ1, chs [124, 125, 127, 128] AC μ0 μ1 ∧ (∀ j, j < l → μ1 124 j = μ 124 j ∧ μ1 125 j = μ 125 j) ∧ μ1 124 l = (nx l : Int) ∧ μ1 125 l = B l i ∧ (∀ j, j ≤ l → μ1 127 j = μ 127 j ∧ μ1 128 j = μ 128 j) ∧ ((ovr mg ml (nsum (fun c => ct c (p c)) l + ct l i) (nsum (fun c => cl c (p c)) l + cl l i) ∧ μ1 100 47 = (l : Int) ∧ ∀ d o1 o2 o3, ∃ q1 q2 q3, Ev X (d + 1) 246 0 [some (vr 100), o1, o2, o3] [] SH μ = Ev X (d + 1) 246 0 [some (vr 100), q1, q2, q3] [] SH μ1) ∨ (¬ ovr mg ml (nsum (fun c => ct c (p c)) l + ct l i) (nsum (fun c => cl c (p c)) l + cl l i) ∧ μ1 127 (l + 1) = ((nsum (fun c => ct c (p c)) l + ct l i : Nat) : Int) ∧ μ1 128 (l + 1) = ((nsum (fun c => cl c (p c)) l + cl l i : Nat) : Int) ∧ ((l + 1 = n ∧ fit mg ml (nsum (fun c => ct c (p c)) l + ct l i) (nsum (fun c => cl c (p c)) l + cl l i) ∧ μ1 100 47 = (l : Int) ∧ ∀ d o1 o2 o3, Ev X (d + 1) 246 0 [some (vr 100), o1, o2, o3] [] SH μ = some (some (vi 1), SH, μ1)) ∨ (l + 1 = n ∧ ¬ fit mg ml (nsum (fun c => ct c (p c)) l + ct l i) (nsum (fun c => cl c (p c)) l + cl l i) ∧ μ1 100 47 = (l : Int) ∧ ∀ d o1 o2 o3, ∃ q1 q2 q3, Ev X (d + 1) 246 0 [some (vr 100), o1, o2, o3] [] SH μ = Ev X (d + 1) 246 0 [some (vr 100), q1, q2, q3] [] SH μ1) ∨ (l + 1 < n ∧ μ1 100 47 = ((l + 1 : Nat) : Int) ∧ μ1 124 (l + 1) = -1 ∧ ∀ d o1 o2 o3, ∃ q1 q2 q3, Ev X (d + 1) 246 0 [some (vr 100), o1, o2, o3] [] SH μ = Ev X (d + 1) 246 0 [some (vr 100), q1, q2, q3] [] SH μ1)))) := by
  obtain ⟨a1, a2, a3, a4, a5⟩ := hO
  obtain ⟨b1, b2, b3, b4⟩ := a5 l hl
  obtain ⟨c1, c2, c3, c4⟩ := b4 (nx l) he
  rw [hi] at c1 c2 c3 c4
  obtain ⟨m1, m2, m3, m4⟩ := hM
  obtain ⟨g1, g2⟩ := m4 l (Nat.le_refl _)
  have t7 : ct l i ≤ 7 := by rw [← c3]; exact dfN_7
  have l7 : cl l i ≤ 7 := by rw [← c4]; exact dfN_7
  have x1 : xadd (μ 124 l) 1 = (nx l : Int) := by
    rw [m2 l (Nat.le_refl _), xadd_eq (by omega) (by omega)]
    omega
  have e122 : μ 122 (20 * l + nx l) = B l i := (hs 122 _ rfl).trans c1
  have e126 : μ 126 l = μ0 126 l := hs 126 l rfl
  have e123 : μ 123 l = ((mo l).length : Int) := (hs 123 l rfl).trans b2
  have e48 : μ 100 48 = mg := (hs 100 48 rfl).trans a3
  have e49 : μ 100 49 = ml := (hs 100 49 rfl).trans a4
  have e16 : μ 100 16 = (n : Int) := (hs 100 16 rfl).trans a1
  generalize hA : xwr μ 124 l (nx l : Int) = μa
  have A47 : μa 100 47 = (l : Int) := by rw [← hA, xwr_nk (by decide)]; exact m1
  have A124 : μa 124 l = (nx l : Int) := by rw [← hA, xwr_eq]
  have A124' : ∀ j, j ≠ l → μa 124 j = μ 124 j := fun j hj => by rw [← hA, xwr_nj hj]
  have Ar : ∀ q, q ≠ 124 → μa q = μ q := fun q hq => by rw [← hA]; exact xwr_row hq
  have As : chs [124, 125, 127, 128] AC μ0 μa := by rw [← hA]; exact chs_wr rfl hs
  have xo : xadd (xmul 20 (μa 100 47)) (μa 124 l) = ((20 * l + nx l : Nat) : Int) := by
    rw [A47, A124, xmul_eq (by omega) (by omega), show (20 : Int) * (l : Int) = ((20 * l : Nat) : Int) by omega, xad (by omega)]
  have B126 := bndI b3.1 b3.2 c2.1 c2.2
  have B126' := bndI c2.1 c2.2 b3.1 b3.2
  -- up to the two counts
  have st : ∀ d o1 o2 o3, Ev X (d + 1) 246 0 [some (vr 100), o1, o2, o3] [] SH μ = if mg < 0 then Ev X (d + 1) 246 167 [some (vr 100), some (vi (B l i)), some (vi ((nsum (fun c => ct c (p c)) l + ct l i : Nat) : Int)), some (vi ((nsum (fun c => cl c (p c)) l + cl l i : Nat) : Int))] [] SH (xwr μa 125 l (B l i)) else Ev X (d + 1) 246 148 [some (vr 100), some (vi (B l i)), some (vi ((nsum (fun c => ct c (p c)) l + ct l i : Nat) : Int)), some (vi ((nsum (fun c => cl c (p c)) l + cl l i : Nat) : Int))] [] SH (xwr μa 125 l (B l i)) := by
    intro d o1 o2 o3
    rw [b246_0', if_neg (by omega), b246_7 (by omega) (by omega), m1, Int.toNat_natCast, x1, hA, A124, e123, if_pos (by omega)]
    refine Eq.trans (b246_54 (by omega) (by rw [A47, Int.toNat_natCast, ← A47, xo]; omega) (by omega)) ?_
    rw [show (μa 100 47).toNat = l by rw [A47]; exact Int.toNat_natCast _, xo, Int.toNat_natCast, Ar 126 (by decide), Ar 122 (by decide), Ar 127 (by decide), e122, e126, g1]
    refine x_bind (s247 B126.1 B126.2) ?_
    rw [dfN_i, c3]
    dsimp only
    refine Eq.trans (b246_102 (t1 := (ct l i : Int)) (t0 := (nsum (fun c => ct c (p c)) l : Int)) (by omega) (by omega)) ?_
    rw [show (μa 100 47).toNat = l by rw [A47]; exact Int.toNat_natCast _, Ar 126 (by decide), Ar 128 (by decide), e126, g2, xad (by omega)]
    refine x_bind (s247 B126'.1 B126'.2) ?_
    rw [dfN_i, c4]
    dsimp only
    refine Eq.trans (b246_129 (t1 := (cl l i : Int)) (t0 := (nsum (fun c => cl c (p c)) l : Int)) (by omega)) ?_
    rw [show (μa 100 47).toNat = l by rw [A47]; exact Int.toNat_natCast _, Ar 100 (by decide), e48, xad (by omega)]
  generalize nsum (fun c => ct c (p c)) l + ct l i = T at *
  generalize nsum (fun c => cl c (p c)) l + cl l i = L at *
  generalize hB : xwr μa 125 l (B l i) = μb
  rw [hB] at st
  have C47 : μb 100 47 = (l : Int) := by rw [← hB, xwr_nk (by decide)]; exact A47
  have C124 : ∀ j, μb 124 j = μa 124 j := fun j => by rw [← hB, xwr_nk (by decide)]
  have C125 : μb 125 l = B l i := by rw [← hB, xwr_eq]
  have C125' : ∀ j, j ≠ l → μb 125 j = μ 125 j := fun j hj => by rw [← hB, xwr_nj hj, Ar 125 (by decide)]
  have C127 : μb 127 = μ 127 := by rw [← hB, xwr_row (by decide), Ar 127 (by decide)]
  have C128 : μb 128 = μ 128 := by rw [← hB, xwr_row (by decide), Ar 128 (by decide)]
  have C100 : ∀ j, j ≠ 47 → μb 100 j = μ 100 j := fun j hj => by rw [← hB, xwr_nk (by decide), Ar 100 (by decide)]
  have Cs : chs [124, 125, 127, 128] AC μ0 μb := by rw [← hB]; exact chs_wr rfl As
  by_cases ov : ovr mg ml T L
  · refine ⟨μb, Cs, fun j hj => ⟨(C124 j).trans (A124' j (by omega)), C125' j (by omega)⟩, (C124 l).trans A124, C125, fun j hj => ⟨by rw [C127], by rw [C128]⟩, Or.inl ⟨ov, C47, fun d o1 o2 o3 => ?_⟩⟩
    obtain ⟨o1', o2'⟩ := ov
    refine ⟨some (vi (B l i)), some (vi (T : Int)), some (vi (L : Int)), ?_⟩
    rw [st, if_neg (by omega), b246_148, C100 48 (by decide), e48]
    by_cases y : mg < (T : Int)
    · rw [if_pos y]
    · rw [if_neg y, b246_156, C100 49 (by decide), e49, if_neg (by omega), b246_164]
  · have x2 : xadd (l : Int) 1 = ((l + 1 : Nat) : Int) := xad1 (by omega)
    have x3 : xsub (n : Int) 1 = (n : Int) - 1 := xsub_eq (by omega) (by omega)
    generalize hC : xwr (xwr μb 127 (l + 1) (T : Int)) 128 (l + 1) (L : Int) = μc
    have D100 : ∀ j, μc 100 j = μb 100 j := fun j => by rw [← hC, xwr_nk (by decide), xwr_nk (by decide)]
    have D124 : ∀ j, μc 124 j = μb 124 j := fun j => by rw [← hC, xwr_nk (by decide), xwr_nk (by decide)]
    have D125 : ∀ j, μc 125 j = μb 125 j := fun j => by rw [← hC, xwr_nk (by decide), xwr_nk (by decide)]
    have D127 : μc 127 (l + 1) = (T : Int) := by rw [← hC, xwr_nk (by decide), xwr_eq]
    have D128 : μc 128 (l + 1) = (L : Int) := by rw [← hC, xwr_eq]
    have D127' : ∀ j, j ≤ l → μc 127 j = μ 127 j := fun j hj => by rw [← hC, xwr_nk (by decide), xwr_nj (by omega), C127]
    have D128' : ∀ j, j ≤ l → μc 128 j = μ 128 j := fun j hj => by rw [← hC, xwr_nj (by omega), xwr_nk (by decide), C128]
    have Ds : chs [124, 125, 127, 128] AC μ0 μc := by rw [← hC]; exact chs_wr rfl (chs_wr rfl Cs)
    have st2 : ∀ d o1 o2 o3, Ev X (d + 1) 246 0 [some (vr 100), o1, o2, o3] [] SH μ = if (l : Int) ≠ (n : Int) - 1 then Ev X (d + 1) 246 229 [some (vr 100), some (vi (B l i)), some (vi (T : Int)), some (vi (L : Int))] [] SH μc else Ev X (d + 1) 246 204 [some (vr 100), some (vi (B l i)), some (vi (T : Int)), some (vi (L : Int))] [] SH μc := by
      intro d o1 o2 o3
      have tl : Ev X (d + 1) 246 167 [some (vr 100), some (vi (B l i)), some (vi (T : Int)), some (vi (L : Int))] [] SH μb = if (l : Int) ≠ (n : Int) - 1 then Ev X (d + 1) 246 229 [some (vr 100), some (vi (B l i)), some (vi (T : Int)), some (vi (L : Int))] [] SH μc else Ev X (d + 1) 246 204 [some (vr 100), some (vi (B l i)), some (vi (T : Int)), some (vi (L : Int))] [] SH μc := by
        rw [b246_167 (by rw [C47, x2]; omega), C47, x2, Int.toNat_natCast, C100 16 (by decide), e16, x3, hC]
      rw [st, ← tl]
      by_cases y : mg < 0
      · rw [if_pos y]
      · rw [if_neg y, b246_148, C100 48 (by decide), e48, if_neg (fun z => ov ⟨by omega, Or.inl z⟩), b246_156, C100 49 (by decide), e49]
        have : (L : Int) ≤ ml := by
          by_cases z : ml < (L : Int)
          · exact absurd ⟨by omega, Or.inr z⟩ ov
          · omega
        rw [if_pos this]
    by_cases ln : l + 1 = n
    · have c204 : ∀ d o1 o2 o3, Ev X (d + 1) 246 0 [some (vr 100), o1, o2, o3] [] SH μ = Ev X (d + 1) 246 204 [some (vr 100), some (vi (B l i)), some (vi (T : Int)), some (vi (L : Int))] [] SH μc := by
        intro d o1 o2 o3
        rw [st2, if_neg (by omega)]
      have base := (⟨Ds, fun j hj => ⟨(D124 j).trans ((C124 j).trans (A124' j (by omega))), (D125 j).trans (C125' j (by omega))⟩, (D124 l).trans ((C124 l).trans A124), (D125 l).trans C125, fun j hj => ⟨D127' j hj, D128' j hj⟩⟩ : chs [124, 125, 127, 128] AC μ0 μc ∧ (∀ j, j < l → μc 124 j = μ 124 j ∧ μc 125 j = μ 125 j) ∧ μc 124 l = (nx l : Int) ∧ μc 125 l = B l i ∧ (∀ j, j ≤ l → μc 127 j = μ 127 j ∧ μc 128 j = μ 128 j))
      by_cases ft : fit mg ml T L
      · refine ⟨μc, base.1, base.2.1, base.2.2.1, base.2.2.2.1, base.2.2.2.2, Or.inr ⟨ov, D127, D128, Or.inl ⟨ln, ft, (D100 47).trans C47, fun d o1 o2 o3 => ?_⟩⟩⟩
        rw [c204, b246_204, D100, C100 48 (by decide), e48]
        rcases ft with ft | ⟨ft1, ft2⟩
        · rw [if_pos ft, b246_227]
        · by_cases y : mg < 0
          · rw [if_pos y, b246_227]
          · rw [if_neg y, b246_211, D100, C100 48 (by decide), e48, if_neg (fun z => z ft1), b246_219, D100, C100 49 (by decide), e49, if_neg (fun z => z ft2), b246_227]
      · refine ⟨μc, base.1, base.2.1, base.2.2.1, base.2.2.2.1, base.2.2.2.2, Or.inr ⟨ov, D127, D128, Or.inr (Or.inl ⟨ln, ft, (D100 47).trans C47, fun d o1 o2 o3 => ⟨some (vi (B l i)), some (vi (T : Int)), some (vi (L : Int)), ?_⟩⟩)⟩⟩
        rw [c204, b246_204, D100, C100 48 (by decide), e48, if_neg (fun z => ft (Or.inl z)), b246_211, D100, C100 48 (by decide), e48]
        by_cases y : (T : Int) = mg
        · rw [if_neg (fun z => z y), b246_219, D100, C100 49 (by decide), e49, if_pos (fun z => ft (Or.inr ⟨y, z⟩))]
        · rw [if_pos y]
    · refine ⟨xwr (xwr μc 100 47 ((l + 1 : Nat) : Int)) 124 (l + 1) (-1), chs_wr rfl (chs_wr rfl Ds), fun j hj => ⟨?_, ?_⟩, ?_, ?_, fun j hj => ⟨?_, ?_⟩, Or.inr ⟨ov, ?_, ?_, Or.inr (Or.inr ⟨by omega, ?_, xwr_eq, fun d o1 o2 o3 => ⟨some (vi (B l i)), some (vi (T : Int)), some (vi (L : Int)), ?_⟩⟩)⟩⟩
      · rw [xwr_nj (by omega), xwr_nk (by decide)]
        exact (D124 j).trans ((C124 j).trans (A124' j (by omega)))
      · rw [xwr_nk (by decide), xwr_nk (by decide)]
        exact (D125 j).trans (C125' j (by omega))
      · rw [xwr_nj (by omega), xwr_nk (by decide)]
        exact (D124 l).trans ((C124 l).trans A124)
      · rw [xwr_nk (by decide), xwr_nk (by decide)]
        exact (D125 l).trans C125
      · rw [xwr_nk (by decide), xwr_nk (by decide)]
        exact D127' j hj
      · rw [xwr_nk (by decide), xwr_nk (by decide)]
        exact D128' j hj
      · rw [xwr_nk (by decide), xwr_nk (by decide)]
        exact D127
      · rw [xwr_nk (by decide), xwr_nk (by decide)]
        exact D128
      · rw [xwr_nk (by decide), xwr_eq]
      · rw [st2, if_pos (by omega), b246_229 (by rw [D100, C47, x2]; omega), D100, C47, x2, Int.toNat_natCast]
end ADV
