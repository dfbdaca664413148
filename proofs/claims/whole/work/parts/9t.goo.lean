/-! WALKS: the forms on both sides, and the model's isGood -/
def sg0 : Nat → Int := fun k => if k < 5 then f217 (fun _ _ => 0) (k : Int) else 0
section GOO
variable {X : Nat × (Nat → Int)} {σ μ τ : xM} {n len : Nat} {fg : Int}
theorem wF_0 {w : Nat → Int} : wF 0 w = sg0 := by
  funext k
  unfold wF sg0
  rw [if_pos rfl]
theorem wF_1 {w : Nat → Int} (h : fg ≠ 0) : wF fg w = w := by
  funext k
  unfold wF
  rw [if_neg h]
theorem sg0_nz : ∀ k, k < 20 → sg0 k ≠ 0 → k < 5 ∧ nz sg0 k = k := by decide
theorem sg0_cv : ∀ k, k < 5 → xcv 1 k = sg0 k ∧ 0 ≤ sg0 k ∧ sg0 k < 128 ∧ sg0 k ≠ 0 ∧ sgR (sg0 k) = sgBy k ∧ isSy (sgBy k) = true := by decide
theorem f72_0 : f72 σ 0 = 5 := if_pos rfl
theorem f72_1 : f72 σ 1 = σ 3 5 := if_neg (by decide)
theorem f71_1 {i : Nat} (h : (i : Int) < σ 3 5) : f71 σ 1 (i : Int) = σ 6 i := by
  unfold f71
  rw [f72_1, if_pos ⟨by omega, h⟩, if_neg (by decide : ¬ (1 : Int) = 0), Int.toNat_natCast]
theorem f74_1 {i : Nat} (h : (i : Int) < σ 3 5) : f74 σ 1 (i : Int) = 48 + σ 7 i := by
  unfold f74
  rw [f72_1, if_pos ⟨by omega, h⟩, if_neg (by decide : ¬ (1 : Int) = 0), Int.toNat_natCast]
theorem f71_0 {i : Nat} (h : i < 5) : f71 σ 0 (i : Int) = xcv 1 i := by
  unfold f71
  rw [f72_0, if_pos ⟨by omega, by omega⟩, if_pos rfl, Int.toNat_natCast]
theorem f74_0 {i : Nat} (h : i < 5) : f74 σ 0 (i : Int) = sgBy i := by
  unfold f74
  rw [f72_0, if_pos ⟨by omega, by omega⟩, if_pos rfl, Int.toNat_natCast]
theorem frm_of (hW : WF (σ 102)) (hF : FC (σ 102) (σ 3 5) (σ 6) (σ 7) (σ 8)) : FRM σ := by
  obtain ⟨f1, f2, f3⟩ := hF
  have nl := nz_le (w := σ 102) 20
  refine ⟨by omega, by omega, fun j hj => ?_, fun j hj => ?_⟩
  · obtain ⟨i, i1, i2, i3⟩ := nz_sur (w := σ 102) 20 j (by omega)
    obtain ⟨q1, q2, q3⟩ := f2 i i1 i2
    rw [i3] at q2
    rw [q2]
    omega
  · obtain ⟨i, i1, i2, i3⟩ := nz_sur (w := σ 102) 20 j (by omega)
    obtain ⟨q1, q2, q3⟩ := f2 i i1 i2
    rw [i3] at q1
    rw [q1]
    have := hW.1 i i1
    omega
/-- the choices of both sides are the same, in one order -/
theorem frm_B (hF : FC (σ 102) (σ 3 5) (σ 6) (σ 7) (σ 8)) (hf : fg = 0 ∨ fg = 1) : (nz (wF fg (σ 102)) 20 : Int) = f72 σ fg ∧ ∀ k, k < 20 → wF fg (σ 102) k ≠ 0 → f71 σ fg (nz (wF fg (σ 102)) k : Int) = wF fg (σ 102) k := by
  rcases hf with rfl | rfl
  · rw [wF_0]
    refine ⟨by rw [f72_0]; decide, fun k hk hv => ?_⟩
    obtain ⟨k5, kk⟩ := sg0_nz k hk hv
    rw [kk, f71_0 k5]
    exact (sg0_cv k k5).1
  · rw [wF_1 (by decide)]
    obtain ⟨f1, f2, f3⟩ := hF
    refine ⟨by rw [f72_1]; exact f1.symm, fun k hk hv => ?_⟩
    have := nz_lt (w := σ 102) hk hv
    rw [f71_1 (by omega)]
    exact (f2 k hk hv).1
/-- what a choice reads -/
theorem frm_S (hW : WF (σ 102)) (hF : FC (σ 102) (σ 3 5) (σ 6) (σ 7) (σ 8)) (hf : fg = 0 ∨ fg = 1) {i : Nat} (hi : (i : Int) < f72 σ fg) : rdB (σ 102) fg (f71 σ fg (i : Int)) = f74 σ fg (i : Int) ∧ isSy (f74 σ fg (i : Int)) = true ∧ (fg ≠ 0 → 48 ≤ f74 σ fg (i : Int) ∧ f74 σ fg (i : Int) ≤ 57) ∧ f71 σ fg (i : Int) ≠ 0 := by
  rcases hf with rfl | rfl
  · rw [f72_0] at hi
    have q := sg0_cv i (by omega)
    unfold rdB
    rw [f71_0 (by omega), f74_0 (by omega), if_pos rfl, q.1]
    exact ⟨q.2.2.2.2.1, q.2.2.2.2.2, fun z => absurd rfl z, q.2.2.2.1⟩
  · rw [f72_1] at hi
    obtain ⟨f1, f2, f3⟩ := hF
    obtain ⟨k, k1, k2, k3⟩ := nz_sur (w := σ 102) 20 i (by omega)
    obtain ⟨q1, q2, q3⟩ := f2 k k1 k2
    rw [k3] at q1 q2
    unfold rdB
    rw [f71_1 hi, f74_1 hi, if_neg (by decide : ¬ (1 : Int) = 0), q1, q2]
    have w0 := hW.1 k k1
    refine ⟨rdL_some (by omega) rfl 20 k1 (fun j hj e => hW.2.2 j k hj k1 e (by rw [e]; exact k2)), ?_, fun _ => ⟨by omega, by omega⟩, k2⟩
    unfold isSy
    exact decide_eq_true (Or.inl ⟨by omega, by omega⟩)
/-- isGood, of the row in 125 -/
theorem s248 {cd cs : Nat → Int} (hn : μ 100 16 = (n : Int)) (hn2 : n ≤ 11) (hf : ∀ c, c < n → μ 107 c = 0 ∨ μ 107 c = 1) (hb : ∀ c, c < n → 0 ≤ μ 125 c ∧ μ 125 c < 128) (w : WFP cd len) (hl : len ≤ 200) (en : ∀ i, i < len → enc (cd i) (μ 118 i) (μ 119 i)) (e4 : μ 100 35 = (len : Int)) (hcs : ∀ c, c < n → chM μ 125 c = cs c) : ∃ (b : Int) (τ : xM), (b = 0 ∨ b = 1) ∧ (∀ d, Ev X (d + 4) 248 0 [some (vr 100), some (vr 125)] [] SH μ = some (some (vi b), SH, τ)) ∧ (b = 1 ↔ LK 0 (-1) n cd len (isum (fun c => if μ 107 c = 0 then 0 else 1) n) cs (isum (fun c => pc (μ 125 c).toNat) n)) ∧ chg [113, 114, 115, 121] [] μ τ := by
  by_cases ok : okW cs n
  · have ok' : okW (chM μ 125) n := okW_cs (fun j hj => (hcs j hj).symm) ok
    obtain ⟨τ, t1, t2, t3, t4, t5, t6, t7⟩ := s224Y (X := X) (σ := μ) (k1 := 125) rfl (by decide) hn hn2 hf ok'
    have er : rdSt r0 (chM μ 125) n = rdSt r0 cs n := rdSt_cs n (fun j hj => hcs j hj)
    rw [er] at t5 t6 t7
    have f226 := f226_I t3 t4 t5 t6 t7
    have tI : trI (rdSt r0 cs n) = 0 ∨ trI (rdSt r0 cs n) = 1 := by
      unfold trI
      split <;> omega
    have r249 : ∀ d, Ev X (d + 3) 249 0 [some (vr 100), some (vr 125)] [] SH μ = some (some (vi (trI (rdSt r0 cs n))), SH, τ) := by
      intro d
      refine Eq.trans b249_0 ?_
      refine x_bind (t1 _) ?_
      dsimp only
      refine Eq.trans b249_5 ?_
      rw [if_neg (by decide)]
      refine Eq.trans b249_8 ?_
      refine x_bind s226 ?_
      rw [f226]
      dsimp only
      refine Eq.trans b249_12 ?_
      rcases tI with z | z
      · rw [z, if_pos rfl, b249_19, b249_20 (Or.inl rfl)]
      · rw [z, if_neg (by decide), b249_15, b249_20 (Or.inr rfl)]
    rcases tI with z | z
    · refine ⟨0, τ, Or.inl rfl, fun d => ?_, ⟨fun g => absurd g (by decide), fun g => ?_⟩, chg_mo (by decide) t2⟩
      · refine Eq.trans b248_0 ?_
        refine x_bind (r249 _) ?_
        rw [z]
        dsimp only
        refine Eq.trans b248_5 ?_
        rw [if_pos rfl, b248_20, b248_21 (Or.inl rfl)]
      · have := (g.2.2.2 (by decide)).1
        omega
    · have ls0 : lsT (rdSt r0 cs n) = 0 := by
        unfold trI at z
        by_cases y : lsT (rdSt r0 cs n) = 0 ∧ rdSt r0 cs n 1 = rdSt r0 cs n 2 + clZ (rdSt r0 cs n)
        · exact y.1
        · rw [if_neg y] at z
          omega
      have w0 : τ 114 0 = woI (rdSt r0 cs n) 0 := by
        unfold woI
        rw [if_pos rfl, if_pos (Or.inl ls0)]
        exact t6 (by omega)
      have w1 : τ 114 1 = woI (rdSt r0 cs n) 1 := by
        unfold woI
        rw [if_neg (by decide), if_pos (Or.inl ls0)]
        exact t7 (by omega)
      have e118 : τ 118 = μ 118 := chg_row t2 (fun _ => rfl) rfl
      have e119 : τ 119 = μ 119 := chg_row t2 (fun _ => rfl) rfl
      have e125 : τ 125 = μ 125 := chg_row t2 (fun _ => rfl) rfl
      have e107 : τ 107 = μ 107 := chg_row t2 (fun _ => rfl) rfl
      obtain ⟨τ', l1, l2⟩ := s250 (X := X) (μ := τ) (k1 := 125) (n := n) rfl (by decide) rfl hn2 w hl (by rw [e118, e119]; exact en) ((chg_at t2 rfl rfl).trans hn) (by rw [e125]; exact hb) ((chg_at t2 rfl rfl).trans e4)
      rw [w0, w1, e125, e107] at l1
      have lw : lawV cd len (woI (rdSt r0 cs n) 0) (woI (rdSt r0 cs n) 1) (isum (fun c => pc (μ 125 c).toNat) n) (isum (fun c => if μ 107 c = 0 then 0 else 1) n) = 0 ∨ lawV cd len (woI (rdSt r0 cs n) 0) (woI (rdSt r0 cs n) 1) (isum (fun c => pc (μ 125 c).toNat) n) (isum (fun c => if μ 107 c = 0 then 0 else 1) n) = 1 := by
        unfold lawV
        repeat' split
        all_goals omega
      have st : ∀ d, Ev X (d + 4) 248 0 [some (vr 100), some (vr 125)] [] SH μ = Ev X (d + 4) 248 13 [some (vr 100), some (vr 125)] [vi (lawV cd len (woI (rdSt r0 cs n) 0) (woI (rdSt r0 cs n) 1) (isum (fun c => pc (μ 125 c).toNat) n) (isum (fun c => if μ 107 c = 0 then 0 else 1) n))] SH τ' := by
        intro d
        refine Eq.trans b248_0 ?_
        refine x_bind (r249 _) ?_
        rw [z]
        dsimp only
        refine Eq.trans b248_5 ?_
        rw [if_neg (by decide)]
        refine Eq.trans b248_8 ?_
        refine x_bind (l1 _) ?_
        rfl
      have cc : chg [113, 114, 115, 121] [] μ τ' := chg_tr (chg_mo (by decide) t2) (chg_mo (by decide) l2)
      rcases lw with lw | lw
      · refine ⟨0, τ', Or.inl rfl, fun d => ?_, ⟨fun g => absurd g (by decide), fun g => ?_⟩, cc⟩
        · rw [st, lw, b248_13, if_pos rfl, b248_20, b248_21 (Or.inl rfl)]
        · have := (g.2.2.2 (by decide)).2.resolve_left (by decide)
          omega
      · refine ⟨1, τ', Or.inr rfl, fun d => ?_, ⟨fun _ => ⟨Or.inl rfl, ok, fun g => absurd g (by decide), fun _ => ⟨z, Or.inr lw⟩⟩, fun _ => rfl⟩, cc⟩
        rw [st, lw, b248_13, if_neg (by decide), b248_16, b248_21 (Or.inr rfl)]
  · have ok' : ¬ okW (chM μ 125) n := fun g => ok (okW_cs (fun j hj => hcs j hj) g)
    obtain ⟨τ, t1, t2⟩ := s224N (X := X) (σ := μ) (k1 := 125) rfl (by decide) hn hn2 hf ok'
    refine ⟨0, τ, Or.inl rfl, fun d => ?_, ⟨fun g => absurd g (by decide), fun g => absurd g.2.1 ok⟩, chg_mo (by decide) t2⟩
    refine Eq.trans b248_0 ?_
    have r249 : Ev X (d + 3) 249 0 [some (vr 100), some (vr 125)] [] SH μ = some (some (vi 0), SH, τ) := by
      refine Eq.trans b249_0 ?_
      refine x_bind (t1 _) ?_
      dsimp only
      refine Eq.trans b249_5 ?_
      rw [if_pos rfl, b249_19, b249_20 (Or.inl rfl)]
    refine x_bind r249 ?_
    dsimp only
    refine Eq.trans b248_5 ?_
    rw [if_pos rfl, b248_20, b248_21 (Or.inl rfl)]
end GOO
