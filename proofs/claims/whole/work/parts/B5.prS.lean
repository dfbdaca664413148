/-! COULD, COULDBE: the pairs -/
section PRS
variable {X : Nat × (Nat → Int)} {σ τ : xM}
/-- countOf, of what could be -/
theorem cnt_C {a : Int} (h : Core σ) (hL : CacheL σ) (hn : 0 < σ 100 16) : ∃ (v : Int) (τ : xM), (∀ d, Ev X (d + 21) 93 0 [some (vr 49), some (vi 2), some (vi a), some (vi 0)] [] SH σ = some (some (vi v), SH, τ)) ∧ chg CAf CSf σ τ ∧ Core τ ∧ CacheL τ ∧ τ 49 6 = v ∧ ((200000 < prW (σ 102) (nM σ) (σ 107) (FSn σ a) ∧ v = -2) ∨ (prW (σ 102) (nM σ) (σ 107) (FSn σ a) ≤ 200000 ∧ v = ((LG σ (FSn σ a) (-1)).length : Int) ∧ REs τ (LG σ (FSn σ a) (-1)))) := by
  by_cases kn : σ 49 3 = 2 ∧ σ 49 4 = a ∧ σ 49 5 = 0
  · obtain ⟨k1, k2, k3⟩ := kn
    refine ⟨σ 49 6, σ, fun d => ?_, chg_rf, h, hL, rfl, ?_⟩
    · refine Eq.trans b93_0 ?_
      have r94 : Ev X (d + 20) 94 0 [some (vr 49), some (vi 2), some (vi a), some (vi 0)] [] SH σ = some (some (vi 1), SH, σ) := by
        rw [b94_0, if_neg (fun z => z k1), b94_8, if_neg (fun z => z k2), b94_16, if_neg (fun z => z k3), b94_24, b94_29 (Or.inr rfl)]
      refine x_bind r94 ?_
      dsimp only
      refine Eq.trans b93_7 ?_
      rw [if_pos (by decide), b93_18]
    · rcases hL.1 with z | ⟨_, _, z⟩
      · omega
      · rcases z with ⟨z, _⟩ | ⟨z, _⟩ | ⟨_, _, z⟩
        · omega
        · omega
        · rw [k2] at z
          exact z
  · obtain ⟨τ, a1, a2, a3, a4, _, _, _, _, a9⟩ := find_C (X := X) (a := a) (fr := 0) h hL hn (by decide)
    refine ⟨τ 49 6, τ, fun d => ?_, a2, a3, a4, rfl, a9⟩
    refine Eq.trans b93_0 ?_
    have r94 : Ev X (d + 20) 94 0 [some (vr 49), some (vi 2), some (vi a), some (vi 0)] [] SH σ = some (some (vi 0), SH, σ) := by
      rw [b94_0]
      by_cases y1 : σ 49 3 = 2
      · rw [if_neg (fun z => z y1), b94_8]
        by_cases y2 : σ 49 4 = a
        · rw [if_neg (fun z => z y2), b94_16, if_pos (fun y3 => kn ⟨y1, y2, y3⟩), b94_28, b94_29 (Or.inl rfl)]
        · rw [if_pos y2, b94_28, b94_29 (Or.inl rfl)]
      · rw [if_pos y1, b94_28, b94_29 (Or.inl rfl)]
    refine x_bind r94 ?_
    dsimp only
    refine Eq.trans b93_7 ?_
    rw [if_neg (by decide)]
    refine Eq.trans b93_10 ?_
    refine x_bind (a1 d) ?_
    exact b93_18
theorem FS_cg {CA : List Nat} {CS : List (Nat × Nat)} (c : chg CA CS σ τ) (o : okc CA CS [102, 107, 132, 133, 134, 135, 136] [(100, 59)] = true) : ∀ k, FSn τ k = FSn σ k := by
  have e := eqp_ok o c
  have r : ∀ {k : Nat}, k ∈ [102, 107, 132, 133, 134, 135, 136] → τ k = σ k := fun {k} hk => funext (fun j => e k j (by
    unfold pin
    rw [Bool.or_eq_true]
    exact Or.inl (by simpa using hk)))
  have e59 : τ 100 59 = σ 100 59 := e 100 59 rfl
  intro k
  funext c' i
  unfold FSn alS
  rw [r (k := 102) (by decide), r (k := 107) (by decide), r (k := 132) (by decide), r (k := 133) (by decide), r (k := 134) (by decide), r (k := 135) (by decide), r (k := 136) (by decide), e59]
theorem PostC_mc {τ2 : xM} (c1 : chg CAf CSf σ τ) (c2 : chg [113, 114, 115, 121, 122, 123, 124, 125, 126, 127, 128, 137] [(100, 47), (100, 48), (100, 49), (100, 50), (100, 51)] τ τ2) (hC : Core τ2) (hL : CacheL τ) : PostC σ τ2 := by
  refine ⟨hC, CacheL_eqp (eqp_ok rfl c2) hL, Or.inl (fun k j hk => ?_)⟩
  rw [eqp_ok (A := [70, 93, 94, 102, 107, 108, 110, 111]) (S := [(100, 16), (100, 17)]) rfl c2 k j hk, eqp_ok (A := [70, 93, 94, 102, 107, 108, 110, 111]) (S := [(100, 16), (100, 17)]) rfl c1 k j hk]
theorem pr_could {a : Int} (h : Core σ) (hL : CacheL σ) : Pair X 37 283 [some (vr 0), some (vi a)] [some (vr 100), some (vi a)] σ (PostC σ) := by
  obtain ⟨e16, n0, n1⟩ := n_row h
  by_cases y : σ 23 0 = 0
  · refine ⟨-1, σ, σ, fun d => ?_, fun d => ?_, PostC_rf h hL⟩
    · rw [b37_0, if_neg (fun z => z y), b37_10, b37_24]
    · rw [b283_0, if_neg (by omega), b283_7, b283_17]
  · obtain ⟨v, σ1, a1, a2, a3, a4, a5, a6⟩ := cnt_C (X := X) (a := a) h hL (by omega)
    have g7 : σ1 100 16 = σ 100 16 := (LM_cg (t := 0) (l := 0) a2 rfl).2.2.2.2.2.2.1
    obtain ⟨eG, eP⟩ := LG_cg a2 rfl
    have eF := FS_cg a2 rfl
    obtain ⟨r, σ2, b1, b2, b3, b4, b5⟩ := mod_C (X := X) (σ := σ1) (nth := -1) (k := a) a3 (by omega)
    rw [eF, eP] at b4 b5
    rw [eG] at b5
    have rv : r = v := by
      rcases a6 with ⟨z1, z2⟩ | ⟨z1, z2, _⟩
      · rw [b4 z1, z2]
      · rw [((b5 z1).1 (by decide)).1, z2]
    refine ⟨v, σ1, σ2, fun d => ?_, fun d => ?_, PostC_mc a2 b2 b3 a4⟩
    · rw [b37_0, if_pos y]
      refine Eq.trans b37_14 ?_
      refine x_bind (a1 (d + 78)) ?_
      exact b37_24
    · rw [b283_0, if_pos (by omega)]
      refine Eq.trans b283_11 ?_
      refine x_bind (b1 (d + 93)) ?_
      rw [rv]
      exact b283_17
/-- the model's couldBe, up to its search -/
theorem m285 {a i c : Int} (h : Core σ) (d : Nat) : Ev X (d + 1) 285 0 [some (vr 100), some (vi a), some (vi i), some (vi c)] [] SH σ = if f136 σ 23 c = 0 ∨ i < 0 then some (some (vi (-1)), SH, σ) else Ev X (d + 1) 285 12 [some (vr 100), some (vi a), some (vi i), some (vi c)] [] SH σ := by
  have no : Ev X (d + 1) 285 21 [some (vr 100), some (vi a), some (vi i), some (vi c)] [] SH σ = some (some (vi (-1)), SH, σ) := by
    rw [b285_21, b285_41]
  rw [b285_0]
  by_cases yi : i < 0
  · rw [if_pos yi, no, if_pos (Or.inr yi)]
  · rw [if_neg yi]
    refine Eq.trans b285_4 ?_
    refine x_bind s220 ?_
    dsimp only
    refine Eq.trans b285_9 ?_
    rw [← f136_e h]
    by_cases yc : f136 σ 23 c = 0
    · rw [if_pos yc, no, if_pos (Or.inl yc)]
    · have nn : ¬ (f136 σ 23 c = 0 ∨ i < 0) := by
        rintro (z | z)
        · exact yc z
        · exact yi z
      rw [if_neg yc, if_neg nn]
theorem pr_couldBe {a i c : Int} (hi31 : i < 2147483648) (h : Core σ) (hL : CacheL σ) : Pair X 38 285 [some (vr 0), some (vi a), some (vi i), some (vi c)] [some (vr 100), some (vi a), some (vi i), some (vi c)] σ (PostC σ) := by
  obtain ⟨e16, n0, n1⟩ := n_row h
  by_cases bad : f136 σ 23 c = 0
  · refine ⟨-1, σ, σ, fun d => ?_, fun d => ?_, PostC_rf h hL⟩
    · refine Eq.trans b38_0 ?_
      refine x_bind (s136 (Or.inl rfl)) ?_
      dsimp only
      refine Eq.trans b38_8 ?_
      rw [if_neg (fun w => w bad), b38_11]
    · rw [m285 h, if_pos (Or.inl bad)]
  · have y2 : f136 σ 23 c ≠ 0 := bad
    have c1 : 0 ≤ c ∧ c < σ 23 0 := by
      unfold f136 at y2
      repeat' split at y2
      all_goals omega
    obtain ⟨c, rfl⟩ : ∃ k : Nat, c = k := ⟨c.toNat, by omega⟩
    have hn : 0 < σ 100 16 := by omega
    have st : ∀ d, Ev X (d + 100) 38 0 [some (vr 0), some (vi a), some (vi i), some (vi c)] [] SH σ = Ev X (d + 100) 38 13 [some (vr 0), some (vi a), some (vi i), some (vi c)] [] SH σ := by
      intro d
      refine Eq.trans b38_0 ?_
      refine x_bind (s136 (Or.inl rfl)) ?_
      dsimp only
      refine Eq.trans b38_8 ?_
      rw [if_pos y2]
    by_cases yi : i < 0
    · refine ⟨-1, σ, σ, fun d => ?_, fun d => ?_, PostC_rf h hL⟩
      · rw [st]
        refine Eq.trans b38_13 ?_
        have r97 : Ev X (d + 99) 97 0 [some (vr 49), some (vi 2), some (vi a), some (vi 0), some (vi i)] [] SH σ = some (some (vl (-1)), SH, σ) := by
          rw [b97_0, if_neg (by omega), b97_5]
        refine x_bind r97 ?_
        dsimp only
        refine Eq.trans (b38_25 (t1 := -1)) ?_
        refine x_bind (s22n (d + 93)) ?_
        exact b38_29
      · rw [m285 h, if_pos (Or.inr yi)]
    · obtain ⟨i, rfl⟩ : ∃ k : Nat, i = k := ⟨i.toNat, by omega⟩
      have lenb : ¬ 200000 < prW (σ 102) (nM σ) (σ 107) (FSn σ a) → (LG σ (FSn σ a) (-1)).length < 1000000000 := fun z => LG_20 h hn (by omega)
      have lt : ((if 200000 < prW (σ 102) (nM σ) (σ 107) (FSn σ a) then [] else LG σ (FSn σ a) (-1)) : List (Nat → Nat)).length < 1000000000 := by
        split
        · simp
        · rename_i z
          exact lenb z
      obtain ⟨v, σ1, a1, a2, a3, a4, a5, a6⟩ := cod_G (X := X) (i := (i : Int)) (kd := 2) (a := a) (b := 0) (L := if 200000 < prW (σ 102) (nM σ) (σ 107) (FSn σ a) then [] else LG σ (FSn σ a) (-1)) (sp := 200000 < prW (σ 102) (nM σ) (σ 107) (FSn σ a)) h hL lt (by omega) hi31 (fun k1 k2 k3 => by
        rcases hL.1 with z | ⟨_, z16, z⟩
        · omega
        · refine ⟨z16, ?_⟩
          rcases z with ⟨z, _⟩ | ⟨z, _⟩ | ⟨_, _, z⟩
          · omega
          · omega
          · unfold SPN at z
            rw [k2] at z
            rcases z with ⟨z1, z2⟩ | ⟨z1, z2, z3⟩
            · exact Or.inl ⟨z2, z1⟩
            · have nz : ¬ 200000 < prW (σ 102) (nM σ) (σ 107) (FSn σ a) := by omega
              rw [if_neg nz]
              exact Or.inr ⟨z2, z3, nz⟩) (fun fr f0 f1 => by
        obtain ⟨τ, q1, q2, q3, q4, _, _, _, q8, q9⟩ := find_C (X := X) (a := a) (fr := fr) h hL hn ⟨f0, f1⟩
        refine ⟨τ, q1, q2, q3, q4, q8, ?_⟩
        rcases q9 with ⟨z1, z2⟩ | ⟨z1, z2, z3⟩
        · exact Or.inl ⟨z2, z1⟩
        · have nz : ¬ 200000 < prW (σ 102) (nM σ) (σ 107) (FSn σ a) := by omega
          rw [if_neg nz]
          exact Or.inr ⟨z2, z3, nz⟩)
      rw [Int.toNat_natCast] at a6
      obtain ⟨_, g2, g3, g4, _, _, g7, _⟩ := LM_cg (t := 0) (l := 0) a2 rfl
      obtain ⟨eG, eP⟩ := LG_cg a2 rfl
      have n6 : 0 < σ1 100 16 := by rw [g7]; exact hn
      obtain ⟨r, σ2, b1, b2, b3, b4, b5⟩ := mod_C (X := X) (σ := σ1) (nth := (i : Int)) (k := a) a3 n6
      rw [FS_cg a2 rfl, eP] at b4 b5
      rw [eG] at b5
      have hc : c < nM σ1 := by
        rw [g2]
        unfold nM
        omega
      have cl : ∀ d, Ev X (d + 100) 38 0 [some (vr 0), some (vi a), some (vi i), some (vi c)] [] SH σ = (Ev X (d + 99) 22 0 [some (vr 0), some (vl v), none, some (vi c)] [] SH σ1).bind (fun q => Ev X (d + 100) 38 29 [some (vr 0), some (vi a), some (vi i), some (vi c)] (q.1.toList ++ []) q.2.1 q.2.2) := by
        intro d
        rw [st]
        refine Eq.trans b38_13 ?_
        refine x_bind (a1 (d + 77)) ?_
        exact b38_25
      have md : ∀ d, Ev X (d + 100) 285 0 [some (vr 100), some (vi a), some (vi i), some (vi c)] [] SH σ1 = Ev X (d + 100) 285 18 [some (vr 100), some (vi a), some (vi i), some (vi c)] [vi r] SH σ2 := by
        intro d
        have nn : ¬ (f136 σ1 23 (c : Int) = 0 ∨ (i : Int) < 0) := by
          have e23 : σ1 23 0 = σ 23 0 := chg_at a2 rfl rfl
          rintro (z | z)
          · unfold f136 at z y2
            rw [e23] at z
            exact y2 z
          · omega
        rw [m285 a3, if_neg nn]
        refine Eq.trans b285_12 ?_
        refine x_bind (b1 (d + 93)) ?_
        rfl
      have post : PostC σ σ2 := PostC_mc a2 b2 b3 a4
      have neg : v = -1 → r < 0 → Pair X 38 285 [some (vr 0), some (vi a), some (vi (i : Int)), some (vi (c : Int))] [some (vr 100), some (vi a), some (vi (i : Int)), some (vi (c : Int))] σ (PostC σ) := by
        intro v1 r1
        refine ⟨-1, σ1, σ2, fun d => ?_, fun d => ?_, post⟩
        · rw [cl, v1]
          refine x_bind (s22n (d + 93)) ?_
          exact b38_29
        · rw [md, b285_18, if_neg (by omega), b285_21, b285_41]
      by_cases sp : 200000 < prW (σ 102) (nM σ) (σ 107) (FSn σ a)
      · exact neg (a5 sp) (by rw [b4 sp]; decide)
      · obtain ⟨_, p4, p5⟩ := b5 (by omega)
        obtain ⟨v4, v5⟩ := a6 sp
        rw [if_neg sp] at v4 v5
        by_cases yl : i < (LG σ (FSn σ a) (-1)).length
        · obtain ⟨r1, r2⟩ := p4 i rfl yl
          have mem := LG_mem yl
          rw [← g3, ← g4, ← g2] at mem
          have v1 := v4 yl
          rw [← g2] at v1
          have e107 : σ2 107 = σ1 107 := chg_row b2 (fun _ => rfl) rfl
          have e102 : σ2 102 = σ1 102 := chg_row b2 (fun _ => rfl) rfl
          have hf : σ1 107 c = 0 ∨ σ1 107 c = 1 := by
            obtain ⟨hw, hrow, _⟩ := WST_of a3 n6
            rw [(hrow c hc).1]
            exact hw.2.2.2.2.2.2.2.1 c hc
          refine ⟨rdB (σ1 102) (σ1 107 c) (BW (σ1 102) (σ1 107) c ((LG σ (FSn σ a) (-1))[i] c)), σ1, σ2, fun d => ?_, fun d => ?_, post⟩
          · rw [cl, v1]
            refine x_bind (s22y a3 n6 hc mem (d + 93)) ?_
            exact b38_29
          · rw [md, b285_18, if_pos (by omega)]
            refine Eq.trans (b285_25 (by omega)) ?_
            rw [Int.toNat_natCast, r2 c hc, e107]
            refine x_bind (s222 hf) ?_
            rw [e102]
            exact b285_41
        · exact neg (v5 (by omega)) (by rw [p5 i rfl (by omega)]; decide)
end PRS
