/-! MEND: the pair -/
section PRO
variable {X : Nat × (Nat → Int)} {σ τ : xM} {t l : Nat}
/-- foundAt, where it is kept -/
theorem s188' {i : Nat} {ps : List (Nat → Nat)} (hR : REs σ ps) (h16 : 0 ≤ σ 50 16) (hi : i < ps.length) (hl : ps.length < 1000000000) (hk : σ 50 16 ≤ (i : Int) ∧ (i : Int) - σ 50 16 < 256) : ∀ d, Ev X (d + 1) 188 0 [some (vr 50), some (vi i)] [] SH σ = some (some (vl (cdN ps[i] (nM σ) : Int)), SH, σ) := by
  intro d
  have xs : xsub (i : Int) (σ 50 16) = (i : Int) - σ 50 16 := xsub_eq (by omega) (by omega)
  have f : f187 σ 50 (i : Int) = 1 := by
    unfold f187
    rw [if_neg (by omega), if_neg (by rw [hR.1]; omega), xs, if_neg (by omega)]
  refine Eq.trans (b188_0 (Or.inl rfl)) ?_
  refine x_bind (s187 (Or.inl rfl)) ?_
  rw [f]
  dsimp only
  refine Eq.trans b188_5 ?_
  rw [if_neg (by decide), b188_8 (Or.inl rfl) (by rw [xs]; omega), b188_25, xs, hR.2.1 i hi hk.1 hk.2]
theorem LM_lt (h : Core σ) (hn : 0 < σ 100 16) (ht : t ≤ 3) (hl : l ≤ 3) : (LM σ t l).length < 1000000000 := by
  obtain ⟨hw, hrow, hcd⟩ := WST_of h hn
  obtain ⟨hW, hF, hn0, hn1, e23, _, _, hf, hb, _⟩ := hw
  have lt := lsM_lt (cd := σ 11) (len := (σ 100 35).toNat) hW hF hn1 hf hb ht hl
  rw [lsM_W hW hF hf hrow hcd] at lt
  exact lt
/-- codeOf, of mends -/
theorem cod_M {i : Int} (h : Core σ) (hL : CacheL σ) (hn : 0 < σ 100 16) (ht : t ≤ 3) (hl : l ≤ 3) (h0 : 0 ≤ i) (h1 : i < 2147483648) : ∃ (v : Int) (τ : xM), (∀ d, Ev X (d + 22) 97 0 [some (vr 49), some (vi 0), some (vi t), some (vi l), some (vi i)] [] SH σ = some (some (vl v), SH, τ)) ∧ chg CAf CSf σ τ ∧ Core τ ∧ CacheL τ ∧ (∀ hi : i.toNat < (LM σ t l).length, v = (cdN (LM σ t l)[i.toNat] (nM σ) : Int)) ∧ ((LM σ t l).length ≤ i.toNat → v = -1) := by
  have lt := LM_lt h hn ht hl
  obtain ⟨i, rfl⟩ : ∃ k : Nat, i = k := ⟨i.toNat, by omega⟩
  rw [Int.toNat_natCast]
  -- the tail
  have tail : ∀ τ : xM, chg CAf CSf σ τ → τ 49 6 = ((LM σ t l).length : Int) → REs τ (LM σ t l) → 0 ≤ τ 50 16 → (i < (LM σ t l).length → τ 50 16 ≤ (i : Int) ∧ (i : Int) - τ 50 16 < 256) → ∃ v : Int, (∀ d (o1 o2 o3 : Option xV), Ev X (d + 2) 97 61 [some (vr 49), o1, o2, o3, some (vi i)] [] SH τ = some (some (vl v), SH, τ)) ∧ (∀ hi : i < (LM σ t l).length, v = (cdN (LM σ t l)[i] (nM σ) : Int)) ∧ ((LM σ t l).length ≤ i → v = -1) := by
    intro τ c e6 hR h16 hk
    have en : nM τ = nM σ := (LM_cg (t := t) (l := l) c rfl).2.1
    by_cases y : i < (LM σ t l).length
    · refine ⟨(cdN (LM σ t l)[i] (nM σ) : Int), fun d o1 o2 o3 => ?_, fun _ => rfl, fun z => by omega⟩
      rw [b97_61, if_neg (by omega)]
      refine Eq.trans b97_70 ?_
      have := s188' (X := X) hR h16 y lt (hk y) d
      rw [en] at this
      refine x_bind this ?_
      dsimp only
      refine Eq.trans b97_79 ?_
      exact b97_85
    · refine ⟨-1, fun d o1 o2 o3 => ?_, fun z => absurd z y, fun _ => rfl⟩
      rw [b97_61, if_pos (by omega), b97_82, b97_85]
  -- a search
  have srch : (∀ d, Ev X (d + 22) 97 0 [some (vr 49), some (vi 0), some (vi t), some (vi l), some (vi i)] [] SH σ = Ev X (d + 22) 97 40 [some (vr 49), some (vi 0), some (vi t), some (vi l), some (vi i)] [] SH σ) → ∃ (v : Int) (τ : xM), (∀ d, Ev X (d + 22) 97 0 [some (vr 49), some (vi 0), some (vi t), some (vi l), some (vi i)] [] SH σ = some (some (vl v), SH, τ)) ∧ chg CAf CSf σ τ ∧ Core τ ∧ CacheL τ ∧ (∀ hi : i < (LM σ t l).length, v = (cdN (LM σ t l)[i] (nM σ) : Int)) ∧ ((LM σ t l).length ≤ i → v = -1) := by
    intro run
    obtain ⟨τ, a1, a2, a3, a4, a5, a6, a7, a8, a9, a10⟩ := find_M (X := X) (t := t) (l := l) (fr := if 256 ≤ (i : Int) then (i : Int) else 0) h hL hn (by split <;> omega) ht hl
    obtain ⟨v, b1, b2, b3⟩ := tail τ a2 a8 a10 (by rw [a9]; split <;> omega) (fun _ => by rw [a9]; split <;> omega)
    refine ⟨v, τ, fun d => ?_, a2, a3, a4, b2, b3⟩
    rw [run, b97_40]
    by_cases y : 256 ≤ (i : Int)
    · rw [if_pos y] at a1
      rw [if_pos y, b97_56]
      refine Eq.trans (b97_58 (t4 := (i : Int)) (t3 := (l : Int)) (t2 := (t : Int)) (t1 := 0)) ?_
      refine x_bind (a1 (d + 1)) ?_
      exact b1 _ _ _ _
    · rw [if_neg y] at a1
      rw [if_neg y, b97_52]
      refine Eq.trans (b97_58 (t4 := 0) (t3 := (l : Int)) (t2 := (t : Int)) (t1 := 0)) ?_
      refine x_bind (a1 (d + 1)) ?_
      exact b1 _ _ _ _
  by_cases kn : σ 49 3 = 0 ∧ σ 49 4 = (t : Int) ∧ σ 49 5 = (l : Int)
  · obtain ⟨k1, k2, k3⟩ := kn
    have cnt : σ 49 6 = ((LM σ t l).length : Int) ∧ REs σ (LM σ t l) ∧ 0 ≤ σ 50 16 := by
      rcases hL.1 with z | ⟨_, z16, z⟩
      · omega
      · rcases z with ⟨_, t', l', _, _, z1, z2, z3, z4⟩ | ⟨z, _⟩ | ⟨z, _⟩
        · have e1 : t' = t := by omega
          have e2 : l' = l := by omega
          rw [e1, e2] at z3 z4
          exact ⟨z3, z4, z16⟩
        · omega
        · omega
    obtain ⟨c6, cR, c16⟩ := cnt
    have st : ∀ d, Ev X (d + 22) 97 0 [some (vr 49), some (vi 0), some (vi t), some (vi l), some (vi i)] [] SH σ = Ev X (d + 22) 97 19 [some (vr 49), some (vi 0), some (vi t), some (vi l), some (vi i)] [] SH σ := by
      intro d
      rw [b97_0, if_pos (by omega)]
      refine Eq.trans b97_9 ?_
      have r94 : Ev X (d + 21) 94 0 [some (vr 49), some (vi 0), some (vi t), some (vi l)] [] SH σ = some (some (vi 1), SH, σ) := by
        rw [b94_0, if_neg (fun z => z k1), b94_8, if_neg (fun z => z k2), b94_16, if_neg (fun z => z k3), b94_24, b94_29 (Or.inr rfl)]
      refine x_bind r94 ?_
      dsimp only
      refine Eq.trans b97_16 ?_
      rw [if_neg (by decide)]
    by_cases y : i < (LM σ t l).length
    · have st2 : ∀ d, Ev X (d + 22) 97 0 [some (vr 49), some (vi 0), some (vi t), some (vi l), some (vi i)] [] SH σ = Ev X (d + 22) 97 37 [some (vr 49), some (vi 0), some (vi t), some (vi l), some (vi i)] [vi (f187 σ 50 (i : Int))] SH σ := by
        intro d
        rw [st, b97_19, if_neg (by omega)]
        refine Eq.trans b97_28 ?_
        refine x_bind (s187 (Or.inl rfl)) ?_
        rfl
      by_cases kp : σ 50 16 ≤ (i : Int) ∧ (i : Int) - σ 50 16 < 256
      · have f : f187 σ 50 (i : Int) = 1 := by
          unfold f187
          rw [if_neg (by omega), if_neg (by rw [cR.1]; omega), xsub_eq (by omega) (by omega), if_neg (by omega)]
        obtain ⟨v, b1, b2, b3⟩ := tail σ chg_rf c6 cR c16 (fun _ => kp)
        refine ⟨v, σ, fun d => ?_, chg_rf, h, hL, b2, b3⟩
        rw [st2, f, b97_37, if_pos (by decide)]
        exact b1 _ _ _ _
      · have f : f187 σ 50 (i : Int) = 0 := by
          unfold f187
          by_cases z : (i : Int) < σ 50 16
          · rw [if_pos z]
          · rw [if_neg z, if_neg (by rw [cR.1]; omega), xsub_eq (by omega) (by omega), if_pos (by omega)]
        refine srch (fun d => ?_)
        rw [st2, f, b97_37, if_neg (by decide)]
    · obtain ⟨v, b1, b2, b3⟩ := tail σ chg_rf c6 cR c16 (fun z => absurd z y)
      refine ⟨v, σ, fun d => ?_, chg_rf, h, hL, b2, b3⟩
      rw [st, b97_19, if_pos (by omega)]
      exact b1 _ _ _ _
  · refine srch (fun d => ?_)
    rw [b97_0, if_pos (by omega)]
    refine Eq.trans b97_9 ?_
    have r94 : Ev X (d + 21) 94 0 [some (vr 49), some (vi 0), some (vi t), some (vi l)] [] SH σ = some (some (vi 0), SH, σ) := by
      rw [b94_0]
      by_cases y1 : σ 49 3 = 0
      · rw [if_neg (fun z => z y1), b94_8]
        by_cases y2 : σ 49 4 = (t : Int)
        · rw [if_neg (fun z => z y2), b94_16, if_pos (fun y3 => kn ⟨y1, y2, y3⟩), b94_28, b94_29 (Or.inl rfl)]
        · rw [if_pos y2, b94_28, b94_29 (Or.inl rfl)]
      · rw [if_pos y1, b94_28, b94_29 (Or.inl rfl)]
    refine x_bind r94 ?_
    dsimp only
    refine Eq.trans b97_16 ?_
    rw [if_pos rfl]
/-- readCode of a row that was found -/
theorem s22y {c : Nat} {p : Nat → Nat} (h : Core σ) (hn : 0 < σ 100 16) (hc : c < nM σ) (hp : ∀ c, c < nM σ → p c ∈ moW (σ 102) (σ 107) c) : ∀ d, Ev X (d + 6) 22 0 [some (vr 0), some (vl (cdN p (nM σ) : Int)), none, some (vi c)] [] SH σ = some (some (vi (rdB (σ 102) (σ 107 c) (BW (σ 102) (σ 107) c (p c)))), SH, σ) := by
  intro d
  obtain ⟨hw, hrow, hcd⟩ := WST_of h hn
  obtain ⟨hW, hF, hn0, hn1, e23, _, _, hf, hb, _⟩ := hw
  have fr := frm_of hW hF
  have p20 : ∀ c, c < nM σ → ((p c : Nat) : Int) < f72 σ (σ 107 c) ∧ p c < 32 := by
    intro c hc
    have qc := hp c hc
    unfold moW at qc
    have qc := List.mem_range.mp qc
    have fb := (frm_B hF (fg := σ 107 c) (by rw [(hrow c hc).1]; exact hf c hc)).1
    have nl := nz_20 (v := wF (σ 107 c) (σ 102)) 20 (by omega)
    omega
  have hf' : σ 107 c = 0 ∨ σ 107 c = 1 := by rw [(hrow c hc).1]; exact hf c hc
  rw [BW_f71 hF hf' (p20 c hc).1, (frm_S hW hF hf' (p20 c hc).1).1]
  have e1 : σ 24 c = σ 107 c := (hrow c hc).1.symm
  rw [b22_0, if_neg (by unfold lcmp'; rw [if_neg (by omega)]; split <;> omega)]
  refine Eq.trans b22_6 ?_
  have f : f136 σ 23 (c : Int) = 1 := by
    unfold f136
    rw [if_neg (by omega), if_neg (by omega), if_neg (by omega)]
  refine x_bind (s136 (Or.inl rfl)) ?_
  rw [f]
  dsimp only
  refine Eq.trans b22_14 ?_
  rw [if_pos (by decide)]
  refine Eq.trans (b22_19 (by omega)) ?_
  refine x_bind s184 ?_
  rw [f184_at hn1 (fun c hc => (p20 c hc).2) hc, Int.toNat_natCast, e1]
  dsimp only
  refine Eq.trans (b22_37 (t2 := (p c : Int)) (t1 := σ 107 c)) ?_
  refine x_bind (s74 fr.2.1 fr.2.2.1) ?_
  exact b22_40
theorem s22n {c : Int} : ∀ d, Ev X (d + 6) 22 0 [some (vr 0), some (vl (-1)), none, some (vi c)] [] SH σ = some (some (vi (-1)), SH, σ) := by
  intro d
  rw [b22_0, if_pos (by decide), b22_17]
theorem LM_mem {i : Nat} (hi : i < (LM σ t l).length) : ∀ c, c < nM σ → (LM σ t l)[i] c ∈ moW (σ 102) (σ 107) c := by
  have hp := List.getElem_mem hi
  generalize (LM σ t l)[i] = p at hp
  unfold LM lmW at hp
  obtain ⟨_, qm⟩ := mem_enumF _ _ _ p (List.mem_filter.mp hp).1
  exact fun c hc => qm c (by omega) (by omega)
theorem f136_e {c : Int} (h : Core σ) : f136 σ 23 c = f220 σ c := by
  obtain ⟨e16, n0, n1⟩ := n_row h
  unfold f136 f220
  rw [e16]
  repeat' split
  all_goals omega
/-- the model's mend, up to its search -/
theorem m254 {a b i c : Int} (h : Core σ) (d : Nat) : Ev X (d + 1) 254 0 [some (vr 100), some (vi a), some (vi b), some (vi i), some (vi c)] [] SH σ = if f20 σ a b = 0 ∨ f136 σ 23 c = 0 ∨ i < 0 then some (some (vi (-1)), SH, σ) else Ev X (d + 1) 254 34 [some (vr 100), some (vi a), some (vi b), some (vi i), some (vi c)] [] SH σ := by
  obtain ⟨e16, n0, n1⟩ := n_row h
  have no : Ev X (d + 1) 254 44 [some (vr 100), some (vi a), some (vi b), some (vi i), some (vi c)] [] SH σ = some (some (vi (-1)), SH, σ) := by
    rw [b254_44, b254_66]
  have i1 : ¬ ((1 : Int) = 0) := by decide
  rw [b254_0]
  by_cases y0 : σ 100 16 = 0
  · have z : f136 σ 23 c = 0 := by
      unfold f136
      repeat' split
      all_goals omega
    rw [if_pos y0, no, if_pos (Or.inr (Or.inl z))]
  rw [if_neg y0]
  refine Eq.trans b254_7 ?_
  refine x_bind s240 ?_
  dsimp only
  refine Eq.trans b254_11 ?_
  rw [f240_e]
  by_cases ya : 0 ≤ a ∧ a ≤ 3
  · rw [if_pos ya, if_neg i1]
    refine Eq.trans b254_14 ?_
    refine x_bind s240 ?_
    dsimp only
    refine Eq.trans b254_18 ?_
    rw [f240_e]
    by_cases yb : 0 ≤ b ∧ b ≤ 3
    · have f1 : f20 σ a b ≠ 0 := by
        unfold f20
        rw [if_neg (by omega), if_neg (by omega), if_neg (by omega), if_neg (by omega)]
        decide
      rw [if_pos yb, if_neg i1, b254_21]
      by_cases yi : i < 0
      · rw [if_pos yi, no, if_pos (Or.inr (Or.inr yi))]
      · rw [if_neg yi]
        refine Eq.trans b254_25 ?_
        refine x_bind s220 ?_
        dsimp only
        refine Eq.trans b254_31 ?_
        rw [← f136_e h]
        by_cases yc : f136 σ 23 c = 0
        · rw [if_pos yc, no, if_pos (Or.inr (Or.inl yc))]
        · have nn : ¬ (f20 σ a b = 0 ∨ f136 σ 23 c = 0 ∨ i < 0) := by
            rintro (z | z | z)
            · exact f1 z
            · exact yc z
            · exact yi z
          rw [if_neg yc, if_neg nn]
    · have f0 : f20 σ a b = 0 := by
        unfold f20
        repeat' split
        all_goals omega
      rw [if_neg yb, if_pos rfl, no, if_pos (Or.inl f0)]
  · have f0 : f20 σ a b = 0 := by
      unfold f20
      repeat' split
      all_goals omega
    rw [if_neg ya, if_pos rfl, no, if_pos (Or.inl f0)]
theorem pr_mend {a b i c : Int} (hi31 : i < 2147483648) (h : Core σ) (hL : CacheL σ) : Pair X 21 254 [some (vr 0), some (vi a), some (vi b), some (vi i), some (vi c)] [some (vr 100), some (vi a), some (vi b), some (vi i), some (vi c)] σ (PostC σ) := by
  obtain ⟨e16, n0, n1⟩ := n_row h
  by_cases bad : f20 σ a b = 0 ∨ f136 σ 23 c = 0
  · refine ⟨-1, σ, σ, fun d => ?_, fun d => ?_, PostC_rf h hL⟩
    · refine Eq.trans b21_0 ?_
      refine x_bind s20 ?_
      dsimp only
      refine Eq.trans b21_5 ?_
      by_cases y : f20 σ a b = 0
      · rw [if_pos y, b21_20]
      · rw [if_neg y]
        refine Eq.trans b21_8 ?_
        refine x_bind (s136 (Or.inl rfl)) ?_
        dsimp only
        refine Eq.trans b21_17 ?_
        rw [if_neg (fun z => z (bad.resolve_left y)), b21_20]
    · rw [m254 h, if_pos (bad.elim Or.inl (fun z => Or.inr (Or.inl z)))]
  · have y1 : f20 σ a b ≠ 0 := fun z => bad (Or.inl z)
    have y2 : f136 σ 23 c ≠ 0 := fun z => bad (Or.inr z)
    obtain ⟨q1, q2, q3, q4⟩ := f20_y y1
    obtain ⟨t, rfl⟩ : ∃ t : Nat, a = t := ⟨a.toNat, by omega⟩
    obtain ⟨l, rfl⟩ : ∃ l : Nat, b = l := ⟨b.toNat, by omega⟩
    have c1 : 0 ≤ c ∧ c < σ 23 0 := by
      unfold f136 at y2
      repeat' split at y2
      all_goals omega
    obtain ⟨c, rfl⟩ : ∃ k : Nat, c = k := ⟨c.toNat, by omega⟩
    have st : ∀ d, Ev X (d + 100) 21 0 [some (vr 0), some (vi t), some (vi l), some (vi i), some (vi c)] [] SH σ = Ev X (d + 100) 21 22 [some (vr 0), some (vi t), some (vi l), some (vi i), some (vi c)] [] SH σ := by
      intro d
      refine Eq.trans b21_0 ?_
      refine x_bind s20 ?_
      dsimp only
      refine Eq.trans b21_5 ?_
      rw [if_neg y1]
      refine Eq.trans b21_8 ?_
      refine x_bind (s136 (Or.inl rfl)) ?_
      dsimp only
      refine Eq.trans b21_17 ?_
      rw [if_pos y2]
    by_cases yi : i < 0
    · refine ⟨-1, σ, σ, fun d => ?_, fun d => ?_, PostC_rf h hL⟩
      · rw [st]
        refine Eq.trans b21_22 ?_
        have r97 : Ev X (d + 99) 97 0 [some (vr 49), some (vi 0), some (vi t), some (vi l), some (vi i)] [] SH σ = some (some (vl (-1)), SH, σ) := by
          rw [b97_0, if_neg (by omega), b97_5]
        refine x_bind r97 ?_
        dsimp only
        refine Eq.trans (b21_34 (t1 := -1)) ?_
        refine x_bind (s22n (d + 93)) ?_
        exact b21_39
      · rw [m254 h, if_pos (Or.inr (Or.inr yi))]
    · obtain ⟨i, rfl⟩ : ∃ k : Nat, i = k := ⟨i.toNat, by omega⟩
      obtain ⟨v, σ1, a1, a2, a3, a4, a5, a6⟩ := cod_M (X := X) (t := t) (l := l) (i := (i : Int)) h hL (by omega) (by omega) (by omega) (by omega) hi31
      rw [Int.toNat_natCast] at a5 a6
      obtain ⟨g1, g2, g3, g4, _, _, g7, _⟩ := LM_cg (t := t) (l := l) a2 rfl
      have n6 : 0 < σ1 100 16 := by rw [g7]; omega
      obtain ⟨r, σ2, b1, b2, b3, _, b4, b5⟩ := mod_M (X := X) (σ := σ1) (t := t) (l := l) (nth := (i : Int)) a3 n6 (by omega) (by omega)
      have hc : c < nM σ1 := by
        rw [g2]
        unfold nM
        omega
      have cl : ∀ d, Ev X (d + 100) 21 0 [some (vr 0), some (vi t), some (vi l), some (vi i), some (vi c)] [] SH σ = (Ev X (d + 99) 22 0 [some (vr 0), some (vl v), none, some (vi c)] [] SH σ1).bind (fun q => Ev X (d + 100) 21 39 [some (vr 0), some (vi t), some (vi l), some (vi i), some (vi c)] (q.1.toList ++ []) q.2.1 q.2.2) := by
        intro d
        rw [st]
        refine Eq.trans b21_22 ?_
        refine x_bind (a1 (d + 77)) ?_
        exact b21_34
      have md : ∀ d, Ev X (d + 100) 254 0 [some (vr 100), some (vi t), some (vi l), some (vi i), some (vi c)] [] SH σ1 = Ev X (d + 100) 254 41 [some (vr 100), some (vi t), some (vi l), some (vi i), some (vi c)] [vi r] SH σ2 := by
        intro d
        have nn : ¬ (f20 σ1 (t : Int) (l : Int) = 0 ∨ f136 σ1 23 (c : Int) = 0 ∨ (i : Int) < 0) := by
          have e23 : σ1 23 0 = σ 23 0 := chg_at a2 rfl rfl
          rintro (z | z | z)
          · exact y1 z
          · unfold f136 at z y2
            rw [e23] at z
            exact y2 z
          · omega
        rw [m254 a3, if_neg nn]
        refine Eq.trans b254_34 ?_
        refine x_bind (b1 (d + 94)) ?_
        rfl
      by_cases yl : i < (LM σ t l).length
      · have yl1 : i < (LM σ1 t l).length := by rw [g1]; exact yl
        obtain ⟨r1, r2⟩ := b4 i rfl yl1
        have mem := LM_mem yl1
        have eL : (LM σ1 t l)[i] = (LM σ t l)[i] := by simp only [g1]
        rw [eL] at r2 mem
        have v1 := a5 yl
        rw [← g2] at v1
        have e107 : σ2 107 = σ1 107 := chg_row b2 (fun _ => rfl) rfl
        have e102 : σ2 102 = σ1 102 := chg_row b2 (fun _ => rfl) rfl
        have hf : σ1 107 c = 0 ∨ σ1 107 c = 1 := by
          obtain ⟨hw, hrow, _⟩ := WST_of a3 n6
          rw [(hrow c hc).1]
          exact hw.2.2.2.2.2.2.2.1 c hc
        refine ⟨rdB (σ1 102) (σ1 107 c) (BW (σ1 102) (σ1 107) c ((LM σ t l)[i] c)), σ1, σ2, fun d => ?_, fun d => ?_, PostC_mk a2 b2 b3 a4⟩
        · rw [cl, v1]
          refine x_bind (s22y a3 n6 hc mem (d + 93)) ?_
          exact b21_39
        · rw [md, b254_41, if_pos (by omega)]
          refine Eq.trans (b254_48 (by omega)) ?_
          rw [Int.toNat_natCast, r2 c hc, e107]
          refine x_bind (s222 hf) ?_
          rw [e102]
          exact b254_66
      · have v1 := a6 (by omega)
        have r1 := b5 i rfl (by rw [g1]; omega)
        refine ⟨-1, σ1, σ2, fun d => ?_, fun d => ?_, PostC_mk a2 b2 b3 a4⟩
        · rw [cl, v1]
          refine x_bind (s22n (d + 93)) ?_
          exact b21_39
        · rw [md, r1, b254_41, if_neg (by decide), b254_44, b254_66]
end PRO
