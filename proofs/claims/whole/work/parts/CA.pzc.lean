/-! PUZZLES, in the class: findPuzzle -/
def CAz : List Nat := [13, 81, 82, 83, 84, 85, 86, 87, 88, 89, 91, 92, 95]
def CSz : List (Nat × Nat) := [(71, 9), (71, 10), (71, 11), (71, 12), (71, 13), (71, 14), (71, 15), (71, 16), (10, 8), (70, 9), (70, 10), (90, 0)]
noncomputable def pzB (w : Nat → Int) (n : Nat) (fg : Nat → Int) (k : Nat) : Nat → Bool := fun y => decide ((nbC w n fg 1 k y).length = 1)
def pzI (o : Option Nat) : Int := match o with
  | some y => (y : Int)
  | none => -1
section PZC
variable {X : Nat × (Nat → Int)} {σ τ : xM} {n k : Nat}
theorem pzF_e {x0 : Nat} : pzF σ k x0 = pzI (((nbC (σ 102) (nM σ) (σ 107) 2 k x0).take 200).find? (pzB (σ 102) (nM σ) (σ 107) k)) := rfl
theorem lc_m1 {a : Nat} : lcmp' (a : Int) (-1) ≠ 0 := by
  unfold lcmp'
  split
  · decide
  · split
    · omega
    · decide
/-- the tries -/
theorem it108 {T : List Nat} (hT : T.length ≤ 200) (hk : k ≤ 3) : ∀ (m i : Nat) (ω : xM), i + m = T.length → NST ω n → (∀ y, y ∈ T → CD (ω 102) n (ω 107) y) → (∀ (j : Nat) (h : j < T.length), ω 95 j = ((T[j]'h : Nat) : Int)) → ω 70 10 = -1 → ∃ τ, (∀ d o1, Ev X (d + 21) 108 94 [some (vr 70), o1, some (vi k), some (vi T.length), some (vi i)] [] SH ω = some (none, SH, τ)) ∧ chg CAz CSz ω τ ∧ τ 70 9 = ω 70 9 ∧ τ 70 10 = pzI ((T.drop i).find? (pzB (ω 102) n (ω 107) k)) := by
  intro m
  induction m with
  | zero =>
    intro i ω e hN hC h95 h10
    refine ⟨ω, fun d o1 => ?_, chg_rf, rfl, ?_⟩
    · rw [b108_94, if_pos (by omega), b108_159]
    · rw [List.drop_of_length_le (by omega), h10]
      rfl
  | succ m ih =>
    intro i ω e hN hC h95 h10
    have hi : i < T.length := by omega
    obtain ⟨τ1, a1, a2, a3, wt, a4⟩ := s104 (X := X) (σ := ω) (n := n) (k := k) (so := 1) (stop := 2) (x := T[i]) hN (hC _ (List.getElem_mem hi)) (Or.inl rfl) hk (by omega)
    have st : ∀ d o1, Ev X (d + 21) 108 94 [some (vr 70), o1, some (vi k), some (vi T.length), some (vi i)] [] SH ω = Ev X (d + 21) 108 125 [some (vr 70), o1, some (vi k), some (vi T.length), some (vi i)] [] SH τ1 := by
      intro d o1
      rw [b108_94, if_neg (by omega), b108_100, h10, if_neg (by decide)]
      refine Eq.trans (b108_111 (by omega)) ?_
      rw [Int.toNat_natCast, h95 i hi]
      refine x_bind (a1 d) ?_
      rfl
    have l15 : τ1 71 15 = ((min 2 (nbC (ω 102) n (ω 107) 1 k T[i]).length : Nat) : Int) := by
      rw [a4.1, List.length_take]
      unfold nbC
      rw [List.length_map]
    rw [List.drop_eq_getElem_cons hi, List.find?_cons]
    by_cases y : (nbC (ω 102) n (ω 107) 1 k T[i]).length = 1
    · have pb : pzB (ω 102) n (ω 107) k T[i] = true := decide_eq_true y
      rw [pb]
      refine ⟨xwr τ1 70 10 ((T[i] : Nat) : Int), fun d o1 => ?_, chg_wr rfl (chg_mo (by decide) a2), ?_, by rw [xwr_eq]; rfl⟩
      · rw [st, b108_125, if_neg (by rw [l15, y]; decide), b108_137 (by omega), Int.toNat_natCast, show τ1 95 i = ω 95 i from chg_at a2 rfl rfl, h95 i hi, b108_150, xad1 (by omega), b108_94]
        by_cases z : (T.length : Int) ≤ ((i + 1 : Nat) : Int)
        · rw [if_pos z, b108_159]
        · rw [if_neg z, b108_100, xwr_eq, if_pos lc_m1, b108_159]
      · rw [xwr_nj (by decide)]
        exact chg_at a2 rfl rfl
    · have pb : pzB (ω 102) n (ω 107) k T[i] = false := decide_eq_false y
      rw [pb]
      generalize hτ2 : xwr τ1 70 10 (-1) = τ2
      have c2 : chg CAz CSz ω τ2 := by
        rw [← hτ2]
        exact chg_wr rfl (chg_mo (by decide) a2)
      have c2n : chg CAn (CSn ++ [(70, 10)]) ω τ2 := by
        rw [← hτ2]
        exact chg_wr rfl (chg_mo (by decide) a2)
      have r102 : τ2 102 = ω 102 := chg_row c2 (fun _ => rfl) rfl
      have r107 : τ2 107 = ω 107 := chg_row c2 (fun _ => rfl) rfl
      obtain ⟨τ, p1, p2, p3, p4⟩ := ih (i + 1) τ2 (by omega) (NST_chg hN c2n (by decide)) (by rw [r102, r107]; exact hC) (fun j hj => by
        rw [chg_at c2n rfl rfl]
        exact h95 j hj) (by rw [← hτ2, xwr_eq])
      rw [r102, r107] at p4
      refine ⟨τ, fun d o1 => ?_, chg_tr c2 p2, ?_, p4⟩
      · rw [st, b108_125, if_pos (by rw [l15]; omega), b108_147, b108_150, xad1 (by omega), hτ2]
        exact p1 d o1
      · rw [p3, ← hτ2, xwr_nj (by decide)]
        exact chg_at a2 rfl rfl
/-- what was found is kept -/
theorem it108a {wt : Nat → Nat → Nat} {P : List (Nat → Nat)} (hP : P.length ≤ 200) (hR : RES 71 n wt P σ) (h16 : σ 71 16 = 0) : ∃ τ, (∀ d o1, Ev X (d + 2) 108 63 [some (vr 70), o1, some (vi k), some (vi P.length), some (vi 0)] [] SH σ = Ev X (d + 2) 108 94 [some (vr 70), o1, some (vi k), some (vi P.length), some (vi 0)] [] SH τ) ∧ chs [95] [] σ τ ∧ ∀ (j : Nat) (h : j < P.length), τ 95 j = ((cdN (P[j]'h) n : Nat) : Int) := by
  have lp : ∀ (m i : Nat) (ω : xM), i + m = P.length → chs [95] [] σ ω → (∀ (j : Nat) (h : j < P.length), j < i → ω 95 j = ((cdN (P[j]'h) n : Nat) : Int)) → ∃ τ, (∀ d o1, Ev X (d + 2) 108 63 [some (vr 70), o1, some (vi k), some (vi P.length), some (vi i)] [] SH ω = Ev X (d + 2) 108 94 [some (vr 70), o1, some (vi k), some (vi P.length), some (vi 0)] [] SH τ) ∧ chs [95] [] σ τ ∧ ∀ (j : Nat) (h : j < P.length), τ 95 j = ((cdN (P[j]'h) n : Nat) : Int) := by
    intro m
    induction m with
    | zero =>
      intro i ω e h1 h2
      refine ⟨ω, fun d o1 => ?_, h1, fun j hj => h2 j hj (by omega)⟩
      rw [b108_63, if_pos (by omega), b108_91]
    | succ m ih =>
      intro i ω e h1 h2
      have hi : i < P.length := by omega
      have Rω : RES 71 n wt P ω := by
        obtain ⟨q1, q2, q3, q4⟩ := hR
        have e16 := h1 71 16 rfl
        refine ⟨(h1 71 15 rfl).trans q1, fun i hi a b => ?_, fun s hs => (h1 88 s rfl).trans (q3 s hs), fun q i hq hi => (h1 89 (20 * q + i) rfl).trans (q4 q i hq hi)⟩
        rw [e16] at a b ⊢
        exact (h1 87 _ rfl).trans (q2 i hi a b)
      obtain ⟨τ, p1, p2, p3⟩ := ih (i + 1) (xwr ω 95 i ((cdN (P[i]'hi) n : Nat) : Int)) (by omega) (chs_wr rfl h1) (fun j h hj => by
        by_cases z : j = i
        · subst z
          rw [xwr_eq]
        · rw [xwr_nj z]
          exact h2 j h (by omega))
      refine ⟨τ, fun d o1 => ?_, p2, p3⟩
      rw [b108_63, if_neg (by omega)]
      refine Eq.trans b108_69 ?_
      refine x_bind (s188n Rω ((h1 71 16 rfl).trans h16) hi (by omega) d) ?_
      dsimp only
      refine Eq.trans (b108_84 (t2 := ((cdN (P[i]'hi) n : Nat) : Int)) (t1 := (i : Int)) (by omega)) ?_
      rw [Int.toNat_natCast, xad1 (by omega)]
      exact p1 d o1
  exact lp P.length 0 σ (by omega) chs_rf (fun j h hj => by omega)
theorem CAn_z : ∀ {σ τ : xM}, chg CAn CSn σ τ → chg CAz CSz σ τ := fun h => chg_mo (by decide) h
/-- findPuzzle -/
theorem s108 (h : Core σ) (hN : CacheN σ) (hn0 : 0 < σ 100 16) (hk : k = 1 ∨ k = 2) (o1 : okW (chM σ 110) (nM σ)) : ∃ τ x0, (∀ d, Ev X (d + 22) 108 0 [some (vr 70), some (vr 23), some (vi k), none, none] [] SH σ = some (none, SH, τ)) ∧ chg CAz CSz σ τ ∧ CacheN τ ∧ RWX τ 110 x0 ∧ τ 70 10 = pzF τ k x0 := by
  obtain ⟨n16, n11⟩ := nM_16 h
  obtain ⟨r1, r2, r3, r4⟩ := h.2.2.2.1
  by_cases y : σ 70 9 = (k : Int)
  · have hz := hN.2
    rcases hz with hz | hz
    · omega
    · obtain ⟨x0, k', z1, z2, z3, z4⟩ := hz
      have : k' = k := by omega
      subst this
      refine ⟨σ, x0, fun d => ?_, chg_rf, hN, z1, z4⟩
      rw [b108_0, if_neg (fun z => z y), b108_8]
  · obtain ⟨x0, X0, D0⟩ := RWX_of h (fun c hc => by
      have := r4 c (by omega)
      rw [this.2.2.1]
      exact ⟨this.2.2.2.1, this.2.2.2.2.1⟩) o1
    generalize hσ0 : xwr (xwr σ 70 9 (k : Int)) 70 10 (-1) = σ0
    have c0 : chg CAz CSz σ σ0 := by
      rw [← hσ0]
      exact chg_wr rfl (chg_wr rfl chg_rf)
    have s0 : ∀ {q j : Nat}, pin CAz CSz q j = false → rdC q = false → σ0 q j = σ q j := fun a b => chg_at c0 a b
    have e144 := fun d => s144 (X := X) (d := d) (σ := σ0) (k := 90) (k1 := 23) (by unfold isRow; omega) (by unfold isRow; omega) (by decide) (by rw [s0 rfl rfl]; exact r1) (by rw [s0 rfl rfl]; exact r2) (fun c hc => by
      rw [s0 (q := 23) rfl rfl] at hc
      rw [s0 (q := 23 + 1) rfl rfl]
      exact (r4 c hc).2.1)
    generalize hσ1 : cpy (xwr σ0 90 0 (σ0 23 0)) 90 23 (σ0 23 0).toNat = σ1 at e144
    have c1 : chg CAz CSz σ σ1 := by
      rw [← hσ1]
      unfold cpy
      exact chg_xr rfl (chg_xr rfl (chg_wr rfl c0))
    have h90 : σ1 90 0 = (nM σ : Int) := by
      rw [← hσ1, cpy_at (by decide) (by decide), xwr_eq, s0 rfl rfl]
      omega
    have h91 : ∀ c, c < nM σ → σ1 91 c = σ 107 c := by
      intro c hc
      have e : σ1 91 c = σ 24 c := by
        rw [← hσ1]
        unfold cpy
        have lt : c < (σ0 23 0).toNat := by rw [s0 rfl rfl]; omega
        show (if (91 : Nat) = 90 + 2 then _ else if (91 : Nat) = 90 + 1 then _ else _) = _
        rw [if_neg (by decide), if_pos (by decide)]
        dsimp only
        rw [if_pos lt, xwr_nk (by decide)]
        exact s0 rfl rfl
      rw [e, (r4 c (by omega)).1]
    have t9 : σ1 70 9 = (k : Int) := by
      rw [← hσ1, cpy_at (by decide) (by decide), xwr_nk (by decide), ← hσ0, xwr_nj (by decide), xwr_eq]
    have t10 : σ1 70 10 = -1 := by
      rw [← hσ1, cpy_at (by decide) (by decide), xwr_nk (by decide), ← hσ0, xwr_eq]
    have C1 : Core σ1 := Core_chg h c1 (Or.inl rfl) (Or.inl rfl) (Or.inl rfl) (Or.inl rfl) (Or.inl rfl) (Or.inl rfl) (Or.inl rfl) (Or.inl rfl) (Or.inl rfl) (Or.inl rfl)
    have q1 : ∀ {k j : Nat}, pin CAz CSz k j = false → rdC k = false → σ1 k j = σ k j := fun a b => chg_at c1 a b
    have v1 := s189 (X := X) (σ := σ1) (n := nM σ) (k0 := 23) (x := x0) (by unfold isRow; omega) (by omega) ((q1 rfl rfl).trans (by omega)) X0.1.1 (fun c hc => by
      rw [f73_cg (chg_row c1 (fun _ => rfl) rfl), q1 (k := 24) rfl rfl, q1 (k := 25) rfl rfl, ← (r4 c (by omega)).1, ← (r4 c (by omega)).2.2.1]
      exact D0 c hc)
    have n1 : nM σ1 = nM σ := by unfold nM; rw [q1 rfl rfl]
    have r102 : σ1 102 = σ 102 := chg_row c1 (fun _ => rfl) rfl
    have r107 : σ1 107 = σ 107 := chg_row c1 (fun _ => rfl) rfl
    have hN1 : NST σ1 (nM σ) := NST_of C1 n1.symm (by rw [q1 rfl rfl]; exact hn0) h90 (by rw [r107]; exact h91)
    obtain ⟨σ2, a1, a2, a3, wt, a4⟩ := s104 (X := X) (σ := σ1) (n := nM σ) (k := k) (so := 2) (stop := 200) (x := x0) hN1 (by rw [r102, r107]; exact X0.1) (Or.inr rfl) (by omega) (by omega)
    rw [r102, r107] at a4
    have lP : ((nbW (σ 102) (nM σ) (σ 107) 2 k x0).take 200).length ≤ 200 := by
      rw [List.length_take]
      omega
    obtain ⟨σ3, b1, b2, b3⟩ := it108a (X := X) (k := k) lP a4 a3
    have cc3 : chg CAz CSz σ1 σ3 := chg_tr (CAn_z a2) (chg_mo (by decide) (chs_g b2))
    have N3 : NST σ3 (nM σ) := NST_chg (NST_chg hN1 a2 (by decide)) (chs_g b2) (by decide)
    have q102 : σ3 102 = σ 102 := (chg_row cc3 (fun _ => rfl) rfl).trans r102
    have q107 : σ3 107 = σ 107 := (chg_row cc3 (fun _ => rfl) rfl).trans r107
    have lT : ((nbC (σ 102) (nM σ) (σ 107) 2 k x0).take 200).length = ((nbW (σ 102) (nM σ) (σ 107) 2 k x0).take 200).length := by
      unfold nbC
      rw [List.length_take, List.length_take, List.length_map]
    obtain ⟨τ, p1, p2, p3, p4⟩ := it108 (X := X) (n := nM σ) (k := k) (T := (nbC (σ 102) (nM σ) (σ 107) 2 k x0).take 200) (by rw [lT]; exact lP) (by omega) _ 0 σ3 (Nat.zero_add _) N3 (fun y hy => by
      rw [q102, q107]
      exact nbC_CD y (List.mem_of_mem_take hy)) (fun j hj => by
      rw [b3 j (by rw [← lT]; exact hj)]
      congr 1
      rw [List.getElem_take, List.getElem_take]
      unfold nbC
      rw [List.getElem_map]) (by rw [b2 70 10 rfl, chg_at a2 rfl rfl]; exact t10)
    rw [List.drop_zero, q102, q107] at p4
    have cT : chg CAz CSz σ τ := chg_tr c1 (chg_tr cc3 p2)
    have a102 : τ 102 = σ 102 := chg_row cT (fun _ => rfl) rfl
    have a107 : τ 107 = σ 107 := chg_row cT (fun _ => rfl) rfl
    have a110 : τ 110 = σ 110 := chg_row cT (fun _ => rfl) rfl
    have a111 : τ 111 = σ 111 := chg_row cT (fun _ => rfl) rfl
    have a93 : τ 93 = σ 93 := chg_row cT (fun _ => rfl) rfl
    have a94 : τ 94 = σ 94 := chg_row cT (fun _ => rfl) rfl
    have s5 : τ 70 5 = σ 70 5 := chg_at cT rfl rfl
    have s6 : τ 70 6 = σ 70 6 := chg_at cT rfl rfl
    have s7 : τ 70 7 = σ 70 7 := chg_at cT rfl rfl
    have nT : nM τ = nM σ := by unfold nM; rw [chg_at cT rfl rfl]
    have XT : RWX τ 110 x0 := by
      unfold RWX
      rw [nT, a102, a107, a110]
      exact X0
    have pT : τ 70 10 = pzF τ k x0 := by
      rw [p4, pzF_e, nT, a102, a107]
    refine ⟨τ, x0, fun d => ?_, cT, ⟨?_, Or.inr ⟨x0, k, XT, hk, ?_, pT⟩⟩, XT, pT⟩
    · rw [b108_0, if_pos y]
      refine Eq.trans b108_9 ?_
      rw [hσ0]
      refine x_bind (e144 _) ?_
      dsimp only
      refine Eq.trans b108_29 ?_
      refine x_bind (v1 (d + 20)) ?_
      dsimp only
      refine Eq.trans (b108_38 (t1 := (x0 : Int))) ?_
      refine x_bind (a1 (d + 1)) ?_
      dsimp only
      refine Eq.trans b108_46 ?_
      have xm : xmin (σ2 71 15) 200 = (((nbW (σ 102) (nM σ) (σ 107) 2 k x0).take 200).length : Int) := by
        rw [a4.1]
        unfold xmin
        split <;> omega
      rw [xm]
      refine Eq.trans (b1 (d + 20) _) ?_
      rw [← lT]
      exact p1 (d + 1) _
    · have := hN.1
      unfold PTH RWX SS RLC at this ⊢
      rw [nT, a93, a94, a102, a107, a110, a111, s5, s6, s7]
      exact this
    · rw [p3, b2 70 9 rfl, chg_at a2 rfl rfl]
      exact t9
end PZC
