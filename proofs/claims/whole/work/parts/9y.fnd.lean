/-! MENDS, in the class: find -/
section FND
variable {X : Nat × (Nat → Int)} {σ τ : xM} {n len t l : Nat} {fg bt cd : Nat → Int}
theorem ctF_cg (e3 : τ 3 5 = σ 3 5) (e6 : τ 6 = σ 6) : ctF τ fg bt = ctF σ fg bt := by
  funext c i
  unfold ctF
  rw [f71_cg e3 e6]
theorem clF_cg (e3 : τ 3 5 = σ 3 5) (e6 : τ 6 = σ 6) : clF τ fg bt = clF σ fg bt := by
  funext c i
  unfold clF
  rw [f71_cg e3 e6]
theorem syF_cg (e3 : τ 3 5 = σ 3 5) (e7 : τ 7 = σ 7) : syF τ fg = syF σ fg := by
  funext c i
  unfold syF
  rw [f74_cg e3 e7]
theorem wtF_cg (e3 : τ 3 5 = σ 3 5) (e6 : τ 6 = σ 6) : wtF τ fg = wtF σ fg := by
  funext c i
  unfold wtF
  rw [f71_cg e3 e6]
theorem opF_cg {F : Nat → Nat → Bool} (e3 : τ 3 5 = σ 3 5) : opF τ fg F = opF σ fg F := by
  funext c
  unfold opF f72
  rw [e3]
/-- what walks need of the state -/
def WST (σ : xM) (n : Nat) (fg bt cd : Nat → Int) (len : Nat) : Prop := WF (σ 102) ∧ FC (σ 102) (σ 3 5) (σ 6) (σ 7) (σ 8) ∧ 0 < n ∧ n ≤ 11 ∧ σ 23 0 = (n : Int) ∧ σ 24 = fg ∧ σ 25 = bt ∧ (∀ c, c < n → fg c = 0 ∨ fg c = 1) ∧ (∀ c, c < n → 0 ≤ bt c ∧ bt c < 128) ∧ σ 11 = cd ∧ σ 10 2 = (len : Int) ∧ WFP cd len ∧ len ≤ 200 ∧ ∀ j, j < 8 → Rd σ 51 0 j = r0 j
theorem sy_ok (h : WST σ n fg bt cd len) {F : Nat → Nat → Bool} {ls : Int} (hls : ∀ c : Nat, c < n → ls < (c : Int) → fg c ≠ 0) : ∀ c, c < n → ∀ i, i ∈ opF σ fg F c → isSy (syF σ fg c i) = true ∧ (ls < (c : Int) → 48 ≤ syF σ fg c i ∧ syF σ fg c i ≤ 57) ∧ wtF σ fg c i ≤ 7 := by
  obtain ⟨hW, hF, _, _, _, _, _, hf, _⟩ := h
  intro c hc i hi
  unfold opF at hi
  have hi := List.mem_range.mp (List.mem_filter.mp hi).1
  have nc := f72_rg (frm_of hW hF) (fg c)
  obtain ⟨s1, s2, s3, s4⟩ := frm_S hW hF (hf c hc) (i := i) (by omega)
  refine ⟨s2, fun h => s3 (hls c hc h), ?_⟩
  unfold wtF
  have := pc_rg (f71 σ (fg c) (i : Int)).toNat
  omega
theorem s95m {fr : Int} (h : WST σ n fg bt cd len) (hfr : 0 ≤ fr ∧ fr < 2147483648) (ht : t ≤ 3) (hl : l ≤ 3) : ∃ τ, (∀ d, Ev X (d + 20) 95 0 [some (vr 49), some (vi 0), some (vi t), some (vi l), some (vi fr)] [] SH σ = some (none, SH, τ)) ∧ (∀ q j, q ≠ 13 → ¬ (60 ≤ q ∧ q ≤ 68) → ¬ (q = 50 ∧ 9 ≤ j ∧ j ≤ 16) → ¬ (q = 10 ∧ j = 8) → (52 ≤ q ∧ q ≤ 59 → j = 0) → ¬ (q = 49 ∧ 3 ≤ j ∧ j ≤ 6) → τ q j = σ q j) ∧ τ 49 3 = 0 ∧ τ 49 4 = (t : Int) ∧ τ 49 5 = (l : Int) ∧ τ 49 6 = ((lsM σ n fg bt cd len t l).length : Int) ∧ τ 50 16 = fr ∧ RES 50 n (wtF σ fg) (lsM σ n fg bt cd len t l) τ := by
  have h' := h
  obtain ⟨hW, hF, hn0, hn, e23, e24, e25, hf, hb, e11, e10, hw, hlen, hR⟩ := h'
  have lt := lsM_lt (cd := cd) (len := len) hW hF hn hf hb ht hl
  generalize hσ : xwr (xwr (xwr σ 49 3 0) 49 4 (t : Int)) 49 5 (l : Int) = σ1
  have q1 : ∀ q j, ¬ (q = 49 ∧ 3 ≤ j ∧ j ≤ 6) → σ1 q j = σ q j := by
    intro q j hq
    rw [← hσ]
    unfold xwr
    rw [if_neg (by omega), if_neg (by omega), if_neg (by omega)]
  have q1r : ∀ q, q ≠ 49 → σ1 q = σ q := fun q hq => funext (fun j => q1 q j (by omega))
  have v3 : σ1 49 3 = 0 := by rw [← hσ]; simp (disch := decide) only [xwr_nj, xwr_eq]
  have v4 : σ1 49 4 = (t : Int) := by rw [← hσ]; simp (disch := decide) only [xwr_nj, xwr_eq]
  have v5 : σ1 49 5 = (l : Int) := by rw [← hσ, xwr_eq]
  obtain ⟨σ2, ls, a1, a2, a3, a4, a5, a6, a7, a8⟩ := s173 (X := X) (σ := σ1) (k := 50) (k1 := 23) (n := n) (ct := ctF σ fg bt) (cl := clF σ fg bt) (sy := syF σ fg) (wt := wtF σ fg) (fr := fr) (st := -1) (Or.inl rfl) (Or.inl rfl) (by rw [q1 23 0 (by omega)]; exact e23) hn
  rw [q1r 24 (by decide), e24] at a4 a8
  have q2r : ∀ q, q ≠ 49 → q ≠ 50 → q ≠ 64 → σ2 q = σ q := fun q h1 h2 h3 => funext (fun j => by rw [a2 q j (by omega) (by omega), q1r q h1])
  have F2 : FRM σ2 := by
    unfold FRM
    rw [q2r 3 (by decide) (by decide) (by decide), q2r 6 (by decide) (by decide) (by decide), q2r 7 (by decide) (by decide) (by decide)]
    exact frm_of hW hF
  have c1 : ctF σ2 fg bt = ctF σ fg bt := ctF_cg (by rw [q2r 3 (by decide) (by decide) (by decide)]) (q2r 6 (by decide) (by decide) (by decide))
  have c2 : clF σ2 fg bt = clF σ fg bt := clF_cg (by rw [q2r 3 (by decide) (by decide) (by decide)]) (q2r 6 (by decide) (by decide) (by decide))
  have c3 : syF σ2 fg = syF σ fg := syF_cg (by rw [q2r 3 (by decide) (by decide) (by decide)]) (q2r 7 (by decide) (by decide) (by decide))
  have c4 : wtF σ2 fg = wtF σ fg := wtF_cg (by rw [q2r 3 (by decide) (by decide) (by decide)]) (q2r 6 (by decide) (by decide) (by decide))
  have c5 : ∀ F : Nat → Nat → Bool, opF σ2 fg F = opF σ fg F := fun F => opF_cg (by rw [q2r 3 (by decide) (by decide) (by decide)])
  obtain ⟨σ3, b1, b2, b3⟩ := s174 (X := X) (ω := σ2) (k := 50) (k1 := 23) (n := n) (fg := fg) (bt := bt) (Or.inl rfl) (Or.inl rfl) F2 ht hl ((q2r 24 (by decide) (by decide) (by decide)).trans e24) ((q2r 25 (by decide) (by decide) (by decide)).trans e25) hf hb (by rw [c1, c2, c3, c4]; exact a3)
  rw [c5, c1, c2, c3, c4] at b3
  have q3 : ∀ q j, ¬ (60 ≤ q ∧ q ≤ 64) → σ3 q j = σ2 q j := fun q j hq => by rw [b2 q hq]
  obtain ⟨τ, d1, d2, d3, d4⟩ := s179 (X := X) (σ := σ3) (k := 50) (n := n) (op := opF σ fg (fun c i => decide (ctF σ fg bt c i ≤ t ∧ clF σ fg bt c i ≤ l))) (ct := ctF σ fg bt) (cl := clF σ fg bt) (sy := syF σ fg) (wt := wtF σ fg) (so := 0) (on := -1) (fgN := isum (fun c => if fg c = 0 then 0 else 1) n) (ls := ls) (stop := 1000000000) (cd := cd) (len := len) (T0 := t) (L0 := l) (Or.inl rfl) b3 hn0 ((q3 50 14 (by omega)).trans a6) ((q3 50 10 (by omega)).trans a4) ((q3 50 11 (by omega)).trans a5) (by rw [q3 50 16 (by omega), a7]; exact hfr) (by rw [← e11, ← q2r 11 (by decide) (by decide) (by decide)]; exact b2 11 (by omega)) (by rw [q3 10 2 (by omega), q2r 10 (by decide) (by decide) (by decide)]; exact e10) hw hlen (by omega) (sy_ok h a8) (fun j hj => by
    rw [← hR j hj]
    unfold Rd
    rw [q3 _ _ (by omega), q2r _ (by omega) (by omega) (by omega)]) ht hl
  have tk : List.take 1000000000 ((enumF (opF σ fg (fun c i => decide (ctF σ fg bt c i ≤ t ∧ clF σ fg bt c i ≤ l))) n 0 (fun _ => 0)).filter (gdB (GD n (ctF σ fg bt) (clF σ fg bt) (syF σ fg) (wtF σ fg) 0 (-1) (isum (fun c => if fg c = 0 then 0 else 1) n) cd len t l))) = lsM σ n fg bt cd len t l := List.take_of_length_le (Nat.le_of_lt lt)
  rw [tk] at d4
  have m9 : ∀ j, 3 ≤ j → j ≤ 5 → τ 49 j = σ1 49 j := by
    intro j h1 h2
    rw [d2 49 j (by omega) (by omega) (by omega) (by omega) (by omega), q3 49 j (by omega), a2 49 j (by omega) (by omega)]
  refine ⟨xwr τ 49 6 (τ 50 15), fun d => ?_, fun q j h1 h2 h3 h4 h5 h6 => ?_, ?_, ?_, ?_, ?_, ?_, ?_⟩
  · rw [b95_0, if_pos (by decide), hσ, b95_34]
    refine Eq.trans (b95_35 (t3 := -1) (t2 := fr)) ?_
    refine x_bind (a1 _) ?_
    dsimp only
    refine Eq.trans b95_38 ?_
    rw [if_neg (by decide)]
    refine Eq.trans b95_42 ?_
    refine x_bind (b1 (d + 13)) ?_
    dsimp only
    refine Eq.trans b95_55 ?_
    rw [b95_73, if_pos rfl, b95_94, if_neg (by decide)]
    refine Eq.trans b95_102 ?_
    refine x_bind s175 ?_
    dsimp only
    refine Eq.trans (b95_107 (t1 := f175 σ3 (t : Int) (l : Int))) ?_
    refine Eq.trans b95_111 ?_
    rw [show f175 σ3 (t : Int) (l : Int) = ((4 * t + l : Nat) : Int) by
      unfold f175
      rw [xmul_eq (by omega) (by omega), xadd_eq (by omega) (by omega)]
      omega]
    refine x_bind (d1 (d + 19) (by omega)) ?_
    exact b95_117
  · rw [show xwr τ 49 6 (τ 50 15) q j = τ q j from if_neg (by omega), d2 q j h1 (by omega) (by omega) h4 (by omega), q3 q j (by omega), a2 q j (by omega) (by omega), q1 q j h6]
  · rw [xwr_nj (by decide), m9 3 (by decide) (by decide)]; exact v3
  · rw [xwr_nj (by decide), m9 4 (by decide) (by decide)]; exact v4
  · rw [xwr_nj (by decide), m9 5 (by decide) (by decide)]; exact v5
  · rw [xwr_eq]; exact d4.1
  · rw [xwr_nk (by decide), d3, q3 50 16 (by omega)]; exact a7
  · obtain ⟨r1, r2, r3, r4⟩ := d4
    refine ⟨by rw [xwr_nk (by decide)]; exact r1, fun i hi x y => ?_, fun s hs => by rw [xwr_nk (by decide)]; exact r3 s hs, fun c i x y => by rw [xwr_nk (by decide)]; exact r4 c i x y⟩
    rw [xwr_nk (by decide)] at x y
    rw [xwr_nk (by decide), xwr_nk (by decide)]
    exact r2 i hi x y
end FND
