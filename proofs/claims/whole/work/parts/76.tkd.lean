/-! TOKENS, in the class: advance, and what is asked of a token -/
def TkC (tx : Nat → Int) (n : Nat) (sg : Int → Bool) (τ : xM) (q : Nat) : Prop := τ 1 6 = q ∧ ((q = n ∧ τ 1 5 = 0 ∧ τ 1 7 = q) ∨ (q < n ∧ isLt (tx q) = true ∧ τ 1 7 = (runE isLt tx (n - q) q : Nat) ∧ τ 1 5 = if runE isLt tx (n - q) q - q ≤ 8 then 1 else 4) ∨ (q < n ∧ isDg (tx q) = true ∧ τ 1 7 = (runE isDg tx (n - q) q : Nat) ∧ τ 1 5 = nKd tx n q (runE isDg tx (n - q) q) ∧ τ 1 8 = dval tx q (runE isDg tx (n - q) q - q)) ∨ (q < n ∧ isLt (tx q) = false ∧ isDg (tx q) = false ∧ τ 1 7 = (q + 1 : Nat) ∧ τ 1 8 = tx q ∧ τ 1 5 = if sg (tx q) = true then 3 else 4))
/-- which bytes are signs, by the string that the class holds -/
def sgS (X : Nat × (Nat → Int)) (c4 : Nat) (sg : Int → Bool) : Prop := (10 ≤ c4 ∧ c4 < 23) ∧ ∀ c : Int, 0 ≤ c → c ≤ 255 → ∃ z : Int, (0 ≤ z ↔ sg c = true) ∧ ∀ (τ : xM) (d : Nat), Ev X (d + 3) 305 0 [some (vc c4), some (vi (xi2c c))] [] SH τ = some (some (vi z), SH, τ)
section TKD
variable {X : Nat × (Nat → Int)} {σ τ : xM} {sg : Int → Bool} {n p c4 : Nat}
theorem s159 (hS : sgS X c4 sg) (h4 : σ 1 4 = (c4 : Int)) (h1 : σ 1 1 = n) (hn : n ≤ 300) (hb : ∀ i, 0 ≤ σ 2 i ∧ σ 2 i ≤ 255) (h7 : σ 1 7 = p) (hp : p ≤ n) : ∃ τ, (∀ d, Ev X (d + 5) 159 0 [some (vr 1), none] [] SH σ = some (none, SH, τ)) ∧ chg [] [(1, 5), (1, 6), (1, 7), (1, 8)] σ τ ∧ TkC (σ 2) n sg τ (runE isBl (σ 2) (n - p) p) := by
  have rg := runE_rg (P := isBl) (tx := σ 2) (n - p) p
  have lp := it159 (X := X) (o1 := none) h1 hn (n - p) p (by omega)
  generalize runE isBl (σ 2) (n - p) p = q at rg lp
  have st : ∀ d, Ev X (d + 5) 159 0 [some (vr 1), none] [] SH σ = Ev X (d + 5) 159 46 [some (vr 1), none] [] SH (xwr σ 1 6 (q : Int)) := by
    intro d
    rw [b159_0, h7]
    exact lp (d + 4)
  have hbq := hb q
  generalize hρ : xwr (xwr σ 1 6 (q : Int)) 1 7 (q : Int) = ρ
  have r1 : ρ 1 1 = n := by rw [← hρ, xwr_nj (by decide), xwr_nj (by decide)]; exact h1
  have r2 : ρ 2 = σ 2 := by rw [← hρ, xwr_row (by decide), xwr_row (by decide)]
  have r4 : ρ 1 4 = (c4 : Int) := by rw [← hρ, xwr_nj (by decide), xwr_nj (by decide)]; exact h4
  have r6 : ρ 1 6 = q := by rw [← hρ, xwr_nj (by decide), xwr_eq]
  have r7 : ρ 1 7 = q := by rw [← hρ, xwr_eq]
  have cρ : chg [] [(1, 5), (1, 6), (1, 7), (1, 8)] σ ρ := by rw [← hρ]; exact chg_wr rfl (chg_wr rfl chg_rf)
  have st2 : ∀ d, Ev X (d + 5) 159 0 [some (vr 1), none] [] SH σ = Ev X (d + 5) 159 62 [some (vr 1), none] [vi (f160 ρ q)] SH ρ := by
    intro d
    rw [st]
    refine Eq.trans b159_46 ?_
    rw [xwr_eq, hρ]
    refine x_bind s160 ?_
    rfl
  by_cases e : q = n
  · have v : f160 ρ q = -1 := by
      unfold f160
      rw [if_neg (by omega), r1, if_pos (by omega)]
    rw [v] at st2
    refine ⟨xwr ρ 1 5 0, fun d => ?_, chg_wr rfl cρ, ?_, Or.inl ⟨e, xwr_eq, ?_⟩⟩
    · rw [st2, b159_62, if_neg (by decide), b159_68, b159_140]
    · rw [xwr_nj (by decide)]; exact r6
    · rw [xwr_nj (by decide)]; exact r7
  · have v : f160 ρ q = σ 2 q := by
      unfold f160
      rw [if_neg (by omega), r1, if_neg (by omega), if_neg (by omega), Int.toNat_natCast, r2]
    rw [v] at st2
    cases lt : isLt (σ 2 q) with
    | true =>
      have lt' := of_decide_eq_true lt
      have w := s163 (X := X) (τ := ρ) r1 hn r6 r7 (by omega)
      rw [r2] at w
      refine ⟨xwr (xwr ρ 1 7 (runE isLt (σ 2) (n - q) q : Nat)) 1 5 (if runE isLt (σ 2) (n - q) q - q ≤ 8 then 1 else 4), fun d => ?_, chg_wr rfl (chg_wr rfl cρ), ?_, Or.inr (Or.inl ⟨by omega, lt, ?_, xwr_eq⟩)⟩
      · rw [st2]
        simp (disch := first | omega | assumption | (simp (disch := omega) only [ite_self, Int.reduceAdd, xadd_eq, xsub_eq, xmul_eq, xneg_eq, xwr_eq, xwr_nk, xwr_nj, Int.toNat_natCast, x_nc, f162] <;> first | omega | assumption) | fail) only [↓if_pos, ↓if_neg, ↓b159_0, ↓b159_19, ↓b159_62, ↓b159_27, ↓b159_76, ↓b159_68, ↓b159_30, ↓b159_80, ↓b159_140, ↓b159_33, ↓b159_90, ↓b159_83, ↓b159_94, ↓b159_87, ↓b159_104, ↓b159_97, ↓b159_129, ↓b159_101, ↓b159_136, ↓b159_132, ↓b159_137, ↓s162, ↓w, x_bdi, x_bdn, ite_self, Int.reduceAdd, xadd_eq, xsub_eq, xmul_eq, xneg_eq, xwr_eq, xwr_nk, xwr_nj, Int.toNat_natCast, x_nc]
      · rw [xwr_nj (by decide), xwr_nj (by decide)]; exact r6
      · rw [xwr_nj (by decide), xwr_eq]
    | false =>
      have lt' := of_decide_eq_false lt
      cases dg : isDg (σ 2 q) with
      | true =>
        have dg' := of_decide_eq_true dg
        have w := s165 (X := X) (τ := ρ) r1 hn r6 r7 (by omega)
        rw [r2] at w
        refine ⟨xwr (xwr (xwr ρ 1 8 (dval (σ 2) q (runE isDg (σ 2) (n - q) q - q))) 1 7 (runE isDg (σ 2) (n - q) q : Nat)) 1 5 (nKd (σ 2) n q (runE isDg (σ 2) (n - q) q)), fun d => ?_, chg_wr rfl (chg_wr rfl (chg_wr rfl cρ)), ?_, Or.inr (Or.inr (Or.inl ⟨by omega, dg, ?_, xwr_eq, ?_⟩))⟩
        · rw [st2]
          simp (disch := first | omega | assumption | (simp (disch := omega) only [ite_self, Int.reduceAdd, xadd_eq, xsub_eq, xmul_eq, xneg_eq, xwr_eq, xwr_nk, xwr_nj, Int.toNat_natCast, x_nc, f162, f164] <;> first | omega | assumption) | fail) only [↓if_pos, ↓if_neg, ↓b159_0, ↓b159_19, ↓b159_62, ↓b159_27, ↓b159_76, ↓b159_68, ↓b159_30, ↓b159_80, ↓b159_140, ↓b159_33, ↓b159_90, ↓b159_83, ↓b159_94, ↓b159_87, ↓b159_104, ↓b159_97, ↓b159_129, ↓b159_101, ↓b159_136, ↓b159_132, ↓b159_137, ↓s162, ↓s164, ↓w, x_bdi, x_bdn, ite_self, Int.reduceAdd, xadd_eq, xsub_eq, xmul_eq, xneg_eq, xwr_eq, xwr_nk, xwr_nj, Int.toNat_natCast, x_nc]
        · rw [xwr_nj (by decide), xwr_nj (by decide), xwr_nj (by decide)]; exact r6
        · rw [xwr_nj (by decide), xwr_eq]
        · rw [xwr_nj (by decide), xwr_nj (by decide), xwr_eq]
      | false =>
        have dg' := of_decide_eq_false dg
        obtain ⟨z, z1, z2⟩ := hS.2 (σ 2 q) hbq.1 hbq.2
        have hc4 := hS.1
        have x6 : xadd (q : Int) 1 = ((q + 1 : Nat) : Int) := xadd_eq (by omega) (by omega)
        have e104 : ∀ d, Ev X (d + 5) 159 0 [some (vr 1), none] [] SH σ = Ev X (d + 5) 159 104 [some (vr 1), some (vi (σ 2 q))] [] SH ρ := by
          intro d
          rw [st2]
          simp (disch := first | omega | assumption | (simp (disch := omega) only [ite_self, Int.reduceAdd, xadd_eq, xsub_eq, xmul_eq, xneg_eq, xwr_eq, xwr_nk, xwr_nj, Int.toNat_natCast, x_nc, f162, f164] <;> first | omega | assumption) | fail) only [↓if_pos, ↓if_neg, ↓b159_0, ↓b159_19, ↓b159_62, ↓b159_27, ↓b159_76, ↓b159_68, ↓b159_30, ↓b159_80, ↓b159_140, ↓b159_33, ↓b159_90, ↓b159_83, ↓b159_94, ↓b159_87, ↓b159_97, ↓b159_129, ↓b159_101, ↓b159_136, ↓b159_132, ↓b159_137, ↓s162, ↓s164, x_bdi, x_bdn, ite_self, Int.reduceAdd, xadd_eq, xsub_eq, xmul_eq, xneg_eq, xwr_eq, xwr_nk, xwr_nj, Int.toNat_natCast, x_nc]
        have e129 : ∀ d, Ev X (d + 5) 159 0 [some (vr 1), none] [] SH σ = Ev X (d + 5) 159 129 [some (vr 1), some (vi (σ 2 q))] [vi z, vr 1] SH (xwr (xwr ρ 1 7 ((q + 1 : Nat) : Int)) 1 8 (σ 2 q)) := by
          intro d
          rw [e104]
          refine Eq.trans (b159_104 hc4 (by rw [xwr_nj (by decide), xwr_nj (by decide)]; exact r4)) ?_
          rw [r6, x6]
          refine x_bind (z2 _ _) ?_
          rfl
        by_cases y : 0 ≤ z
        · refine ⟨xwr (xwr (xwr ρ 1 7 ((q + 1 : Nat) : Int)) 1 8 (σ 2 q)) 1 5 3, fun d => ?_, chg_wr rfl (chg_wr rfl (chg_wr rfl cρ)), ?_, Or.inr (Or.inr (Or.inr ⟨by omega, lt, dg, ?_, ?_, ?_⟩))⟩
          · rw [e129, b159_129, if_neg (by omega), b159_132, b159_137, b159_140]
          · rw [xwr_nj (by decide), xwr_nj (by decide), xwr_nj (by decide)]; exact r6
          · rw [xwr_nj (by decide), xwr_nj (by decide), xwr_eq]
          · rw [xwr_nj (by decide), xwr_eq]
          · rw [xwr_eq, if_pos (z1.mp y)]
        · refine ⟨xwr (xwr (xwr ρ 1 7 ((q + 1 : Nat) : Int)) 1 8 (σ 2 q)) 1 5 4, fun d => ?_, chg_wr rfl (chg_wr rfl (chg_wr rfl cρ)), ?_, Or.inr (Or.inr (Or.inr ⟨by omega, lt, dg, ?_, ?_, ?_⟩))⟩
          · rw [e129, b159_129, if_pos (by omega), b159_136, b159_137, b159_140]
          · rw [xwr_nj (by decide), xwr_nj (by decide), xwr_nj (by decide)]; exact r6
          · rw [xwr_nj (by decide), xwr_nj (by decide), xwr_eq]
          · rw [xwr_nj (by decide), xwr_eq]
          · rw [xwr_eq, if_neg (fun w => y (z1.mpr w))]
/-- the token is this word -/
def wdC (tx : Nat → Int) (n : Nat) (τ : xM) (q : Nat) (wd : List Int) : Prop := τ 1 5 = 1 ∧ τ 1 7 = (q + wd.length : Nat) ∧ ∀ i, i < wd.length → tx (q + i) = wd.getD i 0
theorem it167 {k1 q : Nat} {wd : List Int} (hk : 10 ≤ k1 ∧ k1 < 23) (ha : xca X (k1 + 30) = some (3, wd.length, fun j => wd.getD j 0)) (hl : wd.length ≤ 8) (hv : ∀ i, i < wd.length → xi2c (xand (wd.getD i 0) 255) = wd.getD i 0 ∧ 0 ≤ wd.getD i 0 ∧ wd.getD i 0 ≤ 65535) (h1 : τ 1 1 = n) (hn : n ≤ 300) (h6 : τ 1 6 = q) (hq : q + wd.length ≤ n) : ∀ (m i : Nat), i + m = wd.length → ((∀ j, i ≤ j → j < wd.length → τ 2 (q + j) = wd.getD j 0) → ∀ d, Ev X (d + 5) 167 28 [some (vr 1), some (vc k1), some (vi i)] [] SH τ = some (some (vi 1), SH, τ)) ∧ ((∃ j, i ≤ j ∧ j < wd.length ∧ τ 2 (q + j) ≠ wd.getD j 0) → ∀ d, Ev X (d + 5) 167 28 [some (vr 1), some (vc k1), some (vi i)] [] SH τ = some (some (vi 0), SH, τ)) := by
  have sl := fun d => s308 (X := X) (d := d) (σ := τ) (k := k1) hk ha (by omega)
  intro m
  induction m with
  | zero =>
    intro i e
    refine ⟨fun _ d => ?_, fun ⟨j, j1, j2, _⟩ => by omega⟩
    refine Eq.trans (b167_28 hk) ?_
    refine x_bind (sl (d + 3)) ?_
    dsimp only
    refine Eq.trans b167_33 ?_
    rw [if_pos (by omega), b167_62]
  | succ m ih =>
    intro i e
    obtain ⟨n1, n2⟩ := ih (i + 1) (by omega)
    have x6 : xadd (q : Int) (i : Int) = ((q + i : Nat) : Int) := by rw [xadd_eq (by omega) (by omega)]; omega
    have hb : f160 τ ((q + i : Nat) : Int) = τ 2 (q + i) := by
      unfold f160
      rw [if_neg (by omega), h1, if_neg (by omega), if_neg (by omega), Int.toNat_natCast]
    have c1 := fun d => s160 (X := X) (d := d) (σ := τ) (a1 := ((q + i : Nat) : Int))
    rw [hb] at c1
    obtain ⟨v1, v2⟩ := hv i (by omega)
    have c2 := fun d => s315 (X := X) (d := d) (σ := τ) (k := k1) (a1 := (i : Int)) hk ha (by omega) (by omega) (by rw [Int.toNat_natCast]; exact v1) (by rw [Int.toNat_natCast]; exact v2)
    rw [Int.toNat_natCast] at c2
    have st : ∀ d, Ev X (d + 5) 167 28 [some (vr 1), some (vc k1), some (vi i)] [] SH τ = Ev X (d + 5) 167 51 [some (vr 1), some (vc k1), some (vi i)] [vi (wd.getD i 0), vi (τ 2 (q + i))] SH τ := by
      intro d
      refine Eq.trans (b167_28 hk) ?_
      refine x_bind (sl (d + 3)) ?_
      dsimp only
      refine Eq.trans b167_33 ?_
      rw [if_neg (by omega)]
      refine Eq.trans b167_36 ?_
      rw [h6, x6]
      refine x_bind (c1 _) ?_
      dsimp only
      refine Eq.trans (b167_46 hk) ?_
      refine x_bind (c2 (d + 1)) ?_
      rfl
    by_cases z : τ 2 (q + i) = wd.getD i 0
    · have st2 : ∀ d, Ev X (d + 5) 167 28 [some (vr 1), some (vc k1), some (vi i)] [] SH τ = Ev X (d + 5) 167 28 [some (vr 1), some (vc k1), some (vi ((i + 1 : Nat) : Int))] [] SH τ := by
        intro d
        rw [st, b167_51, if_pos z, b167_56, xadd_eq (by omega) (by omega)]
        rfl
      refine ⟨fun h d => (st2 d).trans (n1 (fun j j1 j2 => h j (by omega) j2) d), fun ⟨j, j1, j2, j3⟩ d => (st2 d).trans (n2 ⟨j, ?_, j2, j3⟩ d)⟩
      rcases Nat.lt_or_eq_of_le j1 with y | y
      · exact y
      · subst y; exact absurd z j3
    · refine ⟨fun h => absurd (h i (Nat.le_refl _) (by omega)) z, fun _ d => ?_⟩
      rw [st, b167_51, if_neg z, b167_54]
theorem s167 {k1 q e : Nat} {wd : List Int} (hk : 10 ≤ k1 ∧ k1 < 23) (ha : xca X (k1 + 30) = some (3, wd.length, fun j => wd.getD j 0)) (hl : wd.length ≤ 8) (hv : ∀ i, i < wd.length → xi2c (xand (wd.getD i 0) 255) = wd.getD i 0 ∧ 0 ≤ wd.getD i 0 ∧ wd.getD i 0 ≤ 65535) (h1 : τ 1 1 = n) (hn : n ≤ 300) (h6 : τ 1 6 = q) (h7 : τ 1 7 = e) (hq : q ≤ e) (he : e ≤ n) : (wdC (τ 2) n τ q wd → ∀ d, Ev X (d + 5) 167 0 [some (vr 1), some (vc k1), none] [] SH τ = some (some (vi 1), SH, τ)) ∧ (¬ wdC (τ 2) n τ q wd → ∀ d, Ev X (d + 5) 167 0 [some (vr 1), some (vc k1), none] [] SH τ = some (some (vi 0), SH, τ)) := by
  have sl := fun d => s308 (X := X) (d := d) (σ := τ) (k := k1) hk ha (by omega)
  have sb : xsub (e : Int) (q : Int) = ((e - q : Nat) : Int) := by rw [xsub_eq (by omega) (by omega)]; omega
  have st : τ 1 5 = 1 → e - q = wd.length → ∀ d, Ev X (d + 5) 167 0 [some (vr 1), some (vc k1), none] [] SH τ = Ev X (d + 5) 167 28 [some (vr 1), some (vc k1), some (vi 0)] [] SH τ := by
    intro y1 y2 d
    rw [b167_0, if_neg (fun z => z y1)]
    refine Eq.trans (b167_8 hk) ?_
    refine x_bind (sl (d + 3)) ?_
    dsimp only
    refine Eq.trans b167_21 ?_
    rw [h6, h7, sb, if_pos (by omega), b167_26]
  refine ⟨fun ⟨w1, w2, w3⟩ d => ?_, fun w d => ?_⟩
  · have lp := it167 (X := X) hk ha hl hv h1 hn h6 (by omega) wd.length 0 (by omega)
    exact (st w1 (by omega) d).trans (lp.1 (fun j _ hj => w3 j hj) d)
  · by_cases y1 : τ 1 5 = 1
    · by_cases y2 : e - q = wd.length
      · have lp := it167 (X := X) hk ha hl hv h1 hn h6 (by omega) wd.length 0 (by omega)
        refine (st y1 y2 d).trans (lp.2 ?_ d)
        rcases ex_dec (fun j => τ 2 (q + j) ≠ wd.getD j 0) wd.length with ⟨j, j1, j2⟩ | y3
        · exact ⟨j, Nat.zero_le _, j1, j2⟩
        · exact absurd ⟨y1, by rw [h7]; omega, fun i hi => Classical.byContradiction (fun z => y3 i hi z)⟩ w
      · rw [b167_0, if_neg (fun z => z y1)]
        refine Eq.trans (b167_8 hk) ?_
        refine x_bind (sl (d + 3)) ?_
        dsimp only
        refine Eq.trans b167_21 ?_
        rw [h6, h7, sb, if_neg (by omega), b167_24]
    · rw [b167_0, if_pos y1, b167_24]
end TKD
