/-! Reading.readRow and the model's saysSum, by one measure -/
section TRU
variable {X : Nat × (Nat → Int)} {σ τ : xM} {k k1 n : Nat} {cs cs' : Nat → Int}
theorem rdSt_cg {r r' : Nat → Int} (h : ∀ j, j < 8 → r j = r' j) : ∀ m j, j < 8 → rdSt r cs m j = rdSt r' cs m j
  | 0 => h
  | m + 1 => rdN_congr (rdSt_cg h m)
theorem rdSt_cs {r : Nat → Int} : ∀ m, (∀ j, j < m → cs j = cs' j) → rdSt r cs m = rdSt r cs' m
  | 0, _ => rfl
  | m + 1, h => by
    show rdN (rdSt r cs m) (cs m) = rdN (rdSt r cs' m) (cs' m)
    rw [rdSt_cs m (fun j hj => h j (by omega)), h m (by omega)]
theorem okS_cs (h : ∀ j, j < n → cs j = cs' j) (ok : okS cs n) : okS cs' n := by
  intro j hj
  rw [← h j hj, ← rdSt_cs (r := r0) j (fun i hi => h i (by omega))]
  exact ok j hj
theorem okW_cs (h : ∀ j, j < n → cs j = cs' j) (ok : okW cs n) : okW cs' n := by
  refine ⟨okS_cs h ok.1, ?_⟩
  rw [← rdSt_cs (r := r0) n h]
  exact ok.2
theorem rdB_sy {w : Nat → Int} {fig b : Int} : rdB w fig b = -1 ∨ isSy (rdB w fig b) = true := by
  unfold rdB
  by_cases h : fig = 0
  · rw [if_pos h]
    unfold sgR
    repeat' split
    all_goals first | exact Or.inl rfl | exact Or.inr rfl
  · rw [if_neg h]
    have : ∀ n, n ≤ 20 → rdL w b n = -1 ∨ isSy (rdL w b n) = true := by
      intro n
      induction n with
      | zero => intro _; exact Or.inl rfl
      | succ n ih =>
        intro hn
        rw [rdL]
        split
        · refine Or.inr (decide_eq_true (Or.inl ?_))
          omega
        · exact ih (by omega)
    exact this 20 (Nat.le_refl _)
theorem f127_v {x0 x6 : Int} (hn : n ≤ 11) (h0 : Rd τ k n 0 = x0) (h6 : Rd τ k n 6 = x6) : f127 τ k n = if x0 = 1 ∧ 0 < x6 then 1 else 0 := by
  have a0 : τ (k + 1) n = x0 := h0
  have a6 : τ (k + 7) n = x6 := h6
  unfold f127
  rw [if_neg (by omega), if_neg (by omega), Int.toNat_natCast, a0, a6]
  by_cases z : x0 = 1
  · rw [if_neg (fun y => y z)]
    by_cases z2 : x6 ≤ 0
    · rw [if_pos z2, if_neg (by omega)]
    · rw [if_neg z2, if_pos (by omega)]
  · rw [if_pos z, if_neg (fun y => z y.1)]
theorem s128Y (hk : isRdg k) (hk1 : isRow k1) (hn : n ≤ 11) (hl : σ k1 0 = n) (h1 : σ 3 5 ≤ 20) (h7 : ∀ j : Nat, (j : Int) < σ 3 5 → 0 ≤ σ 7 j ∧ σ 7 j ≤ 9) (hr : ∀ j, j < 8 → Rd σ k 0 j = r0 j) (ok : okW (symR σ k1) n) : ∃ τ, (∀ d, Ev X (d + 6) 128 0 [some (vr k), some (vr k1), some (vr 3), none, none] [] SH σ = some (some (vi 1), SH, τ)) ∧ (∀ j, j < 8 → Rd τ k n j = rdSt r0 (symR σ k1) n j) ∧ chg [] [] σ τ := by
  have cg : ∀ m j, j < 8 → rdSt (Rd σ k 0) (symR σ k1) m j = rdSt r0 (symR σ k1) m j := fun m j hj => rdSt_cg hr m j hj
  have w := fun d => s128y (X := X) (d := d) hk hk1 hn hl h1 h7 (fun m hm => by
    obtain ⟨o1, o2⟩ := ok.1 m hm
    refine ⟨fun z => ?_, ?_⟩
    · rw [z] at o1; exact absurd o1 (by decide)
    · rw [rdOk_congr (cg m)]; exact o2)
  have rd : ∀ j, j < 8 → Rd (setRds σ k n (rdSt (Rd σ k 0) (symR σ k1))) k n j = rdSt r0 (symR σ k1) n j := fun j hj => (Rd_setRds (σ := σ) (k := k) (m := n) (st := rdSt (Rd σ k 0) (symR σ k1)) hj rfl).trans (cg n j hj)
  have v : f127 (setRds σ k n (rdSt (Rd σ k 0) (symR σ k1))) k n = 1 := by
    obtain ⟨s, ra⟩ := auL _ _ ok.1
    have ran := RA_n ra
    have o2 := ok.2.1
    have o3 := ok.2.2
    rw [f127_v hn (rd 0 (by decide)) (rd 6 (by decide)), if_pos ⟨o2, by omega⟩]
  rw [v] at w
  exact ⟨_, w, rd, chg_rds hk chg_rf⟩
theorem s128N (hk : isRdg k) (hk1 : isRow k1) (hn : n ≤ 11) (hl : σ k1 0 = n) (h1 : σ 3 5 ≤ 20) (h7 : ∀ j : Nat, (j : Int) < σ 3 5 → 0 ≤ σ 7 j ∧ σ 7 j ≤ 9) (hr : ∀ j, j < 8 → Rd σ k 0 j = r0 j) (hs : ∀ j, j < n → symR σ k1 j = -1 ∨ isSy (symR σ k1 j) = true) (ok : ¬ okW (symR σ k1) n) : ∃ τ, (∀ d, Ev X (d + 6) 128 0 [some (vr k), some (vr k1), some (vr 3), none, none] [] SH σ = some (some (vi 0), SH, τ)) ∧ chg [] [] σ τ := by
  have cg : ∀ m j, j < 8 → rdSt (Rd σ k 0) (symR σ k1) m j = rdSt r0 (symR σ k1) m j := fun m j hj => rdSt_cg hr m j hj
  rcases okS_dec (symR σ k1) n with h | ⟨p, p1, p2, p3⟩
  · have w := fun d => s128y (X := X) (d := d) hk hk1 hn hl h1 h7 (fun m hm => by
      obtain ⟨o1, o2⟩ := h m hm
      refine ⟨fun z => ?_, ?_⟩
      · rw [z] at o1; exact absurd o1 (by decide)
      · rw [rdOk_congr (cg m)]; exact o2)
    have v : f127 (setRds σ k n (rdSt (Rd σ k 0) (symR σ k1))) k n = 0 := by
      have rd : ∀ j, j < 8 → Rd (setRds σ k n (rdSt (Rd σ k 0) (symR σ k1))) k n j = rdSt r0 (symR σ k1) n j := fun j hj => (Rd_setRds (σ := σ) (k := k) (m := n) (st := rdSt (Rd σ k 0) (symR σ k1)) hj rfl).trans (cg n j hj)
      rw [f127_v hn (rd 0 (by decide)) (rd 6 (by decide)), if_neg (fun y => ok ⟨h, y.1, by have := y.2; omega⟩)]
    rw [v] at w
    exact ⟨_, w, chg_rds hk chg_rf⟩
  · have w := fun d => s128n (X := X) (d := d) hk hk1 hn hl h1 h7 p1 (fun m hm => by
      obtain ⟨o1, o2⟩ := p2 m hm
      refine ⟨fun z => ?_, ?_⟩
      · rw [z] at o1; exact absurd o1 (by decide)
      · rw [rdOk_congr (cg m)]; exact o2) (by
      rcases hs p p1 with y | y
      · exact Or.inl y
      · refine Or.inr ?_
        rw [rdOk_congr (cg p)]
        cases q : rdOk (rdSt r0 (symR σ k1) p) (symR σ k1 p)
        · rfl
        · exact absurd ⟨y, q⟩ p3)
    exact ⟨_, w, chg_rds hk chg_rf⟩
/-- how true a sum is -/
def trI (r : Nat → Int) : Int := if lsT r = 0 ∧ r 1 = r 2 + clZ r then 1 else 0
/-- what a side is worth -/
def woI (r : Nat → Int) (s : Int) : Int := if s = 0 then (if lsT r = 0 ∨ lsT r = 2 then r 1 else -2000000000) else (if lsT r = 0 ∨ lsT r = 1 then r 2 + clZ r else -2000000000)
theorem trT_I (hc : okW cs n) (hn : n ≤ 11) (hR : ∀ j, j < 8 → Rd τ k n j = rdSt r0 cs n j) : trT τ k n = trI (rdSt r0 cs n) := by
  have rb := RB_st n hc.1 hn
  have hN := ndg_9 hc.1 hn
  have a0 := hR 0 (by decide)
  have a6 := hR 6 (by decide)
  have o2 := hc.2.1
  have o3 := hc.2.2
  obtain ⟨s, ra⟩ := auL _ _ hc.1
  have ran := RA_n ra
  have v : f127 τ k n = 1 := by
    rw [f127_v hn a0 a6, if_pos ⟨o2, by omega⟩]
  unfold trT trI
  rw [v, if_neg (by decide), Int.toNat_natCast, lsT_congr hR, clT_congr hR, hR 1 (by decide), hR 2 (by decide), clT_Z rb hN, RB_ea rb hN]
  by_cases z : lsT (rdSt r0 cs n) = 0
  · rw [if_neg (fun y => y z)]
    by_cases z2 : rdSt r0 cs n 1 = rdSt r0 cs n 2 + clZ (rdSt r0 cs n)
    · rw [if_neg (fun y => y z2), if_pos ⟨z, z2⟩]
    · rw [if_pos z2, if_neg (fun y => z2 y.2)]
  · rw [if_pos z, if_neg (fun y => z y.1)]
theorem woT_I (hc : okW cs n) (hn : n ≤ 11) (hR : ∀ j, j < 8 → Rd τ k n j = rdSt r0 cs n j) {s : Int} (hs : s = 0 ∨ s = 1) : woT τ k n s = woI (rdSt r0 cs n) s := by
  have rb := RB_st n hc.1 hn
  have hN := ndg_9 hc.1 hn
  have a0 := hR 0 (by decide)
  have a6 := hR 6 (by decide)
  have o2 := hc.2.1
  have o3 := hc.2.2
  obtain ⟨t, ra⟩ := auL _ _ hc.1
  have ran := RA_n ra
  have v : f127 τ k n = 1 := by
    rw [f127_v hn a0 a6, if_pos ⟨o2, by omega⟩]
  have l := ls_rg rb.2.2.2.2.1 rb.2.2.2.2.2.1 rb.2.2.2.2.2.2
  have q : ∀ a, a < 4 → (xand (xshr ((a : Nat) : Int) 0) 1 = ((a % 2 : Nat) : Int)) ∧ (xand (xshr ((a : Nat) : Int) 1) 1 = ((a / 2 : Nat) : Int)) := by decide
  have q := q (lsT (rdSt r0 cs n)).toNat (by omega)
  rw [Int.toNat_of_nonneg l.1] at q
  unfold woT woI
  rw [v, if_neg (by decide), Int.toNat_natCast, lsT_congr hR, clT_congr hR, hR 1 (by decide), hR 2 (by decide), clT_Z rb hN, RB_ea rb hN]
  have l1 := l.1
  have l2 := l.2.1
  clear l v a0 a6 ran ra rb
  rcases hs with rfl | rfl
  · rw [q.1, if_pos rfl, if_neg (show ¬ (0 : Int) ≠ 0 by decide)]
    by_cases z : lsT (rdSt r0 cs n) = 0 ∨ lsT (rdSt r0 cs n) = 2
    · rw [if_pos z, if_pos (by omega)]
    · rw [if_neg z, if_neg (by omega)]
  · rw [q.2, if_neg (show ¬ (1 : Int) = 0 by decide), if_pos (show (1 : Int) ≠ 0 by decide)]
    by_cases z : lsT (rdSt r0 cs n) = 0 ∨ lsT (rdSt r0 cs n) = 1
    · rw [if_pos z, if_pos (by omega)]
    · rw [if_neg z, if_neg (by omega)]
/-- the model's chars of an array of sticks -/
def chM (σ : xM) (k1 : Nat) : Nat → Int := fun j => rdB (σ 102) (σ 107 j) (σ k1 j)
def U1 (σ : xM) (k : Nat) (g : Nat → Int) (m : Nat) : xM := xrow σ k (upf (σ k) 0 g m)
theorem U1_0 {g : Nat → Int} : U1 σ k g 0 = σ := by
  unfold U1
  rw [upf_0, xrow_self]
theorem U1_at {g : Nat → Int} {m q : Nat} (h : q ≠ k) : U1 σ k g m q = σ q := xrow_nrow h
theorem U1_s {g : Nat → Int} {m : Nat} : xwr (U1 σ k g m) k m (g m) = U1 σ k g (m + 1) := by
  unfold U1
  rw [xwr_xrow, ← upf_s, Nat.zero_add]
theorem U1_in {g : Nat → Int} {m j : Nat} (h : j < m) : U1 σ k g m k j = g j := by
  unfold U1
  rw [xrow_eq, upf_in0 h]
theorem it224 (ha : isArr k1) (hk1 : k1 ≠ 113) (hn : σ 100 16 = n) (hn2 : n ≤ 11) (hf : ∀ c, c < n → σ 107 c = 0 ∨ σ 107 c = 1) : ∀ (q i : Nat), i + q = n → ∀ d, Ev X (d + 2) 224 2 [some (vr 100), some (vr k1), some (vi i)] [] SH (U1 σ 113 (chM σ k1) i) = Ev X (d + 2) 224 35 [some (vr 100), some (vr k1), some (vi n)] [] SH (U1 σ 113 (chM σ k1) n) := by
  intro q
  induction q with
  | zero =>
    intro i e d
    obtain rfl : i = n := by omega
    rw [b224_2, U1_at (by decide), if_pos (by omega)]
  | succ q ih =>
    intro i e d
    have ih := ih (i + 1) (by omega) d
    have e1 : U1 σ 113 (chM σ k1) i 107 = σ 107 := U1_at (by decide)
    have e2 : U1 σ 113 (chM σ k1) i k1 = σ k1 := U1_at hk1
    have e3 : U1 σ 113 (chM σ k1) i 102 = σ 102 := U1_at (by decide)
    have sr := fun d => s222 (X := X) (d := d) (σ := U1 σ 113 (chM σ k1) i) (fig := σ 107 i) (b := σ k1 i) (hf i (by omega))
    rw [e3] at sr
    rw [b224_2, U1_at (by decide), if_neg (by omega)]
    refine Eq.trans (b224_10 ha (by omega)) ?_
    rw [Int.toNat_natCast, e1, e2]
    refine x_bind (sr d) ?_
    dsimp only
    refine Eq.trans (b224_28 (by omega)) ?_
    rw [Int.toNat_natCast, xadd_eq (by omega) (by omega), show rdB (σ 102) (σ 107 i) (σ k1 i) = chM σ k1 i from rfl, U1_s]
    exact ih
theorem s224Y (ha : isArr k1) (hk1 : k1 ≠ 113) (hn : σ 100 16 = n) (hn2 : n ≤ 11) (hf : ∀ c, c < n → σ 107 c = 0 ∨ σ 107 c = 1) (ok : okW (chM σ k1) n) : ∃ τ, (∀ d, Ev X (d + 2) 224 0 [some (vr 100), some (vr k1), none] [] SH σ = some (some (vi 1), SH, τ)) ∧ chg [113, 114, 115] [] σ τ ∧ (τ 115 0 = 0 ∨ τ 115 0 = 1) ∧ (τ 115 1 = 0 ∨ τ 115 1 = 1) ∧ lsT (rdSt r0 (chM σ k1) n) = (1 - τ 115 0) + 2 * (1 - τ 115 1) ∧ (τ 115 0 = 1 → τ 114 0 = rdSt r0 (chM σ k1) n 1) ∧ (τ 115 1 = 1 → τ 114 1 = rdSt r0 (chM σ k1) n 2 + clZ (rdSt r0 (chM σ k1) n)) := by
  obtain ⟨τ, w, c, rest⟩ := s225y (X := X) (σ := U1 σ 113 (chM σ k1) n) (cs := chM σ k1) (n := n) (fun j hj => U1_in hj) hn2 ok
  have lp := it224 (X := X) ha hk1 hn hn2 hf n 0 (by omega)
  rw [U1_0] at lp
  have n0 : 0 < n := by
    rcases Nat.eq_zero_or_pos n with z | z
    · subst z
      exact absurd ok.2.1 (show ¬ ((0 : Int) = 1) by decide)
    · exact z
  have u16 : U1 σ 113 (chM σ k1) n 100 16 = n := by rw [U1_at (by decide)]; exact hn
  refine ⟨τ, fun d => ?_, chg_tr (chg_xr rfl chg_rf) (chg_mo rfl c), rest⟩
  rw [b224_0]
  refine (lp d).trans ?_
  simp (disch := first | omega | assumption | (simp (disch := omega) only [ite_self, Int.reduceAdd, xadd_eq, xsub_eq, xmul_eq, xneg_eq, xwr_eq, xwr_nk, xwr_nj, Int.toNat_natCast, x_nc, u16] <;> first | omega | assumption) | fail) only [↓if_pos, ↓if_neg, ↓b224_0, ↓b224_35, ↓b224_10, ↓b224_57, ↓b224_42, ↓b224_28, ↓b224_58, ↓b224_50, ↓b224_53, u16, ↓w, x_bdi, x_bdn, ite_self, Int.reduceAdd, xadd_eq, xsub_eq, xmul_eq, xneg_eq, xwr_eq, xwr_nk, xwr_nj, Int.toNat_natCast, x_nc]
theorem s224N (ha : isArr k1) (hk1 : k1 ≠ 113) (hn : σ 100 16 = n) (hn2 : n ≤ 11) (hf : ∀ c, c < n → σ 107 c = 0 ∨ σ 107 c = 1) (ok : ¬ okW (chM σ k1) n) : ∃ τ, (∀ d, Ev X (d + 2) 224 0 [some (vr 100), some (vr k1), none] [] SH σ = some (some (vi 0), SH, τ)) ∧ chg [113, 114, 115] [] σ τ := by
  have lp := it224 (X := X) ha hk1 hn hn2 hf n 0 (by omega)
  rw [U1_0] at lp
  have u16 : U1 σ 113 (chM σ k1) n 100 16 = n := by rw [U1_at (by decide)]; exact hn
  by_cases n0 : n = 0
  · subst n0
    refine ⟨U1 σ 113 (chM σ k1) 0, fun d => ?_, chg_xr rfl chg_rf⟩
    rw [b224_0]
    refine (lp d).trans ?_
    simp (disch := first | omega | assumption | (simp (disch := omega) only [ite_self, Int.reduceAdd, xadd_eq, xsub_eq, xmul_eq, xneg_eq, xwr_eq, xwr_nk, xwr_nj, Int.toNat_natCast, x_nc, u16] <;> first | omega | assumption) | fail) only [↓if_pos, ↓if_neg, ↓b224_0, ↓b224_35, ↓b224_10, ↓b224_57, ↓b224_42, ↓b224_28, ↓b224_58, ↓b224_50, ↓b224_53, u16, x_bdi, x_bdn, ite_self, Int.reduceAdd, xadd_eq, xsub_eq, xmul_eq, xneg_eq, xwr_eq, xwr_nk, xwr_nj, Int.toNat_natCast, x_nc]
  · obtain ⟨τ, w, c⟩ := s225n (X := X) (σ := U1 σ 113 (chM σ k1) n) (cs := chM σ k1) (n := n) (fun j hj => U1_in hj) (fun j _ => rdB_sy) hn2 ok
    refine ⟨τ, fun d => ?_, chg_tr (chg_xr rfl chg_rf) (chg_mo rfl c)⟩
    rw [b224_0]
    refine (lp d).trans ?_
    simp (disch := first | omega | assumption | (simp (disch := omega) only [ite_self, Int.reduceAdd, xadd_eq, xsub_eq, xmul_eq, xneg_eq, xwr_eq, xwr_nk, xwr_nj, Int.toNat_natCast, x_nc, u16] <;> first | omega | assumption) | fail) only [↓if_pos, ↓if_neg, ↓b224_0, ↓b224_35, ↓b224_10, ↓b224_57, ↓b224_42, ↓b224_28, ↓b224_58, ↓b224_50, ↓b224_53, u16, ↓w, x_bdi, x_bdn, ite_self, Int.reduceAdd, xadd_eq, xsub_eq, xmul_eq, xneg_eq, xwr_eq, xwr_nk, xwr_nj, Int.toNat_natCast, x_nc]
theorem f226_I (h1 : τ 115 0 = 0 ∨ τ 115 0 = 1) (h2 : τ 115 1 = 0 ∨ τ 115 1 = 1) {r : Nat → Int} (h3 : lsT r = (1 - τ 115 0) + 2 * (1 - τ 115 1)) (h4 : τ 115 0 = 1 → τ 114 0 = r 1) (h5 : τ 115 1 = 1 → τ 114 1 = r 2 + clZ r) : f226 τ = trI r := by
  unfold f226 trI
  by_cases z0 : τ 115 0 = 0
  · rw [if_pos z0, if_neg (by omega)]
  · by_cases z1 : τ 115 1 = 0
    · rw [if_neg z0, if_pos z1, if_neg (by omega)]
    · have a := h4 (by omega)
      have b := h5 (by omega)
      rw [if_neg z0, if_neg z1, a, b]
      by_cases z : r 1 = r 2 + clZ r
      · rw [if_neg (fun y => y z), if_pos ⟨by omega, z⟩]
      · rw [if_pos z, if_neg (fun y => z y.2)]
end TRU
