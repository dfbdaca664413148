/-! PATHS, in the class: codes, findPath's loops -/
/-- up towards the start, and how far it is -/
def itO (O : Nat → Nat) : Nat → Nat → Nat
  | 0, j => j
  | s + 1, j => itO O s (O j)
def dpF (O : Nat → Nat) : Nat → Nat → Nat
  | 0, _ => 0
  | f + 1, j => if j = 0 then 0 else dpF O f (O j) + 1
def ogN (S : PS) (j : Nat) : Nat := (S.1.getD j (0, 0)).2.toNat
def mvS (S : PS) : Int := if S.2 = true then (dpF (ogN S) 151 (S.1.length - 1) : Int) else if 150 < S.1.length then -2 else -1
def bI (b : Bool) : Int := if b = true then 1 else 0
def RLC (σ : xM) (S : PS) : Prop := σ 70 5 = (S.1.length : Int) ∧ ∀ (j : Nat) (h : j < S.1.length), σ 93 j = ((S.1[j]'h).1 : Int) ∧ σ 94 j = (S.1[j]'h).2
section COD
variable {X : Nat × (Nat → Int)} {σ τ : xM} {n : Nat}
theorem dpF_eq {O : Nat → Nat} (hO : ∀ j, 0 < j → j ≤ 150 → O j < j) : ∀ (f f' j : Nat), j ≤ 150 → j ≤ f → j ≤ f' → dpF O f j = dpF O f' j
  | 0, f', j, _, h1, h2 => by
    have : j = 0 := by omega
    subst this
    cases f' with
    | zero => rfl
    | succ f' => rw [dpF, dpF, if_pos rfl]
  | f + 1, f', j, h0, h1, h2 => by
    by_cases y : j = 0
    · subst y
      cases f' with
      | zero => rw [dpF, dpF, if_pos rfl]
      | succ f' => rw [dpF, dpF, if_pos rfl, if_pos rfl]
    · obtain ⟨f', rfl⟩ : ∃ g, f' = g + 1 := ⟨f' - 1, by omega⟩
      have := hO j (by omega) h0
      rw [dpF, dpF, if_neg y, if_neg y, dpF_eq hO f f' (O j) (by omega) (by omega) (by omega)]
theorem dpF_le {O : Nat → Nat} (hO : ∀ j, 0 < j → j ≤ 150 → O j < j) : ∀ (f j : Nat), j ≤ 150 → dpF O f j ≤ j
  | 0, j, _ => by rw [dpF]; omega
  | f + 1, j, h => by
    rw [dpF]
    by_cases y : j = 0
    · rw [if_pos y]; omega
    · have a := hO j (by omega) h
      have := dpF_le hO f (O j) (by omega)
      rw [if_neg y]
      omega
theorem dpF_st {O : Nat → Nat} (hO : ∀ j, 0 < j → j ≤ 150 → O j < j) {j : Nat} (h0 : 0 < j) (h : j ≤ 150) : dpF O 151 j = dpF O 151 (O j) + 1 := by
  have a := hO j h0 h
  rw [dpF, if_neg (by omega), dpF_eq hO 150 151 (O j) (by omega) (by omega) (by omega)]
/-- sticks that read are a form -/
theorem frm_ix {fig b : Int} (hW : WF (σ 102)) (hF : FC (σ 102) (σ 3 5) (σ 6) (σ 7) (σ 8)) (hf : fig = 0 ∨ fig = 1) (h0 : 0 ≤ b) (h1 : b < 128) (hs : rdB (σ 102) fig b ≠ -1) : ∃ i : Nat, f73 σ fig b = (i : Int) ∧ (i : Int) < f72 σ fig ∧ f71 σ fig (i : Int) = b := by
  rcases hf with rfl | rfl
  · have : b = 3 ∨ b = 1 ∨ b = 5 ∨ b = 24 ∨ b = 16 := by
      refine Classical.byContradiction (fun z => hs ?_)
      unfold rdB sgR
      rw [if_pos rfl]
      simp only [not_or] at z
      simp [z.1, z.2.1, z.2.2.1, z.2.2.2.1, z.2.2.2.2]
    rw [f72_0]
    rcases this with rfl | rfl | rfl | rfl | rfl
    · exact ⟨0, rfl, by decide, by rw [f71_0 (by decide)]; decide⟩
    · exact ⟨1, rfl, by decide, by rw [f71_0 (by decide)]; decide⟩
    · exact ⟨2, rfl, by decide, by rw [f71_0 (by decide)]; decide⟩
    · exact ⟨3, rfl, by decide, by rw [f71_0 (by decide)]; decide⟩
    · exact ⟨4, rfl, by decide, by rw [f71_0 (by decide)]; decide⟩
  · have e1 : f73 σ 1 b = σ 8 b.toNat := by
      unfold f73
      rw [if_neg (by decide), if_pos ⟨h0, h1⟩]
    rw [e1, f72_1]
    rcases way_or hW h0 with ⟨i, i1, i2, i3, i4⟩ | hn
    · obtain ⟨q1, q2, q3⟩ := hF.2.1 i i1 (by omega)
      rw [i2] at q3 q1
      have := nz_lt (w := σ 102) i1 (by omega)
      have lt : ((nz (σ 102) i : Nat) : Int) < σ 3 5 := by rw [hF.1]; omega
      exact ⟨nz (σ 102) i, q3, lt, by rw [f71_1 lt]; exact q1⟩
    · refine absurd ?_ hs
      unfold rdB
      rw [if_neg (by decide), rdL_none 20 (fun i hi hw => by have := hn i hi hw; omega)]
/-- a row that reads has a code -/
theorem row_cd {fg bs : Nat → Int} (hW : WF (σ 102)) (hF : FC (σ 102) (σ 3 5) (σ 6) (σ 7) (σ 8)) (hf : ∀ c, c < n → fg c = 0 ∨ fg c = 1) (hb : ∀ c, c < n → 0 ≤ bs c ∧ bs c < 128) (hs : ∀ c, c < n → rdB (σ 102) (fg c) (bs c) ≠ -1) : ∃ x, CD (σ 102) n fg x ∧ ∀ c, c < n → BW (σ 102) fg c (dig x c) = bs c ∧ f73 σ (fg c) (bs c) = (dig x c : Int) := by
  have q := fun c => fun hc : c < n => frm_ix hW hF (hf c hc) (hb c hc).1 (hb c hc).2 (hs c hc)
  have hp : ∃ p : Nat → Nat, ∀ c, c < n → f73 σ (fg c) (bs c) = (p c : Int) ∧ ((p c : Nat) : Int) < f72 σ (fg c) ∧ f71 σ (fg c) (p c : Int) = bs c := ⟨fun c => if hc : c < n then (q c hc).choose else 0, fun c hc => by
    simp only [hc, dif_pos]
    exact (q c hc).choose_spec⟩
  obtain ⟨p, hp⟩ := hp
  have fr := frm_of hW hF
  have pm : ∀ c, c < n → p c ∈ moW (σ 102) fg c ∧ p c < 32 := by
    intro c hc
    have fb := (frm_B hF (hf c hc)).1
    have := hp c hc
    have r := f72_rg fr (fg c)
    unfold moW
    exact ⟨List.mem_range.mpr (by omega), by omega⟩
  have dg : ∀ c, c < n → dig (cdN p n) c = p c := fun c hc => dig_cd hc (fun i hi => (pm i hi).2)
  refine ⟨cdN p n, ⟨cdN_lt n (fun i hi => (pm i hi).2), fun c hc => by rw [dg c hc]; exact (pm c hc).1⟩, fun c hc => ?_⟩
  rw [dg c hc, BW_f71 hF (hf c hc) (hp c hc).2.1]
  exact ⟨(hp c hc).2.2, (hp c hc).1⟩
/-- two codes of one row -/
theorem cd_uq {fg bs : Nat → Int} {x y : Nat} (hW : WF (σ 102)) (hF : FC (σ 102) (σ 3 5) (σ 6) (σ 7) (σ 8)) (hf : ∀ c, c < n → fg c = 0 ∨ fg c = 1) (hx : CD (σ 102) n fg x) (hy : CD (σ 102) n fg y) (e : ∀ c, c < n → BW (σ 102) fg c (dig x c) = BW (σ 102) fg c (dig y c)) : x = y := by
  rw [← cd_dig x hx.1, ← cd_dig y hy.1]
  refine cdN_cg n (fun c hc => ?_)
  have fb := (frm_B hF (hf c hc)).1
  have mx := hx.2 c hc
  have my := hy.2 c hc
  unfold moW at mx my
  have mx := List.mem_range.mp mx
  have my := List.mem_range.mp my
  refine BF_inj hW hF (hf c hc) (by omega) (by omega) ?_
  unfold BF
  rw [← BW_f71 hF (hf c hc) (by omega), ← BW_f71 hF (hf c hc) (by omega)]
  exact e c hc
/-- codeOf of a row -/
theorem s189 {k0 x : Nat} (hk0 : isRow k0) (hn : n ≤ 11) (e0 : σ k0 0 = (n : Int)) (hx : x < 32 ^ n) (hd : ∀ c, c < n → f73 σ (σ (k0 + 1) c) (σ (k0 + 2) c) = (dig x c : Int) ∧ dig x c < 20) : ∀ d, Ev X (d + 1) 189 0 [some (vr k0), some (vr 3), none, none, none, none] [] SH σ = some (some (vl (x : Int)), SH, σ) := by
  intro d
  have lp : ∀ (m c : Nat) (o5 : Option xV), c + m = n → Ev X (d + 1) 189 5 [some (vr k0), some (vr 3), some (vl (cdN (dig x) c : Int)), none, some (vi c), o5] [] SH σ = some (some (vl (x : Int)), SH, σ) := by
    intro m
    induction m with
    | zero =>
      intro c o5 e
      have e : c = n := by omega
      subst e
      rw [b189_5 hk0, if_pos (by omega), b189_61, cd_dig x hx]
    | succ m ih =>
      intro c o5 e
      have q := hd c (by omega)
      have u := cod_up (p := dig x) (c := c) (i := dig x c) (by omega) (fun j hj => (hd j (by omega)).2) q.2
      have u2 : cdN (upN (dig x) c (dig x c)) (c + 1) = cdN (dig x) (c + 1) := cdN_cg _ (fun i hi => by
        by_cases y : i = c
        · rw [y, upN_at]
        · exact upN_ne y)
      rw [u2] at u
      rw [b189_5 hk0, if_neg (by omega)]
      refine Eq.trans (b189_14 hk0 (by omega)) ?_
      rw [Int.toNat_natCast]
      refine x_bind s73 ?_
      rw [q.1]
      dsimp only
      refine Eq.trans b189_32 ?_
      rw [if_pos (by omega), b189_44, u, xad1 (by omega)]
      exact ih (c + 1) _ (by omega)
  rw [b189_0]
  exact lp n 0 none (by omega)
/-- foundAt -/
theorem s188n {wt : Nat → Nat → Nat} {ps : List (Nat → Nat)} {i : Nat} (hR : RES 71 n wt ps σ) (h16 : σ 71 16 = 0) (hi : i < ps.length) (h2 : i < 256) : ∀ d, Ev X (d + 1) 188 0 [some (vr 71), some (vi i)] [] SH σ = some (some (vl (cdN ps[i] n : Int)), SH, σ) := by
  intro d
  have xs : xsub (i : Int) (σ 71 16) = (i : Int) := by rw [h16, xsub_eq (by omega) (by omega)]; omega
  have f : f187 σ 71 (i : Int) = 1 := by
    unfold f187
    rw [if_neg (by omega), if_neg (by rw [hR.1]; omega), xs, if_neg (by omega)]
  have r := hR.2.1 i hi (by omega) (by omega)
  rw [h16, show ((i : Int) - 0).toNat = i by omega] at r
  refine Eq.trans (b188_0 (Or.inr rfl)) ?_
  refine x_bind (s187 (Or.inr rfl)) ?_
  rw [f]
  dsimp only
  refine Eq.trans b188_5 ?_
  rw [if_neg (by decide), b188_8 (Or.inr rfl) (by rw [xs]; omega), b188_25, xs, Int.toNat_natCast, r]
theorem lc_0 {a b : Nat} : lcmp' (a : Int) (b : Int) = 0 ↔ a = b := by
  unfold lcmp'
  split
  · constructor
    · intro h
      exact absurd h (by decide)
    · intro h
      omega
  · split
    · constructor
      · intro _
        omega
      · intro _
        rfl
    · constructor
      · intro h
        exact absurd h (by decide)
      · intro h
        omega
/-- addNew -/
theorem s105 {S : PS} {y aim : Nat} {o : Int} (hR : RLC σ S) (hl : S.1.length ≤ 150) (h2 : S.2 = false) : ∃ τ, (∀ d, Ev X d 105 0 [some (vr 70), some (vl (y : Int)), none, some (vi o), none] [] SH σ = some (some (vi (bI (decide (y ∉ S.1.map Prod.fst)))), SH, τ)) ∧ chs [93, 94] [(70, 5)] σ τ ∧ RLC τ (add1 aim o S y) := by
  obtain ⟨e5, hR⟩ := hR
  have lp : ∀ (m i : Nat), i + m = S.1.length → (∀ (j : Nat) (h : j < S.1.length), j < i → (S.1[j]'h).1 ≠ y) → ∃ τ, (∀ d, Ev X d 105 3 [some (vr 70), some (vl (y : Int)), none, some (vi o), some (vi i)] [] SH σ = some (some (vi (bI (decide (y ∉ S.1.map Prod.fst)))), SH, τ)) ∧ chs [93, 94] [(70, 5)] σ τ ∧ RLC τ (add1 aim o S y) := by
    intro m
    induction m with
    | zero =>
      intro i e hno
      have ni : y ∉ S.1.map Prod.fst := by
        intro hy
        obtain ⟨e, he, h1⟩ := List.mem_map.mp hy
        obtain ⟨j, hj, h3⟩ := List.getElem_of_mem he
        exact hno j hj (by omega) (by rw [h3]; exact h1)
      have ad : add1 aim o S y = (S.1 ++ [(y, o)], decide (y = aim)) := by
        unfold add1
        rw [if_neg]
        rintro (z | z | z)
        · rw [h2] at z
          cases z
        · omega
        · exact ni z
      refine ⟨xwr (xwr (xwr σ 93 S.1.length (y : Int)) 94 S.1.length o) 70 5 ((S.1.length + 1 : Nat) : Int), fun d => ?_, chs_wr rfl (chs_wr rfl (chs_wr rfl chs_rf)), ?_⟩
      · rw [b105_3, if_pos (by omega), b105_32, if_pos (by omega), b105_44 (by omega), e5, Int.toNat_natCast, xad1 (by omega), decide_eq_true ni]
        rfl
      · rw [ad]
        refine ⟨by rw [xwr_eq]; simp, fun j hj => ?_⟩
        dsimp only at hj ⊢
        rw [List.length_append, List.length_singleton] at hj
        by_cases z : j < S.1.length
        · rw [List.getElem_append_left z]
          refine ⟨?_, ?_⟩
          · rw [xwr_nk (by decide), xwr_nk (by decide), xwr_nj (by omega)]
            exact (hR j z).1
          · rw [xwr_nk (by decide), xwr_nj (by omega), xwr_nk (by decide)]
            exact (hR j z).2
        · have : j = S.1.length := by omega
          subst this
          rw [List.getElem_append_right (Nat.le_refl _)]
          refine ⟨?_, ?_⟩
          · rw [xwr_nk (by decide), xwr_nk (by decide), xwr_eq]
            simp
          · rw [xwr_nk (by decide), xwr_eq]
            simp
    | succ m ih =>
      intro i e hno
      have hi : i < S.1.length := by omega
      by_cases z : (S.1[i]'hi).1 = y
      · have yi : y ∈ S.1.map Prod.fst := List.mem_map.mpr ⟨_, List.getElem_mem hi, z⟩
        have ad : add1 aim o S y = S := by
          unfold add1
          rw [if_pos (Or.inr (Or.inr yi))]
        refine ⟨σ, fun d => ?_, chs_rf, by rw [ad]; exact ⟨e5, hR⟩⟩
        rw [b105_3, if_neg (by omega), b105_12 (by omega), Int.toNat_natCast, (hR i hi).1, if_neg (fun w => w (lc_0.mpr z)), b105_24, decide_eq_false (fun w => w yi)]
        rfl
      · obtain ⟨τ, p1, p2, p3⟩ := ih (i + 1) (by omega) (fun j h hj => by
          by_cases w : j = i
          · subst w
            exact z
          · exact hno j h (by omega))
        refine ⟨τ, fun d => ?_, p2, p3⟩
        rw [b105_3, if_neg (by omega), b105_12 (by omega), Int.toNat_natCast, (hR i hi).1, if_pos (fun w => z (lc_0.mp w)), b105_26, xad1 (by omega)]
        exact p1 d
  obtain ⟨τ, p1, p2, p3⟩ := lp S.1.length 0 (by omega) (fun j h hj => by omega)
  refine ⟨τ, fun d => ?_, p2, p3⟩
  rw [b105_0]
  exact p1 d
end COD
