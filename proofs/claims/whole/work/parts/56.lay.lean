/-! Row.fillFrom; the model's rows out of what was read -/
section FIL
variable {X : Nat × (Nat → Int)} {k n i m d : Nat} {τ σ : xM} {o4 o5 o6 : Option xV} {c : Int}
theorem f164_dg : f164 σ c = dgI c := by
  unfold f164 dgI
  repeat' split
  all_goals omega
theorem f71_sg (h : c = 43 ∨ c = 45 ∨ c = 42 ∨ c = 47 ∨ c = 61) : f71 σ 0 (sfind (fun j => ([43, 45, 61, 42, 47] : List Int).getD j 0) (xi2b (xi2c c)) 0 5) = sgW c := by
  rcases h with rfl | rfl | rfl | rfl | rfl <;> rfl
theorem st135b (hk : isRow k) (h1 : τ 1 1 = n) (hi : i < n) (hn : n ≤ 300) (hb : τ 2 i = 32 ∨ τ 2 i = 10) (hm : τ k 0 = m) (hm2 : m < 11) : Ev X (d + 5) 135 7 [some (vr k), some (vr 1), some (vr 3), some (vi i), o4, o5, o6] [] SH τ = Ev X (d + 5) 135 7 [some (vr k), some (vr 1), some (vr 3), some (vi ((i + 1 : Nat) : Int)), some (vi (τ 2 i)), o5, o6] [] SH τ := by
  rw [b135_7, if_neg (by omega)]
  simp (disch := first | omega | assumption | (simp (disch := omega) only [ite_self, Int.reduceAdd, xadd_eq, xsub_eq, xmul_eq, xneg_eq, xwr_eq, xwr_nk, xwr_nj, Int.toNat_natCast, x_nc, f160, f161] <;> first | omega | assumption) | fail) only [↓if_pos, ↓if_neg, ↓b135_0, ↓b135_117, ↓b135_15, ↓b135_24, ↓b135_29, ↓b135_36, ↓b135_111, ↓b135_39, ↓b135_44, ↓b135_54, ↓b135_93, ↓b135_80, ↓b135_100, ↓b135_90, ↓s160, ↓s161, f160, x_bdi, x_bdn, ite_self, Int.reduceAdd, xadd_eq, xsub_eq, xmul_eq, xneg_eq, xwr_eq, xwr_nk, xwr_nj, Int.toNat_natCast, x_nc]
theorem st135d (hk : isRow k) (h1 : τ 1 1 = n) (hi : i < n) (hn : n ≤ 300) (hd : 48 ≤ τ 2 i ∧ τ 2 i ≤ 57) (hw : 1 ≤ τ 4 (2 * (τ 2 i - 48)).toNat) (hm : τ k 0 = m) (hm2 : m < 11) : ∃ o6', ∀ d, Ev X (d + 5) 135 7 [some (vr k), some (vr 1), some (vr 3), some (vi i), o4, o5, o6] [] SH τ = Ev X (d + 5) 135 7 [some (vr k), some (vr 1), some (vr 3), some (vi ((i + 1 : Nat) : Int)), some (vi (τ 2 i)), some (vi 1), o6'] [] SH (xwr (xwr (xwr τ (k + 1) m (dgI (τ 2 i))) (k + 2) m (wyM (τ 4) (τ 2 i))) k 0 (m + 1 : Nat)) := by
  have q2 := fun d => s305s (X := X) (d := d) (τ := τ) (c := τ 2 i) (by omega) (by omega)
  have e1 : dgI (τ 2 i) = 1 := if_pos hd
  have e2 : wyM (τ 4) (τ 2 i) = τ 4 (2 * (τ 2 i - 48)).toNat := if_pos hd
  have rk := row_rg hk
  have q3 := fun (ρ : xM) (hρ : ρ 4 = τ 4) d => s70 (X := X) (d := d) (σ := ρ) (a1 := τ 2 i - 48) (a2 := 0)
  have v3 : ∀ ρ : xM, ρ 4 = τ 4 → f70 ρ (τ 2 i - 48) 0 = τ 4 (2 * (τ 2 i - 48)).toNat := by
    intro ρ hρ
    have e : xadd (xmul 2 (τ 2 i - 48)) 0 = 2 * (τ 2 i - 48) := by rw [xmul_eq (by omega) (by omega), xadd_eq (by omega) (by omega)]; omega
    unfold f70
    rw [if_neg (by omega), if_neg (by omega), if_neg (by decide), if_neg (by decide), e, hρ, if_pos (by omega)]
  have q4 := fun d => q3 (xwr τ (k + 1) m 1) (xwr_row (by omega)) d
  rw [v3 _ (xwr_row (by omega))] at q4
  have q4b : ∀ d, Ev X d 70 0 [some (vr 3), some (vi (xsub (τ 2 i) 48)), some (vi 0)] [] SH (xwr τ (k + 1) m 1) = some (some (vi (τ 4 (2 * (τ 2 i - 48)).toNat)), SH, xwr τ (k + 1) m 1) := by
    intro d
    rw [xsub_eq (by omega) (by omega)]
    exact q4 d
  rw [e1, e2]
  refine ⟨some (vi (sfind (fun j => ([43, 45, 61, 42, 47] : List Int).getD j 0) (xi2b (xi2c (τ 2 i))) 0 5)), fun d => ?_⟩
  rw [b135_7, if_neg (by omega), b135_15 hk, if_neg (by omega)]
  refine Eq.trans b135_24 ?_
  have v160 : f160 τ i = τ 2 i := by
    unfold f160
    rw [if_neg (by omega), if_neg (by omega), if_neg (by omega), Int.toNat_natCast]
  refine x_bind s160 ?_
  dsimp only
  rw [v160]
  refine Eq.trans b135_29 ?_
  refine x_bind s161 ?_
  dsimp only
  refine Eq.trans b135_36 ?_
  have v161 : f161 τ (τ 2 i) = 0 := by
    unfold f161
    rw [if_neg (by omega), if_pos (by omega)]
  rw [v161, if_neg (by decide)]
  refine Eq.trans b135_39 ?_
  refine x_bind s164 ?_
  dsimp only
  rw [f164_dg, e1]
  refine Eq.trans b135_44 ?_
  refine x_bind (q2 (d + 1)) ?_
  dsimp only
  refine Eq.trans (b135_54 hk (Or.inr rfl) (by omega)) ?_
  rw [if_neg (by decide), xwr_nk (by omega), hm, Int.toNat_natCast]
  refine Eq.trans b135_80 ?_
  refine x_bind (q4b _) ?_
  dsimp only
  refine Eq.trans b135_90 ?_
  refine Eq.trans (b135_100 hk (by omega)) ?_
  rw [Int.toNat_natCast, xwr_nk (by omega), xwr_nk (by omega), hm, xadd_eq (by omega) (by omega)]
  refine Eq.trans b135_111 ?_
  rw [xadd_eq (by omega) (by omega)]
  rfl
theorem st135s (hk : isRow k) (h1 : τ 1 1 = n) (hi : i < n) (hn : n ≤ 300) (hs : τ 2 i = 43 ∨ τ 2 i = 45 ∨ τ 2 i = 42 ∨ τ 2 i = 47 ∨ τ 2 i = 61) (h35 : τ 3 5 ≤ 20) (hm : τ k 0 = m) (hm2 : m < 11) : ∃ o6', ∀ d, Ev X (d + 5) 135 7 [some (vr k), some (vr 1), some (vr 3), some (vi i), o4, o5, o6] [] SH τ = Ev X (d + 5) 135 7 [some (vr k), some (vr 1), some (vr 3), some (vi ((i + 1 : Nat) : Int)), some (vi (τ 2 i)), some (vi 0), o6'] [] SH (xwr (xwr (xwr τ (k + 1) m (dgI (τ 2 i))) (k + 2) m (wyM (τ 4) (τ 2 i))) k 0 (m + 1 : Nat)) := by
  have q2 := fun d => s305s (X := X) (d := d) (τ := τ) (c := τ 2 i) (by omega) (by omega)
  have e1 : dgI (τ 2 i) = 0 := if_neg (by omega)
  have e2 : wyM (τ 4) (τ 2 i) = sgW (τ 2 i) := if_neg (by omega)
  have rk := row_rg hk
  have q4 := fun d => s71 (X := X) (d := d) (σ := xwr τ (k + 1) m 0) (a1 := 0) (a2 := sfind (fun j => ([43, 45, 61, 42, 47] : List Int).getD j 0) (xi2b (xi2c (τ 2 i))) 0 5) (by rw [xwr_nk (by omega)]; exact h35)
  rw [f71_sg hs] at q4
  rw [e1, e2]
  refine ⟨some (vi (sfind (fun j => ([43, 45, 61, 42, 47] : List Int).getD j 0) (xi2b (xi2c (τ 2 i))) 0 5)), fun d => ?_⟩
  rw [b135_7, if_neg (by omega), b135_15 hk, if_neg (by omega)]
  refine Eq.trans b135_24 ?_
  have v160 : f160 τ i = τ 2 i := by
    unfold f160
    rw [if_neg (by omega), if_neg (by omega), if_neg (by omega), Int.toNat_natCast]
  refine x_bind s160 ?_
  dsimp only
  rw [v160]
  refine Eq.trans b135_29 ?_
  refine x_bind s161 ?_
  dsimp only
  refine Eq.trans b135_36 ?_
  have v161 : f161 τ (τ 2 i) = 0 := by
    unfold f161
    rw [if_neg (by omega), if_pos (by omega)]
  rw [v161, if_neg (by decide)]
  refine Eq.trans b135_39 ?_
  refine x_bind s164 ?_
  dsimp only
  rw [f164_dg, e1]
  refine Eq.trans b135_44 ?_
  refine x_bind (q2 (d + 1)) ?_
  dsimp only
  refine Eq.trans (b135_54 hk (Or.inl rfl) (by omega)) ?_
  rw [if_pos rfl, xwr_nk (by omega), hm, Int.toNat_natCast]
  refine Eq.trans b135_93 ?_
  refine x_bind (q4 (d + 3)) ?_
  dsimp only
  refine Eq.trans (b135_100 hk (by omega)) ?_
  rw [Int.toNat_natCast, xwr_nk (by omega), xwr_nk (by omega), hm, xadd_eq (by omega) (by omega)]
  refine Eq.trans b135_111 ?_
  rw [xadd_eq (by omega) (by omega)]
  rfl
theorem nbL_le {tx : Nat → Int} {i n : Nat} (h : i ≤ n) : (nbL tx i).length ≤ (nbL tx n).length := by
  obtain ⟨r, hr⟩ := nbL_pre (tx := tx) (n - i) i
  rw [show i + (n - i) = n by omega] at hr
  rw [hr, List.length_append]
  omega
/-- the class's row where the first i bytes were laid -/
def NR (σ τ : xM) (k n i : Nat) : Prop := τ k 0 = (nbL (σ 2) i).length ∧ (∀ j, j < (nbL (σ 2) i).length → τ (k + 1) j = dgI (txs (σ 2) n j)) ∧ (∀ j, j < (nbL (σ 2) i).length → τ (k + 2) j = wyM (σ 4) (txs (σ 2) n j)) ∧ (∀ a, a ≠ k → a ≠ k + 1 → a ≠ k + 2 → τ a = σ a)
theorem it135 (hk : isRow k) (h1 : σ 1 1 = n) (hn : n ≤ 300) (h4 : ∀ g, g < 10 → 1 ≤ σ 4 (2 * g)) (h35 : σ 3 5 ≤ 20) (hg : ∀ i, i < n → gd (σ 2) i = true) : ∀ (q i : Nat) (o4 o5 o6 : Option xV) (τ : xM), i + q = n → NR σ τ k n i → ∃ τ', NR σ τ' k n n ∧ ∀ d, Ev X (d + 5) 135 7 [some (vr k), some (vr 1), some (vr 3), some (vi i), o4, o5, o6] [] SH τ = some (none, SH, τ') := by
  have rk := row_rg hk
  intro q
  induction q with
  | zero =>
    intro i o4 o5 o6 τ e hN
    obtain rfl : i = n := by omega
    refine ⟨τ, hN, fun d => ?_⟩
    have : τ 1 1 = i := by rw [hN.2.2.2 1 (by omega) (by omega) (by omega)]; exact h1
    rw [b135_7, if_pos (by omega), b135_117]
  | succ q ih =>
    intro i o4 o5 o6 τ e hN
    have hN' := hN
    obtain ⟨n1, n2, n3, n4⟩ := hN
    have t1 : τ 1 1 = n := by rw [n4 1 (by omega) (by omega) (by omega)]; exact h1
    have t2 : τ 2 = σ 2 := n4 2 (by omega) (by omega) (by omega)
    have t4 : τ 4 = σ 4 := n4 4 (by omega) (by omega) (by omega)
    have t3 : τ 3 = σ 3 := n4 3 (by omega) (by omega) (by omega)
    have l1 := nbL_len (σ 2) n hg
    have l2 := nbL_le (tx := σ 2) (show i ≤ n by omega)
    by_cases full : (nbL (σ 2) i).length = 11
    · refine ⟨τ, ?_, fun d => ?_⟩
      · unfold NR
        rw [show (nbL (σ 2) n).length = (nbL (σ 2) i).length by omega]
        exact hN'
      · rw [b135_7, if_neg (by omega), b135_15 hk, if_pos (by omega), b135_117]
    · by_cases b : isBl (σ 2 i) = true
      · obtain ⟨τ', w1, w2⟩ := ih (i + 1) (some (vi (τ 2 i))) o5 o6 τ (by omega) (by unfold NR; rw [nbL_bl b]; exact hN')
        refine ⟨τ', w1, fun d => ?_⟩
        rw [← w2 d]
        exact st135b (m := (nbL (σ 2) i).length) hk t1 (by omega) hn (by rw [t2]; exact isBl_t b) n1 (by omega)
      · have b : isBl (σ 2 i) = false := by simpa using b
        obtain ⟨g1, g2, g3⟩ := gd_nb (hg i (by omega)) b
        have g1 := of_decide_eq_true g1
        have hx : txs (σ 2) n (nbL (σ 2) i).length = σ 2 i := nbL_get (by omega) b
        have hl : (nbL (σ 2) (i + 1)).length = (nbL (σ 2) i).length + 1 := by rw [nbL_nb b, List.length_append]; rfl
        have nx : NR σ (xwr (xwr (xwr τ (k + 1) (nbL (σ 2) i).length (dgI (σ 2 i))) (k + 2) (nbL (σ 2) i).length (wyM (σ 4) (σ 2 i))) k 0 ((nbL (σ 2) i).length + 1 : Nat)) k n (i + 1) := by
          unfold NR
          rw [hl]
          refine ⟨xwr_eq, ?_, ?_, ?_⟩
          · exact fa_nk (fa_nk (fa_wr n2 (by rw [hx])) (by omega)) (by omega)
          · exact fa_nk (fa_wr (fa_nk n3 (by omega)) (by rw [hx])) (by omega)
          · intro a a1 a2 a3
            rw [xwr_row a1, xwr_row a3, xwr_row a2]
            exact n4 a a1 a2 a3
        by_cases dg : 48 ≤ σ 2 i ∧ σ 2 i ≤ 57
        · have hw := h4 (σ 2 i - 48).toNat (by omega)
          obtain ⟨o', st⟩ := st135d (X := X) (o4 := o4) (o5 := o5) (o6 := o6) (m := (nbL (σ 2) i).length) (n := n) (i := i) (τ := τ) hk t1 (by omega) hn (by rw [t2]; exact dg) (by rw [t2, t4, show (2 * (σ 2 i - 48)).toNat = 2 * (σ 2 i - 48).toNat by omega]; exact hw) n1 g2
          rw [t2, t4] at st
          obtain ⟨τ', w1, w2⟩ := ih (i + 1) (some (vi (σ 2 i))) (some (vi 1)) o' _ (by omega) nx
          exact ⟨τ', w1, fun d => (st d).trans (w2 d)⟩
        · obtain ⟨o', st⟩ := st135s (X := X) (o4 := o4) (o5 := o5) (o6 := o6) (m := (nbL (σ 2) i).length) (n := n) (i := i) (τ := τ) hk t1 (by omega) hn (by rw [t2]; omega) (by rw [t3]; exact h35) n1 g2
          rw [t2, t4] at st
          obtain ⟨τ', w1, w2⟩ := ih (i + 1) (some (vi (σ 2 i))) (some (vi 0)) o' _ (by omega) nx
          exact ⟨τ', w1, fun d => (st d).trans (w2 d)⟩
theorem s135 (hk : isRow k) (h1 : σ 1 1 = n) (hn : n ≤ 300) (h4 : ∀ g, g < 10 → 1 ≤ σ 4 (2 * g)) (h35 : σ 3 5 ≤ 20) (hg : ∀ i, i < n → gd (σ 2) i = true) : ∃ τ', NR σ τ' k n n ∧ ∀ d, Ev X (d + 5) 135 0 [some (vr k), some (vr 1), some (vr 3), none, none, none, none] [] SH σ = some (none, SH, τ') := by
  have rk := row_rg hk
  obtain ⟨τ', w1, w2⟩ := it135 (X := X) hk h1 hn h4 h35 hg n 0 none none none (xwr σ k 0 0) (by omega) (by
    refine ⟨xwr_eq, fun j hj => ?_, fun j hj => ?_, fun a a1 a2 a3 => xwr_row a1⟩
    · simp [nbL] at hj
    · simp [nbL] at hj)
  refine ⟨τ', w1, fun d => ?_⟩
  rw [← w2 d]
  exact b135_0 hk
theorem it211 (hn : σ 100 16 = n) (hn2 : n ≤ 11) (hf : ∀ c, c < n → σ 109 c = 0 ∨ σ 109 c = 1) : ∀ (q i : Nat), i + q = n → Ev X d 211 31 [some (vr 100), some (vi i)] [] SH (U2 σ 107 0 (σ 109) 110 0 (σ 112) i) = some (some (vi n), SH, xwr (xwr (xwr (U2 σ 107 0 (σ 109) 110 0 (σ 112) n) 100 59 0) 100 69 0) 100 70 0) := by
  intro q
  induction q with
  | zero =>
    intro i e
    obtain rfl : i = n := by omega
    rw [b211_31, U2_at (by decide) (by decide), if_pos (by omega), b211_69, U2_at (by decide) (by decide), hn]
  | succ q ih =>
    intro i e
    have nx := ih (i + 1) (by omega)
    have st := U2_s0 (σ := σ) (k1 := 107) (k2 := 110) (g1 := σ 109) (g2 := σ 112) (m := i) (by decide)
    have e1 : U2 σ 107 0 (σ 109) 110 0 (σ 112) i 109 = σ 109 := U2_at (by decide) (by decide)
    have e2 : U2 σ 107 0 (σ 109) 110 0 (σ 112) i 112 = σ 112 := U2_at (by decide) (by decide)
    rw [b211_31, U2_at (by decide) (by decide), if_neg (by omega), b211_39 (by omega) (by rw [Int.toNat_natCast, e1]; exact hf i (by omega)), Int.toNat_natCast, e1, e2, st, xadd_eq (by omega) (by omega)]
    exact nx
theorem it218 (hn : σ 100 17 = n) (hn2 : n ≤ 11) (hf : ∀ c, c < n → σ 109 c = 0 ∨ σ 109 c = 1) : ∀ (q i : Nat), i + q = n → Ev X d 218 31 [some (vr 100), some (vi i)] [] SH (U2 σ 108 0 (σ 109) 111 0 (σ 112) i) = some (some (vi n), SH, U2 σ 108 0 (σ 109) 111 0 (σ 112) n) := by
  intro q
  induction q with
  | zero =>
    intro i e
    obtain rfl : i = n := by omega
    rw [b218_31, U2_at (by decide) (by decide), if_pos (by omega), b218_69, U2_at (by decide) (by decide), hn]
  | succ q ih =>
    intro i e
    have nx := ih (i + 1) (by omega)
    have st := U2_s0 (σ := σ) (k1 := 108) (k2 := 111) (g1 := σ 109) (g2 := σ 112) (m := i) (by decide)
    have e1 : U2 σ 108 0 (σ 109) 111 0 (σ 112) i 109 = σ 109 := U2_at (by decide) (by decide)
    have e2 : U2 σ 108 0 (σ 109) 111 0 (σ 112) i 112 = σ 112 := U2_at (by decide) (by decide)
    rw [b218_31, U2_at (by decide) (by decide), if_neg (by omega), b218_39 (by omega) (by rw [Int.toNat_natCast, e1]; exact hf i (by omega)), Int.toNat_natCast, e1, e2, st, xadd_eq (by omega) (by omega)]
    exact nx
theorem nbL_sy {tx : Nat → Int} : ∀ (n : Nat), (∀ i, i < n → gd tx i = true) → ∀ x ∈ nbL tx n, isSy x = true
  | 0, _, x, hx => by simp [nbL] at hx
  | n + 1, h, x, hx => by
    by_cases b : isBl (tx n) = true
    · rw [nbL_bl b] at hx
      exact nbL_sy n (fun i hi => h i (by omega)) x hx
    · have b : isBl (tx n) = false := by simpa using b
      rw [nbL_nb b, List.mem_append] at hx
      rcases hx with hx | hx
      · exact nbL_sy n (fun i hi => h i (by omega)) x hx
      · have : x = tx n := by simpa using hx
        rw [this]
        exact (gd_nb (h n (by omega)) b).1
theorem txs_sy {tx : Nat → Int} {n j : Nat} (h : ∀ i, i < n → gd tx i = true) (hj : j < (nbL tx n).length) : isSy (txs tx n j) = true := by
  refine nbL_sy n h _ ?_
  unfold txs
  rw [List.getD_eq_getElem?_getD, List.getElem?_eq_getElem hj]
  exact List.getElem_mem hj
theorem wy_rg {w : Nat → Int} (hW : WF w) (hs : isSy c = true) : 0 ≤ wyM w c ∧ wyM w c < 128 ∧ (dgI c = 0 → wyM w c < 32) ∧ (dgI c = 0 ∨ dgI c = 1) := by
  have hs := of_decide_eq_true hs
  unfold wyM dgI
  by_cases e : 48 ≤ c ∧ c ≤ 57
  · rw [if_pos e, if_pos e]
    have := hW.1 (2 * (c - 48)).toNat (by omega)
    omega
  · rw [if_neg e, if_neg e]
    unfold sgW
    repeat' split
    all_goals omega
theorem wy_eq {w w' : Nat → Int} (h : ∀ i, i < 20 → w i = w' i) : wyM w c = wyM w' c := by
  unfold wyM
  by_cases e : 48 ≤ c ∧ c ≤ 57
  · rw [if_pos e, if_pos e]
    exact h _ (by omega)
  · rw [if_neg e, if_neg e]
end FIL
