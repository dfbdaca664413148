/-! THE LAW, in the model -/
section LAM
variable {X : Nat × (Nat → Int)} {σ μ τ ν : xM} {len n k1 : Nat} {cd : Nat → Int} {l r s f : Int}
theorem it252 (hn : μ 100 16 = (n : Int)) (hn2 : n ≤ 11) : ∀ (m i : Nat), i + m = n → ∀ d, Ev X d 252 4 [some (vr 100), some (vi (isum (fun c => if μ 107 c = 0 then 0 else 1) i)), some (vi i)] [] SH μ = some (some (vi (isum (fun c => if μ 107 c = 0 then 0 else 1) n)), SH, μ)
  | 0, i, h, d => by
    have e : i = n := by omega
    subst e
    rw [b252_4, if_pos (by omega), b252_35]
  | m + 1, i, h, d => by
    have rg := isum_rg (f := fun c => if μ 107 c = 0 then (0 : Int) else 1) (B := 1) (fun j => by split <;> omega) (by omega) i
    have xi : xadd (i : Int) 1 = ((i + 1 : Nat) : Int) := xadd_eq (by omega) (by omega)
    rw [b252_4, if_neg (by omega), b252_12 ⟨by omega, by omega⟩, Int.toNat_natCast]
    have nx := it252 hn hn2 m (i + 1) (by omega) d
    by_cases hz : μ 107 i = 0
    · rw [if_pos hz, b252_26, b252_27, xi, xadd_eq (by omega) (by omega)]
      rw [isum, if_pos hz] at nx
      exact nx
    · rw [if_neg hz, b252_22, b252_27, xi, xadd_eq (by omega) (by omega)]
      rw [isum, if_neg hz] at nx
      exact nx
theorem s252 (hn : μ 100 16 = (n : Int)) (hn2 : n ≤ 11) (d : Nat) : Ev X d 252 0 [some (vr 100), none, none] [] SH μ = some (some (vi (isum (fun c => if μ 107 c = 0 then 0 else 1) n)), SH, μ) := by
  rw [b252_0]
  exact it252 hn hn2 n 0 (by omega) d
theorem enc_lf {c q v : Int} (ec : enc c q v) (h : -4 ≤ c) : q < 20 := by
  unfold enc at ec
  rcases ec with ec | ec | ec | ec | ec | ec
  · omega
  · omega
  · omega
  · omega
  · omega
  · omega
theorem enc_nt {c q v : Int} (ec : enc c q v) (h : c = -5) : q = 22 := by
  unfold enc at ec
  omega
theorem enc_op {c q v : Int} (ec : enc c q v) (h : c < -4) (h5 : c ≠ -5) : (c = -6 ∧ q = 20) ∨ (c = -7 ∧ q = 21) ∨ (c = -1060 ∧ q = 24) ∨ (c = -1062 ∧ q = 25) ∨ (c = -1061 ∧ q = 23) ∨ (c = -1043 ∧ q = 26) ∨ (c = -1045 ∧ q = 27) ∨ (c = -1042 ∧ q = 28) := by
  unfold enc at ec
  rcases ec with ec | ec | ec | ec | ec | ec | ec
  · omega
  · omega
  · omega
  · omega
  · omega
  · omega
  · exact ec
theorem enc_o20 {c q : Int} (h : (c = -6 ∧ q = 20) ∨ (c = -7 ∧ q = 21) ∨ (c = -1060 ∧ q = 24) ∨ (c = -1062 ∧ q = 25) ∨ (c = -1061 ∧ q = 23) ∨ (c = -1043 ∧ q = 26) ∨ (c = -1045 ∧ q = 27) ∨ (c = -1042 ∧ q = 28)) : 20 ≤ q ∧ q ≠ 22 := by
  omega
theorem xs1 {g : Nat} (h : g ≤ 1000) : xsub ((g + 1 : Nat) : Int) 1 = (g : Int) := by
  rw [xsub_eq (by omega) (by omega)]
  omega
theorem xa1 {g : Nat} (h : g ≤ 1000) : xadd ((g + 2 : Nat) : Int) (-1) = ((g + 1 : Nat) : Int) := by
  rw [xadd_eq (by omega) (by omega)]
  omega
theorem it250 (hk : isArr k1) (h121 : k1 ≠ 121) (hr1 : rdC k1 = false) (hn2 : n ≤ 11) (w : WFP cd len) (hl : len ≤ 200) (h0 : len ≠ 0) (en : ∀ i, i < len → enc (cd i) (μ 118 i) (μ 119 i)) (hn : μ 100 16 = (n : Int)) (hb : ∀ c, c < n → 0 ≤ μ k1 c ∧ μ k1 c < 128) (e4 : μ 100 35 = (len : Int)) (hl' : l = μ 114 0) (hr' : r = μ 114 1) (hs' : s = isum (fun c => pc (μ k1 c).toNat) n) (hf' : f = isum (fun c => if μ 107 c = 0 then 0 else 1) n) : ∀ (m i : Nat) (τ : xM), i + m = len → (∀ j, j < (dp cd i).toNat → τ 121 j = lst cd l r s f i j) → chg [121] [] μ τ → ∃ τ', (∀ d o4, Ev X (d + 2) 250 13 [some (vr 100), some (vr k1), some (vi (dp cd i)), some (vi i), o4] [] SH τ = some (some (vi (lawV cd len l r s f)), SH, τ')) ∧ chg [121] [] μ τ' := by
  intro m
  induction m with
  | zero =>
    intro i τ e e2 e3
    have e : i = len := by omega
    subst e
    have one := w.2.2 h0
    rw [one] at e2
    refine ⟨τ, fun d o4 => ?_, e3⟩
    rw [b250_13, if_pos (by rw [chg_at e3 rfl rfl]; omega), b250_187, e2 0 (by decide)]
    unfold lawV
    rw [if_neg h0]
    split
    · rw [b250_202, b250_203 (Or.inl rfl)]
    · rw [b250_198, b250_203 (Or.inr rfl)]
  | succ m ih =>
    intro i τ e e2 e3
    have xi : xadd (i : Int) 1 = ((i + 1 : Nat) : Int) := xadd_eq (by omega) (by omega)
    obtain ⟨n0, n1⟩ := dp_nn w (i := i) (by omega)
    have n2 := w.2.1 i (by omega)
    have n3 := w.1 (i + 1) (by omega)
    obtain ⟨h, hh⟩ : ∃ h : Nat, dp cd i = (h : Int) := ⟨(dp cd i).toNat, by omega⟩
    have e118 : τ 118 = μ 118 := chg_row e3 (fun _ => rfl) rfl
    have e119 : τ 119 = μ 119 := chg_row e3 (fun _ => rfl) rfl
    have e114 : τ 114 = μ 114 := chg_row e3 (fun _ => rfl) rfl
    have e107 : τ 107 = μ 107 := chg_row e3 (fun _ => rfl) rfl
    have e16 : τ 100 16 = (n : Int) := (chg_at e3 rfl rfl).trans hn
    have e35 : τ 100 35 = (len : Int) := (chg_at e3 rfl rfl).trans e4
    have ek : τ k1 = μ k1 := by
      refine chg_row e3 (fun j => ?_) ?_
      · unfold pin
        simp only [List.contains_cons, List.contains_nil, Bool.or_false, beq_eq_false_iff_ne]
        exact h121
      · exact hr1
    have st : ∀ d o4, Ev X (d + 2) 250 13 [some (vr 100), some (vr k1), some (vi (dp cd i)), some (vi i), o4] [] SH τ = if 20 ≤ μ 118 i then Ev X (d + 2) 250 115 [some (vr 100), some (vr k1), some (vi h), some (vi i), some (vi (μ 118 i))] [] SH τ else Ev X (d + 2) 250 36 [some (vr 100), some (vr k1), some (vi h), some (vi i), some (vi (μ 118 i))] [] SH τ := by
      intro d o4
      rw [b250_13, if_neg (by omega), b250_21 (by omega), Int.toNat_natCast, e118, hh]
    have ec := en i (by omega)
    by_cases lf : -4 ≤ cd i
    · have ds : dp cd (i + 1) = dp cd i + 1 := by
        rw [dp, dl, if_pos lf]
      have sm : μ 118 i < 20 := enc_lf ec lf
      obtain ⟨τ', p1, p2⟩ := ih (i + 1) (xwr τ 121 h (lvl l r s f (cd i))) (by omega) (fun j hj => by
        rw [xwr_rw, lst]
        dsimp only
        rw [if_pos lf, hh, Int.toNat_natCast]
        by_cases y : j = h
        · rw [if_pos y, if_pos y]
        · rw [if_neg y, if_neg y]
          exact e2 j (by omega)) (chg_wr rfl e3)
      refine ⟨τ', fun d o4 => ?_, p2⟩
      have xh : xadd (h : Int) 1 = dp cd (i + 1) := by
        rw [ds, hh]
        exact xadd_eq (by omega) (by omega)
      have tl : ∀ v, lvl l r s f (cd i) = v → Ev X (d + 2) 250 108 [some (vr 100), some (vr k1), some (vi h), some (vi i), some (vi (μ 118 i))] [vl v, vi h, vr 121] SH τ = some (some (vi (lawV cd len l r s f)), SH, τ') := by
        intro v hv
        rw [b250_108 (by omega), b250_181, xi, xh, Int.toNat_natCast, ← hv]
        exact p1 d _
      rw [st, if_neg (by omega), b250_36]
      unfold enc at ec
      rcases ec with ⟨c1, c2, c3, c4⟩ | ⟨c1, c2⟩ | ⟨c1, c2⟩ | ⟨c1, c2⟩ | ⟨c1, c2⟩ | ec
      · rw [if_neg (fun z => z c3), b250_46 (by omega), Int.toNat_natCast, e119, c4]
        exact tl _ (by unfold lvl; rw [if_pos c1])
      · rw [if_pos (by omega), b250_56, if_neg (fun z => z c2), b250_62, e114, ← hl']
        exact tl _ (by unfold lvl; rw [c1]; rfl)
      · rw [if_pos (by omega), b250_56, if_pos (by omega), b250_72, if_neg (fun z => z c2), b250_78, e114, ← hr']
        exact tl _ (by unfold lvl; rw [c1]; rfl)
      · rw [if_pos (by omega), b250_56, if_pos (by omega), b250_72, if_pos (by omega), b250_88, if_neg (fun z => z c2)]
        refine Eq.trans b250_94 ?_
        have q := s251 (X := X) (d := d) (σ := τ) (k := k1) hk (by omega) (by omega) (fun c hc => by rw [ek]; exact hb c (by omega))
        rw [ek, e16, Int.toNat_natCast, ← hs'] at q
        refine x_bind q ?_
        dsimp only
        refine Eq.trans (b250_99 (t2 := s) (t1 := h)) ?_
        exact tl _ (by unfold lvl; rw [c1]; rfl)
      · rw [if_pos (by omega), b250_56, if_pos (by omega), b250_72, if_pos (by omega), b250_88, if_pos (by omega)]
        refine Eq.trans b250_103 ?_
        have q := s252 (X := X) (μ := τ) e16 hn2 (d + 1)
        rw [e107, ← hf'] at q
        refine x_bind q ?_
        dsimp only
        refine Eq.trans (b250_107 (t2 := f) (t1 := h)) ?_
        exact tl _ (by unfold lvl; rw [c1]; rfl)
      · exfalso
        clear tl p1 p2 ih st en e2
        omega
    · by_cases nt : cd i = -5
      · have ds : dp cd (i + 1) = dp cd i := by
          rw [dp, dl, if_neg lf, if_pos nt]
          omega
        have s22 : μ 118 i = 22 := enc_nt ec nt
        obtain ⟨g, hg⟩ : ∃ g : Nat, h = g + 1 := ⟨h - 1, by omega⟩
        subst hg
        have xg : xsub ((g + 1 : Nat) : Int) 1 = (g : Int) := by
          rw [xsub_eq (by omega) (by omega)]
          omega
        obtain ⟨τ', p1, p2⟩ := ih (i + 1) (xwr τ 121 g (if lcmp' (τ 121 g) 0 ≠ 0 then 0 else 1)) (by omega) (fun j hj => by
          rw [xwr_rw, lst]
          dsimp only
          rw [if_neg lf, if_pos nt, hh, Int.toNat_natCast, Nat.add_sub_cancel]
          by_cases y : j = g
          · rw [if_pos y, if_pos y, e2 g (by omega)]
          · rw [if_neg y, if_neg y]
            exact e2 j (by omega)) (chg_wr rfl e3)
        refine ⟨τ', fun d o4 => ?_, p2⟩
        have tl : ∀ v, v = (if lcmp' (τ 121 g) 0 ≠ 0 then (0 : Int) else 1) → Ev X (d + 2) 250 147 [some (vr 100), some (vr k1), some (vi ((g + 1 : Nat) : Int)), some (vi i), some (vi (μ 118 i))] [vl v, vi g, vr 121] SH τ = some (some (vi (lawV cd len l r s f)), SH, τ') := by
          intro v hv
          rw [b250_147 (by omega), b250_181, xi, Int.toNat_natCast, hv, ← hh, ← ds]
          exact p1 d _
        rw [st, if_pos (by omega), b250_115, if_neg (fun z => z s22), b250_122 (by rw [xg]; omega), xg, Int.toNat_natCast]
        by_cases y : lcmp' (τ 121 g) 0 ≠ 0
        · rw [if_pos y, b250_146, tl 0 (by rw [if_pos y])]
        · rw [if_neg y, b250_142, tl 1 (by rw [if_neg y])]
      · have ds : dp cd (i + 1) = dp cd i - 1 := by
          rw [dp, dl, if_neg lf, if_neg nt]
          omega
        have lt4 : cd i < -4 := by omega
        obtain ⟨g, hg⟩ : ∃ g : Nat, h = g + 2 := ⟨h - 2, by omega⟩
        subst hg
        have hg : g ≤ 1000 := by omega
        obtain ⟨τ', p1, p2⟩ := ih (i + 1) (xwr τ 121 g (JN (cd i) (τ 121 g) (τ 121 (g + 1)))) (by omega) (fun j hj => by
          rw [xwr_rw, lst]
          dsimp only
          rw [if_neg lf, if_neg nt, hh, Int.toNat_natCast, Nat.add_sub_cancel, show g + 2 - 1 = g + 1 by omega]
          by_cases y : j = g
          · rw [if_pos y, if_pos y, e2 g (by omega), e2 (g + 1) (by omega)]
          · rw [if_neg y, if_neg y]
            exact e2 j (by omega)) (chg_wr rfl e3)
        refine ⟨τ', fun d o4 => ?_, p2⟩
        have dq : ((g + 1 : Nat) : Int) = dp cd (i + 1) := by
          rw [ds, hh]
          omega
        rw [st, if_pos (enc_o20 (enc_op ec lt4 nt)).1, b250_115, if_pos (enc_o20 (enc_op ec lt4 nt)).2]
        refine Eq.trans (b250_151 (by rw [xa1 hg, xs1 hg]; omega) (by rw [xa1 hg]; omega)) ?_
        rw [xa1 hg, xs1 hg, Int.toNat_natCast, Int.toNat_natCast]
        refine x_bind (s253 (enc_op ec lt4 nt) _) ?_
        dsimp only
        refine Eq.trans (b250_180 (t1 := g) (t2 := JN (cd i) (τ 121 g) (τ 121 (g + 1))) (by omega)) ?_
        rw [b250_181, xi, Int.toNat_natCast, dq]
        exact p1 d _
theorem s250 (hk : isArr k1) (h121 : k1 ≠ 121) (hr1 : rdC k1 = false) (hn2 : n ≤ 11) (w : WFP cd len) (hl : len ≤ 200) (en : ∀ i, i < len → enc (cd i) (μ 118 i) (μ 119 i)) (hn : μ 100 16 = (n : Int)) (hb : ∀ c, c < n → 0 ≤ μ k1 c ∧ μ k1 c < 128) (e4 : μ 100 35 = (len : Int)) : ∃ τ', (∀ d, Ev X (d + 2) 250 0 [some (vr 100), some (vr k1), none, none, none] [] SH μ = some (some (vi (lawV cd len (μ 114 0) (μ 114 1) (isum (fun c => pc (μ k1 c).toNat) n) (isum (fun c => if μ 107 c = 0 then 0 else 1) n))), SH, τ')) ∧ chg [121] [] μ τ' := by
  by_cases h0 : len = 0
  · refine ⟨μ, fun d => ?_, chg_rf⟩
    rw [b250_0, if_neg (by omega), b250_7]
    unfold lawV
    rw [if_pos h0]
  · obtain ⟨τ', p1, p2⟩ := it250 (X := X) hk h121 hr1 hn2 w hl h0 en hn hb e4 rfl rfl rfl rfl len 0 μ (by omega) (fun j hj => absurd hj (by rw [dp]; exact Nat.not_lt_zero _)) chg_rf
    refine ⟨τ', fun d => ?_, p2⟩
    rw [b250_0, if_pos (by omega), b250_9]
    exact p1 d _
end LAM
