/-! GRUNDY: what determines it; the model's reckoning -/
def GruC (w g : Nat → Int) (b : Nat) : Prop := 0 ≤ g b ∧ g b ≤ 20 ∧ (¬ isWy w b → g b = 0) ∧ (isWy w b → (∀ t : Nat, (t : Int) < g b → ∃ v, v < b ∧ isWy w v ∧ sbs v b = true ∧ g v = t) ∧ (∀ v, v < b → isWy w v → sbs v b = true → g v ≠ g b))
section GRU
variable {w g g' : Nat → Int} {b n : Nat}
theorem Gru_C (h : Gru w g) (hb : b < 128) : GruC w g b := h b hb
theorem Gru_of (h : ∀ b, b < 128 → GruC w g b) : Gru w g := h
theorem GruC_cg (h : ∀ v, v ≤ b → g v = g' v) (c : GruC w g b) : GruC w g' b := by
  obtain ⟨c1, c2, c3, c4⟩ := c
  have e := h b (Nat.le_refl b)
  refine ⟨by omega, by omega, fun z => by rw [← e]; exact c3 z, fun z => ?_⟩
  obtain ⟨d1, d2⟩ := c4 z
  refine ⟨fun t ht => ?_, fun v v1 v2 v3 => ?_⟩
  · obtain ⟨v, v1, v2, v3, v4⟩ := d1 t (by omega)
    exact ⟨v, v1, v2, v3, by rw [← h v (by omega)]; exact v4⟩
  · rw [← h v (by omega), ← e]
    exact d2 v v1 v2 v3
theorem Gru_uq (h : ∀ b, b < n → GruC w g b) (h' : ∀ b, b < n → GruC w g' b) : ∀ b, b < n → g b = g' b := by
  intro b
  induction b using Nat.strongRecOn with
  | _ b ih =>
    intro hb
    obtain ⟨c1, c2, c3, c4⟩ := h b hb
    obtain ⟨e1, e2, e3, e4⟩ := h' b hb
    by_cases z : isWy w b
    · obtain ⟨d1, d2⟩ := c4 z
      obtain ⟨f1, f2⟩ := e4 z
      rcases Int.lt_trichotomy (g b) (g' b) with y | y | y
      · obtain ⟨v, v1, v2, v3, v4⟩ := f1 (g b).toNat (by omega)
        have := ih v v1 (by omega)
        exact absurd (by omega) (d2 v v1 v2 v3)
      · exact y
      · obtain ⟨v, v1, v2, v3, v4⟩ := d1 (g' b).toNat (by omega)
        have := ih v v1 (by omega)
        exact absurd (by omega) (f2 v v1 v2 v3)
    · rw [c3 z, e3 z]
theorem sbs_pc : ∀ b, b < 128 → ∀ v, v < b → sbs v b = true → pc v < pc b := by decide +kernel
theorem Gru_pc (h : ∀ b, b < n → GruC w g b) (hn : n ≤ 128) : ∀ b, b < n → g b ≤ pc b := by
  intro b
  induction b using Nat.strongRecOn with
  | _ b ih =>
    intro hb
    obtain ⟨c1, c2, c3, c4⟩ := h b hb
    have p0 := pc_rg b
    by_cases z : isWy w b
    · by_cases y : g b = 0
      · omega
      · obtain ⟨v, v1, v2, v3, v4⟩ := (c4 z).1 (g b - 1).toNat (by omega)
        have := ih v v1 (by omega)
        have := sbs_pc b (by omega) v v1 v3
        omega
    · rw [c3 z]
      omega
/-- a mask of what has been met -/
def mskP (w g : Nat → Int) (b u m : Nat) : Prop := m < 256 ∧ ∀ t, m.testBit t = true ↔ ∃ v, v < u ∧ isWy w v ∧ sbs v b = true ∧ g v = (t : Int)
theorem xshl_1 : ∀ t, t < 8 → xshl 1 ((t : Nat) : Int) = ((2 ^ t : Nat) : Int) := by decide
theorem xor_2 {m t : Nat} (hm : m < 256) (ht : t < 8) : xor' (m : Int) (xshl 1 (t : Int)) = ((m ||| 2 ^ t : Nat) : Int) := by
  have h2 : 2 ^ t < 2 ^ 8 := Nat.pow_lt_pow_right (by decide) ht
  rw [xshl_1 t ht]
  exact xor_nat (by omega) (by omega)
theorem bit_t {m t : Nat} (hm : m < 256) (ht : t < 9) : xand (xshr (m : Int) (t : Int)) 1 = 1 ↔ m.testBit t = true := by
  have : ∀ m, m < 256 → ∀ t, t < 9 → (xand (xshr ((m : Nat) : Int) ((t : Nat) : Int)) 1 = 1 ↔ m.testBit t = true) := by decide +kernel
  exact this m hm t ht
theorem msk_0 : mskP w g b 1 0 := by
  refine ⟨by decide, fun t => ⟨fun z => by simp at z, fun ⟨v, v1, v2, _⟩ => ?_⟩⟩
  have := v2.1
  omega
theorem msk_n {u m : Nat} (h : mskP w g b u m) (hu : ¬ (isWy w u ∧ sbs u b = true)) : mskP w g b (u + 1) m := by
  refine ⟨h.1, fun t => ⟨fun z => ?_, fun ⟨v, v1, v2, v3, v4⟩ => ?_⟩⟩
  · obtain ⟨v, v1, v2⟩ := (h.2 t).mp z
    exact ⟨v, by omega, v2⟩
  · refine (h.2 t).mpr ⟨v, ?_, v2, v3, v4⟩
    rcases Nat.lt_or_eq_of_le (Nat.le_of_lt_succ v1) with y | y
    · exact y
    · subst y; exact absurd ⟨v2, v3⟩ hu
theorem msk_y {u m t0 : Nat} (h : mskP w g b u m) (hu : isWy w u) (hs : sbs u b = true) (ht : g u = (t0 : Int)) (h8 : t0 < 8) : mskP w g b (u + 1) (m ||| 2 ^ t0) := by
  have h2 : 2 ^ t0 < 2 ^ 8 := Nat.pow_lt_pow_right (by decide) h8
  refine ⟨Nat.or_lt_two_pow (n := 8) h.1 h2, fun t => ?_⟩
  rw [Nat.testBit_or, Bool.or_eq_true, Nat.testBit_two_pow]
  refine ⟨fun z => ?_, fun ⟨v, v1, v2, v3, v4⟩ => ?_⟩
  · rcases z with z | z
    · obtain ⟨v, v1, v2⟩ := (h.2 t).mp z
      exact ⟨v, by omega, v2⟩
    · have z := of_decide_eq_true z
      exact ⟨u, by omega, hu, hs, by rw [ht, z]⟩
  · rcases Nat.lt_or_eq_of_le (Nat.le_of_lt_succ v1) with y | y
    · exact Or.inl ((h.2 t).mpr ⟨v, y, v2, v3, v4⟩)
    · subst y
      exact Or.inr (decide_eq_true (by omega))
theorem msk_7 {m : Nat} (h : mskP w g b b m) (hg : ∀ v, v < b → GruC w g v) (hb : b < 128) : m.testBit 7 = false := by
  rw [Bool.eq_false_iff]
  intro z
  obtain ⟨v, v1, v2, v3, v4⟩ := (h.2 7).mp z
  have := Gru_pc hg (by omega) v v1
  have := sbs_pc b hb v v1 v3
  have := pc_rg b
  omega
theorem isWy_rd (hW : WF w) : (isWy w b → 48 ≤ rdL w b 20) ∧ (¬ isWy w b → 0 < b → rdL w b 20 = -1) := by
  refine ⟨fun ⟨h1, i, h2, h3⟩ => ?_, fun h h0 => ?_⟩
  · rw [rdL_some (by omega) h3 20 h2 (fun j hj hw => hW.2.2 j i hj h2 (hw.trans h3.symm) (by omega))]
    omega
  · exact rdL_none 20 (fun i hi hw => absurd ⟨h0, i, hi, hw⟩ h)
theorem nsb : ∀ v, v < 128 → ∀ b, b < 128 → (xand ((v : Nat) : Int) (xxor ((b : Nat) : Int) (-1)) = 0 ↔ sbs v b = true) := by decide +kernel
/-- the least that has not been met -/
theorem Gru_mex {m x : Nat} (hm : mskP w g b b m) (hw : isWy w b) (hx : ∀ t, t < x → m.testBit t = true) (hx2 : m.testBit x = false) (x7 : x ≤ 7) (e : g' b = x) (eg : ∀ v, v < b → g v = g' v) : GruC w g' b := by
  refine ⟨by omega, by omega, fun z => absurd hw z, fun _ => ⟨fun t ht => ?_, fun v v1 v2 v3 => ?_⟩⟩
  · obtain ⟨v, v1, v2, v3, v4⟩ := (hm.2 t).mp (hx t (by omega))
    exact ⟨v, v1, v2, v3, by rw [← eg v v1]; exact v4⟩
  · intro z
    have := (hm.2 x).mpr ⟨v, v1, v2, v3, by rw [eg v v1, z, e]⟩
    rw [hx2] at this
    cases this
end GRU
section REC
variable {X : Nat × (Nat → Int)} {σ τ : xM} {n : Nat}
theorem s294y {b : Nat} (hW : WF (σ 102)) (h : isWy (σ 102) b) : ∀ d, Ev X (d + 2) 294 0 [some (vr 100), some (vi b)] [] SH σ = some (some (vi 1), SH, σ) := by
  intro d
  have h0 := h.1
  have q := (isWy_rd hW).1 h
  have s := fun d => s222f (X := X) (d := d) (σ := σ) (b := (b : Int))
  generalize rdL (σ 102) (b : Int) 20 = z at q s
  simp (disch := first | omega | assumption | (simp (disch := omega) only [ite_self, Int.reduceAdd, xadd_eq, xsub_eq, xmul_eq, xneg_eq, xwr_eq, xwr_nk, xwr_nj, Int.toNat_natCast, x_nc] <;> first | omega | assumption) | fail) only [↓if_pos, ↓if_neg, ↓b294_0, ↓b294_17, ↓b294_4, ↓b294_18, ↓b294_10, ↓b294_13, ↓s, x_bdi, x_bdn, ite_self, Int.reduceAdd, xadd_eq, xsub_eq, xmul_eq, xneg_eq, xwr_eq, xwr_nk, xwr_nj, Int.toNat_natCast, x_nc]
theorem s294n {b : Nat} (hW : WF (σ 102)) (h : ¬ isWy (σ 102) b) : ∀ d, Ev X (d + 2) 294 0 [some (vr 100), some (vi b)] [] SH σ = some (some (vi 0), SH, σ) := by
  intro d
  by_cases h0 : b = 0
  · subst h0
    simp (disch := first | omega | assumption | (simp (disch := omega) only [ite_self, Int.reduceAdd, xadd_eq, xsub_eq, xmul_eq, xneg_eq, xwr_eq, xwr_nk, xwr_nj, Int.toNat_natCast, x_nc] <;> first | omega | assumption) | fail) only [↓if_pos, ↓if_neg, ↓b294_0, ↓b294_17, ↓b294_4, ↓b294_18, ↓b294_10, ↓b294_13, x_bdi, x_bdn, ite_self, Int.reduceAdd, xadd_eq, xsub_eq, xmul_eq, xneg_eq, xwr_eq, xwr_nk, xwr_nj, Int.toNat_natCast, x_nc]
  · have q := (isWy_rd hW).2 h (by omega)
    have s := fun d => s222f (X := X) (d := d) (σ := σ) (b := (b : Int))
    rw [q] at s
    simp (disch := first | omega | assumption | (simp (disch := omega) only [ite_self, Int.reduceAdd, xadd_eq, xsub_eq, xmul_eq, xneg_eq, xwr_eq, xwr_nk, xwr_nj, Int.toNat_natCast, x_nc] <;> first | omega | assumption) | fail) only [↓if_pos, ↓if_neg, ↓b294_0, ↓b294_17, ↓b294_4, ↓b294_18, ↓b294_10, ↓b294_13, ↓s, x_bdi, x_bdn, ite_self, Int.reduceAdd, xadd_eq, xsub_eq, xmul_eq, xneg_eq, xwr_eq, xwr_nk, xwr_nj, Int.toNat_natCast, x_nc]
theorem it293m {m : Nat} {b : Nat} (hm : m < 256) (h7 : m.testBit 7 = false) : ∀ (q i : Nat), i + q = 7 → (∀ t, t < i → m.testBit t = true) → ∃ x : Nat, x ≤ 7 ∧ (∀ t, t < x → m.testBit t = true) ∧ m.testBit x = false ∧ ∀ d, Ev X d 293 61 [some (vr 100), some (vi b), some (vi m), some (vi i)] [] SH τ = Ev X d 293 76 [some (vr 100), some (vi b), some (vi m), some (vi x)] [] SH τ := by
  intro q
  induction q with
  | zero =>
    intro i e hi
    obtain rfl : i = 7 := by omega
    refine ⟨7, Nat.le_refl _, hi, h7, fun d => ?_⟩
    rw [b293_61, if_pos (fun z => by rw [(bit_t hm (by decide)).mp z] at h7; cases h7)]
  | succ q ih =>
    intro i e hi
    by_cases z : m.testBit i = true
    · obtain ⟨x, x1, x2, x3, x4⟩ := ih (i + 1) (by omega) (fun t ht => by
        by_cases y : t = i
        · subst y; exact z
        · exact hi t (by omega))
      refine ⟨x, x1, x2, x3, fun d => ?_⟩
      rw [b293_61, if_neg (fun y => y ((bit_t hm (by omega)).mpr z)), b293_70, xadd_eq (by omega) (by omega)]
      exact x4 d
    · refine ⟨i, by omega, hi, by simpa using z, fun d => ?_⟩
      rw [b293_61, if_pos (fun y => z ((bit_t hm (by omega)).mp y))]
/-- what a way can become -/
theorem it293v {b : Nat} (hb : b < 128) (hW : WF (τ 102)) (hw : isWy (τ 102) b) (hg : ∀ v, v < b → GruC (τ 102) (τ 138) v) : ∀ (q u m : Nat), u + q = b → 1 ≤ u → mskP (τ 102) (τ 138) b u m → ∃ m', mskP (τ 102) (τ 138) b b m' ∧ ∀ d, Ev X (d + 3) 293 13 [some (vr 100), some (vi b), some (vi m), some (vi u)] [] SH τ = Ev X (d + 3) 293 59 [some (vr 100), some (vi b), some (vi m'), some (vi b)] [] SH τ := by
  intro q
  induction q with
  | zero =>
    intro u m e h1 hm
    obtain rfl : u = b := by omega
    refine ⟨m, hm, fun d => ?_⟩
    rw [b293_13, if_pos (by omega)]
  | succ q ih =>
    intro u m e h1 hm
    have w1 := s294y (X := X) (σ := τ) hW hw
    by_cases sb : sbs u b = true
    · have nx := (nsb u (by omega) b hb).mpr sb
      by_cases wu : isWy (τ 102) u
      · have w2 := s294y (X := X) (σ := τ) hW wu
        have pcu := Gru_pc hg (by omega) u (by omega)
        have g0 := (hg u (by omega)).1
        have p7 := pc_rg u
        obtain ⟨t0, ht0⟩ : ∃ t0 : Nat, τ 138 u = t0 := ⟨(τ 138 u).toNat, by omega⟩
        obtain ⟨m', h1', h2'⟩ := ih (u + 1) (m ||| 2 ^ t0) (by omega) (by omega) (msk_y hm wu sb ht0 (by omega))
        refine ⟨m', h1', fun d => ?_⟩
        have x2 := xor_2 (m := m) (t := t0) hm.1 (by omega)
        rw [b293_13, if_neg (by omega)]
        simp (disch := first | omega | assumption | (simp (disch := omega) only [ite_self, Int.reduceAdd, xadd_eq, xsub_eq, xmul_eq, xneg_eq, xwr_eq, xwr_nk, xwr_nj, Int.toNat_natCast, x_nc] <;> first | omega | assumption) | fail) only [↓if_pos, ↓if_neg, ↓b293_0, ↓b293_89, ↓b293_9, ↓b293_18, ↓b293_23, ↓b293_76, ↓b293_70, ↓b293_26, ↓b293_53, ↓b293_34, ↓b293_39, ↓b293_42, ↓w1, ↓w2, ht0, x2, x_bdi, x_bdn, ite_self, Int.reduceAdd, xadd_eq, xsub_eq, xmul_eq, xneg_eq, xwr_eq, xwr_nk, xwr_nj, Int.toNat_natCast, x_nc]
        exact h2' d
      · have w2 := s294n (X := X) (σ := τ) hW wu
        obtain ⟨m', h1', h2'⟩ := ih (u + 1) m (by omega) (by omega) (msk_n hm (fun z => wu z.1))
        refine ⟨m', h1', fun d => ?_⟩
        rw [b293_13, if_neg (by omega)]
        simp (disch := first | omega | assumption | (simp (disch := omega) only [ite_self, Int.reduceAdd, xadd_eq, xsub_eq, xmul_eq, xneg_eq, xwr_eq, xwr_nk, xwr_nj, Int.toNat_natCast, x_nc] <;> first | omega | assumption) | fail) only [↓if_pos, ↓if_neg, ↓b293_0, ↓b293_89, ↓b293_9, ↓b293_18, ↓b293_23, ↓b293_76, ↓b293_70, ↓b293_26, ↓b293_53, ↓b293_34, ↓b293_39, ↓b293_42, ↓w1, ↓w2, x_bdi, x_bdn, ite_self, Int.reduceAdd, xadd_eq, xsub_eq, xmul_eq, xneg_eq, xwr_eq, xwr_nk, xwr_nj, Int.toNat_natCast, x_nc]
        exact h2' d
    · have nx : ¬ xand ((u : Nat) : Int) (xxor ((b : Nat) : Int) (-1)) = 0 := fun z => sb ((nsb u (by omega) b hb).mp z)
      obtain ⟨m', h1', h2'⟩ := ih (u + 1) m (by omega) (by omega) (msk_n hm (fun z => sb z.2))
      refine ⟨m', h1', fun d => ?_⟩
      rw [b293_13, if_neg (by omega)]
      simp (disch := first | omega | assumption | (simp (disch := omega) only [ite_self, Int.reduceAdd, xadd_eq, xsub_eq, xmul_eq, xneg_eq, xwr_eq, xwr_nk, xwr_nj, Int.toNat_natCast, x_nc] <;> first | omega | assumption) | fail) only [↓if_pos, ↓if_neg, ↓b293_0, ↓b293_89, ↓b293_9, ↓b293_18, ↓b293_23, ↓b293_76, ↓b293_70, ↓b293_26, ↓b293_53, ↓b293_34, ↓b293_39, ↓b293_42, ↓w1, x_bdi, x_bdn, ite_self, Int.reduceAdd, xadd_eq, xsub_eq, xmul_eq, xneg_eq, xwr_eq, xwr_nk, xwr_nj, Int.toNat_natCast, x_nc]
      exact h2' d
theorem it293 (hW : WF (σ 102)) : ∀ (q b : Nat) (o2 o3 : Option xV) (τ : xM), b + q = 128 → chg [138] [] σ τ → (∀ v, v < b → GruC (σ 102) (τ 138) v) → ∃ τ', chg [138] [] σ τ' ∧ Gru (σ 102) (τ' 138) ∧ ∀ d, Ev X (d + 3) 293 2 [some (vr 100), some (vi b), o2, o3] [] SH τ = some (none, SH, τ') := by
  intro q
  induction q with
  | zero =>
    intro b o2 o3 τ e c hg
    obtain rfl : b = 128 := by omega
    refine ⟨τ, c, hg, fun d => ?_⟩
    rw [b293_2, if_pos (by omega), b293_89]
  | succ q ih =>
    intro b o2 o3 τ e c hg
    have t102 : τ 102 = σ 102 := chg_row c (fun _ => rfl) rfl
    by_cases w : isWy (σ 102) b
    · have w0 := w.1
      obtain ⟨m, m1, m2⟩ := it293v (X := X) (τ := τ) (b := b) (by omega) (by rw [t102]; exact hW) (by rw [t102]; exact w) (by rw [t102]; exact hg) (b - 1) 1 0 (by omega) (Nat.le_refl 1) msk_0
      rw [t102] at m1
      obtain ⟨x, x1, x2, x3, x4⟩ := it293m (X := X) (τ := τ) (b := b) m1.1 (msk_7 m1 hg (by omega)) 7 0 (by omega) (fun t ht => by omega)
      obtain ⟨τ', a1, a2, a3⟩ := ih (b + 1) (some (vi m)) (some (vi x)) (xwr τ 138 b x) (by omega) (chg_wr rfl c) (fun v hv => by
        by_cases y : v = b
        · subst y
          refine Gru_mex m1 w x2 x3 x1 ?_ (fun u hu => ?_)
          · exact xwr_eq
          · rw [xwr_nj (by omega)]
        · refine GruC_cg (fun u hu => ?_) (hg v (by omega))
          rw [xwr_nj (by omega)])
      refine ⟨τ', a1, a2, fun d => ?_⟩
      rw [b293_2, if_neg (by omega), b293_9]
      refine (m2 d).trans ?_
      rw [b293_59]
      refine (x4 _).trans ?_
      rw [b293_76 (by omega), Int.toNat_natCast, xadd_eq (by omega) (by omega)]
      exact a3 d
    · have wn := s294n (X := X) (σ := τ) (b := b) (by rw [t102]; exact hW) (by rw [t102]; exact w)
      obtain ⟨τ', a1, a2, a3⟩ := ih (b + 1) (some (vi 0)) (some (vi 0)) (xwr τ 138 b 0) (by omega) (chg_wr rfl c) (fun v hv => by
        by_cases y : v = b
        · subst y
          refine ⟨?_, ?_, fun _ => xwr_eq, fun z => absurd z w⟩
          · rw [xwr_eq]; omega
          · rw [xwr_eq]; omega
        · refine GruC_cg (fun u hu => ?_) (hg v (by omega))
          rw [xwr_nj (by omega)])
      refine ⟨τ', a1, a2, fun d => ?_⟩
      have z0 : ¬ xand (xshr 0 0) 1 = 1 := by decide
      rw [b293_2, if_neg (by omega), b293_9]
      by_cases y : b ≤ 1
      · simp (disch := first | omega | assumption | (simp (disch := omega) only [ite_self, Int.reduceAdd, xadd_eq, xsub_eq, xmul_eq, xneg_eq, xwr_eq, xwr_nk, xwr_nj, Int.toNat_natCast, x_nc] <;> first | omega | assumption) | fail) only [↓if_pos, ↓if_neg, ↓b293_0, ↓b293_89, ↓b293_9, ↓b293_13, ↓b293_59, ↓b293_18, ↓b293_61, ↓b293_23, ↓b293_76, ↓b293_70, ↓b293_26, ↓b293_53, ↓b293_34, ↓b293_39, ↓b293_42, x_bdi, x_bdn, ite_self, Int.reduceAdd, xadd_eq, xsub_eq, xmul_eq, xneg_eq, xwr_eq, xwr_nk, xwr_nj, Int.toNat_natCast, x_nc]
        exact a3 d
      · simp (disch := first | omega | assumption | (simp (disch := omega) only [ite_self, Int.reduceAdd, xadd_eq, xsub_eq, xmul_eq, xneg_eq, xwr_eq, xwr_nk, xwr_nj, Int.toNat_natCast, x_nc] <;> first | omega | assumption) | fail) only [↓if_pos, ↓if_neg, ↓b293_0, ↓b293_89, ↓b293_9, ↓b293_13, ↓b293_59, ↓b293_18, ↓b293_61, ↓b293_23, ↓b293_76, ↓b293_70, ↓b293_26, ↓b293_53, ↓b293_34, ↓b293_39, ↓b293_42, ↓wn, x_bdi, x_bdn, ite_self, Int.reduceAdd, xadd_eq, xsub_eq, xmul_eq, xneg_eq, xwr_eq, xwr_nk, xwr_nj, Int.toNat_natCast, x_nc]
        exact a3 d
theorem s293 (hW : WF (σ 102)) : ∃ τ, (∀ d, Ev X (d + 3) 293 0 [some (vr 100), none, none, none] [] SH σ = some (none, SH, τ)) ∧ chg [138] [] σ τ ∧ Gru (σ 102) (τ 138) := by
  obtain ⟨τ, a1, a2, a3⟩ := it293 (X := X) hW 128 0 none none σ (by omega) chg_rf (fun v hv => by omega)
  refine ⟨τ, fun d => ?_, a1, a2⟩
  rw [b293_0]
  exact a3 d
end REC
