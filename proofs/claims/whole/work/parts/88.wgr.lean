/-! THE FORMS' TEXT: GRUNDY anew, in the class -/
def mskK (w g : Nat → Int) (b k m : Nat) : Prop := m < 256 ∧ ∀ t, m.testBit t = true ↔ ∃ i, i < k ∧ w i ≠ 0 ∧ (w i).toNat < b ∧ sbs (w i).toNat b = true ∧ g (w i).toNat = (t : Int)
section WGR
variable {X : Nat × (Nat → Int)} {σ τ : xM} {w g : Nat → Int} {b : Nat}
theorem sbs_le : ∀ b, b < 128 → ∀ v, v < 128 → sbs v b = true → v ≤ b := by decide +kernel
theorem mskK_0 : mskK w g b 0 0 := by
  refine ⟨by decide, fun t => ⟨fun z => by simp at z, fun ⟨i, v1, _⟩ => absurd v1 (by omega)⟩⟩
theorem mskK_n {k m : Nat} (h : mskK w g b k m) (hu : ¬ (w k ≠ 0 ∧ (w k).toNat < b ∧ sbs (w k).toNat b = true)) : mskK w g b (k + 1) m := by
  refine ⟨h.1, fun t => ⟨fun z => ?_, fun ⟨v, v1, v2, v3, v4, v5⟩ => ?_⟩⟩
  · obtain ⟨v, v1, v2⟩ := (h.2 t).mp z
    exact ⟨v, by omega, v2⟩
  · refine (h.2 t).mpr ⟨v, ?_, v2, v3, v4, v5⟩
    rcases Nat.lt_or_eq_of_le (Nat.le_of_lt_succ v1) with y | y
    · exact y
    · subst y; exact absurd ⟨v2, v3, v4⟩ hu
theorem mskK_y {k m t0 : Nat} (h : mskK w g b k m) (hu : w k ≠ 0) (hb : (w k).toNat < b) (hs : sbs (w k).toNat b = true) (ht : g (w k).toNat = (t0 : Int)) (h8 : t0 < 8) : mskK w g b (k + 1) (m ||| 2 ^ t0) := by
  have h2 : 2 ^ t0 < 2 ^ 8 := Nat.pow_lt_pow_right (by decide) h8
  refine ⟨Nat.or_lt_two_pow (n := 8) h.1 h2, fun t => ?_⟩
  rw [Nat.testBit_or, Bool.or_eq_true, Nat.testBit_two_pow]
  refine ⟨fun z => ?_, fun ⟨v, v1, v2, v3, v4, v5⟩ => ?_⟩
  · rcases z with z | z
    · obtain ⟨v, v1, v2⟩ := (h.2 t).mp z
      exact ⟨v, by omega, v2⟩
    · have z := of_decide_eq_true z
      exact ⟨k, by omega, hu, hb, hs, by rw [ht, z]⟩
  · rcases Nat.lt_or_eq_of_le (Nat.le_of_lt_succ v1) with y | y
    · exact Or.inl ((h.2 t).mpr ⟨v, y, v2, v3, v4, v5⟩)
    · subst y
      exact Or.inr (decide_eq_true (by omega))
theorem mskK_P {m : Nat} (W : WF w) (h : mskK w g b 20 m) : mskP w g b b m := by
  refine ⟨h.1, fun t => (h.2 t).trans ⟨fun ⟨i, i1, i2, i3, i4, i5⟩ => ?_, fun ⟨v, v1, ⟨v2, i, i1, i2⟩, v3, v4⟩ => ?_⟩⟩
  · have := W.1 i i1
    exact ⟨(w i).toNat, i3, ⟨by omega, i, i1, by omega⟩, i4, i5⟩
  · have e : (w i).toNat = v := by omega
    exact ⟨i, i1, by omega, by rw [e]; exact v1, by rw [e]; exact v3, by rw [e]; exact v4⟩
theorem it62k (hb : b < 128) (W : WF w) (hC : FC w (τ 3 5) (τ 6) (τ 7) (τ 8)) (hw : isWy w b) (hg : ∀ v, v < b → GruC w (τ 9) v) : ∀ (q k m : Nat), k + q = 20 → mskK w (τ 9) b k m → ∃ m', mskK w (τ 9) b 20 m' ∧ ∀ d, Ev X (d + 1) 62 13 [some (vr 3), some (vi b), some (vi m), some (vi (nz w k))] [] SH τ = Ev X (d + 1) 62 65 [some (vr 3), some (vi b), some (vi m'), some (vi (nz w 20))] [] SH τ := by
  obtain ⟨c1, c2, c3⟩ := hC
  have i8 : τ 8 b ≠ -1 := by
    obtain ⟨h0, i, h1, h2⟩ := hw
    have := (c2 i h1 (by omega)).2.2
    rw [h2, Int.toNat_natCast] at this
    omega
  intro q
  induction q with
  | zero =>
    intro k m e hm
    have e : k = 20 := e
    subst e
    refine ⟨m, hm, fun d => ?_⟩
    rw [b62_13, if_pos (by omega)]
  | succ q ih =>
    intro k m e hm
    by_cases z : w k = 0
    · obtain ⟨m', a1, a2⟩ := ih (k + 1) m (by omega) (mskK_n hm (fun y => y.1 z))
      have nk : nz w (k + 1) = nz w k := by
        rw [nz, if_pos z, Nat.add_zero]
      rw [nk] at a2
      exact ⟨m', a1, a2⟩
    · have nk : nz w (k + 1) = nz w k + 1 := by
        rw [nz, if_neg z]
      have nl := nz_lt (w := w) (i := k) (n := 20) (by omega) z
      have nm := nz_le (w := w) 20
      have wk := W.1 k (by omega)
      have ls := (c2 k (by omega) z).1
      have xk : xadd ((nz w k : Nat) : Int) 1 = ((nz w (k + 1) : Nat) : Int) := by
        rw [xadd_eq (by omega) (by omega), nk]
        rfl
      obtain ⟨v, hv⟩ : ∃ v : Nat, w k = v := ⟨(w k).toNat, by omega⟩
      have hv2 : (w k).toNat = v := by omega
      have st : ∀ d, Ev X (d + 1) 62 13 [some (vr 3), some (vi b), some (vi m), some (vi (nz w k))] [] SH τ = Ev X (d + 1) 62 41 [some (vr 3), some (vi b), some (vi m), some (vi (nz w k))] [vi (f63 τ b v)] SH τ := by
        intro d
        rw [b62_13, if_neg (by omega), b62_21 (by omega), Int.toNat_natCast, if_neg i8]
        refine Eq.trans (b62_31 (by omega)) ?_
        rw [Int.toNat_natCast, ls, hv]
        refine x_bind s63 ?_
        rfl
      by_cases y : v ≠ b ∧ sbs v b = true
      · have vb : v < b := by
          have := sbs_le b hb v (by omega) y.2
          have := y.1
          omega
        have f1 : f63 τ b v = 1 := by
          unfold f63
          rw [if_neg (by omega), if_neg (fun g => g ((nsb v (by omega) b hb).mpr y.2))]
        have pcu := Gru_pc hg (by omega) v vb
        have g0 := (hg v vb).1
        have p7 := pc_rg v
        obtain ⟨t0, ht0⟩ : ∃ t0 : Nat, τ 9 v = t0 := ⟨(τ 9 v).toNat, by omega⟩
        have x2 := xor_2 (m := m) (t := t0) hm.1 (by omega)
        obtain ⟨m', a1, a2⟩ := ih (k + 1) (m ||| 2 ^ t0) (by omega) (mskK_y hm z (by omega) (by rw [hv2]; exact y.2) (by rw [hv2]; exact ht0) (by omega))
        refine ⟨m', a1, fun d => ?_⟩
        refine Eq.trans ?_ (a2 d)
        have f2 : f64 τ (v : Int) = t0 := by
          unfold f64
          rw [if_neg (by omega), if_neg (by omega), Int.toNat_natCast, ht0]
        rw [st, f1, b62_41, if_neg (by decide)]
        refine Eq.trans (b62_44 (by omega)) ?_
        rw [Int.toNat_natCast, ls, hv]
        refine x_bind s64 ?_
        rw [f2]
        dsimp only
        refine Eq.trans b62_56 ?_
        rw [x2, b62_59, xk]
      · have f1 : f63 τ b v = 0 := by
          unfold f63
          by_cases u : v = b
          · rw [if_pos (by omega)]
          · rw [if_neg (by omega), if_pos (fun g => y ⟨u, (nsb v (by omega) b hb).mp g⟩)]
        obtain ⟨m', a1, a2⟩ := ih (k + 1) m (by omega) (mskK_n hm (fun g => y ⟨by have := g.2.1; omega, by rw [← hv2]; exact g.2.2⟩))
        refine ⟨m', a1, fun d => ?_⟩
        refine Eq.trans ?_ (a2 d)
        rw [st, f1, b62_41, if_pos rfl, b62_59, xk]
theorem it62m {m : Nat} (hm : m < 256) (h7 : m.testBit 7 = false) : ∀ (q i : Nat), i + q = 7 → (∀ t, t < i → m.testBit t = true) → ∃ x : Nat, x ≤ 7 ∧ (∀ t, t < x → m.testBit t = true) ∧ m.testBit x = false ∧ ∀ d, Ev X d 62 67 [some (vr 3), some (vi b), some (vi m), some (vi i)] [] SH τ = Ev X d 62 88 [some (vr 3), some (vi b), some (vi m), some (vi x)] [] SH τ := by
  intro q
  induction q with
  | zero =>
    intro i e h
    obtain rfl : i = 7 := by omega
    refine ⟨7, Nat.le_refl 7, h, h7, fun d => ?_⟩
    have bt := bit_t (m := m) (t := 7) hm (by omega)
    rw [b62_67, if_neg (by omega), b62_73, if_pos (fun z => by rw [bt.mp z] at h7; cases h7)]
  | succ q ih =>
    intro i e h
    have bt := bit_t (m := m) (t := i) hm (by omega)
    cases y : m.testBit i with
    | true =>
      obtain ⟨x, x1, x2, x3, x4⟩ := ih (i + 1) (by omega) (fun t ht => by
        by_cases z : t = i
        · rw [z]; exact y
        · exact h t (by omega))
      refine ⟨x, x1, x2, x3, fun d => ?_⟩
      refine Eq.trans ?_ (x4 d)
      rw [b62_67, if_neg (by omega), b62_73, if_neg (fun z => z (bt.mpr y)), b62_82, xadd_eq (by omega) (by omega)]
      rfl
    | false =>
      refine ⟨i, by omega, h, y, fun d => ?_⟩
      rw [b62_67, if_neg (by omega), b62_73, if_pos (fun z => by rw [bt.mp z] at y; cases y)]
theorem it62 (W : WF w) (hC : FC w (σ 3 5) (σ 6) (σ 7) (σ 8)) : ∀ (q b : Nat) (o2 o3 : Option xV) (τ : xM), b + q = 128 → chg [9] [] σ τ → (∀ v, v < b → GruC w (τ 9) v) → ∃ τ', chg [9] [] σ τ' ∧ Gru w (τ' 9) ∧ ∀ d, Ev X (d + 1) 62 2 [some (vr 3), some (vi b), o2, o3] [] SH τ = some (none, SH, τ') := by
  intro q
  induction q with
  | zero =>
    intro b o2 o3 τ e c hg
    obtain rfl : b = 128 := by omega
    refine ⟨τ, c, hg, fun d => ?_⟩
    rw [b62_2, if_pos (by omega), b62_101]
  | succ q ih =>
    intro b o2 o3 τ e c hg
    have hC' : FC w (τ 3 5) (τ 6) (τ 7) (τ 8) := by
      rw [chg_at c rfl rfl, chg_row (k := 6) c (fun _ => rfl) rfl, chg_row (k := 7) c (fun _ => rfl) rfl, chg_row (k := 8) c (fun _ => rfl) rfl]
      exact hC
    have key : ∃ (m x : Nat), x ≤ 7 ∧ (isWy w b → mskP w (τ 9) b b m ∧ (∀ t, t < x → m.testBit t = true) ∧ m.testBit x = false) ∧ (¬ isWy w b → x = 0) ∧ ∀ d, Ev X (d + 1) 62 2 [some (vr 3), some (vi b), o2, o3] [] SH τ = Ev X (d + 1) 62 88 [some (vr 3), some (vi b), some (vi m), some (vi x)] [] SH τ := by
      by_cases hw : isWy w b
      · obtain ⟨m, m1, m2⟩ := it62k (X := X) (τ := τ) (b := b) (by omega) W hC' hw hg 20 0 0 rfl mskK_0
        have m1 := mskK_P W m1
        obtain ⟨x, x1, x2, x3, x4⟩ := it62m (X := X) (τ := τ) (b := b) m1.1 (msk_7 m1 hg (by omega)) 7 0 (by omega) (fun t ht => by omega)
        refine ⟨m, x, x1, fun _ => ⟨m1, x2, x3⟩, fun z => absurd hw z, fun d => ?_⟩
        rw [b62_2, if_neg (by omega), b62_9]
        refine Eq.trans (m2 d) ?_
        rw [b62_65]
        exact x4 _
      · refine ⟨0, 0, by omega, fun z => absurd z hw, fun _ => rfl, fun d => ?_⟩
        have z0 : ¬ xand (xshr 0 0) 1 = 1 := by decide
        have n8 : b = 0 ∨ τ 8 b = -1 := by
          by_cases y : b = 0
          · exact Or.inl y
          · exact Or.inr (hC'.2.2 b (by omega) (fun i hi he => absurd ⟨by omega, i, hi, he⟩ hw))
        have n8 : τ 8 b = -1 := by
          rcases n8 with y | y
          · refine hC'.2.2 b (by omega) (fun i hi he => y)
          · exact y
        have c35 := hC'.1
        rw [b62_2, if_neg (by omega), b62_9, b62_13]
        have tl : Ev X (d + 1) 62 65 [some (vr 3), some (vi b), some (vi 0), some (vi 0)] [] SH τ = Ev X (d + 1) 62 88 [some (vr 3), some (vi b), some (vi ((0 : Nat) : Int)), some (vi ((0 : Nat) : Int))] [] SH τ := by
          rw [b62_65, b62_67, if_neg (by decide), b62_73, if_pos z0]
          rfl
        by_cases y : τ 3 5 ≤ 0
        · rw [if_pos y]
          exact tl
        · rw [if_neg y, b62_21 (by omega), Int.toNat_natCast, if_pos n8]
          exact tl
    obtain ⟨m, x, k1, k2, k3, k4⟩ := key
    obtain ⟨τ', a1, a2, a3⟩ := ih (b + 1) (some (vi m)) (some (vi x)) (xwr τ 9 b x) (by omega) (chg_wr rfl c) (fun v hv => by
      by_cases y : v = b
      · subst y
        by_cases hw : isWy w v
        · obtain ⟨m1, m2, m3⟩ := k2 hw
          refine Gru_mex m1 hw m2 m3 k1 ?_ (fun u hu => ?_)
          · exact xwr_eq
          · rw [xwr_nj (by omega)]
        · have x0 := k3 hw
          refine ⟨?_, ?_, fun _ => ?_, fun z => absurd z hw⟩
          · rw [xwr_eq]; omega
          · rw [xwr_eq]; omega
          · rw [xwr_eq, x0]; rfl
      · refine GruC_cg (fun u hu => ?_) (hg v (by omega))
        rw [xwr_nj (by omega)])
    refine ⟨τ', a1, a2, fun d => ?_⟩
    rw [k4, b62_88 (by omega), Int.toNat_natCast, xadd_eq (by omega) (by omega)]
    exact a3 d
end WGR
