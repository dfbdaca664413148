/-! Numerals: what so many figures can have, what is left behind a digit -/
def TL (w : Nat → Int) (i t : Nat) : Prop := ∃ gs : List Nat, gs.length = i ∧ (∀ x ∈ gs, x < 10) ∧ Ly w gs t
def RB2 (w : Nat → Int) (g : Nat) (S : Nat → Prop) (t : Nat) : Prop := ∃ s, cntD w g s ∧ S (t + s)
section TLS
variable {X : Nat × (Nat → Int)} {σ τ : xM} {w : Nat → Int} {n i : Nat}
theorem TL_le {t : Nat} (h : TL w i t) : t ≤ 7 * i := by
  obtain ⟨gs, h1, h2, h3⟩ := h
  have := Ly_le gs t h3
  rw [h1] at this
  exact this
theorem TL_0 : TL w 0 = fun t => t = 0 := by
  funext t
  refine propext ⟨fun ⟨gs, h1, h2, h3⟩ => ?_, fun h => ⟨[], rfl, fun x hx => by simp at hx, h⟩⟩
  cases gs with
  | nil => exact h3
  | cons a b => simp at h1
/-- the first k ways of a figure more -/
def TLk (w : Nat → Int) (i k t : Nat) : Prop := ∃ j, j < k ∧ w j ≠ 0 ∧ pn (w j) ≤ t ∧ TL w i (t - pn (w j))
theorem TLk_20 (hW : WF w) : TLk w i 20 = TL w (i + 1) := by
  funext t
  refine propext ⟨fun ⟨j, h1, h2, h3, gs, h4, h5, h6⟩ => ⟨(j / 2) :: gs, by rw [List.length_cons, h4], ?_, pn (w j), ?_, h3, h6⟩, fun ⟨gs, h1, h2, h3⟩ => ?_⟩
  · intro x hx
    rcases List.mem_cons.mp hx with rfl | hx
    · omega
    · exact h5 x hx
  · have : j = 2 * (j / 2) ∨ j = 2 * (j / 2) + 1 := by omega
    rcases this with e | e
    · exact Or.inl (by rw [← e])
    · exact Or.inr ⟨by rw [← e]; exact h2, by rw [← e]⟩
  · cases gs with
    | nil => simp at h1
    | cons g gs =>
      obtain ⟨s, c, h4, h5⟩ := h3
      have g10 := h2 g List.mem_cons_self
      have tl : TL w i (t - s) := ⟨gs, by simpa using h1, fun x hx => h2 x (List.mem_cons_of_mem _ hx), h5⟩
      rcases c with c | ⟨c1, c2⟩
      · refine ⟨2 * g, by omega, ?_, by rw [← c]; exact h4, by rw [← c]; exact tl⟩
        have := hW.2.1 g g10
        omega
      · exact ⟨2 * g + 1, by omega, c1, by rw [← c2]; exact h4, by rw [← c2]; exact tl⟩
theorem mkL_k {m r k : Nat} (h : mkL (TL w i) m) (hr : mkL (TLk w i k) r) : mkL (TLk w i (k + 1)) (if w k = 0 then r else r ||| m * 2 ^ pn (w k)) := by
  intro t
  by_cases z : w k = 0
  · rw [if_pos z, hr t]
    refine ⟨fun ⟨j, h1, h2⟩ => ⟨j, by omega, h2⟩, fun ⟨j, h1, h2, h3⟩ => ⟨j, ?_, h2, h3⟩⟩
    rcases Nat.lt_or_eq_of_le (Nat.le_of_lt_succ h1) with y | y
    · exact y
    · subst y; exact absurd z h2
  · rw [if_neg z, Nat.testBit_or, Bool.or_eq_true, hr t, tb_mul, Bool.and_eq_true, decide_eq_true_eq, h]
    refine ⟨?_, fun ⟨j, h1, h2, h3, h4⟩ => ?_⟩
    · rintro (⟨j, h1, h2⟩ | ⟨a, b⟩)
      · exact ⟨j, by omega, h2⟩
      · exact ⟨k, by omega, z, a, b⟩
    · rcases Nat.lt_or_eq_of_le (Nat.le_of_lt_succ h1) with y | y
      · exact Or.inl ⟨j, y, h2, h3, h4⟩
      · subst y; exact Or.inr ⟨h3, h4⟩
theorem pw36 {m B : Nat} (h : m < 2 ^ B) (hB : B ≤ 43) : m < 2 ^ 43 := Nat.lt_of_lt_of_le h (Nat.pow_le_pow_right (by decide) hB)
/-- one place of the tails -/
theorem it112k (hF : Cform σ) (c : chg [97] [] σ τ) {m : Nat} (hi : i < 5) (hm : τ 97 i = m) (hS : mkL (TL (σ 102) i) m) : ∀ (q k r : Nat), k + q = 20 → mkL (TLk (σ 102) i k) r → ∃ r', mkL (TL (σ 102) (i + 1)) r' ∧ ∀ d, Ev X (d + 2) 112 19 [some (vr 96), some (vi ((i + 1 : Nat) : Int)), some (vl r), none, some (vi (nz (σ 102) k))] [] SH τ = Ev X (d + 2) 112 63 [some (vr 96), some (vi ((i + 1 : Nat) : Int)), some (vl r'), none, some (vi (nz (σ 102) 20))] [] SH τ := by
  obtain ⟨h4, hW, hC, hG⟩ := hF
  have t3 : τ 3 5 = nz (σ 102) 20 := by rw [c 3 5 rfl (fun _ => absurd ‹_› (by decide))]; exact hC.1
  have t6 : τ 6 = σ 6 := chg_row c (fun _ => rfl) rfl
  have e72 : f72 τ 1 = nz (σ 102) 20 := by
    unfold f72
    rw [if_neg (by decide)]
    exact t3
  have s72' := fun d => s72 (X := X) (d := d) (σ := τ) (a1 := 1)
  rw [e72] at s72'
  have mlt : m < 2 ^ 43 := pw36 (mkL_lt hS (B := 7 * i + 1) (fun t ht => by have := TL_le ht; omega)) (by omega)
  intro q
  induction q with
  | zero =>
    intro k r e hr
    obtain rfl : k = 20 := by omega
    rw [TLk_20 hW] at hr
    refine ⟨r, hr, fun d => ?_⟩
    refine Eq.trans b112_19 ?_
    refine x_bind (s72' (d + 1)) ?_
    dsimp only
    refine Eq.trans b112_29 ?_
    rw [if_pos (Int.le_refl _)]
  | succ q ih =>
    intro k r e hr
    have nx := mkL_k hS hr
    by_cases z : σ 102 k = 0
    · rw [if_pos z] at nx
      obtain ⟨r', h1, h2⟩ := ih (k + 1) r (by omega) nx
      have : nz (σ 102) (k + 1) = nz (σ 102) k := by rw [nz, if_pos z]; rfl
      rw [this] at h2
      exact ⟨r', h1, h2⟩
    · rw [if_neg z] at nx
      obtain ⟨r', h1, h2⟩ := ih (k + 1) _ (by omega) nx
      have n1 : nz (σ 102) (k + 1) = nz (σ 102) k + 1 := by rw [nz, if_neg z]
      have n2 := nz_lt (w := σ 102) (show k < 20 by omega) z
      have n3 := nz_le (w := σ 102) 20
      obtain ⟨l1, l2, l3⟩ := hC.2.1 k (by omega) z
      have wk := hW.1 k (by omega)
      have v71 : f71 τ 1 (nz (σ 102) k) = σ 102 k := by
        unfold f71
        rw [e72, if_pos (by omega), if_neg (by decide), Int.toNat_natCast, t6]
        exact l1
      have s71' := fun d => s71 (X := X) (d := d) (σ := τ) (a1 := 1) (a2 := (nz (σ 102) k : Int)) (by omega)
      rw [v71] at s71'
      have p1 := pn_pc (σ 102 k)
      have s319' := fun d => s319 (X := X) (d := d) (σ := τ) (a0 := σ 102 k)
      rw [f319_pc (by omega) (by omega), p1.1] at s319'
      have rlt : r < 2 ^ 43 := pw36 (mkL_lt hr (B := 7 * i + 8) (fun t ⟨j, _, _, ht, ht2⟩ => by
        have := TL_le ht2
        have := (pn_pc (σ 102 j)).2
        omega)) (by omega)
      have mp : m * 2 ^ pn (σ 102 k) < 2 ^ 50 := by
        have : 2 ^ pn (σ 102 k) ≤ 2 ^ 7 := Nat.pow_le_pow_right (by decide) p1.2
        have := Nat.mul_le_mul_left m this
        omega
      have q1 := lshl_nat (a := m) (k := pn (σ 102 k)) (by omega) (by omega)
      have q2 := lor_nat (a := r) (b := m * 2 ^ pn (σ 102 k)) (by omega) (by omega)
      have i1 : xsub ((i + 1 : Nat) : Int) 1 = (i : Int) := by rw [xsub_eq (by omega) (by omega)]; omega
      refine ⟨r', h1, fun d => ?_⟩
      have h2 := h2 d
      rw [n1] at h2
      refine Eq.trans ?_ h2
      refine Eq.trans b112_19 ?_
      refine x_bind (s72' (d + 1)) ?_
      dsimp only
      refine Eq.trans b112_29 ?_
      rw [if_neg (by omega)]
      refine Eq.trans (b112_32 (by rw [i1]; omega)) ?_
      refine x_bind (s71' d) ?_
      dsimp only
      rw [i1, Int.toNat_natCast, hm]
      refine Eq.trans b112_51 ?_
      refine x_bind (s319' (d + 1)) ?_
      dsimp only
      refine Eq.trans b112_54 ?_
      rw [q1, q2, xadd_eq (by omega) (by omega)]
      rfl
/-- the tails up to a place -/
def tlsOk (w : Nat → Int) (τ : xM) (i : Nat) : Prop := ∀ j, j ≤ i → ∃ m : Nat, τ 97 j = m ∧ mkL (TL w j) m
theorem it112 (hF : Cform σ) : ∀ (q i : Nat) (o2 o4 : Option xV) (τ : xM), i + q = 5 → chg [97] [] σ τ → tlsOk (σ 102) τ i → ∃ τ', chg [97] [] σ τ' ∧ tlsOk (σ 102) τ' 5 ∧ ∀ d (o3 : Option xV), Ev X (d + 2) 112 9 [some (vr 96), some (vi ((i + 1 : Nat) : Int)), o2, o3, o4] [] SH τ = some (none, SH, τ') := by
  intro q
  induction q with
  | zero =>
    intro i o2 o4 τ e c h
    obtain rfl : i = 5 := by omega
    refine ⟨τ, c, h, fun d o3 => ?_⟩
    rw [b112_9, if_pos (by omega), b112_76]
  | succ q ih =>
    intro i o2 o4 τ e c h
    obtain ⟨m, h1, h2⟩ := h i (Nat.le_refl i)
    obtain ⟨r, r1, r2⟩ := it112k (X := X) hF c (show i < 5 by omega) h1 h2 20 0 0 (by omega) (fun t => ⟨fun z => by simp at z, fun ⟨j, hj, _⟩ => by omega⟩)
    obtain ⟨τ', a1, a2, a3⟩ := ih (i + 1) (some (vl r)) (some (vi (nz (σ 102) 20))) (xwr τ 97 (i + 1) r) (by omega) (chg_wr rfl c) (fun j hj => by
      by_cases y : j = i + 1
      · subst y
        exact ⟨r, xwr_eq, r1⟩
      · obtain ⟨m', b1, b2⟩ := h j (by omega)
        exact ⟨m', by rw [xwr_nj y]; exact b1, b2⟩)
    refine ⟨τ', a1, a2, fun d o3 => ?_⟩
    rw [b112_9, if_neg (by omega), b112_14]
    refine (r2 d).trans ?_
    rw [b112_63 (by omega), Int.toNat_natCast, xadd_eq (by omega) (by omega)]
    exact a3 d none
theorem s112 (hF : Cform σ) : ∃ τ, (∀ d, Ev X (d + 2) 112 0 [some (vr 96), none, none, none, none] [] SH σ = some (none, SH, τ)) ∧ chg [97] [] σ τ ∧ tlsOk (σ 102) τ 5 := by
  obtain ⟨τ, a1, a2, a3⟩ := it112 (X := X) hF 5 0 none none (xwr σ 97 0 1) (by omega) (chg_wr rfl chg_rf) (fun j hj => by
    obtain rfl : j = 0 := by omega
    refine ⟨1, xwr_eq, ?_⟩
    rw [TL_0]
    intro t
    cases t with
    | zero => simp
    | succ t => simp [Nat.testBit_succ])
  refine ⟨τ, fun d => ?_, a1, a2⟩
  rw [b112_0]
  exact a3 d none
/-- restBehind, as a mask -/
def rbM (w : Nat → Int) (g m : Nat) : Nat := if w (2 * g + 1) ≠ 0 then m / 2 ^ pn (w (2 * g)) ||| m / 2 ^ pn (w (2 * g + 1)) else m / 2 ^ pn (w (2 * g))
theorem rbM_S {S : Nat → Prop} {g m : Nat} (h : mkL S m) : mkL (RB2 w g S) (rbM w g m) := by
  intro t
  unfold rbM RB2
  by_cases z : w (2 * g + 1) ≠ 0
  · rw [if_pos z, Nat.testBit_or, Bool.or_eq_true, tb_div, tb_div, h, h]
    constructor
    · rintro (a | a)
      · exact ⟨_, Or.inl rfl, by rw [Nat.add_comm]; exact a⟩
      · exact ⟨_, Or.inr ⟨z, rfl⟩, by rw [Nat.add_comm]; exact a⟩
    · rintro ⟨s, c | ⟨_, c⟩, a⟩
      · subst c; rw [Nat.add_comm] at a; exact Or.inl a
      · subst c; rw [Nat.add_comm] at a; exact Or.inr a
  · rw [if_neg z, tb_div, h]
    constructor
    · intro a
      exact ⟨_, Or.inl rfl, by rw [Nat.add_comm]; exact a⟩
    · rintro ⟨s, c | ⟨y, _⟩, a⟩
      · subst c; rw [Nat.add_comm] at a; exact a
      · exact absurd y z
theorem rbM_lt {g m : Nat} (h : m < 2 ^ 43) : rbM w g m < 2 ^ 43 := by
  unfold rbM
  have a : ∀ c, m / 2 ^ c < 2 ^ 43 := fun c => Nat.lt_of_le_of_lt (Nat.div_le_self _ _) h
  split
  · exact Nat.or_lt_two_pow (a _) (a _)
  · exact a _
theorem s114R (hF : Cform σ) (c : chg [97] [] σ τ) {g m : Nat} (hg : g < 10) (hm : m < 2 ^ 43) : ∀ d, Ev X (d + 1) 114 0 [some (vr 96), some (vl m), none, some (vi g), none, none, none] [] SH τ = some (some (vl (rbM (σ 102) g m)), SH, τ) := by
  intro d
  obtain ⟨h4, hW, -, -⟩ := hF
  have t4 : τ 4 = σ 4 := chg_row c (fun _ => rfl) rfl
  have w1 := hW.1 (2 * g) (by omega)
  have w1' := hW.2.1 g hg
  have w2 := hW.1 (2 * g + 1) (by omega)
  have i1 : xmul 2 (g : Int) = ((2 * g : Nat) : Int) := by rw [xmul_eq (by omega) (by omega)]; omega
  have i2 : xadd ((2 * g : Nat) : Int) 0 = ((2 * g : Nat) : Int) := by rw [xadd_eq (by omega) (by omega)]; omega
  have i3 : xadd ((2 * g : Nat) : Int) 1 = ((2 * g + 1 : Nat) : Int) := by rw [xadd_eq (by omega) (by omega)]; omega
  have e0 : f70 τ g 0 = σ 102 (2 * g) := by
    unfold f70
    rw [if_neg (by omega), if_neg (by omega), if_neg (by decide), if_neg (by decide), i1, i2, Int.toNat_natCast, t4, h4 _ (by omega), if_pos (by omega)]
  have e1 : f70 τ g 1 = if σ 102 (2 * g + 1) ≠ 0 then σ 102 (2 * g + 1) else -1 := by
    unfold f70
    rw [if_neg (by omega), if_neg (by omega), if_neg (by decide), if_neg (by decide), i1, i3, Int.toNat_natCast, t4, h4 _ (by omega)]
  have p1 := pn_pc (σ 102 (2 * g))
  have p2 := pn_pc (σ 102 (2 * g + 1))
  have a : ∀ c, m / 2 ^ c < 2 ^ 43 := fun c => Nat.lt_of_le_of_lt (Nat.div_le_self _ _) hm
  refine Eq.trans s114 ?_
  have v : f114 τ m g = rbM (σ 102) g m := by
    unfold f114 rbM
    rw [e0, e1, f319_pc (a := σ 102 (2 * g)) (by omega) (by omega), p1.1]
    by_cases z : σ 102 (2 * g + 1) ≠ 0
    · rw [if_pos z, if_pos (by omega), if_pos z, f319_pc (a := σ 102 (2 * g + 1)) (by omega) (by omega), p2.1, lushr_nat (by omega) (by omega), lushr_nat (by omega) (by omega)]
      exact lor_nat (by have := a (pn (σ 102 (2 * g))); omega) (by have := a (pn (σ 102 (2 * g + 1))); omega)
    · rw [if_neg z, if_neg (by omega), if_neg z, lushr_nat (by omega) (by omega)]
  rw [v]
/-- canEnd -/
noncomputable def ceI (w : Nat → Int) (b : Nat) (S : Nat → Prop) : Int := @ite Int (∃ t, S t ∧ TL w b t) (Classical.propDecidable _) 1 0
theorem s115R (ht : tlsOk w τ 5) {S : Nat → Prop} {b m : Nat} (hb : b ≤ 5) (hS : mkL S m) (hm : m < 2 ^ 43) : ∀ d, Ev X d 115 0 [some (vr 96), some (vl m), none, some (vi b)] [] SH τ = some (some (vi (ceI w b S)), SH, τ) := by
  intro d
  obtain ⟨m2, h1, h2⟩ := ht b hb
  refine Eq.trans s115 ?_
  have v : f115 τ m b = ceI w b S := by
    unfold f115 ceI
    rw [if_neg (by omega), if_neg (by omega), Int.toNat_natCast, h1, land_nat (by omega)]
    by_cases z : m &&& m2 = 0
    · rw [z, if_pos (by decide), if_neg]
      rintro ⟨t, a, b⟩
      have q : (m &&& m2).testBit t = true := by rw [Nat.testBit_and, (hS t).mpr a, (h2 t).mpr b]; rfl
      rw [z] at q
      simp at q
    · obtain ⟨t, q⟩ := Nat.exists_testBit_of_ne_zero z
      rw [Nat.testBit_and, Bool.and_eq_true] at q
      rw [if_neg, if_pos ⟨t, (hS t).mp q.1, (h2 t).mp q.2⟩]
      unfold lcmp'
      have : ¬ ((m &&& m2 : Nat) : Int) = 0 := by omega
      rw [if_neg (by omega), if_neg this]
      decide
  rw [v]
end TLS
