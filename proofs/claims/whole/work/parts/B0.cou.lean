/-! COULD: what was seen, on both sides -/
section COU
variable {X : Nat × (Nat → Int)} {σ τ : xM}
theorem and_all {V M : Nat} : V &&& M = M ↔ ∀ p, M.testBit p = true → V.testBit p = true := by
  constructor
  · intro h p hp
    have : (V &&& M).testBit p = true := by rw [h]; exact hp
    rw [Nat.testBit_and, Bool.and_eq_true] at this
    exact this.1
  · intro h
    refine Nat.eq_of_testBit_eq (fun p => ?_)
    rw [Nat.testBit_and]
    cases e : M.testBit p with
    | false => rw [Bool.and_false]
    | true => rw [h p e, Bool.and_true]
theorem and_non {V M : Nat} : V &&& M = 0 ↔ ∀ p, M.testBit p = true → V.testBit p = false := by
  constructor
  · intro h p hp
    have : (V &&& M).testBit p = false := by rw [h]; exact Nat.zero_testBit p
    rw [Nat.testBit_and, hp, Bool.and_true] at this
    exact this
  · intro h
    refine Nat.eq_of_testBit_eq (fun p => ?_)
    rw [Nat.testBit_and, Nat.zero_testBit]
    cases e : M.testBit p with
    | false => rw [Bool.and_false]
    | true => rw [h p e, Bool.false_and]
/-- a sighting that counts -/
def cnS (σ : xM) (k : Int) (c : Nat) (ly : Int) (s : Nat) : Prop := σ 42 s = (c : Int) ∧ σ 44 s = ly ∧ f150 σ (s : Int) k ≠ 0
theorem bit_or1 {H p q : Nat} : (H ||| 2 ^ p).testBit q = true ↔ H.testBit q = true ∨ p = q := by
  rw [Nat.testBit_or, Bool.or_eq_true, Nat.testBit_two_pow, decide_eq_true_iff]
theorem s149 {k ly : Int} {c : Nat} (hS : Csee σ) : ∃ M : Nat, M < 128 ∧ (∀ d, Ev X (d + 1) 149 0 [some (vr 41), some (vi k), some (vi c), some (vi ly), none, none] [] SH σ = some (some (vi (M : Int)), SH, σ)) ∧ ∀ p, M.testBit p = true ↔ ∃ s : Nat, (s : Int) < σ 41 1 ∧ cnS σ k c ly s ∧ σ 43 s = (p : Int) := by
  obtain ⟨_, _, _, q0, q1, _, q3⟩ := hS
  obtain ⟨N, hN⟩ : ∃ N : Nat, σ 41 1 = N := ⟨(σ 41 1).toNat, by omega⟩
  have lp : ∀ (m s H : Nat), s + m = N → H < 128 → ∃ M : Nat, M < 128 ∧ (∀ d, Ev X (d + 1) 149 6 [some (vr 41), some (vi k), some (vi c), some (vi ly), some (vi (H : Int)), some (vi s)] [] SH σ = some (some (vi (M : Int)), SH, σ)) ∧ ∀ p, M.testBit p = true ↔ H.testBit p = true ∨ ∃ s' : Nat, s ≤ s' ∧ s' < N ∧ cnS σ k c ly s' ∧ σ 43 s' = (p : Int) := by
    intro m
    induction m with
    | zero =>
      intro s H e hH
      refine ⟨H, hH, fun d => ?_, fun p => ⟨Or.inl, fun z => z.elim id (fun ⟨s', h1, h2, _⟩ => by omega)⟩⟩
      rw [b149_6, if_pos (by omega), b149_74]
    | succ m ih =>
      intro s H e hH
      have qs := q3 s (by omega)
      obtain ⟨p0, hp0⟩ : ∃ p : Nat, σ 43 s = p := ⟨(σ 43 s).toNat, by omega⟩
      have st : ∀ d, Ev X (d + 1) 149 6 [some (vr 41), some (vi k), some (vi c), some (vi ly), some (vi (H : Int)), some (vi s)] [] SH σ = Ev X (d + 1) 149 22 [some (vr 41), some (vi k), some (vi c), some (vi ly), some (vi (H : Int)), some (vi s)] [] SH σ := by
        intro d
        rw [b149_6, if_neg (by omega), b149_15, if_neg (by omega)]
      by_cases y : cnS σ k c ly s
      · have p7 : p0 < 7 := by omega
        have hb : H ||| 2 ^ p0 < 128 := Nat.or_lt_two_pow (n := 7) hH (Nat.pow_lt_pow_right (by decide) p7)
        obtain ⟨M, m1, m2, m3⟩ := ih (s + 1) (H ||| 2 ^ p0) (by omega) hb
        refine ⟨M, m1, fun d => ?_, fun p => ?_⟩
        · obtain ⟨y1, y2, y3⟩ := y
          rw [st, b149_22 (by omega), Int.toNat_natCast, if_neg (fun z => z y1), b149_33 (by omega), Int.toNat_natCast, if_neg (fun z => z y2)]
          refine Eq.trans b149_44 ?_
          refine x_bind (s150 (by omega) (by omega)) ?_
          dsimp only
          refine Eq.trans b149_51 ?_
          have p2 : (2 : Nat) ^ p0 < 2 ^ 31 := Nat.pow_lt_pow_right (by decide) (by omega)
          rw [if_neg y3, b149_54 (by omega), Int.toNat_natCast, hp0, xshl_1 p0 (by omega), xor_nat (by omega) p2, b149_68, xad1 (by omega)]
          exact m2 d
        · rw [m3 p, bit_or1]
          constructor
          · rintro ((z | z) | ⟨s', h1, h2, h3⟩)
            · exact Or.inl z
            · exact Or.inr ⟨s, Nat.le_refl _, by omega, y, by rw [hp0, z]⟩
            · exact Or.inr ⟨s', by omega, h2, h3⟩
          · rintro (z | ⟨s', h1, h2, h3, h4⟩)
            · exact Or.inl (Or.inl z)
            · by_cases w : s' = s
              · rw [w, hp0] at h4
                exact Or.inl (Or.inr (by omega))
              · exact Or.inr ⟨s', by omega, h2, h3, h4⟩
      · obtain ⟨M, m1, m2, m3⟩ := ih (s + 1) H (by omega) hH
        refine ⟨M, m1, fun d => ?_, fun p => ?_⟩
        · have go : Ev X (d + 1) 149 68 [some (vr 41), some (vi k), some (vi c), some (vi ly), some (vi (H : Int)), some (vi s)] [] SH σ = some (some (vi (M : Int)), SH, σ) := by
            rw [b149_68, xad1 (by omega)]
            exact m2 d
          rw [st, b149_22 (by omega), Int.toNat_natCast]
          by_cases z1 : σ 42 s = (c : Int)
          · rw [if_neg (fun z => z z1), b149_33 (by omega), Int.toNat_natCast]
            by_cases z2 : σ 44 s = ly
            · rw [if_neg (fun z => z z2)]
              refine Eq.trans b149_44 ?_
              refine x_bind (s150 (by omega) (by omega)) ?_
              dsimp only
              refine Eq.trans b149_51 ?_
              have z3 : f150 σ (s : Int) k = 0 := Classical.byContradiction (fun z => y ⟨z1, z2, z⟩)
              rw [if_pos z3]
              exact go
            · rw [if_pos z2]
              exact go
          · rw [if_pos z1]
            exact go
        · rw [m3 p]
          constructor
          · rintro (z | ⟨s', h1, h2, h3⟩)
            · exact Or.inl z
            · exact Or.inr ⟨s', by omega, h2, h3⟩
          · rintro (z | ⟨s', h1, h2, h3, h4⟩)
            · exact Or.inl z
            · by_cases w : s' = s
              · rw [w] at h3
                exact absurd h3 y
              · exact Or.inr ⟨s', by omega, h2, h3, h4⟩
  obtain ⟨M, m1, m2, m3⟩ := lp N 0 0 (by omega) (by decide)
  refine ⟨M, m1, fun d => ?_, fun p => ?_⟩
  · rw [b149_0]
    exact m2 d
  · rw [m3 p]
    constructor
    · rintro (z | ⟨s', h1, h2, h3, h4⟩)
      · rw [Nat.zero_testBit] at z
        cases z
      · exact ⟨s', by omega, h3, h4⟩
    · rintro ⟨s', h2, h3, h4⟩
      exact Or.inr ⟨s', by omega, by omega, h3, h4⟩
theorem f150_e {k : Int} {s : Nat} (h : -1 ≤ σ 46 s) : f150 σ (s : Int) k ≠ 0 ↔ (σ 45 s ≤ k ∧ (σ 46 s < 0 ∨ k < σ 46 s)) := by
  unfold f150
  rw [Int.toNat_natCast]
  constructor
  · intro z
    repeat' split at z
    all_goals omega
  · intro z
    repeat' split
    all_goals omega
theorem bit_v {V p : Nat} (hV : V < 128) (hp : p < 7) : xand (xshr (V : Int) (p : Int)) 1 = if V.testBit p = true then 1 else 0 := by
  rw [xshr_div (by omega) (by omega) (by omega)]
  rw [show ((V : Int) / ((2 ^ p : Nat) : Int)) = ((V / 2 ^ p : Nat) : Int) from rfl, show (1 : Int) = ((1 : Nat) : Int) from rfl, xand_nat (Nat.lt_of_le_of_lt (Nat.div_le_self _ _) (by omega)), Nat.and_one_is_mod, Nat.testBit_eq_decide_div_mod_eq]
  by_cases y : V / 2 ^ p % 2 = 1
  · rw [y, if_pos (decide_eq_true rfl)]
  · rw [if_neg (fun z => y (of_decide_eq_true z)), show V / 2 ^ p % 2 = 0 by omega]
    rfl
/-- the class's two masks say what the model's sights say -/
theorem msk_al {k : Int} {c V ld br : Nat} (hS : Csee σ) (hV : V < 128) (hl : ∀ p, ld.testBit p = true ↔ ∃ s : Nat, (s : Int) < σ 41 1 ∧ cnS σ k c 1 s ∧ σ 43 s = (p : Int)) (hb : ∀ p, br.testBit p = true ↔ ∃ s : Nat, (s : Int) < σ 41 1 ∧ cnS σ k c 0 s ∧ σ 43 s = (p : Int)) : (xand (V : Int) (ld : Int) = (ld : Int) ∧ xand (V : Int) (br : Int) = 0) ↔ alS σ k c (V : Int) := by
  obtain ⟨_, _, _, q0, q1, q2, q3⟩ := hS
  rw [xand_nat (by omega), xand_nat (by omega)]
  have e1 : (((V &&& ld : Nat) : Int) = (ld : Int)) ↔ V &&& ld = ld := by omega
  have e2 : (((V &&& br : Nat) : Int) = 0) ↔ V &&& br = 0 := by omega
  rw [e1, e2, and_all, and_non]
  constructor
  · intro ⟨h1, h2⟩ s hs t1 t2 t3
    rw [q2] at hs
    obtain ⟨a1, a2, a3, a4, a5, a6, a7, a8, a9, a10, a11, a12, a13⟩ := q3 s hs
    rw [a4] at t1
    rw [a5] at t2
    rw [a1] at t3
    obtain ⟨p, hp⟩ : ∃ p : Nat, σ 43 s = p := ⟨(σ 43 s).toNat, by omega⟩
    rw [a2, a3, hp, bit_v hV (by omega)]
    have cn : f150 σ (s : Int) k ≠ 0 := (f150_e a11).mpr ⟨t1, t2⟩
    rcases a6 with z | z
    · have := h2 p ((hb p).mpr ⟨s, hs, ⟨t3, z, cn⟩, hp⟩)
      rw [this, z, if_neg (by decide)]
    · have := h1 p ((hl p).mpr ⟨s, hs, ⟨t3, z, cn⟩, hp⟩)
      rw [this, z, if_pos rfl]
  · intro h
    refine ⟨fun p hp => ?_, fun p hp => ?_⟩
    · obtain ⟨s, hs, ⟨c1, c2, c3⟩, hp⟩ := (hl p).mp hp
      obtain ⟨a1, a2, a3, a4, a5, a6, a7, a8, a9, a10, a11, a12, a13⟩ := q3 s hs
      have cn := (f150_e a11).mp c3
      have := h s (by rw [q2]; exact hs) (by rw [a4]; exact cn.1) (by rw [a5]; exact cn.2) (by rw [a1]; exact c1)
      rw [a2, a3, hp, bit_v hV (by omega), c2] at this
      by_cases y : V.testBit p = true
      · exact y
      · rw [if_neg y] at this
        exact absurd this (by decide)
    · obtain ⟨s, hs, ⟨c1, c2, c3⟩, hp⟩ := (hb p).mp hp
      obtain ⟨a1, a2, a3, a4, a5, a6, a7, a8, a9, a10, a11, a12, a13⟩ := q3 s hs
      have cn := (f150_e a11).mp c3
      have := h s (by rw [q2]; exact hs) (by rw [a4]; exact cn.1) (by rw [a5]; exact cn.2) (by rw [a1]; exact c1)
      rw [a2, a3, hp, bit_v hV (by omega), c2] at this
      by_cases y : V.testBit p = true
      · rw [if_pos y] at this
        exact absurd this (by decide)
      · exact Bool.eq_false_iff.mpr y
end COU
