/-! WALKS: what is looked for, and what can't become it -/
def LK (so on : Int) (n : Nat) (cd : Nat → Int) (len : Nat) (fgN : Int) (cs : Nat → Int) (stk : Int) : Prop := (on = -1 ∨ stk = on) ∧ okW cs n ∧ (so = 2 → trI (rdSt r0 cs n) = 0) ∧ (so ≠ 2 → trI (rdSt r0 cs n) = 1 ∧ (so = 1 ∨ lawV cd len (woI (rdSt r0 cs n) 0) (woI (rdSt r0 cs n) 1) stk fgN = 1))
section VAI
variable {X : Nat × (Nat → Int)} {σ τ : xM} {k n q len : Nat} {cs cd : Nat → Int} {so on fgN stk : Int}
theorem okS_le (h : okS cs n) (hq : q ≤ n) : okS cs q := fun j hj => h j (by omega)
theorem rd_dig {m : Nat} (hm : q + m ≤ 11) : ∀ m' , m' ≤ m → okS cs (q + m') → (∀ j, q ≤ j → j < q + m' → 48 ≤ cs j ∧ cs j ≤ 57) → (∀ j, j ≠ 5 → j ≠ 6 → rdSt r0 cs (q + m') j = rdSt r0 cs q j) ∧ rdSt r0 cs (q + m') 6 = rdSt r0 cs q 6 + m' ∧ rdSt r0 cs q 5 * 10 ^ m' ≤ rdSt r0 cs (q + m') 5 ∧ rdSt r0 cs (q + m') 5 < (rdSt r0 cs q 5 + 1) * 10 ^ m' := by
  intro m'
  induction m' with
  | zero =>
    intro _ _ _
    refine ⟨fun _ _ _ => rfl, by rw [Nat.add_zero]; omega, ?_, ?_⟩
    · rw [Nat.add_zero, Int.pow_zero]
      omega
    · rw [Nat.add_zero, Int.pow_zero]
      omega
  | succ m' ih =>
    intro h1 ok dg
    obtain ⟨a1, a2, a3, a4⟩ := ih (by omega) (okS_le ok (by omega)) (fun j x y => dg j x (by omega))
    obtain ⟨s, ra⟩ := auL _ _ (okS_le ok (q := q + m') (by omega))
    have ran := RA_n ra
    have d := dg (q + m') (by omega) (by omega)
    have e : rdSt r0 cs (q + (m' + 1)) = rdD (rdSt r0 cs (q + m')) (xsub (cs (q + m')) 48) := by
      rw [show q + (m' + 1) = q + m' + 1 by omega, rdSt]
      unfold rdN
      rw [if_pos d]
    have e5 : rdD (rdSt r0 cs (q + m')) (xsub (cs (q + m')) 48) 5 = rdSt r0 cs (q + m') 5 * 10 + (cs (q + m') - 48) := by
      show xadd (xmul (rdSt r0 cs (q + m') 5) 10) (xsub (cs (q + m')) 48) = _
      rw [xmul_eq (by omega) (by omega), xsub_eq (by omega) (by omega), xadd_eq (by omega) (by omega)]
    have e6 : rdD (rdSt r0 cs (q + m')) (xsub (cs (q + m')) 48) 6 = rdSt r0 cs (q + m') 6 + 1 := by
      show xadd (rdSt r0 cs (q + m') 6) 1 = _
      rw [xadd_eq (by omega) (by omega)]
    rw [e, e5, e6]
    refine ⟨fun j x y => ?_, by omega, ?_, ?_⟩
    · rw [← a1 j x y]
      unfold rdD
      split
      · exact absurd rfl x
      · exact absurd rfl y
      · rfl
    · rw [Int.pow_succ, ← Int.mul_assoc]
      omega
    · rw [Int.pow_succ, ← Int.mul_assoc]
      omega
theorem rd_lost : ∀ m, q + m ≤ 11 → okS cs (q + m) → rdSt r0 cs q 7 ≠ 0 → rdSt r0 cs (q + m) 7 ≠ 0
  | 0, _, _, h => h
  | m + 1, hm, ok, h => by
    have a := rd_lost m (by omega) (okS_le ok (by omega)) h
    have rb := RB_st (q + m) (okS_le ok (by omega)) (by omega)
    have l := ls_rg rb.2.2.2.2.1 rb.2.2.2.2.2.1 rb.2.2.2.2.2.2
    rw [show q + (m + 1) = q + m + 1 by omega, rdSt]
    unfold rdN
    split
    · exact a
    · show lsT (rdSt r0 cs (q + m)) ≠ 0
      have := rb.2.2.2.2.1
      have := rb.2.2.2.2.2.2
      by_cases z : rdSt r0 cs (q + m) 4 = 47 ∧ rdSt r0 cs (q + m) 5 = 0
      · omega
      · rw [l.2.2.2.2 z]
        exact a
theorem ls_ne (hn : n ≤ 11) (ok : okS cs n) (h : rdSt r0 cs n 7 ≠ 0) : trI (rdSt r0 cs n) = 0 := by
  have rb := RB_st n ok hn
  have l := ls_rg rb.2.2.2.2.1 rb.2.2.2.2.2.1 rb.2.2.2.2.2.2
  have : lsT (rdSt r0 cs n) ≠ 0 := by
    have := rb.2.2.2.2.1
    have := rb.2.2.2.2.2.2
    by_cases z : rdSt r0 cs n 4 = 47 ∧ rdSt r0 cs n 5 = 0
    · omega
    · rw [l.2.2.2.2 z]
      exact h
  unfold trI
  rw [if_neg (fun z => this z.1)]
theorem xcv4 : ∀ m, m ≤ 4 → xcv 4 m = (10 : Int) ^ m := by
  intro m hm
  have : m = 0 ∨ m = 1 ∨ m = 2 ∨ m = 3 ∨ m = 4 := by omega
  rcases this with z | z | z | z | z <;> subst z <;> decide
/-- what makes a beginning vain -/
def VN (so : Int) (n q : Nat) (ls : Int) (r : Nat → Int) : Prop := (ls < (q : Int) ∧ r 0 ≠ 1) ∨ (so ≠ 2 ∧ r 7 ≠ 0) ∨ (so ≠ 2 ∧ ls < (q : Int) ∧ (4 < n - q ∨ (r 4 ≠ 42 ∧ r 4 ≠ 47 ∧ ¬ (r 5 * 10 ^ (n - q) ≤ (if r 4 = 43 then r 1 - r 2 else r 2 - r 1) ∧ (if r 4 = 43 then r 1 - r 2 else r 2 - r 1) < (r 5 + 1) * 10 ^ (n - q)))))
theorem vn_no {ls : Int} (hn : n ≤ 11) (hq : q ≤ n) (v : VN so n q ls (rdSt r0 cs q)) (dg : ∀ j : Nat, ls < (j : Int) → j < n → 48 ≤ cs j ∧ cs j ≤ 57) : ¬ LK so on n cd len fgN cs stk := by
  intro ⟨_, ⟨ok, w1, w2⟩, t2, t1⟩
  rcases v with ⟨v1, v2⟩ | ⟨v1, v2⟩ | ⟨v1, v2, v3⟩
  · have d := rd_dig (cs := cs) (q := q) (m := n - q) (by omega) (n - q) (Nat.le_refl _) (by rw [show q + (n - q) = n by omega]; exact ok) (fun j a b => dg j (by omega) (by omega))
    rw [show q + (n - q) = n by omega] at d
    rw [d.1 0 (by decide) (by decide)] at w1
    exact v2 w1
  · have d := rd_lost (cs := cs) (q := q) (n - q) (by omega) (by rw [show q + (n - q) = n by omega]; exact ok) v2
    rw [show q + (n - q) = n by omega] at d
    have := ls_ne hn ok d
    have := (t1 v1).1
    omega
  · have d := rd_dig (cs := cs) (q := q) (m := n - q) (by omega) (n - q) (Nat.le_refl _) (by rw [show q + (n - q) = n by omega]; exact ok) (fun j a b => dg j (by omega) (by omega))
    rw [show q + (n - q) = n by omega] at d
    obtain ⟨d1, d6, d5, d5'⟩ := d
    obtain ⟨s, ra⟩ := auL _ _ ok
    have ran := RA_n ra
    obtain ⟨s', ra'⟩ := auL _ _ (okS_le ok hq)
    have ran' := RA_n ra'
    rcases v3 with v3 | ⟨v3, v4, v5⟩
    · omega
    · have tr := (t1 v1).1
      unfold trI at tr
      have rb := RB_st n ok hn
      have eq : rdSt r0 cs n 1 = rdSt r0 cs n 2 + clZ (rdSt r0 cs n) := by
        by_cases z : lsT (rdSt r0 cs n) = 0 ∧ rdSt r0 cs n 1 = rdSt r0 cs n 2 + clZ (rdSt r0 cs n)
        · exact z.2
        · rw [if_neg z] at tr
          omega
      have s4 := rb.2.1
      unfold clZ at eq
      rw [d1 4 (by decide) (by decide)] at s4 eq
      rw [d1 1 (by decide) (by decide), d1 2 (by decide) (by decide), if_neg v3] at eq
      apply v5
      by_cases z : rdSt r0 cs q 4 = 43
      · rw [if_neg (by omega), if_neg (by omega)] at eq
        rw [if_pos z]
        rw [show rdSt r0 cs q 1 - rdSt r0 cs q 2 = rdSt r0 cs n 5 by omega]
        exact ⟨d5, d5'⟩
      · rw [if_pos (by omega)] at eq
        rw [if_neg z]
        rw [show rdSt r0 cs q 2 - rdSt r0 cs q 1 = rdSt r0 cs n 5 by omega]
        exact ⟨d5, d5'⟩
/-- isVain: what it says is so -/
theorem s186 (hk : isWlk k) (hn : n ≤ 11) (hq : q ≤ n) (h9 : σ k 9 = (n : Int)) (h12 : σ k 12 = so) (ok : okS cs q) (hR : ∀ j, j < 8 → Rd σ (k + 1) q j = rdSt r0 cs q j) : ∃ b : Int, (∀ d, Ev X (d + 1) 186 0 [some (vr k), some (vi q)] [] SH σ = some (some (vi b), SH, σ)) ∧ (b ≠ 0 → VN so n q (σ k 11) (rdSt r0 cs q)) := by
  have hr : isRdg (k + 1) := by unfold isWlk at hk; unfold isRdg; omega
  have R0 : σ (k + 1 + 1) q = rdSt r0 cs q 0 := hR 0 (by decide)
  have R1 : σ (k + 1 + 2) q = rdSt r0 cs q 1 := hR 1 (by decide)
  have R2 : σ (k + 1 + 3) q = rdSt r0 cs q 2 := hR 2 (by decide)
  have R4 : σ (k + 1 + 5) q = rdSt r0 cs q 4 := hR 4 (by decide)
  have R5 : σ (k + 1 + 6) q = rdSt r0 cs q 5 := hR 5 (by decide)
  have R7 : σ (k + 1 + 8) q = rdSt r0 cs q 7 := hR 7 (by decide)
  have f131e : f131 σ (k + 1) (q : Int) = if rdSt r0 cs q 0 = 1 then 1 else 0 := by
    unfold f131
    rw [if_neg (by omega), if_neg (by omega), Int.toNat_natCast, R0]
    by_cases z : rdSt r0 cs q 0 = 1
    · rw [if_pos z, if_neg (fun w => w z)]
    · rw [if_neg z, if_pos z]
  have f132e : f132 σ (k + 1) (q : Int) = if rdSt r0 cs q 7 = 0 then 0 else 1 := by
    unfold f132
    rw [if_neg (by omega), if_neg (by omega), Int.toNat_natCast, R7]
  have tl : ∃ b : Int, (∀ d, Ev X (d + 1) 186 21 [some (vr k), some (vi q)] [] SH σ = some (some (vi b), SH, σ)) ∧ (b ≠ 0 → VN so n q (σ k 11) (rdSt r0 cs q)) := by
    by_cases z : so = 2
    · refine ⟨0, fun d => ?_, fun w => absurd rfl w⟩
      rw [b186_21 hk, if_pos (by omega), b186_69, b186_70 (Or.inl rfl)]
    · by_cases y : rdSt r0 cs q 7 = 0
      · rw [if_pos y] at f132e
        have st : ∀ d, Ev X (d + 1) 186 21 [some (vr k), some (vi q)] [] SH σ = Ev X (d + 1) 186 40 [some (vr k), some (vi q)] [] SH σ := by
          intro d
          rw [b186_21 hk, if_neg (by omega)]
          refine Eq.trans (b186_29 hk) ?_
          refine x_bind (s132 hr) ?_
          rw [f132e]
          dsimp only
          refine Eq.trans b186_37 ?_
          rw [if_neg (by decide)]
        by_cases w : (q : Int) ≤ σ k 11
        · refine ⟨0, fun d => ?_, fun w => absurd rfl w⟩
          rw [st, b186_40 hk, if_pos w, b186_69, b186_70 (Or.inl rfl)]
        · have xs : xsub (σ k 9) (q : Int) = ((n - q : Nat) : Int) := by
            rw [h9, xsub_eq (by omega) (by omega)]
            omega
          have st2 : ∀ d, Ev X (d + 1) 186 21 [some (vr k), some (vi q)] [] SH σ = Ev X (d + 1) 186 62 [some (vr k), some (vi q)] [vi (f133 σ (k + 1) q ((n - q : Nat) : Int))] SH σ := by
            intro d
            rw [st, b186_40 hk, if_neg w]
            refine Eq.trans (b186_48 hk) ?_
            rw [xs]
            refine x_bind (s133 hr) ?_
            rfl
          by_cases u : f133 σ (k + 1) q ((n - q : Nat) : Int) = 0
          · refine ⟨1, fun d => ?_, fun _ => Or.inr (Or.inr ⟨z, by omega, ?_⟩)⟩
            · rw [st2, b186_62, if_neg (fun w => w u), b186_65, b186_70 (Or.inr rfl)]
            · by_cases m4 : 4 < n - q
              · exact Or.inl m4
              · right
                have rb := RB_st q ok (by omega)
                have hN := ndg_9 ok (by omega)
                have rn := RB_num rb hN
                obtain ⟨s, ra⟩ := auL _ _ ok
                have ran := RA_n ra
                have p4 : (1 : Int) ≤ 10 ^ (n - q) ∧ (10 : Int) ^ (n - q) ≤ 10000 := by
                  have : n - q = 0 ∨ n - q = 1 ∨ n - q = 2 ∨ n - q = 3 ∨ n - q = 4 := by omega
                  rcases this with z | z | z | z | z <;> rw [z] <;> decide
                have p5 : 0 ≤ rdSt r0 cs q 5 * 10 ^ (n - q) ∧ rdSt r0 cs q 5 * 10 ^ (n - q) ≤ 9999 * 10000 := ⟨Int.mul_nonneg (by omega) (by omega), Int.mul_le_mul (by omega) p4.2 (by omega) (by omega)⟩
                have p6 : 0 ≤ (rdSt r0 cs q 5 + 1) * 10 ^ (n - q) ∧ (rdSt r0 cs q 5 + 1) * 10 ^ (n - q) ≤ 10000 * 10000 := ⟨Int.mul_nonneg (by omega) (by omega), Int.mul_le_mul (by omega) p4.2 (by omega) (by omega)⟩
                unfold f133 at u
                rw [if_neg (by omega), if_neg (by omega), if_neg (by omega), if_pos (by omega), Int.toNat_natCast, Int.toNat_natCast, R1, R2, R4, R5, xcv4 _ (by omega), xadd_eq (a := rdSt r0 cs q 5) (by omega) (by omega)] at u
                rw [xmul_eq (by omega) (by omega), xmul_eq (by omega) (by omega), xsub_eq (by omega) (by omega), xsub_eq (by omega) (by omega)] at u
                by_cases q42 : rdSt r0 cs q 4 = 42
                · rw [if_pos q42] at u
                  exact absurd u (by decide)
                rw [if_neg q42] at u
                by_cases q47 : rdSt r0 cs q 4 = 47
                · rw [if_neg (fun w => w q47)] at u
                  exact absurd u (by decide)
                rw [if_pos q47] at u
                refine ⟨q42, q47, ?_⟩
                by_cases q43 : rdSt r0 cs q 4 = 43
                · rw [if_neg (fun w => w q43)] at u
                  rw [if_pos q43]
                  intro ⟨g1, g2⟩
                  rw [if_neg (by omega), if_neg (by omega)] at u
                  exact absurd u (by decide)
                · rw [if_pos q43] at u
                  rw [if_neg q43]
                  intro ⟨g1, g2⟩
                  rw [if_neg (by omega), if_neg (by omega)] at u
                  exact absurd u (by decide)
          · refine ⟨0, fun d => ?_, fun w => absurd rfl w⟩
            rw [st2, b186_62, if_pos u, b186_69, b186_70 (Or.inl rfl)]
      · rw [if_neg y] at f132e
        refine ⟨1, fun d => ?_, fun _ => Or.inr (Or.inl ⟨z, y⟩)⟩
        rw [b186_21 hk, if_neg (by omega)]
        refine Eq.trans (b186_29 hk) ?_
        refine x_bind (s132 hr) ?_
        rw [f132e]
        dsimp only
        refine Eq.trans b186_37 ?_
        rw [if_pos (by decide), b186_65, b186_70 (Or.inr rfl)]
  by_cases w : (q : Int) ≤ σ k 11
  · obtain ⟨b, t1, t2⟩ := tl
    refine ⟨b, fun d => ?_, t2⟩
    rw [b186_0 hk, if_pos w]
    exact t1 d
  · have st : ∀ d, Ev X (d + 1) 186 0 [some (vr k), some (vi q)] [] SH σ = Ev X (d + 1) 186 16 [some (vr k), some (vi q)] [vi (if rdSt r0 cs q 0 = 1 then 1 else 0)] SH σ := by
      intro d
      rw [b186_0 hk, if_neg w]
      refine Eq.trans (b186_8 hk) ?_
      refine x_bind (s131 hr) ?_
      rw [f131e]
      rfl
    by_cases y : rdSt r0 cs q 0 = 1
    · obtain ⟨b, t1, t2⟩ := tl
      refine ⟨b, fun d => ?_, t2⟩
      rw [st, if_pos y, b186_16, if_pos (by decide)]
      exact t1 d
    · refine ⟨1, fun d => ?_, fun _ => Or.inl ⟨by omega, y⟩⟩
      rw [st, if_neg y, b186_16, if_neg (by decide), b186_19]
/-- isLookedFor -/
theorem s182 (hk : isWlk k) (hn : n ≤ 11) (h9 : σ k 9 = (n : Int)) (h12 : σ k 12 = so) (h14 : σ k 14 = on) (h10 : σ k 10 = fgN) (w : WFP cd len) (hl : len ≤ 200) (e3 : σ 11 = cd) (e4 : σ 10 2 = (len : Int)) (ok : okS cs n) (hR : ∀ j, j < 8 → Rd σ (k + 1) n j = rdSt r0 cs n j) : ∃ (b : Int) (τ : xM), (b = 0 ∨ b = 1) ∧ (∀ d, Ev X (d + 2) 182 0 [some (vr k), some (vi stk)] [] SH σ = some (some (vi b), SH, τ)) ∧ (b = 1 ↔ LK so on n cd len fgN cs stk) ∧ chs [13] [(10, 8)] σ τ := by
  have hr : isRdg (k + 1) := by unfold isWlk at hk; unfold isRdg; omega
  obtain ⟨s, ra⟩ := auL _ _ ok
  have ran := RA_n ra
  have v127 : f127 σ (k + 1) (n : Int) = if rdSt r0 cs n 0 = 1 ∧ 0 < rdSt r0 cs n 6 then 1 else 0 := f127_v hn (hR 0 (by decide)) (hR 6 (by decide))
  have i129 : ∀ d, Ev X (d + 1) 129 0 [some (vr (k + 1)), some (vi n)] [] SH σ = some (some (vi (trT σ (k + 1) n)), SH, σ) := fun d => s129 hr (by omega) (by omega)
  have tI : trI (rdSt r0 cs n) = 0 ∨ trI (rdSt r0 cs n) = 1 := by
    unfold trI
    split <;> omega
  by_cases st : on = -1 ∨ stk = on
  · have s0 : ∀ d, Ev X (d + 2) 182 0 [some (vr k), some (vi stk)] [] SH σ = Ev X (d + 2) 182 18 [some (vr k), some (vi stk)] [] SH σ := by
      intro d
      rw [b182_0 hk]
      by_cases y : on = -1
      · rw [if_pos (by omega)]
      · rw [if_neg (by omega), b182_8 hk, if_pos (by omega)]
    by_cases ww : rdSt r0 cs n 0 = 1 ∧ 0 < rdSt r0 cs n 6
    · have oW : okW cs n := ⟨ok, ww.1, by omega⟩
      have tt := trT_I oW hn hR
      rw [if_pos ww] at v127
      by_cases z : so = 2
      · have s1 : ∀ d, Ev X (d + 2) 182 0 [some (vr k), some (vi stk)] [] SH σ = Ev X (d + 2) 182 51 [some (vr k), some (vi stk)] [vi (trI (rdSt r0 cs n))] SH σ := by
          intro d
          rw [s0, b182_18 hk, if_neg (by omega)]
          refine Eq.trans (b182_26 hk) ?_
          rw [h9]
          refine x_bind (s127 hr) ?_
          rw [v127]
          dsimp only
          refine Eq.trans b182_37 ?_
          rw [if_neg (by decide)]
          refine Eq.trans (b182_40 hk) ?_
          rw [h9]
          refine x_bind (i129 _) ?_
          rw [tt]
          rfl
        rcases tI with y | y
        · refine ⟨1, σ, Or.inr rfl, fun d => ?_, ⟨fun _ => ⟨st, oW, fun _ => y, fun g => absurd z g⟩, fun _ => rfl⟩, chs_rf⟩
          rw [s1, y, b182_51, if_neg (by decide), b182_54, b182_59 (Or.inr rfl)]
        · refine ⟨0, σ, Or.inl rfl, fun d => ?_, ⟨fun g => absurd g (by decide), fun g => by have := g.2.2.1 z; omega⟩, chs_rf⟩
          rw [s1, y, b182_51, if_pos (by decide), b182_58, b182_59 (Or.inl rfl)]
      · have s1 : ∀ d, Ev X (d + 2) 182 0 [some (vr k), some (vi stk)] [] SH σ = Ev X (d + 2) 182 71 [some (vr k), some (vi stk)] [vi (trI (rdSt r0 cs n))] SH σ := by
          intro d
          rw [s0, b182_18 hk, if_pos (by omega)]
          refine Eq.trans (b182_60 hk) ?_
          rw [h9]
          refine x_bind (i129 _) ?_
          rw [tt]
          rfl
        rcases tI with y | y
        · refine ⟨0, σ, Or.inl rfl, fun d => ?_, ⟨fun g => absurd g (by decide), fun g => by have := (g.2.2.2 z).1; omega⟩, chs_rf⟩
          rw [s1, y, b182_71, if_pos rfl, b182_125, b182_126 (Or.inl rfl)]
        · by_cases o1 : so = 1
          · refine ⟨1, σ, Or.inr rfl, fun d => ?_, ⟨fun _ => ⟨st, oW, fun g => absurd g z, fun _ => ⟨y, Or.inl o1⟩⟩, fun _ => rfl⟩, chs_rf⟩
            rw [s1, y, b182_71, if_neg (by decide), b182_74 hk, if_pos (by omega), b182_121, b182_126 (Or.inr rfl)]
          · obtain ⟨τ, l1, l2⟩ := s87 (X := X) (τ := σ) (l := woI (rdSt r0 cs n) 0) (r := woI (rdSt r0 cs n) 1) (s := stk) (f := fgN) w hl e3 e4
            have lw : lawV cd len (woI (rdSt r0 cs n) 0) (woI (rdSt r0 cs n) 1) stk fgN = 0 ∨ lawV cd len (woI (rdSt r0 cs n) 0) (woI (rdSt r0 cs n) 1) stk fgN = 1 := by
              unfold lawV
              repeat' split
              all_goals omega
            have s2 : ∀ d, Ev X (d + 2) 182 0 [some (vr k), some (vi stk)] [] SH σ = Ev X (d + 2) 182 118 [some (vr k), some (vi stk)] [vi (lawV cd len (woI (rdSt r0 cs n) 0) (woI (rdSt r0 cs n) 1) stk fgN)] SH τ := by
              intro d
              rw [s1, y, b182_71, if_neg (by decide), b182_74 hk, if_neg (by omega)]
              refine Eq.trans (b182_82 hk) ?_
              rw [h9]
              refine x_bind (s130 hr (by omega) (by omega)) ?_
              rw [woT_I oW hn hR (Or.inl rfl)]
              dsimp only
              refine Eq.trans (b182_98 (t1 := woI (rdSt r0 cs n) 0) hk) ?_
              rw [h9]
              refine x_bind (s130 hr (by omega) (by omega)) ?_
              rw [woT_I oW hn hR (Or.inr rfl)]
              dsimp only
              refine Eq.trans (b182_110 (t2 := woI (rdSt r0 cs n) 1) (t1 := woI (rdSt r0 cs n) 0) hk) ?_
              rw [h10]
              refine x_bind (l1 _) ?_
              rfl
            rcases lw with lw | lw
            · refine ⟨0, τ, Or.inl rfl, fun d => ?_, ⟨fun g => absurd g (by decide), fun g => ?_⟩, l2⟩
              · rw [s2, lw, b182_118, if_pos rfl, b182_125, b182_126 (Or.inl rfl)]
              · have := (g.2.2.2 z).2.resolve_left o1
                omega
            · refine ⟨1, τ, Or.inr rfl, fun d => ?_, ⟨fun _ => ⟨st, oW, fun g => absurd g z, fun _ => ⟨y, Or.inr lw⟩⟩, fun _ => rfl⟩, l2⟩
              rw [s2, lw, b182_118, if_neg (by decide), b182_121, b182_126 (Or.inr rfl)]
    · rw [if_neg ww] at v127
      have nW : ¬ okW cs n := fun g => ww ⟨g.2.1, by have := g.2.2; omega⟩
      refine ⟨0, σ, Or.inl rfl, fun d => ?_, ⟨fun g => absurd g (by decide), fun g => absurd g.2.1 nW⟩, chs_rf⟩
      have t0 : trT σ (k + 1) n = 0 := by
        unfold trT
        rw [if_pos v127]
      rw [s0, b182_18 hk]
      by_cases z : so = 2
      · rw [if_neg (by omega)]
        refine Eq.trans (b182_26 hk) ?_
        rw [h9]
        refine x_bind (s127 hr) ?_
        rw [v127]
        dsimp only
        refine Eq.trans b182_37 ?_
        rw [if_pos rfl, b182_58, b182_59 (Or.inl rfl)]
      · rw [if_pos (by omega)]
        refine Eq.trans (b182_60 hk) ?_
        rw [h9]
        refine x_bind (i129 _) ?_
        rw [t0]
        dsimp only
        refine Eq.trans b182_71 ?_
        rw [if_pos rfl, b182_125, b182_126 (Or.inl rfl)]
  · refine ⟨0, σ, Or.inl rfl, fun d => ?_, ⟨fun g => absurd g (by decide), fun g => absurd g.1 st⟩, chs_rf⟩
    rw [b182_0 hk, if_neg (by omega), b182_8 hk, if_neg (by omega), b182_16]
end VAI
