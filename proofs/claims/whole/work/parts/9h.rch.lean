/-! WALKS: the tables of a walk, and what can be paid -/
def WKT (k n : Nat) (op : Nat → List Nat) (ct cl : Nat → Nat → Nat) (sy : Nat → Nat → Int) (wt : Nat → Nat → Nat) (ω : xM) : Prop := ω k 9 = (n : Int) ∧ n ≤ 11 ∧ ∀ c, c < n → (op c).length ≤ 20 ∧ ω (k + 14) c = ((op c).length : Int) ∧ ∀ (e : Nat) (h : e < (op c).length), ω (k + 10) (20 * c + e) = ((op c)[e] : Int) ∧ ω (k + 11) (20 * c + e) = sy c (op c)[e] ∧ ω (k + 12) (20 * c + e) = (wt c (op c)[e] : Int) ∧ ω (k + 13) (20 * c + e) = ((4 * ct c (op c)[e] + cl c (op c)[e] : Nat) : Int) ∧ (op c)[e] < 20 ∧ ct c (op c)[e] ≤ 3 ∧ cl c (op c)[e] ≤ 3
section RCH
variable {X : Nat × (Nat → Int)} {σ ω τ : xM} {k n : Nat} {op : Nat → List Nat} {ct cl : Nat → Nat → Nat} {sy : Nat → Nat → Int} {wt : Nat → Nat → Nat}
theorem and3 : ∀ t, t < 4 → ∀ l, l < 4 → (4 * t + l) &&& 3 = l := by decide
theorem xcv5 : ∀ l, l < 4 → xcv 5 l = ((room l : Nat) : Int) := by decide
theorem room_lt : ∀ l, room l < 65536 := by
  intro l
  unfold room
  repeat' split
  all_goals decide
/-- a cell's number, twentyfold -/
theorem x20 {c : Nat} (h : c ≤ 11) : xmul (c : Int) 20 = ((20 * c : Nat) : Int) := by
  rw [xmul_eq (by omega) (by omega)]
  omega
theorem xad {a b : Nat} (h : a + b ≤ 1000000) : xadd (a : Int) (b : Int) = ((a + b : Nat) : Int) := by
  rw [xadd_eq (by omega) (by omega)]
  rfl
theorem xad1 {a : Nat} (h : a ≤ 900000) : xadd (a : Int) 1 = ((a + 1 : Nat) : Int) := xad (a := a) (b := 1) (by omega)
theorem it180 (hk : isWlk k) {c B : Nat} (hc : c < 11) (hB : B < 65536) (hl : (op c).length ≤ 20) (h14 : σ (k + 14) c = ((op c).length : Int)) (ho : ∀ (e : Nat) (h : e < (op c).length), σ (k + 13) (20 * c + e) = ((4 * ct c (op c)[e] + cl c (op c)[e] : Nat) : Int) ∧ ct c (op c)[e] ≤ 3 ∧ cl c (op c)[e] ≤ 3) : ∀ (m e H : Nat), e + m = (op c).length → H < 65536 → ∃ H' : Nat, H' < 65536 ∧ (∀ x, H.testBit x = true → H'.testBit x = true) ∧ (∀ (e' : Nat) (h : e' < (op c).length), e ≤ e' → ∀ T L, T + ct c (op c)[e'] ≤ 3 → L + cl c (op c)[e'] ≤ 3 → B.testBit (4 * T + L) = true → H'.testBit (4 * (T + ct c (op c)[e']) + (L + cl c (op c)[e'])) = true) ∧ ∀ d, Ev X d 180 31 [some (vr k), some (vi B), some (vi c), some (vi H), some (vi ((20 * c + e : Nat) : Int))] [] SH σ = Ev X d 180 82 [some (vr k), some (vi B), some (vi c), some (vi H'), some (vi ((20 * c + (op c).length : Nat) : Int))] [] SH σ := by
  intro m
  induction m with
  | zero =>
    intro e H he hH
    have he : e = (op c).length := by omega
    refine ⟨H, hH, fun x h => h, fun e' h h' => by omega, fun d => ?_⟩
    rw [b180_31 hk (by omega), x20 (by omega), Int.toNat_natCast, h14, xad (by omega), if_pos (by omega), he]
  | succ m ih =>
    intro e H he hH
    obtain ⟨o1, o2, o3⟩ := ho e (by omega)
    generalize hg : (op c)[e]'(by omega) = g at o1 o2 o3
    have hx : (B &&& room (cl c g)) < 65536 := Nat.lt_of_le_of_lt Nat.and_le_left hB
    have hm : (B &&& room (cl c g)) * 2 ^ (4 * ct c g + cl c g) < 2 ^ 31 := by
      have : 2 ^ (4 * ct c g + cl c g) ≤ 2 ^ 15 := Nat.pow_le_pow_right (by decide) (by omega)
      have := Nat.mul_le_mul (Nat.le_of_lt_succ hx) this
      omega
    have hH' : H ||| (((B &&& room (cl c g)) * 2 ^ (4 * ct c g + cl c g)) &&& 65535) < 65536 := Nat.or_lt_two_pow (n := 16) hH (Nat.lt_of_le_of_lt Nat.and_le_right (by decide))
    obtain ⟨H', q1, q2, q3, q4⟩ := ih (e + 1) _ (by omega) hH'
    refine ⟨H', q1, fun x h => q2 x (rc_kp h), fun e' h h' T L h1 h2 hb => ?_, fun d => ?_⟩
    · by_cases y : e' = e
      · subst y
        rw [hg] at h1 h2 ⊢
        exact q2 _ (rc_or hb h1 h2)
      · exact q3 e' h (by omega) T L h1 h2 hb
    · rw [b180_31 hk (by omega), x20 (by omega), Int.toNat_natCast, h14, xad (by omega), if_neg (by omega), b180_47 hk (by omega) (by
        rw [Int.toNat_natCast, o1]
        rw [show (3 : Int) = ((3 : Nat) : Int) from rfl, xand_nat (by omega), and3 _ (by omega) _ (by omega)]
        omega), Int.toNat_natCast, o1]
      rw [show xand ((4 * ct c g + cl c g : Nat) : Int) 3 = ((cl c g : Nat) : Int) by
        rw [show (3 : Int) = ((3 : Nat) : Int) from rfl, xand_nat (by omega), and3 _ (by omega) _ (by omega)]]
      rw [Int.toNat_natCast, xcv5 _ (by omega), xand_nat (by omega), xshl_nat (by omega) hm, show (65535 : Int) = ((65535 : Nat) : Int) from rfl, xand_nat hm, xor_nat (by omega) (Nat.lt_of_le_of_lt Nat.and_le_right (by decide)), xad1 (by omega)]
      exact q4 d
/-- findReach -/
theorem s180 (hk : isWlk k) (hW : WKT k n op ct cl sy wt σ) : ∃ τ, (∀ d, Ev X d 180 0 [some (vr k), none, none, none, none] [] SH σ = some (none, SH, τ)) ∧ (∀ q, q ≠ k + 15 → τ q = σ q) ∧ τ (k + 15) n = 1 ∧ ∀ c, c ≤ n → ∃ R : Nat, τ (k + 15) c = (R : Int) ∧ RCp op ct cl R c (n - c) := by
  obtain ⟨w1, w2, w3⟩ := hW
  have lp : ∀ (c B : Nat) (τ : xM) (o3 o4 : Option xV), c ≤ n → RCp op ct cl B c (n - c) → (∀ q, q ≠ k + 15 → τ q = σ q) → (∀ j, c ≤ j → j ≤ n → ∃ R : Nat, τ (k + 15) j = (R : Int) ∧ RCp op ct cl R j (n - j)) → τ (k + 15) n = 1 → ∃ τ', (∀ d, Ev X d 180 19 [some (vr k), some (vi B), some (vi ((c : Int) - 1)), o3, o4] [] SH τ = some (none, SH, τ')) ∧ (∀ q, q ≠ k + 15 → τ' q = σ q) ∧ τ' (k + 15) n = 1 ∧ ∀ j, j ≤ n → ∃ R : Nat, τ' (k + 15) j = (R : Int) ∧ RCp op ct cl R j (n - j) := by
    intro c
    induction c with
    | zero =>
      intro B τ o3 o4 h0 h1 h2 h3 h4
      refine ⟨τ, fun d => ?_, h2, h4, fun j hj => h3 j (by omega) hj⟩
      rw [b180_19, if_pos (by omega), b180_97]
    | succ c ih =>
      intro B τ o3 o4 h0 h1 h2 h3 h4'
      have e1 : ((c + 1 : Nat) : Int) - 1 = (c : Int) := by omega
      obtain ⟨v1, v2, v3⟩ := w3 c (by omega)
      obtain ⟨H', q1, q2, q3, q4⟩ := it180 (X := X) (σ := τ) (op := op) (ct := ct) (cl := cl) hk (c := c) (B := B) (by omega) h1.1 v1 (by rw [h2 _ (by omega)]; exact v2) (fun e h => by
        rw [h2 _ (by omega)]
        exact ⟨(v3 e h).2.2.2.1, (v3 e h).2.2.2.2.2⟩) (op c).length 0 0 (by omega) (by decide)
      have rc : RCp op ct cl H' c (n - c) := by
        rw [show n - c = n - (c + 1) + 1 by omega]
        refine rcp_st h1 q1 (fun i hi T L a b hb => ?_)
        obtain ⟨e, he, rfl⟩ := List.getElem_of_mem hi
        exact q3 e he (by omega) T L a b hb
      obtain ⟨τ', p1, p2, p3⟩ := ih H' (xwr τ (k + 15) c (H' : Int)) (some (vi H')) (some (vi ((20 * c + (op c).length : Nat) : Int))) (by omega) rc (fun q hq => (xwr_row hq).trans (h2 q hq)) (fun j h4 h5 => by
        by_cases y : j = c
        · subst y
          exact ⟨H', xwr_eq, rc⟩
        · rw [xwr_nj y]
          exact h3 j (by omega) h5) (by rw [xwr_nj (by omega)]; exact h4')
      refine ⟨τ', fun d => ?_, p2, p3⟩
      rw [e1, b180_19, if_neg (by omega), b180_23, x20 (by omega)]
      refine Eq.trans (q4 d) ?_
      rw [b180_82 hk (by omega), Int.toNat_natCast, show xadd (c : Int) (-1) = (c : Int) - 1 by rw [xadd_eq (by omega) (by omega)]; omega]
      exact p1 d
  obtain ⟨τ', p1, p2, p3⟩ := lp n 1 (xwr σ (k + 15) n 1) none none (Nat.le_refl _) (by rw [Nat.sub_self]; exact rcp_0) (fun q hq => xwr_row hq) (fun j h4 h5 => by
    have : j = n := by omega
    subst this
    exact ⟨1, xwr_eq, by rw [Nat.sub_self]; exact rcp_0⟩) xwr_eq
  refine ⟨τ', fun d => ?_, p2, p3⟩
  rw [b180_0 hk (by omega), w1, Int.toNat_natCast, xwr_nk (by omega), w1, show xsub (n : Int) 1 = (n : Int) - 1 from xsub_eq (by omega) (by omega)]
  exact p1 d
end RCH
