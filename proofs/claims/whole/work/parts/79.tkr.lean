/-! ONE TOKEN ON BOTH SIDES -/
theorem lor_63 {a b : Nat} (ha : a < 2 ^ 63) (hb : b < 2 ^ 63) : lor' (a : Int) (b : Int) = ((a ||| b : Nat) : Int) := by
  unfold lor'
  rw [l64n, l64n]
  have : Int64.ofNat a ||| Int64.ofNat b = Int64.ofNat (a ||| b) := by
    apply Int64.toBitVec.inj
    simp [Int64.toBitVec_ofNat, BitVec.ofNat_or]
  rw [this]
  have := Nat.or_lt_two_pow (n := 63) ha hb
  exact lg_ofNat_toInt (by omega)
theorem lshl_63 {a k : Nat} (hk : k < 64) (h : a * 2 ^ k < 2 ^ 63) : lshl' (a : Int) (k : Int) = ((a * 2 ^ k : Nat) : Int) := by
  have p : 1 ≤ 2 ^ k := Nat.one_le_two_pow
  have ha : a < 2 ^ 63 := Nat.lt_of_le_of_lt (Nat.le_mul_of_pos_right a p) h
  have e : (Int64.ofNat a).toInt = (a : Int) := lg_ofNat_toInt (by omega)
  have c : ((a : Int) * 2 ^ k) = ((a * 2 ^ k : Nat) : Int) := by
    rw [Int.natCast_mul, Int.natCast_pow]
    rfl
  unfold lshl'
  rw [l64n, Jvm.Kit.i64_shl _ _ (sh63 k hk) (by rw [e, c]; omega) (by rw [e, c]; omega), e, c]
/-- bytes in one number -/
def pkN (f : Nat → Int) (q : Nat) : Nat → Nat
  | 0 => 0
  | k + 1 => pkN f q k * 256 + (f (q + k)).toNat
theorem pkN_bd {f : Nat → Int} {q : Nat} : ∀ k, (∀ i, i < k → 0 ≤ f (q + i) ∧ f (q + i) ≤ 127) → 2 * pkN f q k < 2 ^ (8 * k)
  | 0, _ => Nat.zero_lt_one
  | k + 1, h => by
    have a := pkN_bd k (fun i g => h i (by omega))
    have b := h k (by omega)
    have e : 2 ^ (8 * (k + 1)) = 2 ^ (8 * k) * 256 := by
      rw [show 8 * (k + 1) = 8 * k + 8 by omega, Nat.pow_add]
    rw [e, pkN]
    generalize 2 ^ (8 * k) = u at a
    omega
theorem pkq {f : Nat → Int} {q : Nat} : ∀ k, k ≤ 8 → (∀ i, i < k → 0 ≤ f (q + i) ∧ f (q + i) ≤ 127) → pk f q k = (pkN f q k : Nat)
  | 0, _, _ => rfl
  | k + 1, hk, h => by
    have a := pkq k (by omega) (fun i g => h i (by omega))
    have b := pkN_bd k (fun i g => h i (by omega))
    have b1 := pkN_bd (k + 1) h
    have c := h k (by omega)
    have m : (2 : Nat) ^ (8 * (k + 1)) ≤ 2 ^ 64 := Nat.pow_le_pow_right (by omega) (by omega)
    have m1 : 2 * pkN f q (k + 1) < 2 ^ 64 := Nat.lt_of_lt_of_le b1 m
    clear b1 m
    rw [pk, a]
    rw [pkN] at m1 ⊢
    have sl : lshl' (pkN f q k : Int) 8 = ((pkN f q k * 256 : Nat) : Int) := lshl_63 (k := 8) (by omega) (by omega)
    have fe : f (q + k) = ((f (q + k)).toNat : Int) := (Int.toNat_of_nonneg c.1).symm
    generalize (f (q + k)).toNat = g at m1 fe
    rw [sl, fe, lor_63 (by omega) (by omega)]
    have := Nat.two_pow_add_eq_or_of_lt (b := g) (i := 8) (by omega) (pkN f q k)
    rw [Nat.mul_comm, show (256 : Nat) = 2 ^ 8 from rfl, ← this]
theorem pkN_in {f g : Nat → Int} {p q : Nat} : ∀ k m, (∀ i, i < k → 1 ≤ f (p + i) ∧ f (p + i) ≤ 255) → (∀ i, i < m → 1 ≤ g (q + i) ∧ g (q + i) ≤ 255) → pkN f p k = pkN g q m → k = m ∧ ∀ i, i < k → f (p + i) = g (q + i)
  | 0, 0, _, _, _ => ⟨rfl, fun i z => absurd z (by omega)⟩
  | 0, m + 1, _, h, e => by
    have := h m (by omega)
    rw [pkN, pkN] at e
    omega
  | k + 1, 0, h, _, e => by
    have := h k (by omega)
    rw [pkN, pkN] at e
    omega
  | k + 1, m + 1, h, h', e => by
    have a := h k (by omega)
    have b := h' m (by omega)
    rw [pkN, pkN] at e
    have e1 : pkN f p k = pkN g q m := by omega
    have e2 : f (p + k) = g (q + m) := by omega
    obtain ⟨r1, r2⟩ := pkN_in k m (fun i z => h i (by omega)) (fun i z => h' i (by omega)) e1
    refine ⟨by omega, fun i z => ?_⟩
    by_cases y : i = k
    · rw [y, e2, r1]
    · exact r2 i (by omega)
theorem pkN_cg {f g : Nat → Int} {p q : Nat} : ∀ k, (∀ i, i < k → f (p + i) = g (q + i)) → pkN f p k = pkN g q k
  | 0, _ => rfl
  | k + 1, h => by
    rw [pkN, pkN, pkN_cg k (fun i z => h i (by omega)), h k (by omega)]
theorem mval_dval {f : Nat → Int} {q : Nat} : ∀ k, mval f q k = dval f q k
  | 0 => rfl
  | k + 1 => by
    rw [mval, dval, mval_dval k]
    unfold xmul
    rw [Int32.mul_comm]
/-- no fault on either side -/
def KF (σ μ : xM) : Prop := σ 1 2 = 0 ∧ σ 1 3 = -1 ∧ μ 100 3 = -1
/-- the two sides read one token -/
def TK (tx : Nat → Int) (n : Nat) (sg : Int → Bool) (σ μ : xM) : Prop := ∃ q e : Nat, σ 1 6 = q ∧ μ 100 7 = q ∧ σ 1 7 = e ∧ (q ≤ e ∧ ((q < n ∧ σ 1 5 ≠ 0) ∨ (q = n ∧ σ 1 5 = 0))) ∧ (e ≤ n ∧ KF σ μ) ∧ ((σ 1 5 = 0 ∧ μ 100 6 = 0 ∧ μ 100 4 = e) ∨ (σ 1 5 = 1 ∧ μ 100 6 = 1 ∧ μ 100 4 = e ∧ e - q ≤ 8 ∧ (∀ i, i < e - q → 97 ≤ tx (q + i) ∧ tx (q + i) ≤ 122) ∧ μ 100 9 = pk tx q (e - q)) ∨ (σ 1 5 = 2 ∧ μ 100 6 = 2 ∧ μ 100 4 = e ∧ σ 1 8 = μ 100 8) ∨ (σ 1 5 = 3 ∧ σ 1 8 = μ 100 6 ∧ μ 100 4 = e ∧ sg (μ 100 6) = true) ∨ (σ 1 5 = 4 ∧ μ 100 6 = 3))
theorem TK_of {tx : Nat → Int} {n q : Nat} {sg : Int → Bool} {σ μ : xM} (hq : q ≤ n) (hf : KF σ μ) (h : TkC tx n sg σ q) (g : TkM tx n sg μ q) : TK tx n sg σ μ := by
  obtain ⟨h6, h⟩ := h
  obtain ⟨g7, g⟩ := g
  rcases h with ⟨a1, a2, a3⟩ | ⟨a1, a2, a3, a4⟩ | ⟨a1, a2, a3, a4, a5⟩ | ⟨a1, a2, a3, a4, a5, a6⟩
  · refine ⟨q, q, h6, g7, a3, ⟨Nat.le_refl _, Or.inr ⟨a1, a2⟩⟩, ⟨hq, hf⟩, Or.inl ?_⟩
    rcases g with ⟨b1, b2, b3⟩ | b | b | b
    · exact ⟨a2, b2, b3⟩
    · omega
    · omega
    · omega
  · have rg := runE_rg (P := isLt) (tx := tx) (n - q) q
    have ri := runE_in (P := isLt) (tx := tx) (n - q) q
    refine ⟨q, runE isLt tx (n - q) q, h6, g7, a3, ⟨rg.1, Or.inl ⟨a1, by rw [a4]; split <;> decide⟩⟩, ⟨by omega, hf⟩, ?_⟩
    have b : (runE isLt tx (n - q) q - q ≤ 8 → μ 100 6 = 1 ∧ μ 100 4 = (runE isLt tx (n - q) q : Nat) ∧ μ 100 9 = pk tx q (runE isLt tx (n - q) q - q)) ∧ (¬ runE isLt tx (n - q) q - q ≤ 8 → μ 100 6 = 3) := by
      rcases g with ⟨b1, b2, b3⟩ | ⟨b1, b2, b3⟩ | ⟨b1, b2, b3⟩ | ⟨b1, b2, b3⟩
      · omega
      · exact b3
      · have u := of_decide_eq_true a2
        have w := of_decide_eq_true b2
        omega
      · rw [a2] at b2
        cases b2
    generalize runE isLt tx (n - q) q = e at *
    by_cases y : e - q ≤ 8
    · rw [if_pos y] at a4
      obtain ⟨c1, c2, c3⟩ := b.1 y
      exact Or.inr (Or.inl ⟨a4, c1, c2, y, fun i z => of_decide_eq_true (ri (q + i) (by omega) (by omega)), c3⟩)
    · rw [if_neg y] at a4
      exact Or.inr (Or.inr (Or.inr (Or.inr ⟨a4, b.2 y⟩)))
  · have rg := runE_rg (P := isDg) (tx := tx) (n - q) q
    refine ⟨q, runE isDg tx (n - q) q, h6, g7, a3, ⟨rg.1, Or.inl ⟨a1, by rw [a4]; unfold nKd; split <;> decide⟩⟩, ⟨by omega, hf⟩, ?_⟩
    have b : (nOk tx n q (runE isDg tx (n - q) q) → μ 100 6 = 2 ∧ μ 100 4 = (runE isDg tx (n - q) q : Nat) ∧ μ 100 8 = mval tx q (runE isDg tx (n - q) q - q)) ∧ (¬ nOk tx n q (runE isDg tx (n - q) q) → μ 100 6 = 3) := by
      rcases g with ⟨b1, b2, b3⟩ | ⟨b1, b2, b3⟩ | ⟨b1, b2, b3⟩ | ⟨b1, b2, b3, b4⟩
      · omega
      · have u := of_decide_eq_true a2
        have w := of_decide_eq_true b2
        omega
      · exact b3
      · rw [a2] at b3
        cases b3
    generalize runE isDg tx (n - q) q = e at *
    unfold nKd at a4
    by_cases y : nOk tx n q e
    · rw [if_pos y] at a4
      obtain ⟨c1, c2, c3⟩ := b.1 y
      exact Or.inr (Or.inr (Or.inl ⟨a4, c1, c2, by rw [a5, c3, mval_dval]⟩))
    · rw [if_neg y] at a4
      exact Or.inr (Or.inr (Or.inr (Or.inr ⟨a4, b.2 y⟩)))
  · refine ⟨q, q + 1, h6, g7, a4, ⟨by omega, Or.inl ⟨a1, by rw [a6]; split <;> decide⟩⟩, ⟨by omega, hf⟩, ?_⟩
    have b : (sg (tx q) = true → μ 100 6 = tx q ∧ μ 100 4 = (q + 1 : Nat)) ∧ (sg (tx q) = false → μ 100 6 = 3) := by
      rcases g with ⟨b1, b2, b3⟩ | ⟨b1, b2, b3⟩ | ⟨b1, b2, b3⟩ | ⟨b1, b2, b3, b4⟩
      · omega
      · rw [a2] at b2
        cases b2
      · rw [a3] at b2
        cases b2
      · exact b4
    cases y : sg (tx q) with
    | true =>
      rw [y, if_pos rfl] at a6
      obtain ⟨c1, c2⟩ := b.1 y
      exact Or.inr (Or.inr (Or.inr (Or.inl ⟨a6, by rw [a5, c1], c2, by rw [c1]; exact y⟩)))
    | false =>
      rw [y, if_neg (by decide)] at a6
      exact Or.inr (Or.inr (Or.inr (Or.inr ⟨a6, b.2 y⟩)))
