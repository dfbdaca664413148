/-! longs of naturals; which numbers so many sticks lay -/
section LNG
variable {m n : Nat}
theorem l64n (n : Nat) : Int64.ofInt (n : Int) = Int64.ofNat n := Int64.ofInt_eq_ofNat
theorem lor_nat {a b : Nat} (ha : a < 2 ^ 62) (hb : b < 2 ^ 62) : lor' (a : Int) (b : Int) = ((a ||| b : Nat) : Int) := by
  unfold lor'
  rw [l64n, l64n]
  have : Int64.ofNat a ||| Int64.ofNat b = Int64.ofNat (a ||| b) := by
    apply Int64.toBitVec.inj
    simp [Int64.toBitVec_ofNat, BitVec.ofNat_or]
  rw [this]
  have := Nat.or_lt_two_pow (n := 62) ha hb
  exact lg_ofNat_toInt (by omega)
theorem land_nat {a b : Nat} (ha : a < 2 ^ 62) : land' (a : Int) (b : Int) = ((a &&& b : Nat) : Int) := by
  unfold land'
  rw [l64n, l64n]
  have : Int64.ofNat a &&& Int64.ofNat b = Int64.ofNat (a &&& b) := by
    apply Int64.toBitVec.inj
    simp [Int64.toBitVec_ofNat, BitVec.ofNat_and]
  rw [this]
  have : a &&& b ≤ a := Nat.and_le_left
  exact lg_ofNat_toInt (by omega)
theorem sh63 : ∀ k, k < 64 → (((Int32.ofInt ((k : Nat) : Int)).toInt64 &&& 63).toBitVec.smod 64).toNat = k := by decide +kernel
theorem lshl_nat {a k : Nat} (hk : k < 64) (h : a * 2 ^ k < 2 ^ 62) : lshl' (a : Int) (k : Int) = ((a * 2 ^ k : Nat) : Int) := by
  have p : 1 ≤ 2 ^ k := Nat.one_le_two_pow
  have ha : a < 2 ^ 62 := Nat.lt_of_le_of_lt (Nat.le_mul_of_pos_right a p) h
  have e : (Int64.ofNat a).toInt = (a : Int) := lg_ofNat_toInt (by omega)
  have c : ((a : Int) * 2 ^ k) = ((a * 2 ^ k : Nat) : Int) := by
    rw [Int.natCast_mul, Int.natCast_pow]
    rfl
  unfold lshl'
  rw [l64n, Jvm.Kit.i64_shl _ _ (sh63 k hk) (by rw [e, c]; omega) (by rw [e, c]; omega), e, c]
theorem lshr_nat {a k : Nat} (hk : k < 64) (ha : a < 2 ^ 62) : lshr' (a : Int) (k : Int) = ((a / 2 ^ k : Nat) : Int) := by
  have e : (Int64.ofNat a).toInt = (a : Int) := lg_ofNat_toInt (by omega)
  unfold lshr'
  rw [l64n, Jvm.Kit.i64_shr _ _ (sh63 k hk), e, Int.natCast_ediv, Int.natCast_pow]
  rfl
theorem shU : ∀ k, k < 64 → ((Int32.ofInt ((k : Nat) : Int)).toInt64.toUInt64 &&& Int64.toUInt64 63) = UInt64.ofNat k := by decide +kernel
theorem lushr_nat {a k : Nat} (hk : k < 64) (ha : a < 2 ^ 62) : lushr' (a : Int) (k : Int) = ((a / 2 ^ k : Nat) : Int) := by
  have hd : a / 2 ^ k ≤ a := Nat.div_le_self _ _
  unfold lushr'
  rw [l64n, shU k hk]
  have : ((Int64.ofNat a).toUInt64 >>> UInt64.ofNat k).toInt64 = Int64.ofNat (a / 2 ^ k) := by
    apply Int64.toBitVec.inj
    apply BitVec.eq_of_toNat_eq
    show ((Int64.ofNat a).toUInt64 >>> UInt64.ofNat k).toNat = (BitVec.ofNat 64 _).toNat
    have h1 : (UInt64.ofNat k).toNat = k := by
      show (BitVec.ofNat 64 k).toNat = k
      rw [BitVec.toNat_ofNat, Nat.mod_eq_of_lt (by omega)]
    have h2 : (Int64.ofNat a).toUInt64.toNat = a := by
      show (BitVec.ofNat 64 a).toNat = a
      rw [BitVec.toNat_ofNat, Nat.mod_eq_of_lt (by omega)]
    rw [UInt64.toNat_shiftRight, h1, h2, Nat.mod_eq_of_lt hk, Nat.shiftRight_eq_div_pow, BitVec.toNat_ofNat, Nat.mod_eq_of_lt (by omega)]
  rw [this]
  exact lg_ofNat_toInt (by omega)
theorem tb_mul {m c t : Nat} : (m * 2 ^ c).testBit t = (decide (c ≤ t) && m.testBit (t - c)) := by
  rw [← Nat.shiftLeft_eq, Nat.testBit_shiftLeft]
theorem tb_div {m c t : Nat} : (m / 2 ^ c).testBit t = m.testBit (c + t) := by
  rw [← Nat.shiftRight_eq_div_pow, Nat.testBit_shiftRight]
end LNG
/-- sticks of a way -/
def pn (x : Int) : Nat := (pc x.toNat).toNat
theorem pn_pc (x : Int) : pc x.toNat = (pn x : Int) ∧ pn x ≤ 7 := by
  have := pc_rg x.toNat
  unfold pn
  omega
/-- how many sticks a digit may have -/
def cntD (w : Nat → Int) (g t : Nat) : Prop := t = pn (w (2 * g)) ∨ (w (2 * g + 1) ≠ 0 ∧ t = pn (w (2 * g + 1)))
/-- digits, one behind the other, laid by so many sticks -/
def Ly (w : Nat → Int) : List Nat → Nat → Prop
  | [], m => m = 0
  | g :: gs, m => ∃ s, cntD w g s ∧ s ≤ m ∧ Ly w gs (m - s)
def dgl (n : Nat) : Nat → List Nat
  | 0 => []
  | k + 1 => (n / 10 ^ k % 10) :: dgl n k
section LY
variable {w : Nat → Int} {g : Nat}
theorem cnt_7 {t : Nat} (h : cntD w g t) : t ≤ 7 := by
  rcases h with h | ⟨_, h⟩
  · rw [h]; exact (pn_pc _).2
  · rw [h]; exact (pn_pc _).2
theorem Ly_le : ∀ (gs : List Nat) (m : Nat), Ly w gs m → m ≤ 7 * gs.length
  | [], m, h => by
    have : m = 0 := h
    simp [this]
  | g :: gs, m, h => by
    obtain ⟨s, h1, h2, h3⟩ := h
    have := Ly_le gs (m - s) h3
    have := cnt_7 h1
    simp only [List.length_cons]
    omega
/-- a mask holds a set of counts -/
def mkL (S : Nat → Prop) (m : Nat) : Prop := ∀ t, m.testBit t = true ↔ S t
theorem mkL_lt {S : Nat → Prop} {m B : Nat} (h : mkL S m) (hB : ∀ t, S t → t < B) : m < 2 ^ B := by
  refine Nat.lt_pow_two_of_testBit m (fun i hi => ?_)
  rw [Bool.eq_false_iff]
  intro z
  have := hB i ((h i).mp z)
  omega
/-- sums with one digit more -/
theorem mkL_add {S : Nat → Prop} {m : Nat} (h : mkL S m) : mkL (fun t => ∃ s, cntD w g s ∧ s ≤ t ∧ S (t - s)) (if w (2 * g + 1) ≠ 0 then m * 2 ^ pn (w (2 * g)) ||| m * 2 ^ pn (w (2 * g + 1)) else m * 2 ^ pn (w (2 * g))) := by
  intro t
  by_cases z : w (2 * g + 1) ≠ 0
  · rw [if_pos z, Nat.testBit_or, Bool.or_eq_true, tb_mul, tb_mul, Bool.and_eq_true, Bool.and_eq_true, decide_eq_true_eq, decide_eq_true_eq]
    constructor
    · rintro (⟨a, b⟩ | ⟨a, b⟩)
      · exact ⟨_, Or.inl rfl, a, (h _).mp b⟩
      · exact ⟨_, Or.inr ⟨z, rfl⟩, a, (h _).mp b⟩
    · rintro ⟨s, c, a, b⟩
      rcases c with c | ⟨_, c⟩
      · subst c; exact Or.inl ⟨a, (h _).mpr b⟩
      · subst c; exact Or.inr ⟨a, (h _).mpr b⟩
  · rw [if_neg z, tb_mul, Bool.and_eq_true, decide_eq_true_eq]
    constructor
    · rintro ⟨a, b⟩
      exact ⟨_, Or.inl rfl, a, (h _).mp b⟩
    · rintro ⟨s, c, a, b⟩
      rcases c with c | ⟨y, _⟩
      · subst c; exact ⟨a, (h _).mpr b⟩
      · exact absurd y z
end LY
noncomputable def lyI (w : Nat → Int) (gs : List Nat) (m : Nat) : Int := @ite Int (Ly w gs m) (Classical.propDecidable _) 1 0
section LYM
variable {X : Nat × (Nat → Int)} {σ : xM} {n f s : Nat}
theorem xremn {a b : Nat} (ha : a ≤ 2147483647) (hb : 0 < b) (hb2 : b ≤ 2147483647) : xrem (a : Int) (b : Int) = ((a % b : Nat) : Int) := by
  have e1 := xdivn ha hb hb2
  have e2 : xrem (a : Int) (b : Int) = xsub (a : Int) (xmul (xdiv (a : Int) (b : Int)) (b : Int)) := by
    unfold xrem xsub xmul xdiv
    rw [Int32.ofInt_toInt, Int32.ofInt_toInt]
  have h1 : a / b * b ≤ a := Nat.div_mul_le_self a b
  have h2 : a % b = a - a / b * b := by
    have := Nat.div_add_mod a b
    rw [Nat.mul_comm] at this
    omega
  have c : ((a / b : Nat) : Int) * (b : Int) = ((a / b * b : Nat) : Int) := (Int.natCast_mul _ _).symm
  rw [e2, e1, xmul_eq (by rw [c]; omega) (by rw [c]; omega), c, xsub_eq (by omega) (by omega), h2]
  omega
theorem it290 (hW : WF (σ 102)) (hf : f ≤ 5) (hn : n < 100000) : ∀ (q k : Nat) (m : Nat) (o1 o8 o9 o10 : Option xV), k + q = f → mkL (Ly (σ 102) (dgl n k)) m → ∃ m' o1' o8' o9' o10' v', mkL (Ly (σ 102) (dgl n f)) m' ∧ ∀ d, Ev X (d + 1) 290 9 [some (vr 100), o1, some (vi f), some (vi s), some (vl m), none, some (vi (n / 10 ^ k : Nat)), some (vi k), o8, o9, o10] [] SH σ = Ev X (d + 1) 290 92 [some (vr 100), o1', some (vi f), some (vi s), some (vl m'), none, some (vi v'), some (vi f), o8', o9', o10'] [] SH σ := by
  intro q
  induction q with
  | zero =>
    intro k m o1 o8 o9 o10 e hm
    obtain rfl : k = f := by omega
    refine ⟨m, o1, o8, o9, o10, ((n / 10 ^ k : Nat) : Int), hm, fun d => ?_⟩
    rw [b290_9, if_pos (by omega)]
  | succ q ih =>
    intro k m o1 o8 o9 o10 e hm
    have mlt : m < 2 ^ (7 * k + 1) := mkL_lt hm (fun t ht => by
      have := Ly_le _ _ ht
      have l : (dgl n k).length = k := by
        clear ih e hm ht this
        induction k with
        | zero => rfl
        | succ k ih => rw [dgl, List.length_cons, ih]
      rw [l] at this
      omega)
    have m36 : m < 2 ^ 36 := Nat.lt_of_lt_of_le mlt (Nat.pow_le_pow_right (by decide) (by omega))
    have n10 : n / 10 ^ k ≤ n := Nat.div_le_self _ _
    generalize hv : n / 10 ^ k = v at n10
    have g10 : v % 10 < 10 := Nat.mod_lt _ (by decide)
    have r1 := xremn (a := v) (b := 10) (by omega) (by decide) (by decide)
    have r1 : xrem (v : Int) 10 = ((v % 10 : Nat) : Int) := r1
    have d1 := xdivn (a := v) (b := 10) (by omega) (by decide) (by decide)
    have d1 : xdiv (v : Int) 10 = ((v / 10 : Nat) : Int) := d1
    have nd : n / 10 ^ (k + 1) = v / 10 := by rw [Nat.pow_succ, ← Nat.div_div_eq_div_mul, hv]
    have w1 := hW.1 (2 * (v % 10)) (by omega)
    have w2 := hW.1 (2 * (v % 10) + 1) (by omega)
    have p1 := pn_pc (σ 102 (2 * (v % 10)))
    have p2 := pn_pc (σ 102 (2 * (v % 10) + 1))
    have b1 := fun d => s247 (X := X) (d := d) (σ := σ) (a := σ 102 (2 * (v % 10))) (by omega) (by omega)
    have b2 := fun d => s247 (X := X) (d := d) (σ := σ) (a := σ 102 (2 * (v % 10) + 1)) (by omega) (by omega)
    rw [p1.1] at b1
    rw [p2.1] at b2
    have q1 : m * 2 ^ pn (σ 102 (2 * (v % 10))) < 2 ^ 43 := by
      have : 2 ^ pn (σ 102 (2 * (v % 10))) ≤ 2 ^ 7 := Nat.pow_le_pow_right (by decide) p1.2
      have := Nat.mul_le_mul_left m this
      omega
    have q2 : m * 2 ^ pn (σ 102 (2 * (v % 10) + 1)) < 2 ^ 43 := by
      have : 2 ^ pn (σ 102 (2 * (v % 10) + 1)) ≤ 2 ^ 7 := Nat.pow_le_pow_right (by decide) p2.2
      have := Nat.mul_le_mul_left m this
      omega
    have l1 := lshl_nat (a := m) (k := pn (σ 102 (2 * (v % 10)))) (by omega) (by omega)
    have l2 := lshl_nat (a := m) (k := pn (σ 102 (2 * (v % 10) + 1))) (by omega) (by omega)
    have l3 := lor_nat (a := m * 2 ^ pn (σ 102 (2 * (v % 10)))) (b := m * 2 ^ pn (σ 102 (2 * (v % 10) + 1))) (by omega) (by omega)
    have nx := mkL_add (w := σ 102) (g := v % 10) hm
    have hx : (fun t => ∃ s, cntD (σ 102) (v % 10) s ∧ s ≤ t ∧ Ly (σ 102) (dgl n k) (t - s)) = Ly (σ 102) (dgl n (k + 1)) := by
      funext t
      rw [dgl, hv]
      rfl
    rw [hx] at nx
    have i1 : xmul 2 ((v % 10 : Nat) : Int) = ((2 * (v % 10) : Nat) : Int) := by rw [xmul_eq (by omega) (by omega)]; omega
    have i2 : xadd ((2 * (v % 10) : Nat) : Int) 1 = ((2 * (v % 10) + 1 : Nat) : Int) := by rw [xadd_eq (by omega) (by omega)]; omega
    by_cases z : σ 102 (2 * (v % 10) + 1) ≠ 0
    · rw [if_pos z] at nx
      obtain ⟨m', o1', o8', o9', o10', v', h1, h2⟩ := ih (k + 1) _ o1 (xkill (some (vi (v % 10 : Nat)))) (some (vl ((m * 2 ^ pn (σ 102 (2 * (v % 10))) ||| m * 2 ^ pn (σ 102 (2 * (v % 10) + 1)) : Nat) : Int))) none (by omega) nx
      refine ⟨m', o1', o8', o9', o10', v', h1, fun d => ?_⟩
      rw [nd] at h2
      refine Eq.trans ?_ (h2 d)
      rw [b290_9, if_neg (by omega)]
      refine Eq.trans (b290_15 (by rw [r1, i1]; omega)) ?_
      rw [r1, i1, Int.toNat_natCast]
      refine x_bind (b1 d) ?_
      dsimp only
      refine Eq.trans (b290_36 (by rw [i1, i2]; omega)) ?_
      rw [i1, i2, Int.toNat_natCast, if_neg (by omega)]
      refine Eq.trans (b290_53 (by rw [i1, i2]; omega)) ?_
      rw [i1, i2, Int.toNat_natCast]
      refine x_bind (b2 d) ?_
      dsimp only
      refine Eq.trans b290_71 ?_
      refine Eq.trans b290_75 ?_
      rw [l1, l2, l3, d1, xadd_eq (by omega) (by omega)]
      rfl
    · rw [if_neg z] at nx
      obtain ⟨m', o1', o8', o9', o10', v', h1, h2⟩ := ih (k + 1) _ o1 (some (vi (v % 10 : Nat))) (some (vl ((m * 2 ^ pn (σ 102 (2 * (v % 10))) : Nat) : Int))) none (by omega) nx
      refine ⟨m', o1', o8', o9', o10', v', h1, fun d => ?_⟩
      rw [nd] at h2
      refine Eq.trans ?_ (h2 d)
      rw [b290_9, if_neg (by omega)]
      refine Eq.trans (b290_15 (by rw [r1, i1]; omega)) ?_
      rw [r1, i1, Int.toNat_natCast]
      refine x_bind (b1 d) ?_
      dsimp only
      refine Eq.trans (b290_36 (by rw [i1, i2]; omega)) ?_
      rw [i1, i2, Int.toNat_natCast, if_pos (by omega)]
      refine Eq.trans b290_75 ?_
      rw [l1, d1, xadd_eq (by omega) (by omega)]
      rfl
/-- isLaidBy -/
theorem s290 (hW : WF (σ 102)) (hf : f ≤ 5) (hn : n < 100000) (hs : s ≤ 35) : ∀ d, Ev X (d + 1) 290 0 [some (vr 100), some (vi n), some (vi f), some (vi s), none, none, none, none, none, none, none] [] SH σ = some (some (vi (lyI (σ 102) (dgl n f) s)), SH, σ) := by
  obtain ⟨m, o1, o8, o9, o10, v', h1, h2⟩ := it290 (X := X) (s := s) hW hf hn f 0 1 (some (vi n)) none none none (by omega) (fun t => by
    show Nat.testBit 1 t = true ↔ t = 0
    cases t with
    | zero => simp
    | succ t => simp [Nat.testBit_succ])
  have mlt : m < 2 ^ (7 * f + 1) := mkL_lt h1 (fun t ht => by
    have := Ly_le _ _ ht
    have l : ∀ k, (dgl n k).length = k := fun k => by
      induction k with
      | zero => rfl
      | succ k ih => rw [dgl, List.length_cons, ih]
    rw [l] at this
    omega)
  have m36 : m < 2 ^ 36 := Nat.lt_of_lt_of_le mlt (Nat.pow_le_pow_right (by decide) (by omega))
  have l1 := lshr_nat (a := m) (k := s) (by omega) (by omega)
  have l2 := land_nat (a := m / 2 ^ s) (b := 1) (by have : m / 2 ^ s ≤ m := Nat.div_le_self _ _; omega)
  have l2 : land' ((m / 2 ^ s : Nat) : Int) 1 = _ := l2
  have bt : m / 2 ^ s &&& 1 = if m.testBit s = true then 1 else 0 := by
    have e : m / 2 ^ s &&& 1 = m / 2 ^ s % 2 := Nat.and_one_is_mod _
    have e2 : m.testBit s = decide (m / 2 ^ s % 2 = 1) := by
      rw [Nat.testBit_eq_decide_div_mod_eq]
    rw [e, e2]
    by_cases y : m / 2 ^ s % 2 = 1
    · rw [y]; rfl
    · have y0 : m / 2 ^ s % 2 = 0 := by omega
      rw [y0]; rfl
  intro d
  have e0 : Ev X (d + 1) 290 0 [some (vr 100), some (vi n), some (vi f), some (vi s), none, none, none, none, none, none, none] [] SH σ = Ev X (d + 1) 290 92 [some (vr 100), o1, some (vi f), some (vi s), some (vl m), none, some (vi v'), some (vi f), o8, o9, o10] [] SH σ := by
    refine Eq.trans b290_0 ?_
    have := h2 d
    rw [Nat.pow_zero, Nat.div_one] at this
    exact this
  rw [e0, b290_92, l1, l2, bt]
  unfold lyI
  by_cases y : m.testBit s = true
  · rw [if_pos y, if_pos ((h1 s).mp y), if_neg (fun z => z (by decide)), b290_103, b290_108 (Or.inr rfl)]
  · rw [if_neg y, if_neg (fun z => y ((h1 s).mpr z)), if_pos (by decide), b290_107, b290_108 (Or.inl rfl)]
theorem s289 (hf : f ≤ 5) : ∀ d, Ev X d 289 0 [some (vi f), none, none] [] SH σ = some (some (vi (10 ^ f : Nat)), SH, σ) := by
  intro d
  have : f = 0 ∨ f = 1 ∨ f = 2 ∨ f = 3 ∨ f = 4 ∨ f = 5 := by omega
  rcases this with rfl | rfl | rfl | rfl | rfl | rfl
  · simp (disch := first | omega | assumption | (simp (disch := omega) only [ite_self, Int.reduceAdd, xadd_eq, xsub_eq, xmul_eq, xneg_eq, xwr_eq, xwr_nk, xwr_nj, Int.toNat_natCast, x_nc] <;> first | omega | assumption) | fail) only [↓if_pos, ↓if_neg, ↓b289_0, ↓b289_4, ↓b289_20, ↓b289_9, x_bdi, x_bdn, ite_self, Int.reduceAdd, xadd_eq, xsub_eq, xmul_eq, xneg_eq, xwr_eq, xwr_nk, xwr_nj, Int.toNat_natCast, x_nc]
    rfl
  · simp (disch := first | omega | assumption | (simp (disch := omega) only [ite_self, Int.reduceAdd, xadd_eq, xsub_eq, xmul_eq, xneg_eq, xwr_eq, xwr_nk, xwr_nj, Int.toNat_natCast, x_nc] <;> first | omega | assumption) | fail) only [↓if_pos, ↓if_neg, ↓b289_0, ↓b289_4, ↓b289_20, ↓b289_9, x_bdi, x_bdn, ite_self, Int.reduceAdd, xadd_eq, xsub_eq, xmul_eq, xneg_eq, xwr_eq, xwr_nk, xwr_nj, Int.toNat_natCast, x_nc]
    rfl
  · simp (disch := first | omega | assumption | (simp (disch := omega) only [ite_self, Int.reduceAdd, xadd_eq, xsub_eq, xmul_eq, xneg_eq, xwr_eq, xwr_nk, xwr_nj, Int.toNat_natCast, x_nc] <;> first | omega | assumption) | fail) only [↓if_pos, ↓if_neg, ↓b289_0, ↓b289_4, ↓b289_20, ↓b289_9, x_bdi, x_bdn, ite_self, Int.reduceAdd, xadd_eq, xsub_eq, xmul_eq, xneg_eq, xwr_eq, xwr_nk, xwr_nj, Int.toNat_natCast, x_nc]
    rfl
  · simp (disch := first | omega | assumption | (simp (disch := omega) only [ite_self, Int.reduceAdd, xadd_eq, xsub_eq, xmul_eq, xneg_eq, xwr_eq, xwr_nk, xwr_nj, Int.toNat_natCast, x_nc] <;> first | omega | assumption) | fail) only [↓if_pos, ↓if_neg, ↓b289_0, ↓b289_4, ↓b289_20, ↓b289_9, x_bdi, x_bdn, ite_self, Int.reduceAdd, xadd_eq, xsub_eq, xmul_eq, xneg_eq, xwr_eq, xwr_nk, xwr_nj, Int.toNat_natCast, x_nc]
    rfl
  · simp (disch := first | omega | assumption | (simp (disch := omega) only [ite_self, Int.reduceAdd, xadd_eq, xsub_eq, xmul_eq, xneg_eq, xwr_eq, xwr_nk, xwr_nj, Int.toNat_natCast, x_nc] <;> first | omega | assumption) | fail) only [↓if_pos, ↓if_neg, ↓b289_0, ↓b289_4, ↓b289_20, ↓b289_9, x_bdi, x_bdn, ite_self, Int.reduceAdd, xadd_eq, xsub_eq, xmul_eq, xneg_eq, xwr_eq, xwr_nk, xwr_nj, Int.toNat_natCast, x_nc]
    rfl
  · simp (disch := first | omega | assumption | (simp (disch := omega) only [ite_self, Int.reduceAdd, xadd_eq, xsub_eq, xmul_eq, xneg_eq, xwr_eq, xwr_nk, xwr_nj, Int.toNat_natCast, x_nc] <;> first | omega | assumption) | fail) only [↓if_pos, ↓if_neg, ↓b289_0, ↓b289_4, ↓b289_20, ↓b289_9, x_bdi, x_bdn, ite_self, Int.reduceAdd, xadd_eq, xsub_eq, xmul_eq, xneg_eq, xwr_eq, xwr_nk, xwr_nj, Int.toNat_natCast, x_nc]
    rfl
end LYM
