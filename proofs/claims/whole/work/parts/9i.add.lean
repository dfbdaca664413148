/-! WALKS: what is found, and how it is kept -/
/-- nothing but what a walk writes on its way was changed -/
def AG (k : Nat) (ω σ : xM) : Prop := ∀ q j, q ≠ 13 → q ≠ k + 16 → q ≠ k + 17 → q ≠ k + 18 → ¬ (q = k ∧ j = 15) → ¬ (q = 10 ∧ j = 8) → (k + 2 ≤ q ∧ q ≤ k + 9 → j = 0) → σ q j = ω q j
def INV (k n : Nat) (wt : Nat → Nat → Nat) (ω : xM) (ps : List (Nat → Nat)) (σ : xM) : Prop := AG k ω σ ∧ σ k 15 = (ps.length : Int) ∧ (∀ (i : Nat) (h : i < ps.length), ω k 16 ≤ (i : Int) → (i : Int) - ω k 16 < 256 → σ (k + 16) ((i : Int) - ω k 16).toNat = (cdN ps[i] n : Int)) ∧ (∀ s : Nat, s ≤ 77 → σ (k + 17) s = (ps.countP (fun p => decide (nsum (fun c => wt c (p c)) n = s)) : Int)) ∧ ∀ c i : Nat, c < n → i < 20 → σ (k + 18) (20 * c + i) = (ps.countP (fun p => decide (p c = i)) : Int)
section ADD
variable {X : Nat × (Nat → Int)} {σ ω τ : xM} {k n : Nat} {op : Nat → List Nat} {ct cl : Nat → Nat → Nat} {sy : Nat → Nat → Int} {wt : Nat → Nat → Nat} {ps : List (Nat → Nat)} {p : Nat → Nat}
theorem t31 (n : Nat) : (Int32.ofNat n).toBitVec.toNat = n % 2 ^ 32 := by
  show (BitVec.ofNat 32 n).toNat = _
  exact BitVec.toNat_ofNat _ _
theorem xl31 (x : Nat) : xand (xl2i (x : Int)) 31 = ((x % 32 : Nat) : Int) := by
  unfold xand xl2i
  have e : Int32.ofInt ((Int64.ofInt (x : Int)).toInt32.toInt) = Int32.ofNat x := by
    rw [Int32.ofInt_toInt, Int64.ofInt_eq_ofNat]
    apply Int32.toBitVec.inj
    simp
  rw [e]
  have f : Int32.ofNat x &&& Int32.ofInt 31 = Int32.ofNat (x % 32) := by
    apply Int32.toBitVec.inj
    apply BitVec.eq_of_toNat_eq
    have : (Int32.ofInt 31) = Int32.ofNat 31 := rfl
    rw [this, Int32.toBitVec_and, BitVec.toNat_and, t31, t31, t31]
    have h31 : 31 % 2 ^ 32 = 2 ^ 5 - 1 := by decide
    rw [h31, Nat.and_two_pow_sub_one_eq_mod]
    omega
  rw [f]
  exact xton (by omega)
theorem p32 (c : Nat) : 2 ^ (5 * c) = 32 ^ c := by
  rw [Nat.pow_mul]
theorem p55 {c : Nat} (h : c ≤ 11) : 32 ^ c ≤ 2 ^ 55 := by
  rw [← p32]
  exact Nat.pow_le_pow_right (by decide) (by omega)
theorem x5 {c : Nat} (h : c ≤ 11) : xmul 5 (c : Int) = ((5 * c : Nat) : Int) := by
  rw [xmul_eq (by omega) (by omega)]
  omega
/-- a choice out of a code -/
theorem f184_at (hn : n ≤ 11) (hp : ∀ c, c < n → p c < 32) {c : Nat} (hc : c < n) : f184 σ (cdN p n : Int) (c : Int) = (p c : Int) := by
  have a := cdN_lt n hp
  have b := p55 hn
  unfold f184
  rw [if_neg (by omega), if_pos (by omega), x5 (by omega), lshr_nat (by omega) (by omega), xl31, p32, cdN_at n c hc hp]
theorem AG_rf : AG k σ σ := fun _ _ _ _ _ _ _ _ _ => rfl
theorem AG_tr (a : AG k ω σ) (b : AG k σ τ) : AG k ω τ := fun q j h1 h2 h3 h4 h5 h6 h7 => (b q j h1 h2 h3 h4 h5 h6 h7).trans (a q j h1 h2 h3 h4 h5 h6 h7)
theorem it183 (hk : isWlk k) (hn : n ≤ 11) (hp : ∀ c, c < n → p c < 20) {a1 : Option xV} : ∀ (m c : Nat) (τ : xM) (o5 : Option xV), c + m = n → τ k 9 = (n : Int) → (∀ c' i : Nat, c ≤ c' → c' < n → i < 20 → 0 ≤ τ (k + 18) (20 * c' + i) ∧ τ (k + 18) (20 * c' + i) < 2000000000) → ∃ τ', (∀ d, Ev X (d + 1) 183 74 [some (vr k), a1, some (vl (cdN p n : Int)), none, some (vi c), o5] [] SH τ = some (none, SH, τ')) ∧ (∀ q, q ≠ k + 18 → τ' q = τ q) ∧ ∀ c' i : Nat, c' < n → i < 20 → τ' (k + 18) (20 * c' + i) = τ (k + 18) (20 * c' + i) + (if c ≤ c' ∧ p c' = i then 1 else 0) := by
  intro m
  induction m with
  | zero =>
    intro c τ o5 e1 e2 e3
    refine ⟨τ, fun d => ?_, fun q _ => rfl, fun c' i h1 h2 => ?_⟩
    · rw [b183_74 hk, if_pos (by omega), b183_126]
    · rw [if_neg (by omega)]
      omega
  | succ m ih =>
    intro c τ o5 e1 e2 e3
    have pc' := hp c (by omega)
    have b3 := e3 c (p c) (Nat.le_refl _) (by omega) pc'
    have kk : k ≠ k + 18 := by omega
    obtain ⟨τ', q1, q2, q3⟩ := ih (c + 1) (xwr τ (k + 18) (20 * c + p c) (τ (k + 18) (20 * c + p c) + 1)) (some (vi (p c : Int))) (by omega) (by rw [xwr_nk kk]; exact e2) (fun c' i h0 h1 h2 => by
      rw [xwr_nj (by omega)]
      exact e3 c' i (by omega) h1 h2)
    refine ⟨τ', fun d => ?_, fun q hq => (q2 q hq).trans (xwr_row hq), fun c' i h1 h2 => ?_⟩
    · rw [b183_74 hk, if_neg (by omega)]
      refine Eq.trans b183_83 ?_
      refine x_bind s184 ?_
      rw [f184_at hn (fun c hc => by have := hp c hc; omega) (by omega)]
      dsimp only
      refine Eq.trans b183_89 ?_
      rw [if_neg (by omega), b183_96, if_neg (by omega), b183_103 hk (by rw [x20 (by omega), xad (by omega)]; omega), x20 (by omega), xad (by omega), Int.toNat_natCast, b183_120, xad1 (by omega), xadd_eq (by omega) (by omega)]
      exact q1 d
    · rw [q3 c' i h1 h2]
      by_cases y : 20 * c' + i = 20 * c + p c
      · rw [y, xwr_eq]
        have y1 : c' = c := by omega
        have y2 : p c = i := by omega
        subst y1
        rw [if_neg (by omega), if_pos ⟨Nat.le_refl _, y2⟩]
        omega
      · rw [xwr_nj y]
        by_cases z : c' = c
        · subst z
          rw [if_neg (by omega), if_neg (by omega)]
        · by_cases w : c ≤ c' ∧ p c' = i
          · rw [if_pos (by omega), if_pos w]
          · rw [if_neg (by omega), if_neg w]
/-- a row is added -/
theorem s183 (hk : isWlk k) (hn : n ≤ 11) (h9 : ω k 9 = (n : Int)) (h16 : 0 ≤ ω k 16 ∧ ω k 16 < 2147483648) (hp : ∀ c, c < n → p c < 20) (hI : INV k n wt ω ps σ) (hl : ps.length < 1000000000) : ∃ τ, (∀ d, Ev X (d + 1) 183 0 [some (vr k), some (vi (nsum (fun c => wt c (p c)) n : Int)), some (vl (cdN p n : Int)), none, none, none] [] SH σ = some (none, SH, τ)) ∧ INV k n wt ω (ps ++ [p]) τ ∧ ∀ q, k + 2 ≤ q → q ≤ k + 9 → τ q = σ q := by
  obtain ⟨i1, i2, i3, i4, i5⟩ := hI
  have g9 : σ k 9 = (n : Int) := (i1 k 9 (by unfold isWlk at hk; omega) (by omega) (by omega) (by omega) (by omega) (by omega) (by omega)).trans h9
  have g16 : σ k 16 = ω k 16 := i1 k 16 (by unfold isWlk at hk; omega) (by omega) (by omega) (by omega) (by omega) (by omega) (by omega)
  have k10 : k ≠ 10 ∧ k ≠ 13 ∧ 19 ≤ k := by unfold isWlk at hk; omega
  have cb : ∀ f : (Nat → Nat) → Bool, ps.countP f < 1000000000 := fun f => Nat.lt_of_le_of_lt List.countP_le_length hl
  -- the window
  obtain ⟨σ1, a1, a2, a3, a4⟩ : ∃ σ1 : xM, (∀ d, Ev X d 183 0 [some (vr k), some (vi (nsum (fun c => wt c (p c)) n : Int)), some (vl (cdN p n : Int)), none, none, none] [] SH σ = Ev X d 183 41 [some (vr k), some (vi (nsum (fun c => wt c (p c)) n : Int)), some (vl (cdN p n : Int)), none, none, none] [] SH σ1) ∧ (∀ q, q ≠ k + 16 → σ1 q = σ q) ∧ (∀ j : Nat, (j : Int) ≠ (ps.length : Int) - ω k 16 → σ1 (k + 16) j = σ (k + 16) j) ∧ (ω k 16 ≤ (ps.length : Int) → (ps.length : Int) - ω k 16 < 256 → σ1 (k + 16) ((ps.length : Int) - ω k 16).toNat = (cdN p n : Int)) := by
    by_cases y : (ps.length : Int) < ω k 16
    · refine ⟨σ, fun d => ?_, fun _ _ => rfl, fun _ _ => rfl, fun h => by omega⟩
      rw [b183_0 hk, if_pos (by omega)]
    · have xs : xsub (σ k 15) (σ k 16) = (ps.length : Int) - ω k 16 := by
        rw [i2, g16, xsub_eq (by omega) (by omega)]
      by_cases z : 256 ≤ (ps.length : Int) - ω k 16
      · refine ⟨σ, fun d => ?_, fun _ _ => rfl, fun _ _ => rfl, fun _ h => by omega⟩
        rw [b183_0 hk, if_neg (by omega), b183_11 hk, xs, if_pos z]
      · refine ⟨xwr σ (k + 16) ((ps.length : Int) - ω k 16).toNat (cdN p n : Int), fun d => ?_, fun q hq => xwr_row hq, fun j hj => xwr_nj (by omega), fun _ _ => xwr_eq⟩
        rw [b183_0 hk, if_neg (by omega), b183_11 hk, xs, if_neg z, b183_26 hk (by rw [xs]; omega), xs]
  -- the sticks
  have h15 : σ1 k 15 = (ps.length : Int) := by rw [a2 k (by omega)]; exact i2
  obtain ⟨σ2, b1, b2, b3⟩ : ∃ σ2 : xM, (∀ d, Ev X d 183 41 [some (vr k), some (vi (nsum (fun c => wt c (p c)) n : Int)), some (vl (cdN p n : Int)), none, none, none] [] SH σ1 = Ev X d 183 71 [some (vr k), some (vi (nsum (fun c => wt c (p c)) n : Int)), some (vl (cdN p n : Int)), none, none, none] [] SH σ2) ∧ (∀ q j, q ≠ k + 17 → σ2 q j = (xwr σ1 k 15 ((ps.length + 1 : Nat) : Int)) q j) ∧ (∀ s : Nat, s ≤ 77 → σ2 (k + 17) s = σ (k + 17) s + (if nsum (fun c => wt c (p c)) n = s then 1 else 0)) := by
    have x15 : xadd (σ1 k 15) 1 = ((ps.length + 1 : Nat) : Int) := by
      rw [h15, xadd_eq (by omega) (by omega)]
      rfl
    have r17 : ∀ j, (xwr σ1 k 15 ((ps.length + 1 : Nat) : Int)) (k + 17) j = σ (k + 17) j := by
      intro j
      rw [xwr_nk (by omega), a2 _ (by omega)]
    by_cases y : 77 < nsum (fun c => wt c (p c)) n
    · refine ⟨xwr σ1 k 15 ((ps.length + 1 : Nat) : Int), fun d => ?_, fun q j _ => rfl, fun s hs => ?_⟩
      · rw [b183_41 hk, if_neg (by omega), x15, b183_55, if_pos (by omega)]
      · rw [r17, if_neg (by omega)]
        omega
    · have q4 := i4 (nsum (fun c => wt c (p c)) n) (by omega)
      have q5 := cb (fun p' => decide (nsum (fun c => wt c (p' c)) n = nsum (fun c => wt c (p c)) n))
      refine ⟨xwr (xwr σ1 k 15 ((ps.length + 1 : Nat) : Int)) (k + 17) (nsum (fun c => wt c (p c)) n) (σ (k + 17) (nsum (fun c => wt c (p c)) n) + 1), fun d => ?_, fun q j hq => xwr_nk hq, fun s hs => ?_⟩
      · rw [b183_41 hk, if_neg (by omega), x15, b183_55, if_neg (by omega), b183_61 hk (by omega), Int.toNat_natCast, r17, xadd_eq (by omega) (by omega)]
      · by_cases z : nsum (fun c => wt c (p c)) n = s
        · rw [← z, xwr_eq, if_pos rfl]
        · rw [xwr_nj (fun w => z w.symm), r17, if_neg z]
          omega
  have f9 : σ2 k 9 = (n : Int) := by rw [b2 k 9 (by omega), xwr_nj (by omega), a2 k (by omega)]; exact g9
  have r18 : ∀ j, σ2 (k + 18) j = σ (k + 18) j := by
    intro j
    rw [b2 _ _ (by omega), xwr_nk (by omega), a2 _ (by omega)]
  obtain ⟨τ, c1, c2, c3⟩ := it183 (X := X) (a1 := some (vi (nsum (fun c => wt c (p c)) n : Int))) hk hn hp n 0 σ2 none (by omega) f9 (fun c' i _ h1 h2 => by
    rw [r18, i5 c' i h1 h2]
    have := cb (fun p => decide (p c' = i))
    omega)
  have all : ∀ q j, q ≠ k + 16 → q ≠ k + 17 → q ≠ k + 18 → ¬ (q = k ∧ j = 15) → τ q j = σ q j := by
    intro q j h1 h2 h3 h4
    rw [c2 q h3, b2 q j h2, show xwr σ1 k 15 ((ps.length + 1 : Nat) : Int) q j = σ1 q j from if_neg h4, a2 q h1]
  refine ⟨τ, fun d => ?_, ⟨fun q j h1 h2 h3 h4 h5 h6 h7 => (all q j h2 h3 h4 h5).trans (i1 q j h1 h2 h3 h4 h5 h6 h7), ?_, fun i h e1 e2 => ?_, fun s hs => ?_, fun c i h1 h2 => ?_⟩, fun q h1 h2 => funext (fun j => all q j (by omega) (by omega) (by omega) (by omega))⟩
  · rw [a1, b1, b183_71]
    exact c1 d
  · rw [c2 k (by omega), b2 k 15 (by omega), xwr_eq, List.length_append]
    rfl
  · rw [c2 _ (by omega), b2 _ _ (by omega), xwr_nk (by omega)]
    rw [List.length_append, List.length_singleton] at h
    by_cases y : i = ps.length
    · subst y
      rw [a4 e1 e2, List.getElem_append_right (Nat.le_refl _)]
      simp
    · rw [a3 _ (by omega), i3 i (by omega) e1 e2, List.getElem_append_left (by omega)]
  · rw [c2 _ (by omega), b3 s hs, i4 s hs, List.countP_append, List.countP_cons, List.countP_nil]
    by_cases z : nsum (fun c => wt c (p c)) n = s
    · rw [if_pos z, if_pos (decide_eq_true z)]
      omega
    · rw [if_neg z, if_neg (fun w => z (of_decide_eq_true w))]
      omega
  · rw [c3 c i h1 h2, r18, i5 c i h1 h2, List.countP_append, List.countP_cons, List.countP_nil]
    by_cases z : p c = i
    · rw [if_pos ⟨Nat.zero_le _, z⟩, if_pos (decide_eq_true z)]
      omega
    · rw [if_neg (fun w => z w.2), if_neg (fun w => z (of_decide_eq_true w))]
      omega
end ADD
