/-! rows: counts, likeness; sticks counted -/
def isum (f : Nat → Int) : Nat → Int
  | 0 => 0
  | n + 1 => isum f n + f n
theorem isum_rg {f : Nat → Int} {B : Int} (h : ∀ i, 0 ≤ f i ∧ f i ≤ B) (hB : 0 ≤ B) : ∀ n : Nat, 0 ≤ isum f n ∧ isum f n ≤ B * n
  | 0 => by simp [isum]
  | n + 1 => by
    have h1 := isum_rg h hB n
    have h2 := h n
    unfold isum
    have e : B * ((n + 1 : Nat) : Int) = B * n + B := by
      rw [Int.natCast_add, Int.mul_add]
      simp
    rw [e]
    omega
/-- how many sticks, of seven places -/
def pc (n : Nat) : Int := ((n % 2 + n / 2 % 2 + n / 4 % 2 + n / 8 % 2 + n / 16 % 2 + n / 32 % 2 + n / 64 % 2 : Nat) : Int)
theorem pc_rg (n : Nat) : 0 ≤ pc n ∧ pc n ≤ 7 := by unfold pc; omega
theorem f319_0 : ∀ n, n < 128 → f319 (fun _ _ => 0) ((n : Nat) : Int) = pc n := by decide +kernel
theorem f319_pc {σ : xM} {a : Int} (h0 : 0 ≤ a) (h1 : a < 128) : f319 σ a = pc a.toNat := by
  have := f319_0 a.toNat (by omega)
  rw [Int.toNat_of_nonneg h0] at this
  exact this
section ROW
variable {X : Nat × (Nat → Int)} {d k k1 : Nat} {σ : xM}
theorem it141 (hk : isRow k) {n : Nat} (hn : σ k 0 = n) (hn2 : n ≤ 11) : ∀ (m i : Nat), i + m = n → Ev X d 141 4 [some (vr k), some (vi (isum (fun c => if σ (k + 1) c = 0 then 0 else 1) i)), some (vi (i : Int))] [] SH σ = some (some (vi (isum (fun c => if σ (k + 1) c = 0 then 0 else 1) n)), SH, σ)
  | 0, i, h => by
    have e : i = n := by omega
    subst e
    rw [b141_4 hk, if_pos (by omega), b141_35]
  | m + 1, i, h => by
    have rg := isum_rg (f := fun c => if σ (k + 1) c = 0 then (0 : Int) else 1) (B := 1) (fun j => by split <;> omega) (by omega) i
    rw [b141_4 hk, if_neg (by omega), b141_12 hk ⟨by omega, by omega⟩, Int.toNat_natCast]
    have nx := it141 hk hn hn2 m (i + 1) (by omega)
    by_cases hz : σ (k + 1) i = 0
    · rw [if_pos hz, b141_26, b141_27, xadd_eq (by omega) (by omega), xadd_eq (by omega) (by omega)]
      rw [isum, if_pos hz] at nx
      exact nx
    · rw [if_neg hz, b141_22, b141_27, xadd_eq (by omega) (by omega), xadd_eq (by omega) (by omega)]
      rw [isum, if_neg hz] at nx
      exact nx
/-- figureCount -/
theorem s141 (hk : isRow k) (h0 : 0 ≤ σ k 0) (h1 : σ k 0 ≤ 11) : Ev X d 141 0 [some (vr k), none, none] [] SH σ = some (some (vi (isum (fun c => if σ (k + 1) c = 0 then 0 else 1) (σ k 0).toNat)), SH, σ) := by
  rw [b141_0]
  exact it141 hk (n := (σ k 0).toNat) (by omega) (by omega) (σ k 0).toNat 0 (by omega)
theorem it147 (hk : isRow k) {n : Nat} (hn : σ k 0 = n) (hn2 : n ≤ 11) (hb : ∀ c, c < n → 0 ≤ σ (k + 2) c ∧ σ (k + 2) c < 128) : ∀ (m i : Nat), i + m = n → Ev X (d + 1) 147 4 [some (vr k), some (vi (isum (fun c => pc (σ (k + 2) c).toNat) i)), some (vi (i : Int))] [] SH σ = some (some (vi (isum (fun c => pc (σ (k + 2) c).toNat) n)), SH, σ)
  | 0, i, h => by
    have e : i = n := by omega
    subst e
    rw [b147_4 hk, if_pos (by omega), b147_30]
  | m + 1, i, h => by
    have rg := isum_rg (f := fun c => pc (σ (k + 2) c).toNat) (B := 7) (fun j => pc_rg _) (by omega) i
    have rp := pc_rg (σ (k + 2) i).toNat
    rw [b147_4 hk, if_neg (by omega)]
    refine Eq.trans (b147_12 hk ⟨by omega, by omega⟩) ?_
    rw [Int.toNat_natCast]
    refine x_bind s319 ?_
    dsimp only
    refine Eq.trans b147_22 ?_
    rw [f319_pc (hb i (by omega)).1 (hb i (by omega)).2, xadd_eq (by omega) (by omega), xadd_eq (by omega) (by omega)]
    have nx := it147 hk hn hn2 hb m (i + 1) (by omega)
    rw [isum] at nx
    exact nx
/-- sticks -/
theorem s147 (hk : isRow k) (h0 : 0 ≤ σ k 0) (h1 : σ k 0 ≤ 11) (hb : ∀ c : Nat, (c : Int) < σ k 0 → 0 ≤ σ (k + 2) c ∧ σ (k + 2) c < 128) : Ev X (d + 1) 147 0 [some (vr k), none, none] [] SH σ = some (some (vi (isum (fun c => pc (σ (k + 2) c).toNat) (σ k 0).toNat)), SH, σ) := by
  rw [b147_0]
  exact it147 hk (n := (σ k 0).toNat) (by omega) (by omega) (fun c hc => hb c (by omega)) (σ k 0).toNat 0 (by omega)
/-- of one sort, from place i on -/
theorem it142 (hk : isRow k) (hk1 : isRow k1) {n : Nat} (hn : σ k 0 = n) (hn2 : n ≤ 11) : ∀ (m i : Nat), i + m = n → ((∀ c, i ≤ c → c < n → σ (k + 1) c = σ (k1 + 1) c) → Ev X d 142 15 [some (vr k), some (vr k1), some (vi (i : Int))] [] SH σ = some (some (vi 1), SH, σ)) ∧ ((∃ c, i ≤ c ∧ c < n ∧ σ (k + 1) c ≠ σ (k1 + 1) c) → Ev X d 142 15 [some (vr k), some (vr k1), some (vi (i : Int))] [] SH σ = some (some (vi 0), SH, σ))
  | 0, i, h => by
    refine ⟨fun _ => ?_, fun ⟨c, h1, h2, _⟩ => by omega⟩
    rw [b142_15 hk, if_pos (by omega), b142_46]
  | m + 1, i, h => by
    obtain ⟨n1, n2⟩ := it142 hk hk1 hn hn2 m (i + 1) (by omega)
    have st : ∀ r, (σ (k + 1) i = σ (k1 + 1) i → Ev X d 142 15 [some (vr k), some (vr k1), some (vi ((i + 1 : Nat) : Int))] [] SH σ = r) → (σ (k + 1) i ≠ σ (k1 + 1) i → some (some (vi 0), SH, σ) = r) → Ev X d 142 15 [some (vr k), some (vr k1), some (vi (i : Int))] [] SH σ = r := by
      intro r h1 h2
      rw [b142_15 hk, if_neg (by omega), b142_23 hk hk1 ⟨by omega, by omega⟩, Int.toNat_natCast]
      by_cases hz : σ (k + 1) i = σ (k1 + 1) i
      · rw [if_pos hz, b142_40, xadd_eq (by omega) (by omega)]
        exact h1 hz
      · rw [if_neg hz, b142_38]
        exact h2 hz
    refine ⟨fun ha => st _ (fun _ => n1 (fun c h1 h2 => ha c (by omega) h2)) (fun hz => absurd (ha i (Nat.le_refl _) (by omega)) hz), fun ⟨c, h1, h2, h3⟩ => st _ (fun hz => n2 ⟨c, ?_, h2, h3⟩) (fun _ => rfl)⟩
    rcases Nat.lt_or_eq_of_le h1 with g | g
    · exact g
    · subst g; exact absurd hz h3
/-- isLike -/
theorem s142t (hk : isRow k) (hk1 : isRow k1) (h0 : 0 ≤ σ k 0) (h1 : σ k 0 ≤ 11) (hc : σ k 0 = σ k1 0) (ha : ∀ c : Nat, (c : Int) < σ k 0 → σ (k + 1) c = σ (k1 + 1) c) : Ev X d 142 0 [some (vr k), some (vr k1), none] [] SH σ = some (some (vi 1), SH, σ) := by
  rw [b142_0 hk hk1, if_pos hc, b142_13]
  exact (it142 hk hk1 (n := (σ k 0).toNat) (by omega) (by omega) (σ k 0).toNat 0 (by omega)).1 (fun c _ h => ha c (by omega))
theorem s142f (hk : isRow k) (hk1 : isRow k1) (h0 : 0 ≤ σ k 0) (h1 : σ k 0 ≤ 11) (hc : σ k 0 ≠ σ k1 0 ∨ ∃ c : Nat, (c : Int) < σ k 0 ∧ σ (k + 1) c ≠ σ (k1 + 1) c) : Ev X d 142 0 [some (vr k), some (vr k1), none] [] SH σ = some (some (vi 0), SH, σ) := by
  by_cases he : σ k 0 = σ k1 0
  · rcases hc with hc | ⟨c, h2, h3⟩
    · exact absurd he hc
    · rw [b142_0 hk hk1, if_pos he, b142_13]
      exact (it142 hk hk1 (n := (σ k 0).toNat) (by omega) (by omega) (σ k 0).toNat 0 (by omega)).2 ⟨c, Nat.zero_le _, by omega, h3⟩
  · rw [b142_0 hk hk1, if_neg he, b142_11]
theorem row_apart (hk : isRow k) (hk1 : isRow k1) (h : k ≠ k1) : k + 3 ≤ k1 ∨ k1 + 3 ≤ k := by
  unfold isRow at hk hk1
  omega
/-- the first n cells of row k1 laid into row k -/
def cpy (σ : xM) (k k1 n : Nat) : xM := xrow (xrow σ (k + 1) (fun i => if i < n then σ (k1 + 1) i else σ (k + 1) i)) (k + 2) (fun i => if i < n then σ (k1 + 2) i else σ (k + 2) i)
theorem cpy_0 : cpy σ k k1 0 = σ := by
  unfold cpy
  simp only [Nat.not_lt_zero, if_false]
  rw [show (fun i => σ (k + 1) i) = σ (k + 1) from rfl, xrow_self, show (fun i => σ (k + 2) i) = σ (k + 2) from rfl, xrow_self]
theorem cpy_at {n q i : Nat} (h1 : q ≠ k + 1) (h2 : q ≠ k + 2) : cpy σ k k1 n q i = σ q i := by
  unfold cpy
  rw [xrow_ne h2, xrow_ne h1]
theorem cpy_s {n : Nat} (h : k + 3 ≤ k1 ∨ k1 + 3 ≤ k) : xwr (xwr (cpy σ k k1 n) (k + 1) n (cpy σ k k1 n (k1 + 1) n)) (k + 2) n ((xwr (cpy σ k k1 n) (k + 1) n (cpy σ k k1 n (k1 + 1) n)) (k1 + 2) n) = cpy σ k k1 (n + 1) := by
  rw [xwr_nk (show k1 + 2 ≠ k + 1 by omega), cpy_at (q := k1 + 1) (by omega) (by omega), cpy_at (q := k1 + 2) (by omega) (by omega)]
  funext a b
  unfold cpy xwr xrow
  by_cases ha2 : a = k + 2
  · subst ha2
    by_cases hb : b = n
    · subst hb; simp
    · have : b < n + 1 ↔ b < n := by omega
      simp [hb, this]
  · by_cases ha1 : a = k + 1
    · subst ha1
      by_cases hb : b = n
      · subst hb; simp
      · have : b < n + 1 ↔ b < n := by omega
        simp [hb, this]
    · simp [ha1, ha2]
theorem it144 (hk : isRow k) (hk1 : isRow k1) (hne : k ≠ k1) {n : Nat} (hn : σ k 0 = n) (hn2 : n ≤ 11) (hf : ∀ c, c < n → σ (k1 + 1) c = 0 ∨ σ (k1 + 1) c = 1) : ∀ (m i : Nat), i + m = n → Ev X d 144 10 [some (vr k), some (vr k1), some (vi (i : Int))] [] SH (cpy σ k k1 i) = some (none, SH, cpy σ k k1 n)
  | 0, i, h => by
    have e : i = n := by omega
    subst e
    rw [b144_10 hk, cpy_at (by omega) (by omega), if_pos (by omega), b144_48]
  | m + 1, i, h => by
    have ap := row_apart hk hk1 hne
    rw [b144_10 hk, cpy_at (by omega) (by omega), if_neg (by omega), b144_18 hk hk1 ⟨by omega, by omega⟩ (by rw [Int.toNat_natCast, cpy_at (by omega) (by omega)]; exact hf i (by omega)), Int.toNat_natCast, cpy_s ap, xadd_eq (by omega) (by omega)]
    exact it144 hk hk1 hne hn hn2 hf m (i + 1) (by omega)
/-- copyFrom -/
theorem s144 (hk : isRow k) (hk1 : isRow k1) (hne : k ≠ k1) (h0 : 0 ≤ σ k1 0) (h1 : σ k1 0 ≤ 11) (hf : ∀ c : Nat, (c : Int) < σ k1 0 → σ (k1 + 1) c = 0 ∨ σ (k1 + 1) c = 1) : Ev X d 144 0 [some (vr k), some (vr k1), none] [] SH σ = some (none, SH, cpy (xwr σ k 0 (σ k1 0)) k k1 (σ k1 0).toNat) := by
  have ap := row_apart hk hk1 hne
  rw [b144_0 hk hk1]
  have := it144 (X := X) (d := d) (σ := xwr σ k 0 (σ k1 0)) hk hk1 hne (n := (σ k1 0).toNat) (by rw [xwr_eq]; omega) (by omega) (fun c hc => by rw [xwr_nk (by omega)]; exact hf c (by omega)) (σ k1 0).toNat 0 (by omega)
  rw [cpy_0] at this
  exact this
end ROW
