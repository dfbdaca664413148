/-! WALKS: goFrom -/
def FX (k n : Nat) (op : Nat → List Nat) (ct cl : Nat → Nat → Nat) (sy : Nat → Nat → Int) (wt : Nat → Nat → Nat) (so on fgN ls : Int) (stop : Nat) (cd : Nat → Int) (len : Nat) (ω : xM) : Prop := WKT k n op ct cl sy wt ω ∧ (∀ c, c ≤ n → ∃ R : Nat, ω (k + 15) c = (R : Int) ∧ RCp op ct cl R c (n - c)) ∧ ω (k + 15) n = 1 ∧ (ω k 12 = so ∧ ω k 13 = (stop : Int) ∧ ω k 14 = on ∧ ω k 10 = fgN ∧ ω k 11 = ls) ∧ (0 ≤ ω k 16 ∧ ω k 16 < 2147483648) ∧ (ω 11 = cd ∧ ω 10 2 = (len : Int) ∧ WFP cd len ∧ len ≤ 200) ∧ stop ≤ 1000000000 ∧ ∀ c, c < n → ∀ i, i ∈ op c → isSy (sy c i) = true ∧ (ls < (c : Int) → 48 ≤ sy c i ∧ sy c i ≤ 57) ∧ wt c i ≤ 7
def symP (sy : Nat → Nat → Int) (p : Nat → Nat) : Nat → Int := fun c => sy c (p c)
/-- a way that is looked for -/
def GD (n : Nat) (ct cl : Nat → Nat → Nat) (sy : Nat → Nat → Int) (wt : Nat → Nat → Nat) (so on fgN : Int) (cd : Nat → Int) (len T0 L0 : Nat) (p : Nat → Nat) : Prop := nsum (fun c => ct c (p c)) n = T0 ∧ nsum (fun c => cl c (p c)) n = L0 ∧ LK so on n cd len fgN (symP sy p) (nsum (fun c => wt c (p c)) n : Int)
noncomputable def gdB (G : (Nat → Nat) → Prop) (p : Nat → Nat) : Bool := @decide (G p) (Classical.propDecidable _)
section GOF
variable {X : Nat × (Nat → Int)} {σ ω τ : xM} {k n len stop T0 L0 : Nat} {op : Nat → List Nat} {ct cl : Nat → Nat → Nat} {sy : Nat → Nat → Int} {wt : Nat → Nat → Nat} {ps : List (Nat → Nat)} {so on fgN ls : Int} {cd : Nat → Int}
theorem gdB_iff {G : (Nat → Nat) → Prop} {p : Nat → Nat} : gdB G p = true ↔ G p := by
  unfold gdB
  exact @decide_eq_true_iff _ (Classical.propDecidable _)
theorem AG_k (hk : isWlk k) (a : AG k ω σ) : (∀ j, j ≠ 15 → σ k j = ω k j) ∧ (∀ q, 10 ≤ q → q ≤ 15 → σ (k + q) = ω (k + q)) ∧ σ 11 = ω 11 ∧ σ 10 2 = ω 10 2 := by
  unfold isWlk at hk
  refine ⟨fun j hj => a k j (by omega) (by omega) (by omega) (by omega) (by omega) (by omega) (by omega), fun q h1 h2 => funext (fun j => a (k + q) j (by omega) (by omega) (by omega) (by omega) (by omega) (by omega) (by omega)), funext (fun j => a 11 j (by omega) (by omega) (by omega) (by omega) (by omega) (by omega) (by omega)), a 10 2 (by omega) (by omega) (by omega) (by omega) (by omega) (by omega) (by omega)⟩
theorem INV_rd {c : Nat} {v : Nat → Int} (hI : INV k n wt ω ps σ) : INV k n wt ω ps (setRd σ (k + 1) (c + 1) v) := by
  have e : ∀ q j, ¬ (k + 2 ≤ q ∧ q ≤ k + 9 ∧ j ≠ 0) → setRd σ (k + 1) (c + 1) v q j = σ q j := by
    intro q j h
    unfold setRd
    rw [if_neg (by omega)]
  obtain ⟨i1, i2, i3, i4, i5⟩ := hI
  refine ⟨fun q j h1 h2 h3 h4 h5 h6 h7 => (e q j (by omega)).trans (i1 q j h1 h2 h3 h4 h5 h6 h7), (e _ _ (by omega)).trans i2, fun i h a b => (e _ _ (by omega)).trans (i3 i h a b), fun s h => (e _ _ (by omega)).trans (i4 s h), fun c i h1 h2 => (e _ _ (by omega)).trans (i5 c i h1 h2)⟩
theorem INV_ls (hk : isWlk k) (hI : INV k n wt ω ps σ) (c : chs [13] [(10, 8)] σ τ) : INV k n wt ω ps τ := by
  unfold isWlk at hk
  have e : ∀ q j, q ≠ 13 → ¬ (q = 10 ∧ j = 8) → τ q j = σ q j := by
    intro q j h1 h2
    refine c q j ?_
    unfold pin
    simp only [List.contains_cons, List.contains_nil, Bool.or_false, Bool.or_eq_false_iff, beq_eq_false_iff_ne]
    refine ⟨h1, fun z => ?_⟩
    rw [Prod.mk.injEq] at z
    exact h2 z
  obtain ⟨i1, i2, i3, i4, i5⟩ := hI
  refine ⟨fun q j h1 h2 h3 h4 h5 h6 h7 => (e q j h1 h6).trans (i1 q j h1 h2 h3 h4 h5 h6 h7), (e _ _ (by omega) (by omega)).trans i2, fun i h a b => (e _ _ (by omega) (by omega)).trans (i3 i h a b), fun s h => (e _ _ (by omega) (by omega)).trans (i4 s h), fun c i h1 h2 => (e _ _ (by omega) (by omega)).trans (i5 c i h1 h2)⟩
theorem chs_rd (hk : isWlk k) (c : chs [13] [(10, 8)] σ τ) {q j : Nat} (hj : j < 8) : Rd τ (k + 1) q j = Rd σ (k + 1) q j := by
  unfold isWlk at hk
  unfold Rd
  refine c _ _ ?_
  unfold pin
  simp only [List.contains_cons, List.contains_nil, Bool.or_false, Bool.or_eq_false_iff, beq_eq_false_iff_ne]
  refine ⟨by omega, fun z => ?_⟩
  rw [Prod.mk.injEq] at z
  omega
theorem Rd_set {v : Nat → Int} {c q j : Nat} (hj : j < 8) : Rd (setRd σ (k + 1) (c + 1) v) (k + 1) q j = if q = c + 1 then v j else Rd σ (k + 1) q j := by
  unfold Rd setRd
  by_cases y : q = c + 1
  · rw [if_pos (by omega), if_pos y]
    congr 1
    omega
  · rw [if_neg (by omega), if_neg y]
/-- whether it can be paid -/
theorem f185_y {R T L t l a : Nat} (hR : σ (k + 15) a = (R : Int)) (hr : R < 65536) (hT : T ≤ 3) (hL : L ≤ 3) (ht : t ≤ 3) (hl : l ≤ 3) : f185 σ k (a : Int) ((4 * T + L : Nat) : Int) ((4 * t + l : Nat) : Int) = if t ≤ T ∧ l ≤ L ∧ R.testBit (4 * (T - t) + (L - l)) = true then 1 else 0 := by
  unfold f185
  rw [show xand ((4 * T + L : Nat) : Int) 3 = ((L : Nat) : Int) by
    rw [show (3 : Int) = ((3 : Nat) : Int) from rfl, xand_nat (by omega), and3 _ (by omega) _ (by omega)], show xand ((4 * t + l : Nat) : Int) 3 = ((l : Nat) : Int) by
    rw [show (3 : Int) = ((3 : Nat) : Int) from rfl, xand_nat (by omega), and3 _ (by omega) _ (by omega)]]
  by_cases y : ((4 * T + L : Nat) : Int) < ((4 * t + l : Nat) : Int)
  · rw [if_pos y, if_neg (by omega)]
  · rw [if_neg y]
    by_cases z : ((L : Nat) : Int) < ((l : Nat) : Int)
    · rw [if_pos z, if_neg (by omega)]
    · rw [if_neg z, Int.toNat_natCast, hR, show xsub ((4 * T + L : Nat) : Int) ((4 * t + l : Nat) : Int) = ((4 * (T - t) + (L - l) : Nat) : Int) by
        rw [xsub_eq (by omega) (by omega)]
        omega, xshr_div (by omega) (by omega) (by omega)]
      rw [show ((R : Int) / ((2 ^ (4 * (T - t) + (L - l)) : Nat) : Int)) = ((R / 2 ^ (4 * (T - t) + (L - l)) : Nat) : Int) from rfl, show (1 : Int) = ((1 : Nat) : Int) from rfl, xand_nat (Nat.lt_of_le_of_lt (Nat.div_le_self _ _) (by omega)), Nat.and_one_is_mod, Nat.testBit_eq_decide_div_mod_eq]
      by_cases w : R / 2 ^ (4 * (T - t) + (L - l)) % 2 = 1
      · rw [if_neg (by omega), if_pos ⟨by omega, by omega, decide_eq_true w⟩]
      · rw [if_pos (by omega), if_neg (fun u => w (of_decide_eq_true u.2.2))]
theorem tk_ap {α : Type} (ps A B : List α) (s : Nat) (h : ps.length ≤ s) : ps ++ (A ++ B).take (s - ps.length) = (ps ++ A.take (s - ps.length)) ++ B.take (s - (ps ++ A.take (s - ps.length)).length) := by
  rw [List.take_append, List.append_assoc, List.length_append, List.length_take]
  congr 3
  omega
end GOF
