/-! WALKS: go -/
/-- what a walk may change -/
def AGW (k : Nat) (σ τ : xM) : Prop := ∀ q j, q ≠ 13 → ¬ (k + 10 ≤ q ∧ q ≤ k + 18) → ¬ (q = k ∧ 9 ≤ j ∧ j ≤ 16) → ¬ (q = 10 ∧ j = 8) → (k + 2 ≤ q ∧ q ≤ k + 9 → j = 0) → τ q j = σ q j
/-- what a walk has found -/
def RES (k n : Nat) (wt : Nat → Nat → Nat) (ps : List (Nat → Nat)) (σ : xM) : Prop := σ k 15 = (ps.length : Int) ∧ (∀ (i : Nat) (h : i < ps.length), σ k 16 ≤ (i : Int) → (i : Int) - σ k 16 < 256 → σ (k + 16) ((i : Int) - σ k 16).toNat = (cdN ps[i] n : Int)) ∧ (∀ s : Nat, s ≤ 77 → σ (k + 17) s = (ps.countP (fun p => decide (nsum (fun c => wt c (p c)) n = s)) : Int)) ∧ ∀ c i : Nat, c < n → i < 20 → σ (k + 18) (20 * c + i) = (ps.countP (fun p => decide (p c = i)) : Int)
section GO
variable {X : Nat × (Nat → Int)} {σ ω τ : xM} {k n len stop T0 L0 : Nat} {op : Nat → List Nat} {ct cl : Nat → Nat → Nat} {sy : Nat → Nat → Int} {wt : Nat → Nat → Nat} {ps : List (Nat → Nat)} {so on fgN ls : Int} {cd : Nat → Int}
theorem AGW_rf : AGW k σ σ := fun _ _ _ _ _ _ _ => rfl
theorem AGW_tr (a : AGW k ω σ) (b : AGW k σ τ) : AGW k ω τ := fun q j h1 h2 h3 h4 h5 => (b q j h1 h2 h3 h4 h5).trans (a q j h1 h2 h3 h4 h5)
theorem AG_W (a : AG k σ τ) : AGW k σ τ := fun q j h1 h2 h3 h4 h5 => a q j h1 (by omega) (by omega) (by omega) (by omega) h4 h5
theorem it179a (hk : isWlk k) {a1 : Int} {o2 : Option xV} : ∀ (m i : Nat) (τ : xM) (o3 : Option xV), i + m = 78 → ∃ (τ' : xM) (o3' : Option xV), (∀ d, Ev X d 179 18 [some (vr k), some (vi a1), o2, o3, some (vi i)] [] SH τ = Ev X d 179 39 [some (vr k), some (vi a1), o2, o3', some (vi 78)] [] SH τ') ∧ (∀ q, q ≠ k + 17 → τ' q = τ q) ∧ ∀ j, τ' (k + 17) j = if i ≤ j ∧ j < 78 then 0 else τ (k + 17) j := by
  intro m
  induction m with
  | zero =>
    intro i τ o3 e
    have e : i = 78 := by omega
    subst e
    refine ⟨τ, o3, fun d => ?_, fun _ _ => rfl, fun j => ?_⟩
    · rw [b179_18, if_pos (by omega)]
      rfl
    · rw [if_neg (by omega)]
  | succ m ih =>
    intro i τ o3 e
    obtain ⟨τ', o3', p1, p2, p3⟩ := ih (i + 1) (xwr τ (k + 17) i 0) (xkill o3) (by omega)
    refine ⟨τ', o3', fun d => ?_, fun q hq => (p2 q hq).trans (xwr_row hq), fun j => ?_⟩
    · rw [b179_18, if_neg (by omega), b179_25 hk (by omega), Int.toNat_natCast, xad1 (by omega)]
      exact p1 d
    · rw [p3]
      by_cases y : j = i
      · rw [if_neg (by omega), y, xwr_eq, if_pos (by omega)]
      · rw [xwr_nj y]
        by_cases z : i + 1 ≤ j ∧ j < 78
        · rw [if_pos z, if_pos (by omega)]
        · rw [if_neg z, if_neg (by omega)]
theorem it179b (hk : isWlk k) {a1 : Int} {o2 : Option xV} : ∀ (m i : Nat) (τ : xM) (o3 : Option xV), i + m = 220 → ∃ (τ' : xM) (o3' : Option xV), (∀ d, Ev X d 179 42 [some (vr k), some (vi a1), o2, o3, some (vi i)] [] SH τ = Ev X d 179 64 [some (vr k), some (vi a1), o2, o3', some (vi 220)] [] SH τ') ∧ (∀ q, q ≠ k + 18 → τ' q = τ q) ∧ ∀ j, τ' (k + 18) j = if i ≤ j ∧ j < 220 then 0 else τ (k + 18) j := by
  intro m
  induction m with
  | zero =>
    intro i τ o3 e
    have e : i = 220 := by omega
    subst e
    refine ⟨τ, o3, fun d => ?_, fun _ _ => rfl, fun j => ?_⟩
    · rw [b179_42, if_pos (by omega)]
      rfl
    · rw [if_neg (by omega)]
  | succ m ih =>
    intro i τ o3 e
    obtain ⟨τ', o3', p1, p2, p3⟩ := ih (i + 1) (xwr τ (k + 18) i 0) (xkill o3) (by omega)
    refine ⟨τ', o3', fun d => ?_, fun q hq => (p2 q hq).trans (xwr_row hq), fun j => ?_⟩
    · rw [b179_42, if_neg (by omega), b179_50 hk (by omega), Int.toNat_natCast, xad1 (by omega)]
      exact p1 d
    · rw [p3]
      by_cases y : j = i
      · rw [if_neg (by omega), y, xwr_eq, if_pos (by omega)]
      · rw [xwr_nj y]
        by_cases z : i + 1 ≤ j ∧ j < 220
        · rw [if_pos z, if_pos (by omega)]
        · rw [if_neg z, if_neg (by omega)]
theorem WKT_cg (h : WKT k n op ct cl sy wt σ) (e9 : τ k 9 = σ k 9) (e : ∀ q, 10 ≤ q → q ≤ 14 → τ (k + q) = σ (k + q)) : WKT k n op ct cl sy wt τ := by
  obtain ⟨h1, h2, h3⟩ := h
  refine ⟨e9.trans h1, h2, fun c hc => ?_⟩
  rw [e 14 (by decide) (by decide), e 10 (by decide) (by decide), e 11 (by decide) (by decide), e 12 (by decide) (by decide), e 13 (by decide) (by decide)]
  exact h3 c hc
theorem s179 (hk : isWlk k) (hW : WKT k n op ct cl sy wt σ) (hn0 : 0 < n) (x14 : σ k 14 = on) (x10 : σ k 10 = fgN) (x11 : σ k 11 = ls) (x16 : 0 ≤ σ k 16 ∧ σ k 16 < 2147483648) (y11 : σ 11 = cd) (y2 : σ 10 2 = (len : Int)) (yw : WFP cd len) (yl : len ≤ 200) (hst : 0 < stop ∧ stop ≤ 1000000000) (hsy : ∀ c, c < n → ∀ i, i ∈ op c → isSy (sy c i) = true ∧ (ls < (c : Int) → 48 ≤ sy c i ∧ sy c i ≤ 57) ∧ wt c i ≤ 7) (hR : ∀ j, j < 8 → Rd σ (k + 1) 0 j = r0 j) (hT : T0 ≤ 3) (hL : L0 ≤ 3) : ∃ τ, (∀ f, n + 4 ≤ f → Ev X f 179 0 [some (vr k), some (vi ((4 * T0 + L0 : Nat) : Int)), some (vi so), some (vi (stop : Int)), none] [] SH σ = some (none, SH, τ)) ∧ AGW k σ τ ∧ τ k 16 = σ k 16 ∧ RES k n wt (((enumF op n 0 (fun _ => 0)).filter (gdB (GD n ct cl sy wt so on fgN cd len T0 L0))).take stop) τ := by
  have k50 : 50 ≤ k ∧ k ≤ 71 ∧ (k = 50 ∨ k = 71) := by
    unfold isWlk at hk
    omega
  generalize h0 : xwr (xwr (xwr σ k 12 so) k 13 (stop : Int)) k 15 0 = σ1
  have e1 : ∀ q j, ¬ (q = k ∧ (j = 12 ∨ j = 13 ∨ j = 15)) → σ1 q j = σ q j := by
    intro q j h
    rw [← h0]
    unfold xwr
    rw [if_neg (by omega), if_neg (by omega), if_neg (by omega)]
  have v12 : σ1 k 12 = so := by rw [← h0, xwr_nj (by decide), xwr_nj (by decide), xwr_eq]
  have v13 : σ1 k 13 = (stop : Int) := by rw [← h0, xwr_nj (by decide), xwr_eq]
  have v15 : σ1 k 15 = 0 := by rw [← h0, xwr_eq]
  obtain ⟨σ2, o3, a1, a2, a3⟩ := it179a (X := X) (a1 := ((4 * T0 + L0 : Nat) : Int)) (o2 := some (vi so)) hk 78 0 σ1 (some (vi (stop : Int))) (by omega)
  obtain ⟨σ3, o3', b1, b2, b3⟩ := it179b (X := X) (a1 := ((4 * T0 + L0 : Nat) : Int)) (o2 := some (vi so)) hk 220 0 σ2 (xkill o3) (by omega)
  have e3 : ∀ q j, ¬ (q = k ∧ (j = 12 ∨ j = 13 ∨ j = 15)) → q ≠ k + 17 → q ≠ k + 18 → σ3 q j = σ q j := by
    intro q j h1 h2 h3
    rw [b2 q h3, a2 q h2, e1 q j h1]
  have eq3 : ∀ j, σ3 k j = σ1 k j := by
    intro j
    rw [b2 k (by omega), a2 k (by omega)]
  have W3 : WKT k n op ct cl sy wt σ3 := WKT_cg hW (e3 k 9 (by omega) (by omega) (by omega)) (fun q h1 h2 => funext (fun j => e3 (k + q) j (by omega) (by omega) (by omega)))
  obtain ⟨ω, c1, c2, c3, c4⟩ := s180 (X := X) hk W3
  have eω : ∀ j, ω k j = σ1 k j := by
    intro j
    rw [c2 k (by omega), eq3]
  have eo : ∀ q j, ¬ (q = k ∧ (j = 12 ∨ j = 13 ∨ j = 15)) → q ≠ k + 15 → q ≠ k + 17 → q ≠ k + 18 → ω q j = σ q j := by
    intro q j h1 h2 h3 h4
    rw [c2 q h2, e3 q j h1 h3 h4]
  have Wω : WKT k n op ct cl sy wt ω := WKT_cg W3 (by rw [c2 k (by omega)]) (fun q h1 h2 => c2 (k + q) (by omega))
  have hF : FX k n op ct cl sy wt so on fgN ls stop cd len ω := by
    refine ⟨Wω, c4, c3, ⟨(eω 12).trans v12, (eω 13).trans v13, ?_, ?_, ?_⟩, ?_, ⟨?_, ?_, yw, yl⟩, hst.2, hsy⟩
    · rw [eo k 14 (by omega) (by omega) (by omega) (by omega)]; exact x14
    · rw [eo k 10 (by omega) (by omega) (by omega) (by omega)]; exact x10
    · rw [eo k 11 (by omega) (by omega) (by omega) (by omega)]; exact x11
    · rw [eo k 16 (by omega) (by omega) (by omega) (by omega)]; exact x16
    · rw [← y11]
      exact funext (fun j => eo 11 j (by omega) (by omega) (by omega) (by omega))
    · rw [eo 10 2 (by omega) (by omega) (by omega) (by omega)]; exact y2
  have I0 : INV k n wt ω [] ω := by
    refine ⟨AG_rf, (eω 15).trans v15, fun i h => absurd h (by simp), fun s hs => ?_, fun c i h1 h2 => ?_⟩
    · rw [c2 _ (by omega), b2 _ (by omega), a3, if_pos (by omega)]
      rfl
    · have := hW.2.1
      rw [c2 _ (by omega), b3, if_pos (by omega)]
      rfl
  obtain ⟨τ, d1, d2, d3⟩ := gf (X := X) (T0 := T0) (L0 := L0) hk hF hT hL n 0 (fun _ => 0) ω [] (by omega) I0 (fun j hj => absurd hj (by omega)) (fun j hj => absurd hj (by omega)) (fun j hj => by
    rw [rdSt, ← hR j hj]
    unfold Rd
    exact eo _ _ (by omega) (by omega) (by omega) (by omega)) (by rw [nsum]; omega) (by rw [nsum]; omega) (by simp) (fun z => by omega)
  rw [List.nil_append, List.length_nil, Nat.sub_zero] at d2
  have d1' := d1
  simp only [nsum, Nat.sub_zero, cdN] at d1'
  obtain ⟨i1, i2, i3, i4, i5⟩ := d2
  have t16 : τ k 16 = ω k 16 := (AG_k hk i1).1 16 (by decide)
  have o16 : ω k 16 = σ k 16 := eo k 16 (by omega) (by omega) (by omega) (by omega)
  refine ⟨τ, fun f hf => ?_, fun q j h1 h2 h3 h4 h5 => ?_, t16.trans o16, i2, ?_, i4, i5⟩
  · obtain ⟨e, rfl⟩ : ∃ e, f = e + 1 := ⟨f - 1, by omega⟩
    rw [b179_0 hk, h0]
    refine Eq.trans (a1 _) ?_
    rw [b179_39]
    refine Eq.trans (b1 _) ?_
    refine Eq.trans (b179_64 hk) ?_
    refine x_bind (c1 _) ?_
    dsimp only
    refine Eq.trans (b179_68 hk) ?_
    refine x_bind (d1' e (by omega)) ?_
    exact b179_76
  · rw [i1 q j h1 (by omega) (by omega) (by omega) (by omega) h4 h5, eo q j (by omega) (by omega) (by omega) (by omega)]
  · rw [t16]
    exact i3
end GO
