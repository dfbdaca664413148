/-! WALKS, in the model: what is offered -/
def nprod (f : Nat → Nat) : Nat → Nat
  | 0 => 1
  | n + 1 => nprod f n * f n
def wF (fg : Int) (w : Nat → Int) : Nat → Int := fun k => if fg = 0 then (if k < 5 then f217 (fun _ _ => 0) (k : Int) else 0) else w k
def OT1 (B : Nat → Nat → Int) (c : Nat) (lst : List Nat) (τ : xM) : Prop := lst.length ≤ 20 ∧ τ 123 c = (lst.length : Int) ∧ ∀ (e : Nat) (h : e < lst.length), τ 122 (20 * c + e) = B c lst[e]
section OFF
variable {X : Nat × (Nat → Int)} {μ τ : xM} {n c : Nat} {B : Nat → Nat → Int} {w fg : Nat → Int}
theorem lmul_nat {a b : Nat} (h : a * b < 2 ^ 62) : lmul' (a : Int) (b : Int) = ((a * b : Nat) : Int) := by
  unfold lmul'
  rw [l64n, l64n]
  have : Int64.ofNat a * Int64.ofNat b = Int64.ofNat (a * b) := by
    apply Int64.toBitVec.inj
    simp [Int64.toBitVec_ofNat, BitVec.ofNat_mul]
  rw [this]
  exact lg_ofNat_toInt (by omega)
theorem nprod_le {f : Nat → Nat} : ∀ n, (∀ c, c < n → f c ≤ 20) → nprod f n ≤ 20 ^ n
  | 0, _ => Nat.le_refl _
  | n + 1, h => by
    rw [nprod, Nat.pow_succ]
    exact Nat.mul_le_mul (nprod_le n (fun c hc => h c (by omega))) (h n (by omega))
theorem p20_le {n : Nat} (h : n ≤ 11) : 20 ^ n ≤ 2 ^ 48 := Nat.le_trans (Nat.pow_le_pow_right (by decide) h) (by decide)
theorem OT1_ap {i c' : Nat} {lst : List Nat} (h : OT1 B c lst τ) (hl : lst.length < 20) : OT1 B c (lst ++ [i]) (xwr (xwr τ 122 (20 * c + lst.length) (B c i)) 123 c ((lst.length + 1 : Nat) : Int)) := by
  obtain ⟨h1, h2, h3⟩ := h
  refine ⟨by rw [List.length_append, List.length_singleton]; omega, by rw [xwr_eq, List.length_append, List.length_singleton], fun e he => ?_⟩
  rw [List.length_append, List.length_singleton] at he
  rw [xwr_nk (by decide), List.getElem_append]
  by_cases y : e < lst.length
  · rw [dif_pos y, xwr_nj (by omega)]
    exact h3 e y
  · have : e = lst.length := by omega
    subst this
    rw [dif_neg y, xwr_eq]
    simp
theorem OT1_ne {i c' A : Nat} {v u : Int} {lst : List Nat} (h : OT1 B c' lst τ) (hc : c' ≠ c) (hA : 20 * c ≤ A ∧ A < 20 * c + 20) : OT1 B c' lst (xwr (xwr τ 122 A v) 123 c u) := by
  obtain ⟨h1, h2, h3⟩ := h
  refine ⟨h1, by rw [xwr_nj hc, xwr_nk (by decide)]; exact h2, fun e he => ?_⟩
  rw [xwr_nk (by decide), xwr_nj (by omega)]
  exact h3 e he
theorem nz_20 {v : Nat → Int} (k : Nat) (h : k ≤ 20) : nz v k ≤ 20 := Nat.le_trans (nz_le k) h
theorem it242 {alw : Nat → Int → Int} {a1 : Int} (hn : n ≤ 11) (hc : c < n) (e107 : μ 107 = fg) (e102 : μ 102 = w) (hB : ∀ k, k < 20 → wF (fg c) w k ≠ 0 → B c (nz (wF (fg c) w) k) = wF (fg c) w k) (h243 : ∀ (k : Nat) (τ : xM), k < 20 → wF (fg c) w k ≠ 0 → chs [122, 123] [] μ τ → ∀ d, Ev X (d + 1) 243 0 [some (vr 100), some (vi c), some (vi (wF (fg c) w k)), none, none, none] [] SH τ = some (some (vi (alw c (wF (fg c) w k))), SH, τ)) (mo : Nat → List Nat) (hmo : mo c = (List.range (nz (wF (fg c) w) 20)).filter (fun i => decide (alw c (B c i) ≠ 0))) : ∀ (m k : Nat) (τ : xM), k + m = 20 → chs [122, 123] [] μ τ → (∀ c', c' < c → OT1 B c' (mo c') τ) → OT1 B c ((List.range (nz (wF (fg c) w) k)).filter (fun i => decide (alw c (B c i) ≠ 0))) τ → ∃ τ', (∀ d o5, ∃ q5, Ev X (d + 2) 242 22 [some (vr 100), some (vl a1), none, some (vi c), some (vi k), o5] [] SH τ = Ev X (d + 2) 242 117 [some (vr 100), some (vl a1), none, some (vi c), some (vi 20), q5] [] SH τ') ∧ chs [122, 123] [] μ τ' ∧ (∀ c', c' < c → OT1 B c' (mo c') τ') ∧ OT1 B c (mo c) τ' := by
  intro m
  induction m with
  | zero =>
    intro k τ e1 e2 e3 e4
    have e1 : k = 20 := by omega
    subst e1
    refine ⟨τ, fun d o5 => ⟨o5, ?_⟩, e2, e3, by rw [hmo]; exact e4⟩
    rw [b242_22, if_pos (by omega)]
    rfl
  | succ m ih =>
    intro k τ e1 e2 e3 e4
    have x1 : xadd (k : Int) 1 = ((k + 1 : Nat) : Int) := xad1 (by omega)
    have st : ∀ d o5, Ev X (d + 2) 242 22 [some (vr 100), some (vl a1), none, some (vi c), some (vi k), o5] [] SH τ = Ev X (d + 2) 242 63 [some (vr 100), some (vl a1), none, some (vi c), some (vi k), o5] [vi (wF (fg c) w k)] SH τ := by
      intro d o5
      rw [b242_22, if_neg (by omega), b242_29 (by omega), Int.toNat_natCast, show τ 107 c = fg c by rw [← e107]; exact e2 107 c rfl]
      unfold wF
      by_cases y : fg c = 0
      · rw [if_pos y, if_pos y, b242_48]
        by_cases z : k < 5
        · rw [if_neg (by omega), if_pos z]
          refine Eq.trans b242_54 ?_
          refine x_bind s217 ?_
          dsimp only
          exact b242_59
        · rw [if_pos (by omega), if_neg z, b242_62]
      · rw [if_neg y, if_neg y, b242_38 (by omega), Int.toNat_natCast, show τ 102 k = w k by rw [← e102]; exact e2 102 k rfl]
    have lle := nz_20 (v := wF (fg c) w) k (by omega)
    by_cases v0 : wF (fg c) w k = 0
    · have nk : nz (wF (fg c) w) (k + 1) = nz (wF (fg c) w) k := by rw [nz, if_pos v0]; rfl
      obtain ⟨τ', p1, p2, p3, p4⟩ := ih (k + 1) τ (by omega) e2 e3 (by rw [nk]; exact e4)
      refine ⟨τ', fun d o5 => ?_, p2, p3, p4⟩
      obtain ⟨q5, h5⟩ := p1 d (some (vi 0))
      refine ⟨q5, ?_⟩
      rw [st, v0, b242_63, if_pos rfl, b242_111, x1]
      exact h5
    · have nk : nz (wF (fg c) w) (k + 1) = nz (wF (fg c) w) k + 1 := by rw [nz, if_neg v0]
      have lt20 : nz (wF (fg c) w) k < 20 := by
        have := nz_20 (v := wF (fg c) w) (k + 1) (by omega)
        omega
      have b := hB k (by omega) v0
      have rs : (List.range (nz (wF (fg c) w) (k + 1))).filter (fun i => decide (alw c (B c i) ≠ 0)) = (List.range (nz (wF (fg c) w) k)).filter (fun i => decide (alw c (B c i) ≠ 0)) ++ (if alw c (wF (fg c) w k) ≠ 0 then [nz (wF (fg c) w) k] else []) := by
        rw [nk, List.range_succ, List.filter_append]
        congr 1
        by_cases y : alw c (wF (fg c) w k) ≠ 0
        · rw [if_pos y, List.filter_cons_of_pos (by rw [b]; exact decide_eq_true y), List.filter_nil]
        · rw [if_neg y, List.filter_cons_of_neg (by rw [b]; exact fun z => y (of_decide_eq_true z)), List.filter_nil]
      have st2 : ∀ d o5, Ev X (d + 2) 242 22 [some (vr 100), some (vl a1), none, some (vi c), some (vi k), o5] [] SH τ = Ev X (d + 2) 242 77 [some (vr 100), some (vl a1), none, some (vi c), some (vi k), some (vi (wF (fg c) w k))] [vi (alw c (wF (fg c) w k))] SH τ := by
        intro d o5
        rw [st, b242_63, if_neg v0]
        refine Eq.trans b242_70 ?_
        refine x_bind (h243 k τ (by omega) v0 e2 _) ?_
        rfl
      by_cases y : alw c (wF (fg c) w k) ≠ 0
      · have len : ((List.range (nz (wF (fg c) w) k)).filter (fun i => decide (alw c (B c i) ≠ 0))).length < 20 := by
          have := rng_le (m := nz (wF (fg c) w) k) (f := fun i => decide (alw c (B c i) ≠ 0))
          omega
        rw [if_pos y] at rs
        have e4' := OT1_ap (c' := c) (i := nz (wF (fg c) w) k) e4 len
        obtain ⟨e41, e42, e43⟩ := e4
        generalize hg : ((List.range (nz (wF (fg c) w) k)).filter (fun i => decide (alw c (B c i) ≠ 0))).length = A at len e42 e4'
        have xo : xadd (xmul 20 (c : Int)) (τ 123 c) = ((20 * c + A : Nat) : Int) := by
          rw [e42, xmul_eq (by omega) (by omega), show (20 : Int) * (c : Int) = ((20 * c : Nat) : Int) by omega, xad (by omega)]
        rw [← rs] at e4'
        obtain ⟨τ', p1, p2, p3, p4⟩ := ih (k + 1) _ (by omega) (chs_wr rfl (chs_wr rfl e2)) (fun c' hc' => OT1_ne (i := 0) (e3 c' hc') (by omega) (by omega)) e4'
        refine ⟨τ', fun d o5 => ?_, p2, p3, p4⟩
        obtain ⟨q5, h5⟩ := p1 d (some (vi (wF (fg c) w k)))
        refine ⟨q5, ?_⟩
        rw [st2, b242_77, if_pos y, b242_83 (by omega) (by rw [Int.toNat_natCast, xo]; omega), Int.toNat_natCast, xo, Int.toNat_natCast, e42, xad1 (by omega), b242_111, x1, ← b]
        rw [b] at h5 ⊢
        exact h5
      · rw [if_neg y, List.append_nil] at rs
        obtain ⟨τ', p1, p2, p3, p4⟩ := ih (k + 1) τ (by omega) e2 e3 (by rw [rs]; exact e4)
        refine ⟨τ', fun d o5 => ?_, p2, p3, p4⟩
        obtain ⟨q5, h5⟩ := p1 d (some (vi (wF (fg c) w k)))
        refine ⟨q5, ?_⟩
        rw [st2, b242_77, if_neg y, b242_80, b242_111, x1]
        exact h5
/-- offer -/
theorem s242 {alw : Nat → Int → Int} (hn : n ≤ 11) (e16 : μ 100 16 = (n : Int)) (e107 : μ 107 = fg) (e102 : μ 102 = w) (hB : ∀ c, c < n → ∀ k, k < 20 → wF (fg c) w k ≠ 0 → B c (nz (wF (fg c) w) k) = wF (fg c) w k) (h243 : ∀ (c k : Nat) (τ : xM), c < n → k < 20 → wF (fg c) w k ≠ 0 → chs [122, 123] [] μ τ → ∀ d, Ev X (d + 1) 243 0 [some (vr 100), some (vi c), some (vi (wF (fg c) w k)), none, none, none] [] SH τ = some (some (vi (alw c (wF (fg c) w k))), SH, τ)) (mo : Nat → List Nat) (hmo : ∀ c, c < n → mo c = (List.range (nz (wF (fg c) w) 20)).filter (fun i => decide (alw c (B c i) ≠ 0))) : ∃ τ, (∀ d, Ev X (d + 2) 242 0 [some (vr 100), none, none, none, none, none] [] SH μ = some (some (vl (nprod (fun c => (mo c).length) n : Int)), SH, τ)) ∧ chs [122, 123] [] μ τ ∧ ∀ c, c < n → OT1 B c (mo c) τ := by
  have len20 : ∀ c, c < n → (mo c).length ≤ 20 := by
    intro c hc
    rw [hmo c hc]
    have := rng_le (m := nz (wF (fg c) w) 20) (f := fun i => decide (alw c (B c i) ≠ 0))
    have := nz_20 (v := wF (fg c) w) 20 (by omega)
    omega
  have lp : ∀ (m c : Nat) (τ : xM), c + m = n → chs [122, 123] [] μ τ → (∀ c', c' < c → OT1 B c' (mo c') τ) → ∃ τ', (∀ d o4 o5, Ev X (d + 2) 242 4 [some (vr 100), some (vl (nprod (fun c => (mo c).length) c : Int)), none, some (vi c), o4, o5] [] SH τ = some (some (vl (nprod (fun c => (mo c).length) n : Int)), SH, τ')) ∧ chs [122, 123] [] μ τ' ∧ ∀ c, c < n → OT1 B c (mo c) τ' := by
    intro m
    induction m with
    | zero =>
      intro c τ e1 e2 e3
      have e1 : c = n := by omega
      subst e1
      refine ⟨τ, fun d o4 o5 => ?_, e2, e3⟩
      rw [b242_4, if_pos (by rw [e2 100 16 rfl, e16]; omega), b242_133]
    | succ m ih =>
      intro c τ e1 e2 e3
      obtain ⟨τ1, q1, q2, q3, q4⟩ := it242 (X := X) (a1 := (nprod (fun c => (mo c).length) c : Int)) (c := c) (B := B) (alw := alw) hn (by omega) e107 e102 (hB c (by omega)) (fun k τ hk hv hs => h243 c k τ (by omega) hk hv hs) mo (hmo c (by omega)) 20 0 (xwr τ 123 c 0) (by omega) (chs_wr rfl e2) (fun c' hc' => by
        obtain ⟨h1, h2, h3⟩ := e3 c' hc'
        exact ⟨h1, by rw [xwr_nj (by omega)]; exact h2, fun e he => by rw [xwr_nk (by decide)]; exact h3 e he⟩) ⟨by simp [nz], by rw [xwr_eq]; rfl, fun e he => absurd he (by simp [nz])⟩
      obtain ⟨τ', p1, p2, p3⟩ := ih (c + 1) τ1 (by omega) q2 (fun c' hc' => by
        by_cases y : c' = c
        · rw [y]
          exact q4
        · exact q3 c' (by omega))
      refine ⟨τ', fun d o4 o5 => ?_, p2, p3⟩
      obtain ⟨q5, h5⟩ := q1 d o5
      have pl : nprod (fun c => (mo c).length) (c + 1) < 2 ^ 62 := by
        have a := nprod_le (f := fun c => (mo c).length) (c + 1) (fun c' hc' => len20 c' (by omega))
        have b := p20_le (n := c + 1) (by omega)
        omega
      rw [b242_4, if_neg (by rw [e2 100 16 rfl, e16]; omega), b242_12 (by omega), Int.toNat_natCast]
      refine Eq.trans h5 ?_
      rw [b242_117 (by omega), Int.toNat_natCast, q4.2.1, xad1 (by omega), lmul_nat (by rw [nprod] at pl; exact pl)]
      exact p1 d _ _
  obtain ⟨τ, p1, p2, p3⟩ := lp n 0 μ (by omega) chs_rf (fun c' hc' => absurd hc' (by omega))
  refine ⟨τ, fun d => ?_, p2, p3⟩
  rw [b242_0]
  exact p1 d _ _
/-- nothing is seen: all is allowed -/
theorem s243f {a b : Int} (h : μ 100 51 ≠ 0) (d : Nat) : Ev X (d + 1) 243 0 [some (vr 100), some (vi a), some (vi b), none, none, none] [] SH μ = some (some (vi 1), SH, μ) := by
  rw [b243_0, b243_5]
  by_cases y : μ 100 59 ≤ 0
  · rw [if_pos y, b243_127 (Or.inr rfl)]
  · rw [if_neg y, b243_14, if_pos h, b243_127 (Or.inr rfl)]
end OFF
