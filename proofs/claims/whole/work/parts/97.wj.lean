/-! WANTED: the class's draft against the model's notes and stack -/
def WC0 : List (Nat × Nat) := [(10, 5), (10, 6)]
def WM0 : List (Nat × Nat) := [(100, 34), (100, 36), (100, 38), (100, 39)]
def WC : List (Nat × Nat) := [(1, 2), (1, 3), (1, 5), (1, 6), (1, 7), (1, 8), (10, 5), (10, 6)]
def WM : List (Nat × Nat) := [(100, 2), (100, 3), (100, 4), (100, 6), (100, 7), (100, 8), (100, 9), (100, 34), (100, 36), (100, 38), (100, 39)]
def TJ (tx : Nat → Int) (n : Nat) (σ μ : xM) : Prop := RD 16 1 tx n σ μ ∧ TK tx n sgN σ μ ∧ XT σ ∧ μ 100 2 = 0
/-- the draft is the notes and then the m codes above h on the stack, the highest first -/
def SJ (a h m L : Nat) (σ μ : xM) : Prop := ∃ k : Nat, k + m = L ∧ μ 100 34 = (k : Int) ∧ σ 10 5 = (L : Int) ∧ μ 100 38 = ((h + m : Nat) : Int) ∧ (∀ j, j < k → enc (σ 12 j) (μ 116 j) (μ 117 j)) ∧ (∀ i, i < m → enc (σ 12 (k + i)) (μ 120 (h + (m - 1 - i))) 0) ∧ (σ 10 6 = μ 100 36 ∧ 0 ≤ μ 100 36 ∧ μ 100 36 ≤ 40) ∧ μ 100 39 = (a : Int) + c22 (μ 120) h m ∧ (∀ i, i ≤ L → dp (σ 12) i ≤ σ 10 6)
def JW (tx : Nat → Int) (n a h m L : Nat) (σ μ : xM) : Prop := TJ tx n σ μ ∧ SJ a h m L σ μ ∧ ((L + h : Nat) : Int) ≤ μ 100 7
def PD (l : Int) (h m : Nat) (μ : xM) : Prop := ∀ i, i < m → l ≤ μ 120 (h + i) ∧ μ 120 (h + i) ≠ 30
def BS (r : Int) (h : Nat) (μ : xM) : Prop := h = 0 ∨ μ 120 (h - 1) = 30 ∨ μ 120 (h - 1) < r
/-- an expression was put behind L: one more is there -/
def GR (L : Nat) (σ τ : xM) (L' : Nat) : Prop := L < L' ∧ (∀ i, i < L → τ 12 i = σ 12 i) ∧ (∀ i, L < i → i ≤ L' → dp (σ 12) L + 1 ≤ dp (τ 12) i) ∧ dp (τ 12) L' = dp (σ 12) L + 1
def MR (X : Nat × (Nat → Int)) (m : Int) (μ : xM) (m' : Int) (ν : xM) : Prop := ∀ (d : Nat) (o3 : Option xV), Ev X (d + 8) 228 57 [some (vr 100), some (vi m), some (vi 0), o3] [] SH μ = Ev X (d + 8) 228 57 [some (vr 100), some (vi m'), some (vi 0), o3] [] SH ν
section WJ
variable {X : Nat × (Nat → Int)} {σ μ τ ν ρ : xM} {a h m n L L' : Nat} {tx : Nat → Int} {r : Int}
theorem MR_tr {m1 m2 m3 : Int} (x : MR X m1 μ m2 ν) (y : MR X m2 ν m3 ρ) : MR X m1 μ m3 ρ := fun d o => (x d o).trans (y d o)
theorem c22_bd (f : Nat → Int) (h : Nat) : ∀ m, 0 ≤ c22 f h m ∧ c22 f h m ≤ m
  | 0 => ⟨Int.le_refl 0, Int.le_refl 0⟩
  | m + 1 => by
    have := c22_bd f h m
    rw [c22]
    split <;> omega
theorem c22_sh (f : Nat → Int) (h : Nat) : ∀ m, c22 f h (m + 1) = (if f h = 22 then 1 else 0) + c22 f (h + 1) m
  | 0 => by
    rw [c22, c22, c22, Nat.add_zero]
    omega
  | m + 1 => by
    rw [c22, c22_sh f h m, c22, show h + (m + 1) = h + 1 + m by omega]
    omega
theorem dp_cg {f g : Nat → Int} : ∀ n, (∀ i, i < n → f i = g i) → dp f n = dp g n
  | 0, _ => rfl
  | n + 1, e => by rw [dp, dp, dp_cg n (fun i hi => e i (by omega)), e n (by omega)]
theorem TK_q (h : TK tx n sgN σ μ) : μ 100 7 = σ 1 6 := by
  obtain ⟨q, e, h6, h7, h8, hq, he, hT⟩ := h
  rw [h6, h7]
theorem TK_kd (h : TK tx n sgN σ μ) : (σ 1 5 = 3 ↔ 4 ≤ μ 100 6) ∧ (σ 1 5 = 1 ↔ μ 100 6 = 1) ∧ (σ 1 5 = 0 ↔ μ 100 6 = 0) ∧ (σ 1 5 = 2 ↔ μ 100 6 = 2) ∧ (σ 1 5 = 4 ↔ μ 100 6 = 3) ∧ (4 ≤ μ 100 6 → σ 1 8 = μ 100 6) := by
  obtain ⟨q, e, h6, h7, h8, hq, he, hT⟩ := h
  have u : sgN (μ 100 6) = true → 40 ≤ μ 100 6 := by
    intro z
    have := of_decide_eq_true z
    omega
  rcases hT with c | c | c | c | c
  · omega
  · omega
  · omega
  · have := u c.2.2.2
    omega
  · omega
theorem tk_is (h : TK tx n sgN σ μ) {x : Int} (hx : 4 ≤ x) : f171 σ x = if μ 100 6 = x then 1 else 0 := by
  obtain ⟨k3, k1, k0, k2, k4, k8⟩ := TK_kd h
  unfold f171
  by_cases z : σ 1 5 = 3
  · rw [if_neg (fun w => w z), k8 (k3.mp z)]
    by_cases y : μ 100 6 = x
    · rw [if_pos y, if_neg (fun w => w y)]
    · rw [if_neg y, if_pos y]
  · rw [if_pos z, if_neg (by omega)]
theorem TJ_cc (c : chg [12] WC0 σ τ) (e : chg [116, 117, 120] WM0 μ ν) (h : TJ tx n σ μ) : TJ tx n τ ν := by
  obtain ⟨h1, h2, h3, h4⟩ := h
  refine ⟨?_, ?_, ?_, (chg_at e rfl rfl).trans h4⟩
  · obtain ⟨d1, d2, d3, d4, d5, d6⟩ := h1
    exact ⟨(chg_row c (fun _ => rfl) rfl).trans d1, (chg_row e (fun _ => rfl) rfl).trans d2, (chg_at c rfl rfl).trans d3, (chg_at e rfl rfl).trans d4, (chg_at c rfl rfl).trans d5, (chg_at e rfl rfl).trans d6⟩
  · unfold TK KF at h2 ⊢
    rw [show τ 1 2 = σ 1 2 from chg_at c rfl rfl, show τ 1 3 = σ 1 3 from chg_at c rfl rfl, show τ 1 5 = σ 1 5 from chg_at c rfl rfl, show τ 1 6 = σ 1 6 from chg_at c rfl rfl, show τ 1 7 = σ 1 7 from chg_at c rfl rfl, show τ 1 8 = σ 1 8 from chg_at c rfl rfl, show ν 100 3 = μ 100 3 from chg_at e rfl rfl, show ν 100 4 = μ 100 4 from chg_at e rfl rfl, show ν 100 6 = μ 100 6 from chg_at e rfl rfl, show ν 100 7 = μ 100 7 from chg_at e rfl rfl, show ν 100 8 = μ 100 8 from chg_at e rfl rfl, show ν 100 9 = μ 100 9 from chg_at e rfl rfl]
    exact h2
  · unfold XT at h3 ⊢
    rw [show τ 1 5 = σ 1 5 from chg_at c rfl rfl, show τ 1 6 = σ 1 6 from chg_at c rfl rfl, show τ 1 7 = σ 1 7 from chg_at c rfl rfl, show τ 1 8 = σ 1 8 from chg_at c rfl rfl]
    exact h3
theorem SJ_cg (c : chg [] CT σ τ) (e : chg [] CM μ ν) (hs : SJ a h m L σ μ) : SJ a h m L τ ν := by
  unfold SJ at hs ⊢
  rw [show τ 12 = σ 12 from chg_row c (fun _ => rfl) rfl, show τ 10 5 = σ 10 5 from chg_at c rfl rfl, show τ 10 6 = σ 10 6 from chg_at c rfl rfl, show ν 116 = μ 116 from chg_row e (fun _ => rfl) rfl, show ν 117 = μ 117 from chg_row e (fun _ => rfl) rfl, show ν 120 = μ 120 from chg_row e (fun _ => rfl) rfl, show ν 100 34 = μ 100 34 from chg_at e rfl rfl, show ν 100 36 = μ 100 36 from chg_at e rfl rfl, show ν 100 38 = μ 100 38 from chg_at e rfl rfl, show ν 100 39 = μ 100 39 from chg_at e rfl rfl]
  exact hs
/-- the next token, on both sides -/
theorem tj_adv (hb : ∀ i, 0 ≤ tx i ∧ tx i ≤ 255) (hn : n ≤ 200) (hT : TJ tx n σ μ) (k0 : σ 1 5 ≠ 0) (k4 : σ 1 5 ≠ 4) : ∃ τ ν, (∀ d, Ev X (d + 5) 159 0 [some (vr 1), none] [] SH σ = some (none, SH, τ)) ∧ (∀ d, Ev X (d + 1) 198 0 [some (vr 100), none, none] [] SH μ = some (none, SH, ν)) ∧ chg [] CT σ τ ∧ chg [] CM μ ν ∧ TJ tx n τ ν ∧ μ 100 7 + 1 ≤ ν 100 7 := by
  obtain ⟨t1, t2, t3, t4⟩ := hT
  obtain ⟨e, e1, e2, e3, e4⟩ := TK_nx t2 k4
  obtain ⟨τ, ν, q1, q2, q3, q4, q5, q6, q7⟩ := tk_ad2 (X := X) (RS_w (by omega) hb) t1 e1 e2 e3 (TK_kf t2)
  have u := TK_q t2
  have v := TK_q q5
  have w := t3.1
  exact ⟨τ, ν, q1, q2, chgT q3, chgM q4, ⟨RD_chg t1 (chg_mo (by decide) q3) (chg_mo (by decide) q4), q5, q7, (chg_at q4 rfl rfl).trans t4⟩, by omega⟩
theorem TJ_le (hT : TJ tx n σ μ) (hn : n ≤ 200) : μ 100 7 ≤ 200 ∧ (σ 1 5 ≠ 0 → μ 100 7 < 200) := by
  obtain ⟨t1, t2, t3, t4⟩ := hT
  have := TK_end t2 (by decide)
  have := TK_q t2
  omega
/-- pending codes become notes -/
theorem sj_settle (hJ : SJ a h m L σ μ) (hb : L + h ≤ 200) (ha : a ≤ 7) (hp : PD r h m μ) (hs : BS r h μ) : ∃ ν, (∀ d, Ev X (d + 3) 231 0 [some (vr 100), some (vi r)] [] SH μ = some (none, SH, ν)) ∧ chg [116, 117] CK μ ν ∧ SJ a h 0 L σ ν := by
  obtain ⟨k, e1, e2, e3, e4, e5, e6, e7, e8, e9⟩ := hJ
  have cb := c22_bd (μ 120) h m
  obtain ⟨ν, p1, p2, p3, p4, p5, p6, p7⟩ := it231 (X := X) (h := h) (r := r) m μ k e4 (by omega) e2 (by omega) hp hs (by omega) (by omega) cb.1
  refine ⟨ν, fun d => ?_, p2, L, Nat.add_zero _, by rw [p4, e1], e3, p3, fun j hj => ?_, fun i hi => absurd hi (by omega), ?_, ?_, e9⟩
  · refine Eq.trans b231_0 ?_
    refine x_bind (s232 (by omega) (by omega)) ?_
    exact p1 (d + 1)
  · by_cases y : j < k
    · rw [(p6 j y).1, (p6 j y).2]
      exact e5 j y
    · have q := p7 (j - k) (by omega)
      rw [show k + (j - k) = j by omega] at q
      rw [q.1, q.2]
      have := e6 (j - k) (by omega)
      rw [show k + (j - k) = j by omega] at this
      exact this
  · rw [show ν 100 36 = μ 100 36 from chg_at p2 rfl rfl]
    exact e7
  · rw [p5, c22]
    omega
/-- a code is held and the next token read -/
theorem sj_hold {c : Int} {a' : Nat} (hb : ∀ i, 0 ≤ tx i ∧ tx i ≤ 255) (ha : (a' : Int) = a + (if c = 30 ∨ c = 22 then 1 else 0)) (hn : n ≤ 200) (h7 : a ≤ 7) (hJ : JW tx n a h 0 L σ μ) (k0 : σ 1 5 ≠ 0) (k4 : σ 1 5 ≠ 4) : ∃ τ ν1 ν, (∀ d, Ev X (d + 5) 159 0 [some (vr 1), none] [] SH σ = some (none, SH, τ)) ∧ (∀ d, Ev X d 236 0 [some (vr 100), some (vi c)] [] SH μ = some (none, SH, ν1)) ∧ (∀ d, Ev X (d + 1) 198 0 [some (vr 100), none, none] [] SH ν1 = some (none, SH, ν)) ∧ JW tx n a' (h + 1) 0 L τ ν ∧ ν 120 h = c ∧ (∀ j, j < h → ν 120 j = μ 120 j) ∧ chg [] CT σ τ ∧ chg [120] WM μ ν := by
  obtain ⟨hT, hS, hB⟩ := hJ
  have bd := TJ_le hT hn
  obtain ⟨k, e1, e2, e3, e4, e5, e6, e7, e8, e9⟩ := hS
  rw [c22] at e8
  obtain ⟨ν1, p1, p2, p3, p4, p5⟩ := s236x (X := X) (μ := μ) (h := h) (c := c) (by rw [e4, Nat.add_zero]) (by omega) (by omega)
  obtain ⟨τ, ν, q1, q2, q3, q4, q5, q6⟩ := tj_adv (X := X) hb hn (TJ_cc chg_rf (chg_mo (by decide) p2) hT) k0 k4
  have s7 : ν1 100 7 = μ 100 7 := chg_at p2 rfl rfl
  have s120 : ν 120 = ν1 120 := chg_row q4 (fun _ => rfl) rfl
  refine ⟨τ, ν1, ν, q1, p1, q2, ⟨q5, SJ_cg q3 q4 ⟨k, e1, ?_, e3, ?_, ?_, fun i hi => absurd hi (by omega), ?_, ?_, e9⟩, by omega⟩, ?_, fun j hj => ?_, q3, chg_tr (chg_mo (by decide) p2) (chg_mo (by decide) q4)⟩
  · exact (chg_at p2 rfl rfl).trans e2
  · rw [p3, Nat.add_zero]
  · rw [show ν1 116 = μ 116 from chg_row p2 (fun _ => rfl) rfl, show ν1 117 = μ 117 from chg_row p2 (fun _ => rfl) rfl]
    exact e5
  · rw [show ν1 100 36 = μ 100 36 from chg_at p2 rfl rfl]
    exact e7
  · rw [p4, c22]
    omega
  · rw [s120, p5, if_pos rfl]
  · rw [s120, p5, if_neg (by omega)]
/-- the class puts the code that the model holds at h -/
theorem sj_put {x : Int} {a' : Nat} (hn : n ≤ 200) (hJ : JW tx n a' (h + 1) m L σ μ) (ha : (a' : Int) = a + (if μ 120 h = 22 then 1 else 0)) (he : enc x (μ 120 h) 0) (hd : dl x ≤ 0) : ∃ τ, (∀ d, Ev X d 82 0 [some (vr 10), some (vi x)] [] SH σ = some (some (vi 1), SH, τ)) ∧ chg [12] WC0 σ τ ∧ JW tx n a h (m + 1) (L + 1) τ μ ∧ (∀ i, i < L → τ 12 i = σ 12 i) ∧ τ 12 L = x := by
  obtain ⟨hT, hS, hB⟩ := hJ
  have bd := TJ_le hT hn
  obtain ⟨k, e1, e2, e3, e4, e5, e6, e7, e8, e9⟩ := hS
  have xL : xadd (L : Int) 1 = ((L + 1 : Nat) : Int) := xadd_eq (by omega) (by omega)
  have ct : chg [12] WC0 σ (xwr (xwr σ 12 L x) 10 5 ((L + 1 : Nat) : Int)) := chg_wr rfl (chg_wr rfl chg_rf)
  have r12 : ∀ i, (xwr (xwr σ 12 L x) 10 5 ((L + 1 : Nat) : Int)) 12 i = if i = L then x else σ 12 i := by
    intro i
    rw [xwr_row (by decide), xwr_rw]
  refine ⟨xwr (xwr σ 12 L x) 10 5 ((L + 1 : Nat) : Int), fun d => ?_, ct, ⟨TJ_cc ct chg_rf hT, ⟨k, by omega, e2, xwr_eq, by rw [e4]; omega, fun j hj => ?_, fun i hi => ?_, ?_, ?_, fun i hi => ?_⟩, by omega⟩, fun i hi => ?_, ?_⟩
  · rw [b82_0, if_pos (by omega), b82_18 (by omega), e3, Int.toNat_natCast, xL]
  · rw [r12, if_neg (by omega)]
    exact e5 j hj
  · rw [r12]
    by_cases y : i = m
    · subst y
      rw [if_pos e1, show h + (i + 1 - 1 - i) = h by omega]
      exact he
    · rw [if_neg (by omega), show h + (m + 1 - 1 - i) = h + 1 + (m - 1 - i) by omega]
      exact e6 i (by omega)
  · rw [xwr_nj (by decide), xwr_nk (by decide)]
    exact e7
  · rw [c22_sh]
    omega
  · rw [xwr_nj (by decide), xwr_nk (by decide)]
    by_cases y : i = L + 1
    · subst y
      rw [dp, r12, if_pos rfl, dp_cg L (fun j hj => (r12 j).trans (if_neg (by omega)))]
      have := e9 L (Nat.le_refl _)
      omega
    · rw [dp_cg i (fun j hj => (r12 j).trans (if_neg (by omega)))]
      exact e9 i (by omega)
  · rw [r12, if_neg (by omega)]
  · rw [r12, if_pos rfl]
theorem GR_put {x : Int} (g : GR L σ τ L') (k : ∀ i, i < L' → ρ 12 i = τ 12 i) (e : ρ 12 L' = x) (hd : dl x = 0) : GR L σ ρ (L' + 1) := by
  obtain ⟨g1, g2, g3, g4⟩ := g
  have q : dp (ρ 12) (L' + 1) = dp (σ 12) L + 1 := by
    rw [dp, e, hd, dp_cg L' k, g4]
    omega
  refine ⟨by omega, fun i hi => (k i (by omega)).trans (g2 i hi), fun i h1 h2 => ?_, q⟩
  by_cases y : i = L' + 1
  · subst y
    omega
  · rw [dp_cg i (fun j hj => k j (by omega))]
    exact g3 i h1 (by omega)
theorem GR_bin {x : Int} {ω τ' : xM} {K : Nat} (g : GR L σ τ L') (w : τ' 12 = τ 12) (g' : GR L' τ' ρ K) (k : ∀ i, i < K → ω 12 i = ρ 12 i) (e : ω 12 K = x) (hd : dl x = -1) : GR L σ ω (K + 1) := by
  obtain ⟨g1, g2, g3, g4⟩ := g
  obtain ⟨u1, u2, u3, u4⟩ := g'
  rw [w] at u2 u3 u4
  have q : dp (ω 12) (K + 1) = dp (σ 12) L + 1 := by
    rw [dp, e, hd, dp_cg K k, u4, g4]
    omega
  refine ⟨by omega, fun i hi => (k i (by omega)).trans ((u2 i (by omega)).trans (g2 i hi)), fun i h1 h2 => ?_, q⟩
  by_cases y : i = K + 1
  · subst y
    omega
  · rw [dp_cg i (fun j hj => k j (by omega))]
    by_cases z : i ≤ L'
    · rw [dp_cg i (fun j hj => u2 j (by omega))]
      exact g3 i h1 z
    · have := u3 i (by omega) (by omega)
      omega
end WJ
