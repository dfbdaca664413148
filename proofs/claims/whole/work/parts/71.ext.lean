/-! Numerals.outermost -/
def val : List Nat → Nat
  | [] => 0
  | g :: gs => g * 10 ^ gs.length + val gs
def Cb (w : Nat → Int) (S : Nat → Prop) (b l : Nat) (ds : List Nat) : Prop := ds.length = b ∧ (∀ x ∈ ds, x < 10) ∧ (∀ g, ds.head? = some g → l ≤ g) ∧ ∃ t, S t ∧ Ly w ds t
def Fs (w : Nat → Int) (S : Nat → Prop) (b g : Nat) : Prop := ∃ t, RB2 w g S t ∧ TL w b t
def btr (a : Int) (x y : Nat) : Prop := if a = 0 then x ≤ y else y ≤ x
section EXT
variable {X : Nat × (Nat → Int)} {σ τ : xM} {w : Nat → Int} {S : Nat → Prop} {b l g : Nat} {gs : List Nat} {a : Int}
theorem val_lt : ∀ ds : List Nat, (∀ x ∈ ds, x < 10) → val ds < 10 ^ ds.length
  | [], _ => by simp [val]
  | g :: gs, h => by
    have h1 := val_lt gs (fun x hx => h x (List.mem_cons_of_mem _ hx))
    have h2 := h g List.mem_cons_self
    unfold val
    rw [List.length_cons, Nat.pow_succ]
    have : g * 10 ^ gs.length ≤ 9 * 10 ^ gs.length := Nat.mul_le_mul_right _ (by omega)
    omega
theorem Cb_cons : Cb w S (b + 1) l (g :: gs) ↔ l ≤ g ∧ g < 10 ∧ Cb w (RB2 w g S) b 0 gs := by
  constructor
  · rintro ⟨h1, h2, h3, t, h4, s, h5, h6, h7⟩
    refine ⟨h3 g rfl, h2 g List.mem_cons_self, by simpa using h1, fun x hx => h2 x (List.mem_cons_of_mem _ hx), fun _ _ => Nat.zero_le _, t - s, ⟨s, h5, ?_⟩, h7⟩
    rw [show t - s + s = t by omega]
    exact h4
  · rintro ⟨h1, h2, h3, h4, h5, t, ⟨s, h6, h7⟩, h8⟩
    refine ⟨by rw [List.length_cons, h3], fun x hx => ?_, fun y hy => ?_, t + s, h7, s, h6, by omega, ?_⟩
    · rcases List.mem_cons.mp hx with rfl | hx
      · exact h2
      · exact h4 x hx
    · have : g = y := by simpa using hy
      omega
    · rw [show t + s - s = t by omega]
      exact h8
theorem Fs_Cb (h : Fs w S b g) : ∃ gs, Cb w (RB2 w g S) b 0 gs := by
  obtain ⟨t, h1, gs, h2, h3, h4⟩ := h
  exact ⟨gs, h2, h3, fun _ _ => Nat.zero_le _, t, h1, h4⟩
theorem Cb_Fs (h : Cb w (RB2 w g S) b 0 gs) : Fs w S b g := by
  obtain ⟨h1, h2, h3, t, h4, h5⟩ := h
  exact ⟨t, h4, gs, h1, h2, h5⟩
/-- the digits in the order in which they are tried -/
def dgO (a : Int) (l i : Nat) : Nat := if a = 0 then i else 9 - i + l
theorem it113 (hF : Cform σ) (c : chg [97] [] σ τ) (ht : tlsOk (σ 102) τ 5) {m : Nat} (hb : b ≤ 5) (hS : mkL S m) (hm : m < 2 ^ 43) (hl : l ≤ 1) : ∀ (q i : Nat) (o7 : Option xV), i + q = 10 → l ≤ i → (∀ j, l ≤ j → j < i → ¬ Fs (σ 102) S b (dgO a l j)) → ∃ D : Int, ((D = -1 ∧ ∀ j, l ≤ j → j < 10 → ¬ Fs (σ 102) S b (dgO a l j)) ∨ (∃ j, l ≤ j ∧ j < 10 ∧ D = (dgO a l j : Nat) ∧ Fs (σ 102) S b (dgO a l j) ∧ ∀ j', l ≤ j' → j' < j → ¬ Fs (σ 102) S b (dgO a l j'))) ∧ ∀ d, Ev X (d + 2) 113 4 [some (vr 96), some (vl m), none, some (vi b), some (vi l), some (vi a), some (vi i), o7] [] SH τ = some (some (vi D), SH, τ) := by
  intro q
  induction q with
  | zero =>
    intro i o7 e h1 h2
    obtain rfl : i = 10 := by omega
    refine ⟨-1, Or.inl ⟨rfl, h2⟩, fun d => ?_⟩
    rw [b113_4, if_pos (by omega), b113_55]
  | succ q ih =>
    intro i o7 e h1 h2
    have d9 : dgO a l i < 10 := by
      unfold dgO
      split <;> omega
    have e1 : ∀ d, Ev X (d + 2) 113 4 [some (vr 96), some (vl m), none, some (vi b), some (vi l), some (vi a), some (vi i), o7] [] SH τ = Ev X (d + 2) 113 29 [some (vr 96), some (vl m), none, some (vi b), some (vi l), some (vi a), some (vi i), o7] [vi (dgO a l i : Nat)] SH τ := by
      intro d
      rw [b113_4, if_neg (by omega), b113_11]
      by_cases z : a = 0
      · have : dgO a l i = i := if_pos z
        rw [if_pos z, b113_27, this]
      · have : dgO a l i = 9 - i + l := if_neg z
        have y : xsub 9 (i : Int) = 9 - (i : Int) := xsub_eq (by omega) (by omega)
        rw [if_neg z, b113_16, this, y, xadd_eq (by omega) (by omega), show (9 - (i : Int) + (l : Int)) = ((9 - i + l : Nat) : Int) by omega]
    have s1 := s114R (X := X) hF c (g := dgO a l i) d9 hm
    have s2 := s115R (X := X) ht hb (rbM_S (w := σ 102) (g := dgO a l i) hS) (rbM_lt hm)
    have e2 : ∀ d, Ev X (d + 2) 113 29 [some (vr 96), some (vl m), none, some (vi b), some (vi l), some (vi a), some (vi i), o7] [vi (dgO a l i : Nat)] SH τ = Ev X (d + 2) 113 43 [some (vr 96), some (vl m), none, some (vi b), some (vi l), some (vi a), some (vi i), some (vi (dgO a l i : Nat))] [vi (ceI (σ 102) b (RB2 (σ 102) (dgO a l i) S))] SH τ := by
      intro d
      refine Eq.trans b113_29 ?_
      refine x_bind (s1 d) ?_
      dsimp only
      refine Eq.trans b113_39 ?_
      refine x_bind (s2 (d + 1)) ?_
      rfl
    by_cases f : Fs (σ 102) S b (dgO a l i)
    · refine ⟨(dgO a l i : Nat), Or.inr ⟨i, h1, by omega, rfl, f, h2⟩, fun d => ?_⟩
      have v : ceI (σ 102) b (RB2 (σ 102) (dgO a l i) S) = 1 := if_pos f
      rw [e1, e2, v, b113_43, if_neg (by decide), b113_46]
    · obtain ⟨D, o, r⟩ := ih (i + 1) (some (vi (dgO a l i : Nat))) (by omega) (by omega) (fun j j1 j2 => by
        by_cases y : j = i
        · subst y; exact f
        · exact h2 j j1 (by omega))
      refine ⟨D, o, fun d => ?_⟩
      have v : ceI (σ 102) b (RB2 (σ 102) (dgO a l i) S) = 0 := if_neg f
      rw [e1, e2, v, b113_43, if_pos rfl, b113_49, xadd_eq (by omega) (by omega)]
      exact r d
/-- outermostDigit: none, or the outermost that can be -/
theorem s113 (hF : Cform σ) (c : chg [97] [] σ τ) (ht : tlsOk (σ 102) τ 5) {m : Nat} (hb : b ≤ 5) (hS : mkL S m) (hm : m < 2 ^ 43) (hl : l ≤ 1) : ∃ D : Int, ((D = -1 ∧ ∀ g, l ≤ g → g < 10 → ¬ Fs (σ 102) S b g) ∨ (∃ g : Nat, l ≤ g ∧ g < 10 ∧ D = g ∧ Fs (σ 102) S b g ∧ ∀ g', l ≤ g' → g' < 10 → Fs (σ 102) S b g' → btr a g g')) ∧ ∀ d, Ev X (d + 2) 113 0 [some (vr 96), some (vl m), none, some (vi b), some (vi l), some (vi a), none, none] [] SH τ = some (some (vi D), SH, τ) := by
  obtain ⟨D, o, r⟩ := it113 (X := X) (a := a) hF c ht hb hS hm hl (10 - l) l none (by omega) (Nat.le_refl l) (fun j j1 j2 => by omega)
  have inv : ∀ g, l ≤ g → g < 10 → ∃ j, l ≤ j ∧ j < 10 ∧ dgO a l j = g := by
    intro g g1 g2
    unfold dgO
    by_cases z : a = 0
    · exact ⟨g, g1, g2, if_pos z⟩
    · exact ⟨9 - g + l, by omega, by omega, by rw [if_neg z]; omega⟩
  refine ⟨D, ?_, fun d => by rw [b113_0]; exact r d⟩
  rcases o with ⟨o1, o2⟩ | ⟨j, j1, j2, j3, j4, j5⟩
  · refine Or.inl ⟨o1, fun g g1 g2 => ?_⟩
    obtain ⟨j, j1, j2, j3⟩ := inv g g1 g2
    rw [← j3]
    exact o2 j j1 j2
  · refine Or.inr ⟨dgO a l j, ?_, ?_, j3, j4, fun g' g1 g2 g3 => ?_⟩
    · unfold dgO; split <;> omega
    · unfold dgO; split <;> omega
    · obtain ⟨j', k1, k2, k3⟩ := inv g' g1 g2
      have : j ≤ j' := Nat.le_of_not_lt (fun y => j5 j' k1 y (by rw [k3]; exact g3))
      unfold btr
      rw [← k3]
      unfold dgO
      by_cases z : a = 0
      · rw [if_pos z, if_pos z, if_pos z]; exact this
      · rw [if_neg z, if_neg z, if_neg z]; omega
theorem btr_val {gs' : List Nat} {g' : Nat} (h1 : ∀ x ∈ gs, x < 10) (h2 : ∀ x ∈ gs', x < 10) (hl : gs.length = gs'.length) (hg : btr a g g') (hv : g = g' → btr a (val gs) (val gs')) : btr a (val (g :: gs)) (val (g' :: gs')) := by
  have v1 := val_lt gs h1
  have v2 := val_lt gs' h2
  unfold btr at hg hv ⊢
  unfold val
  rw [hl] at v1 ⊢
  by_cases z : a = 0
  · rw [if_pos z] at hg hv ⊢
    rcases Nat.lt_or_eq_of_le hg with y | y
    · have := Nat.mul_le_mul_right (10 ^ gs'.length) (show g + 1 ≤ g' by omega)
      rw [Nat.add_mul, Nat.one_mul] at this
      omega
    · have := hv y
      rw [y]
      omega
  · rw [if_neg z] at hg hv ⊢
    rcases Nat.lt_or_eq_of_le hg with y | y
    · have := Nat.mul_le_mul_right (10 ^ gs'.length) (show g' + 1 ≤ g by omega)
      rw [Nat.add_mul, Nat.one_mul] at this
      omega
    · have := hv y.symm
      rw [y]
      omega
theorem p10 {k : Nat} (h : k ≤ 5) : 10 ^ k ≤ 100000 := Nat.pow_le_pow_right (by decide) h
theorem it110 (hF : Cform σ) (c : chg [97] [] σ τ) (ht : tlsOk (σ 102) τ 5) {f : Nat} (hf : f ≤ 5) (o1 : Option xV) : ∀ (b : Nat), b ≤ f → ∀ (S : Nat → Prop) (m N : Nat), mkL S m → m < 2 ^ 43 → N < 10 ^ (f - b) → (b < f → ∃ ds, Cb (σ 102) S b 0 ds) → (0 < f) → ∃ R : Int, ((R = -1 ∧ ∀ ds, ¬ Cb (σ 102) S b (if b = f ∧ 1 < f then 1 else 0) ds) ∨ (∃ ds, Cb (σ 102) S b (if b = f ∧ 1 < f then 1 else 0) ds ∧ R = (N * 10 ^ b + val ds : Nat) ∧ ∀ ds', Cb (σ 102) S b (if b = f ∧ 1 < f then 1 else 0) ds' → btr a (val ds) (val ds'))) ∧ ∀ d (o8 o9 : Option xV), Ev X (d + 3) 110 27 [some (vr 96), o1, some (vi f), some (vi a), some (vl m), none, some (vi N), some (vi ((b : Int) - 1)), o8, o9] [] SH τ = some (some (vi R), SH, τ) := by
  intro b
  induction b with
  | zero =>
    intro _ S m N hS hm hN hfe hf0
    obtain ⟨ds, hd⟩ := hfe (by omega)
    have e0 : ds = [] := List.length_eq_zero_iff.mp hd.1
    subst e0
    refine ⟨N, Or.inr ⟨[], ?_, by simp [val], fun ds' hd' => ?_⟩, fun d o8 o9 => ?_⟩
    · rw [if_neg (by omega)]; exact hd
    · have : ds' = [] := List.length_eq_zero_iff.mp hd'.1
      rw [this]
      unfold btr
      split <;> exact Nat.le_refl _
    · rw [b110_27, if_pos (by omega), b110_99]
  | succ b ih =>
    intro hb S m N hS hm hN hfe hf0
    have n5 : 10 ^ (f - (b + 1)) ≤ 100000 := p10 (by omega)
    obtain ⟨D, o, r⟩ := s113 (X := X) (a := a) (l := if b + 1 = f ∧ 1 < f then 1 else 0) (b := b) hF c ht (by omega) hS hm (by split <;> omega)
    have e1 : ∀ d (o8 o9 : Option xV), Ev X (d + 3) 110 27 [some (vr 96), o1, some (vi f), some (vi a), some (vl m), none, some (vi N), some (vi (((b + 1 : Nat) : Int) - 1)), o8, o9] [] SH τ = Ev X (d + 3) 110 63 [some (vr 96), o1, some (vi f), some (vi a), some (vl m), none, some (vi N), some (vi b), some (vi ((if b + 1 = f ∧ 1 < f then 1 else 0 : Nat) : Int)), o9] [vi D] SH τ := by
      intro d o8 o9
      have bb : ((b + 1 : Nat) : Int) - 1 = (b : Int) := by omega
      have xf1 : xsub (f : Int) 1 = (f : Int) - 1 := xsub_eq (by omega) (by omega)
      rw [bb, b110_27, if_neg (by omega), b110_32, xf1]
      by_cases z : b + 1 = f ∧ 1 < f
      · rw [if_pos z] at r ⊢
        rw [if_neg (by omega), b110_40, if_neg (by omega), b110_45]
        refine Eq.trans b110_50 ?_
        refine x_bind (r d) ?_
        rfl
      · rw [if_neg z] at r ⊢
        have : Ev X (d + 3) 110 49 [some (vr 96), o1, some (vi f), some (vi a), some (vl m), none, some (vi N), some (vi b), o8, o9] [] SH τ = Ev X (d + 3) 110 63 [some (vr 96), o1, some (vi f), some (vi a), some (vl m), none, some (vi N), some (vi b), some (vi ((0 : Nat) : Int)), o9] [vi D] SH τ := by
          rw [b110_49]
          refine Eq.trans b110_50 ?_
          refine x_bind (r d) ?_
          rfl
        by_cases y : b + 1 = f
        · rw [if_neg (by omega), b110_40, if_pos (by omega)]
          exact this
        · rw [if_pos (by omega)]
          exact this
    rcases o with ⟨o1', o2⟩ | ⟨g, g1, g2, g3, g4, g5⟩
    · refine ⟨-1, Or.inl ⟨rfl, fun ds hd => ?_⟩, fun d o8 o9 => ?_⟩
      · cases ds with
        | nil => exact absurd hd.1 (by simp)
        | cons g gs =>
          obtain ⟨k1, k2, k3⟩ := Cb_cons.mp hd
          exact o2 g k1 k2 (Cb_Fs k3)
      · rw [e1, o1', b110_63, if_neg (by decide), b110_71]
    · have hN2 : N * 10 + g < 10 ^ (f - b) := by
        rw [show f - b = (f - (b + 1)) + 1 by omega, Nat.pow_succ]
        omega
      obtain ⟨R, oR, rR⟩ := ih (by omega) (RB2 (σ 102) g S) (rbM (σ 102) g m) (N * 10 + g) (rbM_S hS) (rbM_lt hm) hN2 (fun _ => Fs_Cb g4) hf0
      rw [if_neg (by omega)] at oR
      refine ⟨R, Or.inr ?_, fun d o8 o9 => ?_⟩
      · rcases oR with ⟨q1, q2⟩ | ⟨ds, q1, q2, q3⟩
        · obtain ⟨gs, hgs⟩ := Fs_Cb g4
          exact absurd hgs (q2 gs)
        · refine ⟨g :: ds, Cb_cons.mpr ⟨g1, g2, q1⟩, ?_, fun ds' hd' => ?_⟩
          · rw [q2, show val (g :: ds) = g * 10 ^ ds.length + val ds from rfl, q1.1, Nat.pow_succ, Nat.add_mul, Nat.mul_assoc, Nat.mul_comm 10 (10 ^ b), Nat.add_assoc]
          · cases ds' with
            | nil => exact absurd hd'.1 (by simp)
            | cons g' gs' =>
              obtain ⟨k1, k2, k3⟩ := Cb_cons.mp hd'
              refine btr_val q1.2.1 k3.2.1 (by rw [q1.1, k3.1]) (g5 g' k1 k2 (Cb_Fs k3)) (fun y => ?_)
              subst y
              exact q3 gs' k3
      · have s1 := s114R (X := X) hF c (g := g) g2 hm
        rw [e1, g3, b110_63, if_pos (by omega)]
        refine Eq.trans b110_73 ?_
        refine x_bind (s1 (d + 1)) ?_
        dsimp only
        refine Eq.trans b110_91 ?_
        have x1 : xmul (N : Int) 10 = (N : Int) * 10 := xmul_eq (by omega) (by omega)
        rw [x1, xadd_eq (by omega) (by omega), xadd_eq (by omega) (by omega), show (N : Int) * 10 + (g : Int) = ((N * 10 + g : Nat) : Int) by omega]
        exact rR d _ _
end EXT
