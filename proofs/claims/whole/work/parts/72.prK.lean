/-! PAIRS: extreme -/
section PRK
variable {X : Nat × (Nat → Int)} {σ τ : xM} {w : Nat → Int} {a : Int} {f s : Nat}
theorem dgl_len (n : Nat) : ∀ k, (dgl n k).length = k
  | 0 => rfl
  | k + 1 => by rw [dgl, List.length_cons, dgl_len n k]
theorem dgl_lt (n : Nat) : ∀ k, ∀ x ∈ dgl n k, x < 10
  | 0, x, hx => by simp [dgl] at hx
  | k + 1, x, hx => by
    rw [dgl] at hx
    rcases List.mem_cons.mp hx with rfl | hx
    · exact Nat.mod_lt _ (by decide)
    · exact dgl_lt n k x hx
theorem val_dgl (n : Nat) : ∀ k, val (dgl n k) = n % 10 ^ k
  | 0 => by simp [dgl, val, Nat.mod_one]
  | k + 1 => by
    rw [dgl, show val ((n / 10 ^ k % 10) :: dgl n k) = (n / 10 ^ k % 10) * 10 ^ (dgl n k).length + val (dgl n k) from rfl, dgl_len, val_dgl n k, Nat.pow_succ]
    have h := Nat.mod_mul (x := n) (a := 10 ^ k) (b := 10)
    rw [h, Nat.mul_comm (n / 10 ^ k % 10)]
    omega
theorem dgl_val : ∀ ds : List Nat, (∀ x ∈ ds, x < 10) → ∀ n, n % 10 ^ ds.length = val ds → dgl n ds.length = ds
  | [], _, _, _ => rfl
  | g :: gs, h, n, e => by
    have hg := h g List.mem_cons_self
    have hl := val_lt gs (fun x hx => h x (List.mem_cons_of_mem _ hx))
    rw [List.length_cons] at e ⊢
    rw [Nat.pow_succ, Nat.mod_mul, show val (g :: gs) = g * 10 ^ gs.length + val gs from rfl, Nat.mul_comm g] at e
    have p : 0 < 10 ^ gs.length := Nat.pow_pos (by decide)
    have m1 : n % 10 ^ gs.length < 10 ^ gs.length := Nat.mod_lt _ p
    have e1 : n % 10 ^ gs.length = val gs := by
      have a1 : (n % 10 ^ gs.length + 10 ^ gs.length * (n / 10 ^ gs.length % 10)) % 10 ^ gs.length = n % 10 ^ gs.length := by
        rw [Nat.add_mul_mod_self_left, Nat.mod_mod]
      have a2 : (10 ^ gs.length * g + val gs) % 10 ^ gs.length = val gs := by
        rw [Nat.mul_add_mod, Nat.mod_eq_of_lt hl]
      rw [e, a2] at a1
      exact a1.symm
    have e2 : n / 10 ^ gs.length % 10 = g := by
      rw [e1] at e
      have : 10 ^ gs.length * (n / 10 ^ gs.length % 10) = 10 ^ gs.length * g := by omega
      exact Nat.eq_of_mul_eq_mul_left p this
    rw [dgl, e2, dgl_val gs (fun x hx => h x (List.mem_cons_of_mem _ hx)) n e1]
/-- the numbers that can be asked for -/
def loN (f : Nat) : Nat := if f = 1 then 0 else 10 ^ (f - 1)
def Vn (w : Nat → Int) (s f n : Nat) : Prop := loN f ≤ n ∧ n < 10 ^ f ∧ Ly w (dgl n f) s
theorem Cb_Vn (hf : 0 < f) (ds : List Nat) : Cb w (fun t => t = s) f (if f = f ∧ 1 < f then 1 else 0) ds → Vn w s f (val ds) ∧ dgl (val ds) f = ds := by
  rintro ⟨h1, h2, h3, t, rfl, h5⟩
  have v := val_lt ds h2
  rw [h1] at v
  have e : dgl (val ds) f = ds := by
    rw [← h1]
    exact dgl_val ds h2 _ (Nat.mod_eq_of_lt (by rw [h1]; exact v))
  refine ⟨⟨?_, v, by rw [e]; exact h5⟩, e⟩
  unfold loN
  by_cases z : f = 1
  · rw [if_pos z]; exact Nat.zero_le _
  · rw [if_neg z]
    rw [if_pos ⟨rfl, by omega⟩] at h3
    cases ds with
    | nil => simp at h1; omega
    | cons g gs =>
      have g1 := h3 g rfl
      have l : gs.length = f - 1 := by simp at h1; omega
      rw [show val (g :: gs) = g * 10 ^ gs.length + val gs from rfl, l]
      have := Nat.mul_le_mul_right (10 ^ (f - 1)) g1
      omega
theorem Vn_Cb (hf : 0 < f) {n : Nat} (h : Vn w s f n) : Cb w (fun t => t = s) f (if f = f ∧ 1 < f then 1 else 0) (dgl n f) ∧ val (dgl n f) = n := by
  obtain ⟨h1, h2, h3⟩ := h
  refine ⟨⟨dgl_len n f, dgl_lt n f, fun g hg => ?_, s, rfl, h3⟩, by rw [val_dgl, Nat.mod_eq_of_lt h2]⟩
  by_cases z : f = f ∧ 1 < f
  · rw [if_pos z]
    obtain ⟨k, rfl⟩ : ∃ k, f = k + 1 := ⟨f - 1, by omega⟩
    rw [dgl] at hg
    have hg : n / 10 ^ k % 10 = g := by simpa using hg
    unfold loN at h1
    rw [if_neg (by omega), Nat.add_sub_cancel] at h1
    have q1 : 1 ≤ n / 10 ^ k := Nat.div_pos h1 (Nat.pow_pos (by decide))
    have q2 : n / 10 ^ k < 10 := by
      rw [Nat.div_lt_iff_lt_mul (Nat.pow_pos (by decide)), Nat.mul_comm, ← Nat.pow_succ]
      exact h2
    rw [Nat.mod_eq_of_lt q2] at hg
    omega
  · rw [if_neg z]; exact Nat.zero_le _
/-- what both sides answer -/
def EXo (w : Nat → Int) (s f : Nat) (a R : Int) : Prop := (R = -1 ∧ ∀ n, ¬ Vn w s f n) ∨ (∃ n : Nat, Vn w s f n ∧ R = n ∧ ∀ n', Vn w s f n' → btr a n n')
theorem EXo_uq {R R' : Int} (h : EXo w s f a R) (h' : EXo w s f a R') : R = R' := by
  rcases h with ⟨h1, h2⟩ | ⟨n, n1, n2, n3⟩
  · rcases h' with ⟨k1, k2⟩ | ⟨m, m1, m2, m3⟩
    · rw [h1, k1]
    · exact absurd m1 (h2 m)
  · rcases h' with ⟨k1, k2⟩ | ⟨m, m1, m2, m3⟩
    · exact absurd n1 (k2 n)
    · have q1 := n3 m m1
      have q2 := m3 n n1
      unfold btr at q1 q2
      rw [n2, m2]
      by_cases z : a = 0
      · rw [if_pos z] at q1 q2; omega
      · rw [if_neg z] at q1 q2; omega
theorem s110 (hF : Cform σ) (hf : 1 ≤ f) (hf5 : f ≤ 5) (hs : 1 ≤ s) (hs2 : s ≤ 35) : ∃ R τ, EXo (σ 102) s f a R ∧ chg [97] [] σ τ ∧ ∀ d, Ev X (d + 3) 110 0 [some (vr 96), some (vi s), some (vi f), some (vi a), none, none, none, none, none, none] [] SH σ = some (some (vi R), SH, τ) := by
  obtain ⟨τ, t1, c, t3⟩ := s112 (X := X) hF
  have p35 : 2 ^ s < 2 ^ 43 := Nat.pow_lt_pow_right (by decide) (by omega)
  obtain ⟨R, o, r⟩ := it110 (X := X) (a := a) hF c t3 hf5 (some (vi s)) f (Nat.le_refl f) (fun t => t = s) (2 ^ s) 0 (fun t => by rw [Nat.testBit_two_pow, decide_eq_true_eq]; exact eq_comm) p35 (Nat.pow_pos (by decide)) (fun y => by omega) (by omega)
  refine ⟨R, τ, ?_, c, fun d => ?_⟩
  · rcases o with ⟨o1, o2⟩ | ⟨ds, o1, o2, o3⟩
    · exact Or.inl ⟨o1, fun n hn => o2 _ (Vn_Cb (by omega) hn).1⟩
    · refine Or.inr ⟨val ds, (Cb_Vn (by omega) ds o1).1, by rw [o2]; omega, fun n' hn' => ?_⟩
      obtain ⟨k1, k2⟩ := Vn_Cb (by omega) hn'
      have := o3 _ k1
      rw [k2] at this
      exact this
  · have l1 := lshl_nat (a := 1) (k := s) (by omega) (by omega)
    have l1 : lshl' 1 (s : Int) = _ := l1
    rw [Nat.one_mul] at l1
    have x1 : xsub (f : Int) 1 = (f : Int) - 1 := xsub_eq (by omega) (by omega)
    have s111' := fun d => s111 (X := X) (d := d) (σ := σ) (a0 := (s : Int)) (a1 := (f : Int))
    have v : f111 σ s f = 1 := by
      unfold f111
      rw [if_neg (by omega), if_neg (by omega), if_neg (by omega), if_neg (by omega)]
    rw [v] at s111'
    refine Eq.trans b110_0 ?_
    refine x_bind (s111' (d + 2)) ?_
    dsimp only
    refine Eq.trans b110_5 ?_
    rw [if_pos (by decide)]
    refine Eq.trans b110_10 ?_
    refine x_bind (t1 d) ?_
    dsimp only
    refine Eq.trans b110_14 ?_
    rw [l1, x1]
    exact r d _ _
/-- the model's search, from the least number on -/
theorem it287 (hW : WF (σ 102)) (hf : 1 ≤ f) (hf5 : f ≤ 5) (hs2 : s ≤ 35) : ∀ (q n : Nat) (v : Int), n + q = 10 ^ f → loN f ≤ n → ((v = -1 ∧ ∀ n', n' < n → ¬ Vn (σ 102) s f n') ∨ (a ≠ 0 ∧ ∃ m : Nat, m < n ∧ v = m ∧ Vn (σ 102) s f m ∧ ∀ n', n' < n → Vn (σ 102) s f n' → n' ≤ m)) → ∃ R, EXo (σ 102) s f a R ∧ ∀ d, Ev X (d + 2) 287 30 [some (vr 100), some (vi s), some (vi f), some (vi a), some (vi v), some (vi n)] [] SH σ = some (some (vi R), SH, σ) := by
  have pw := s289 (X := X) (σ := σ) hf5
  have p5 := p10 hf5
  intro q
  induction q with
  | zero =>
    intro n v e hl h
    obtain rfl : n = 10 ^ f := by omega
    refine ⟨v, ?_, fun d => ?_⟩
    · rcases h with ⟨h1, h2⟩ | ⟨ha, m, m1, m2, m3, m4⟩
      · exact Or.inl ⟨h1, fun n hn => h2 n hn.2.1 hn⟩
      · refine Or.inr ⟨m, m3, m2, fun n' hn' => ?_⟩
        unfold btr
        rw [if_neg ha]
        exact m4 n' hn'.2.1 hn'
    · refine Eq.trans b287_30 ?_
      refine x_bind (pw _) ?_
      dsimp only
      refine Eq.trans b287_36 ?_
      rw [if_pos (Int.le_refl _), b287_70]
  | succ q ih =>
    intro n v e hl h
    have s1 := s290 (X := X) (n := n) hW hf5 (by omega) hs2
    have e1 : ∀ d, Ev X (d + 2) 287 30 [some (vr 100), some (vi s), some (vi f), some (vi a), some (vi v), some (vi n)] [] SH σ = Ev X (d + 2) 287 47 [some (vr 100), some (vi s), some (vi f), some (vi a), some (vi v), some (vi n)] [vi (lyI (σ 102) (dgl n f) s)] SH σ := by
      intro d
      refine Eq.trans b287_30 ?_
      refine x_bind (pw _) ?_
      dsimp only
      refine Eq.trans b287_36 ?_
      rw [if_neg (by omega)]
      refine Eq.trans b287_39 ?_
      refine x_bind (s1 d) ?_
      rfl
    by_cases y : Ly (σ 102) (dgl n f) s
    · have v1 : lyI (σ 102) (dgl n f) s = 1 := if_pos y
      have vn : Vn (σ 102) s f n := ⟨hl, by omega, y⟩
      by_cases ha : a = 0
      · refine ⟨n, Or.inr ⟨n, vn, rfl, fun n' hn' => ?_⟩, fun d => ?_⟩
        · unfold btr
          rw [if_pos ha]
          refine Nat.le_of_not_lt (fun z => ?_)
          rcases h with ⟨h1, h2⟩ | ⟨ha', _⟩
          · exact h2 n' z hn'
          · exact ha' ha
        · rw [e1, v1, b287_47, if_pos (by decide), b287_53, if_neg (fun z => z ha), b287_57]
      · obtain ⟨R, o, r⟩ := ih (n + 1) n (by omega) (by omega) (Or.inr ⟨ha, n, by omega, rfl, vn, fun n' h1 _ => by omega⟩)
        refine ⟨R, o, fun d => ?_⟩
        rw [e1, v1, b287_47, if_pos (by decide), b287_53, if_pos ha, b287_60, b287_64, xadd_eq (by omega) (by omega)]
        exact r d
    · have v1 : lyI (σ 102) (dgl n f) s = 0 := if_neg y
      have nv : ¬ Vn (σ 102) s f n := fun z => y z.2.2
      obtain ⟨R, o, r⟩ := ih (n + 1) v (by omega) (by omega) (by
        rcases h with ⟨h1, h2⟩ | ⟨ha, m, m1, m2, m3, m4⟩
        · refine Or.inl ⟨h1, fun n' hn' hv => ?_⟩
          by_cases z : n' = n
          · subst z; exact nv hv
          · exact h2 n' (by omega) hv
        · refine Or.inr ⟨ha, m, by omega, m2, m3, fun n' hn' hv => ?_⟩
          by_cases z : n' = n
          · subst z; exact absurd hv nv
          · exact m4 n' (by omega) hv)
      refine ⟨R, o, fun d => ?_⟩
      rw [e1, v1, b287_47, if_neg (by decide), b287_50, b287_64, xadd_eq (by omega) (by omega)]
      exact r d
theorem loN_le (hf : 1 ≤ f) : loN f ≤ 10 ^ f := by
  unfold loN
  split
  · exact Nat.zero_le _
  · exact Nat.pow_le_pow_right (by decide) (by omega)
theorem s287 (hW : WF (σ 102)) (hf : 1 ≤ f) (hf5 : f ≤ 5) (hs : 1 ≤ s) (hs2 : s ≤ 35) : ∃ R, EXo (σ 102) s f a R ∧ ∀ d, Ev X (d + 3) 287 0 [some (vr 100), some (vi s), some (vi f), some (vi a), none, none] [] SH σ = some (some (vi R), SH, σ) := by
  have ll := loN_le hf
  obtain ⟨R, o, r⟩ := it287 (X := X) (a := a) (s := s) hW hf hf5 hs2 (10 ^ f - loN f) (loN f) (-1) (by omega) (Nat.le_refl _) (Or.inl ⟨rfl, fun n' h1 hv => by have := hv.1; omega⟩)
  refine ⟨R, o, fun d => ?_⟩
  have s288' := fun d => s288 (X := X) (d := d) (σ := σ) (a0 := (s : Int)) (a1 := (f : Int))
  have v : f288 σ s f = 1 := by
    unfold f288
    rw [if_neg (by omega), if_neg (by omega), if_neg (by omega), if_neg (by omega)]
  rw [v] at s288'
  refine Eq.trans b287_0 ?_
  refine x_bind (s288' (d + 2)) ?_
  dsimp only
  refine Eq.trans b287_5 ?_
  rw [if_pos (by decide), b287_10]
  by_cases z : f = 1
  · have l0 : loN f = 0 := if_pos z
    rw [l0] at r
    rw [if_neg (by omega), b287_18, b287_28]
    exact r (d + 1)
  · have l0 : loN f = 10 ^ (f - 1) := if_neg z
    rw [l0] at r
    have pw := s289 (X := X) (σ := σ) (f := f - 1) (by omega)
    have x1 : xsub (f : Int) 1 = ((f - 1 : Nat) : Int) := by rw [xsub_eq (by omega) (by omega)]; omega
    rw [if_pos (by omega)]
    refine Eq.trans b287_22 ?_
    rw [x1]
    refine x_bind (pw _) ?_
    dsimp only
    refine Eq.trans b287_28 ?_
    exact r (d + 1)
theorem pr_extreme {b c : Int} (h : Core σ) : Pair X 40 287 [some (vr 0), some (vi a), some (vi b), some (vi c)] [some (vr 100), some (vi a), some (vi b), some (vi c), none, none] σ (Post σ) := by
  by_cases ok : 1 ≤ a ∧ a ≤ 35 ∧ 1 ≤ b ∧ b ≤ 5
  · obtain ⟨s, rfl⟩ : ∃ s : Nat, a = s := ⟨a.toNat, by omega⟩
    obtain ⟨f, rfl⟩ : ∃ f : Nat, b = f := ⟨b.toNat, by omega⟩
    obtain ⟨R, τ, o, cc, r⟩ := s110 (X := X) (a := c) (s := s) (f := f) h.2.1 (by omega) (by omega) (by omega) (by omega)
    have t102 : τ 102 = σ 102 := chg_row cc (fun _ => rfl) rfl
    obtain ⟨R', o', r'⟩ := s287 (X := X) (σ := τ) (a := c) (s := s) (f := f) (by rw [t102]; exact h.2.1.2.1) (by omega) (by omega) (by omega) (by omega)
    rw [t102] at o'
    obtain rfl := EXo_uq o o'
    refine ⟨R, τ, τ, fun d => ?_, fun d => r' (d + 97), Post_sc h (chg_mo rfl cc)⟩
    simp (disch := first | omega | assumption | (simp (disch := omega) only [ite_self, Int.reduceAdd, xadd_eq, xsub_eq, xmul_eq, xneg_eq, xwr_eq, xwr_nk, xwr_nj, Int.toNat_natCast, x_nc] <;> first | omega | assumption) | fail) only [↓if_pos, ↓if_neg, ↓b40_0, ↓b40_10, ↓r, x_bdi, x_bdn, ite_self, Int.reduceAdd, xadd_eq, xsub_eq, xmul_eq, xneg_eq, xwr_eq, xwr_nk, xwr_nj, Int.toNat_natCast, x_nc]
  · have v : f111 σ a b = 0 := by
      unfold f111
      repeat' split
      all_goals omega
    have v2 : f288 σ a b = 0 := by
      unfold f288
      repeat' split
      all_goals omega
    have s111' := fun d => s111 (X := X) (d := d) (σ := σ) (a0 := a) (a1 := b)
    have s288' := fun d => s288 (X := X) (d := d) (σ := σ) (a0 := a) (a1 := b)
    rw [v] at s111'
    rw [v2] at s288'
    refine Pair_q0 (r := -1) (r' := -1) h (fun d => ?_) (fun d => ?_) rfl
    · simp (disch := first | omega | assumption | (simp (disch := omega) only [ite_self, Int.reduceAdd, xadd_eq, xsub_eq, xmul_eq, xneg_eq, xwr_eq, xwr_nk, xwr_nj, Int.toNat_natCast, x_nc] <;> first | omega | assumption) | fail) only [↓if_pos, ↓if_neg, ↓b40_0, ↓b40_10, ↓b110_0, ↓b110_5, ↓b110_10, ↓b110_8, ↓b110_14, ↓b110_99, ↓b110_32, ↓b110_49, ↓b110_40, ↓b110_50, ↓b110_45, ↓b110_63, ↓b110_73, ↓b110_71, ↓b110_91, ↓s111', x_bdi, x_bdn, ite_self, Int.reduceAdd, xadd_eq, xsub_eq, xmul_eq, xneg_eq, xwr_eq, xwr_nk, xwr_nj, Int.toNat_natCast, x_nc]
    · simp (disch := first | omega | assumption | (simp (disch := omega) only [ite_self, Int.reduceAdd, xadd_eq, xsub_eq, xmul_eq, xneg_eq, xwr_eq, xwr_nk, xwr_nj, Int.toNat_natCast, x_nc] <;> first | omega | assumption) | fail) only [↓if_pos, ↓if_neg, ↓b287_0, ↓b287_5, ↓b287_10, ↓b287_8, ↓b287_22, ↓b287_18, ↓b287_28, ↓b287_36, ↓b287_70, ↓b287_39, ↓b287_47, ↓b287_53, ↓b287_50, ↓b287_60, ↓b287_57, ↓b287_64, ↓s288', x_bdi, x_bdn, ite_self, Int.reduceAdd, xadd_eq, xsub_eq, xmul_eq, xneg_eq, xwr_eq, xwr_nk, xwr_nj, Int.toNat_natCast, x_nc]
end PRK
