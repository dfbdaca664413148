/-! PAIRS: feed, apart -/
section FEED
variable {X : Nat × (Nat → Int)} {σ τ : xM} {kb ko kb' ko' : Nat} {b a1 a2 a3 a4 a5 : Int} {P : Nat → Nat → Bool}
def TR (σ τ : xM) (kb ko kb' ko' : Nat) : Prop := σ kb = τ kb' ∧ σ ko 1 = τ ko' 1
theorem ap1_TR (h1 : kb ≠ ko) (h2 : kb' ≠ ko') (h : TR σ τ kb ko kb' ko') : TR (ap1 σ kb ko b) (ap1 τ kb' ko' b) kb ko kb' ko' := by
  obtain ⟨e1, e2⟩ := h
  unfold ap1
  refine ⟨?_, ?_⟩
  · rw [xwr_row h1, xwr_row h2, xwr_rw, xwr_rw, e1, e2]
  · rw [xwr_eq, xwr_eq, e2]
theorem app4_TR (h1 : kb ≠ ko) (h2 : kb' ≠ ko') (h : TR σ τ kb ko kb' ko') : TR (app4 σ kb ko b) (app4 τ kb' ko' b) kb ko kb' ko' := ap1_TR h1 h2 (ap1_TR h1 h2 (ap1_TR h1 h2 (ap1_TR h1 h2 h)))
theorem app20_TR (h1 : kb ≠ ko) (h2 : kb' ≠ ko') (h : TR σ τ kb ko kb' ko') : TR (app20 σ kb ko a1 a2 a3 a4 a5) (app20 τ kb' ko' a1 a2 a3 a4 a5) kb ko kb' ko' := app4_TR h1 h2 (app4_TR h1 h2 (app4_TR h1 h2 (app4_TR h1 h2 (app4_TR h1 h2 h))))
def by8 (f : Nat → Int) : Prop := ∀ i, 0 ≤ f i ∧ f i ≤ 255
theorem ap1_by8 (h1 : kb ≠ ko) (hb : 0 ≤ b ∧ b ≤ 255) (h : by8 (σ kb)) : by8 (ap1 σ kb ko b kb) := by
  unfold ap1
  rw [xwr_row h1, xwr_rw]
  intro i
  dsimp only
  by_cases e : i = (σ ko 1).toNat
  · rw [if_pos e]; exact hb
  · rw [if_neg e]; exact h i
theorem app4_by8 (h1 : kb ≠ ko) (h : by8 (σ kb)) : by8 (app4 σ kb ko b kb) := ap1_by8 h1 (byt_rg _ _) (ap1_by8 h1 (byt_rg _ _) (ap1_by8 h1 (byt_rg _ _) (ap1_by8 h1 (byt_rg _ _) h)))
theorem app20_by8 (h1 : kb ≠ ko) (h : by8 (σ kb)) : by8 (app20 σ kb ko a1 a2 a3 a4 a5 kb) := app4_by8 h1 (app4_by8 h1 (app4_by8 h1 (app4_by8 h1 (app4_by8 h1 h))))
theorem ap1_eqp (p1 : ∀ j, P kb j = false) (p2 : P ko 1 = false) (h : eqp P σ τ) : eqp P σ (ap1 τ kb ko b) := eqp_wr p2 (eqp_wr (p1 _) h)
theorem app4_eqp (p1 : ∀ j, P kb j = false) (p2 : P ko 1 = false) (h : eqp P σ τ) : eqp P σ (app4 τ kb ko b) := ap1_eqp p1 p2 (ap1_eqp p1 p2 (ap1_eqp p1 p2 (ap1_eqp p1 p2 h)))
theorem app20_eqp (p1 : ∀ j, P kb j = false) (p2 : P ko 1 = false) (h : eqp P σ τ) : eqp P σ (app20 τ kb ko a1 a2 a3 a4 a5) := app4_eqp p1 p2 (app4_eqp p1 p2 (app4_eqp p1 p2 (app4_eqp p1 p2 (app4_eqp p1 p2 h))))
theorem pr_feed (h : Core σ) : Pair X 2 193 [some (vr 0), some (vi a1), some (vi a2), some (vi a3), some (vi a4), some (vi a5)] [some (vr 100), some (vi a1), some (vi a2), some (vi a3), some (vi a4), some (vi a5)] σ (Post σ) := by
  have h' := h
  obtain ⟨⟨t1, t2, t3, t4, t5, t6, t7⟩, h2, h3, h4, h5, h6, h7, h8, h9, h10⟩ := h'
  by_cases c : σ 1 1 ≤ 280
  · generalize hσ1 : app20 σ 2 1 a1 a2 a3 a4 a5 = σ1
    have m1 : ∀ k j, 100 ≤ k → σ1 k j = σ k j := by
      intro k j hk
      have := app20_eqp (P := fun k _ => Nat.ble 100 k) (σ := σ) (τ := σ) (kb := 2) (ko := 1) (a1 := a1) (a2 := a2) (a3 := a3) (a4 := a4) (a5 := a5) (fun _ => rfl) rfl eqp_rf
      rw [hσ1] at this
      exact this k j (Nat.ble_eq_true_of_le hk)
    refine ⟨σ 1 1 + 20, σ1, app20 σ1 101 100 a1 a2 a3 a4 a5, fun d => ?_, fun d => ?_, ?_⟩
    · refine Eq.trans (s2 t3 t4) ?_
      unfold f2 g2
      rw [if_pos c, if_pos c, hσ1]
    · have q := m1 100 1 (by decide)
      refine Eq.trans (s193 (by omega) (by omega)) ?_
      unfold f193 g193
      rw [q, t5, if_pos c, if_pos c]
    · have tr := app20_TR (σ := σ) (τ := σ1) (kb := 2) (ko := 1) (kb' := 101) (ko' := 100) (a1 := a1) (a2 := a2) (a3 := a3) (a4 := a4) (a5 := a5) (by decide) (by decide) ⟨by rw [t1]; exact (funext (fun j => m1 101 j (by decide))).symm, by rw [m1 100 1 (by decide), t5]⟩
      rw [hσ1] at tr
      have b8 := app20_by8 (σ := σ) (kb := 2) (ko := 1) (a1 := a1) (a2 := a2) (a3 := a3) (a4 := a4) (a5 := a5) (by decide) t2
      rw [hσ1] at b8
      have ln := app20_len (σ := σ) (kb := 2) (ko := 1) (a1 := a1) (a2 := a2) (a3 := a3) (a4 := a4) (a5 := a5) t3 (by omega)
      rw [hσ1] at ln
      have E : ∀ (P : Nat → Nat → Bool), (∀ j, P 2 j = false) → P 1 1 = false → (∀ j, P 101 j = false) → P 100 1 = false → eqp P σ (app20 σ1 101 100 a1 a2 a3 a4 a5) := by
        intro P p1 p2 p3 p4
        refine app20_eqp p3 p4 ?_
        rw [← hσ1]
        exact app20_eqp p1 p2 eqp_rf
      have c2 : app20 σ1 101 100 a1 a2 a3 a4 a5 2 = σ1 2 := by
        funext j
        exact app20_eqp (P := fun k _ => Nat.beq k 2) (σ := σ1) (τ := σ1) (kb := 101) (ko := 100) (fun _ => rfl) rfl eqp_rf 2 j rfl
      have c1 : ∀ j, app20 σ1 101 100 a1 a2 a3 a4 a5 1 j = σ1 1 j := fun j => app20_eqp (P := fun k _ => Nat.beq k 1) (σ := σ1) (τ := σ1) (kb := 101) (ko := 100) (fun _ => rfl) rfl eqp_rf 1 j rfl
      have sl := E (pin [] [(1, 2), (1, 3), (100, 2), (100, 3)]) (fun _ => rfl) rfl (fun _ => rfl) rfl
      refine ⟨⟨⟨?_, ?_, ?_, ?_, ?_, ?_, ?_⟩, Cform_eqp (E _ (fun _ => rfl) rfl (fun _ => rfl) rfl) h2, Cwant_eqp (E _ (fun _ => rfl) rfl (fun _ => rfl) rfl) h3, Crow_eqp (E _ (fun _ => rfl) rfl (fun _ => rfl) rfl) h4, Cgoal_eqp (E _ (fun _ => rfl) rfl (fun _ => rfl) rfl) h5, Cbox_eqp (E _ (fun _ => rfl) rfl (fun _ => rfl) rfl) h6, Csee_eqp (E _ (fun _ => rfl) rfl (fun _ => rfl) rfl) h7, Cact_eqp (E _ (fun _ => rfl) rfl (fun _ => rfl) rfl) h8, Crd_eqp (E _ (fun _ => rfl) rfl (fun _ => rfl) rfl) h9, Cmis_eqp (E _ (fun _ => rfl) rfl (fun _ => rfl) rfl) h10⟩, Or.inl (E _ (fun _ => rfl) rfl (fun _ => rfl) rfl), Or.inl (E _ (fun _ => rfl) rfl (fun _ => rfl) rfl)⟩
      · rw [c2]; exact tr.1
      · rw [c2]; exact b8
      · rw [c1, ln]; omega
      · rw [c1, ln]; omega
      · rw [c1]; exact tr.2.symm
      · rw [sl 1 2 rfl, sl 100 2 rfl]; exact t6
      · rw [sl 1 3 rfl, sl 100 3 rfl]; exact t7
  · refine Pair_q0 (r := -1) (r' := -1) h (fun d => ?_) (fun d => ?_) rfl
    · refine Eq.trans (s2 t3 t4) ?_
      unfold f2 g2
      rw [if_neg c, if_neg c]
    · refine Eq.trans (s193 (by omega) (by omega)) ?_
      unfold f193 g193
      rw [t5, if_neg c, if_neg c]
end FEED
section APRT
variable {X : Nat × (Nat → Int)} {σ τ : xM} {a : Int} {n : Nat}
theorem bnd : ∀ x, x < 128 → ∀ y, y < 128 → 0 ≤ xand ((x : Nat) : Int) (xxor ((y : Nat) : Int) (-1)) ∧ xand ((x : Nat) : Int) (xxor ((y : Nat) : Int) (-1)) < 128 := by decide +kernel
theorem bndI {x y : Int} (h1 : 0 ≤ x) (h2 : x < 128) (h3 : 0 ≤ y) (h4 : y < 128) : 0 ≤ xand x (xxor y (-1)) ∧ xand x (xxor y (-1)) < 128 := by
  have := bnd x.toNat (by omega) y.toNat (by omega)
  rw [Int.toNat_of_nonneg h1, Int.toNat_of_nonneg h3] at this
  exact this
/-- the model's isLike -/
theorem it262 (hn : σ 100 16 = n) (hn2 : n ≤ 11) : ∀ (q i : Nat), i + q = n → ((∀ c, i ≤ c → c < n → σ 107 c = σ 108 c) → ∀ d, Ev X d 262 26 [some (vr 100), some (vi 1), some (vi i)] [] SH σ = some (some (vi 1), SH, σ)) ∧ ((∃ c, i ≤ c ∧ c < n ∧ σ 107 c ≠ σ 108 c) → ∀ d, Ev X d 262 26 [some (vr 100), some (vi 1), some (vi i)] [] SH σ = some (some (vi 0), SH, σ)) := by
  intro q
  induction q with
  | zero =>
    intro i e
    refine ⟨fun _ d => ?_, fun ⟨c, h1, h2, _⟩ => by omega⟩
    rw [b262_26, if_pos (by omega), b262_65 (Or.inr rfl)]
  | succ q ih =>
    intro i e
    obtain ⟨n1, n2⟩ := ih (i + 1) (by omega)
    by_cases z : σ 107 i = σ 108 i
    · have st : ∀ d, Ev X d 262 26 [some (vr 100), some (vi 1), some (vi i)] [] SH σ = Ev X d 262 26 [some (vr 100), some (vi 1), some (vi ((i + 1 : Nat) : Int))] [] SH σ := by
        intro d
        rw [b262_26, if_neg (by omega)]
        simp (disch := first | omega | assumption | (simp (disch := omega) only [ite_self, Int.reduceAdd, xadd_eq, xsub_eq, xmul_eq, xneg_eq, xwr_eq, xwr_nk, xwr_nj, Int.toNat_natCast, x_nc] <;> first | omega | assumption) | fail) only [↓if_pos, ↓if_neg, ↓b262_0, ↓b262_22, ↓b262_7, ↓b262_23, ↓b262_18, ↓b262_65, ↓b262_34, ↓b262_38, ↓b262_57, ↓b262_53, ↓b262_58, x_bdi, x_bdn, ite_self, Int.reduceAdd, xadd_eq, xsub_eq, xmul_eq, xneg_eq, xwr_eq, xwr_nk, xwr_nj, Int.toNat_natCast, x_nc]
      refine ⟨fun ha d => (st d).trans (n1 (fun c h1 h2 => ha c (by omega) h2) d), fun ⟨c, h1, h2, h3⟩ d => (st d).trans (n2 ⟨c, ?_, h2, h3⟩ d)⟩
      rcases Nat.lt_or_eq_of_le h1 with g | g
      · exact g
      · subst g; exact absurd z h3
    · refine ⟨fun ha => absurd (ha i (Nat.le_refl _) (by omega)) z, fun _ d => ?_⟩
      have z1 : ∀ d, Ev X d 262 26 [some (vr 100), some (vi 0), some (vi ((i + 1 : Nat) : Int))] [] SH σ = some (some (vi 0), SH, σ) := by
        intro d
        by_cases y : σ 100 16 ≤ ((i + 1 : Nat) : Int)
        · rw [b262_26, if_pos y, b262_65 (Or.inl rfl)]
        · rw [b262_26, if_neg y, b262_34, if_pos rfl, b262_65 (Or.inl rfl)]
      rw [b262_26, if_neg (by omega)]
      simp (disch := first | omega | assumption | (simp (disch := omega) only [ite_self, Int.reduceAdd, xadd_eq, xsub_eq, xmul_eq, xneg_eq, xwr_eq, xwr_nk, xwr_nj, Int.toNat_natCast, x_nc] <;> first | omega | assumption) | fail) only [↓if_pos, ↓if_neg, ↓b262_0, ↓b262_22, ↓b262_7, ↓b262_23, ↓b262_18, ↓b262_65, ↓b262_34, ↓b262_38, ↓b262_57, ↓b262_53, ↓b262_58, x_bdi, x_bdn, ite_self, Int.reduceAdd, xadd_eq, xsub_eq, xmul_eq, xneg_eq, xwr_eq, xwr_nk, xwr_nj, Int.toNat_natCast, x_nc]
      exact z1 d
/-- row and goal are like -/
def lkM (σ : xM) : Prop := 0 < σ 100 16 ∧ σ 100 16 = σ 100 17 ∧ ∀ c : Nat, (c : Int) < σ 100 16 → σ 107 c = σ 108 c
theorem s262y (h1 : σ 100 16 ≤ 11) (h : lkM σ) : ∀ d, Ev X d 262 0 [some (vr 100), none, none] [] SH σ = some (some (vi 1), SH, σ) := by
  obtain ⟨h0, h2, h3⟩ := h
  intro d
  rw [b262_0, if_neg (by omega), b262_7, if_neg (by omega), b262_18, b262_23]
  exact (it262 (n := (σ 100 16).toNat) (by omega) (by omega) _ 0 (Nat.zero_add _)).1 (fun c _ hc => h3 c (by omega)) d
theorem s262n (h0 : 0 ≤ σ 100 16) (h1 : σ 100 16 ≤ 11) (h : ¬ lkM σ) : ∀ d, Ev X d 262 0 [some (vr 100), none, none] [] SH σ = some (some (vi 0), SH, σ) := by
  intro d
  have z1 : ∀ d, Ev X d 262 26 [some (vr 100), some (vi 0), some (vi 0)] [] SH σ = some (some (vi 0), SH, σ) := by
    intro d
    by_cases y : σ 100 16 ≤ 0
    · rw [b262_26, if_pos y, b262_65 (Or.inl rfl)]
    · rw [b262_26, if_neg y, b262_34, if_pos rfl, b262_65 (Or.inl rfl)]
  by_cases z : σ 100 16 ≤ 0
  · rw [b262_0, if_pos z, b262_22, b262_23]
    exact z1 d
  · by_cases z2 : σ 100 16 = σ 100 17
    · rw [b262_0, if_neg z, b262_7, if_neg (fun y => y z2), b262_18, b262_23]
      refine (it262 (n := (σ 100 16).toNat) (by omega) (by omega) _ 0 (Nat.zero_add _)).2 ?_ d
      rcases ex_dec (fun c => σ 107 c ≠ σ 108 c) (σ 100 16).toNat with ⟨c, y1, y2⟩ | y
      · exact ⟨c, Nat.zero_le _, y1, y2⟩
      · exact absurd ⟨by omega, z2, fun c hc => Classical.byContradiction (fun w => y c (by omega) w)⟩ h
    · rw [b262_0, if_neg z, b262_7, if_pos z2, b262_22, b262_23]
      exact z1 d
/-- sticks of one row that the other has not -/
def apS (f g : Nat → Int) (n : Nat) : Int := isum (fun c => pc (xand (f c) (xxor (g c) (-1))).toNat) n
theorem it261 {t : Int} (ht : t = 0 ∨ t = 1) (hn : σ 100 16 = n) (hn2 : n ≤ 11) (hb : ∀ c, c < n → 0 ≤ σ 110 c ∧ σ 110 c < 128 ∧ 0 ≤ σ 111 c ∧ σ 111 c < 128) : ∀ (q i : Nat), i + q = n → ∀ d, Ev X (d + 1) 261 22 [some (vr 100), some (vi t), some (vi (if t = 0 then apS (σ 110) (σ 111) i else apS (σ 111) (σ 110) i)), some (vi i)] [] SH σ = some (some (vi (if t = 0 then apS (σ 110) (σ 111) n else apS (σ 111) (σ 110) n)), SH, σ) := by
  intro q
  induction q with
  | zero =>
    intro i e d
    obtain rfl : i = n := by omega
    rw [b261_22, if_pos (by omega), b261_79]
  | succ q ih =>
    intro i e d
    have ih := ih (i + 1) (by omega) d
    obtain ⟨b1, b2, b3, b4⟩ := hb i (by omega)
    have x1 := bndI b1 b2 b3 b4
    have x2 := bndI b3 b4 b1 b2
    have p1 := pc_rg (xand (σ 110 i) (xxor (σ 111 i) (-1))).toNat
    have p2 := pc_rg (xand (σ 111 i) (xxor (σ 110 i) (-1))).toNat
    have i1 := isum_rg (f := fun c => pc (xand (σ 110 c) (xxor (σ 111 c) (-1))).toNat) (B := 7) (fun j => pc_rg _) (by omega) i
    have i2 := isum_rg (f := fun c => pc (xand (σ 111 c) (xxor (σ 110 c) (-1))).toNat) (B := 7) (fun j => pc_rg _) (by omega) i
    unfold apS at ih ⊢
    rw [b261_22, if_neg (by omega)]
    rcases ht with rfl | rfl
    · rw [if_pos rfl, isum] at ih
      rw [if_pos rfl]
      have sb := fun d => s247 (X := X) (d := d) (σ := σ) x1.1 x1.2
      simp (disch := first | omega | assumption | (simp (disch := omega) only [ite_self, Int.reduceAdd, xadd_eq, xsub_eq, xmul_eq, xneg_eq, xwr_eq, xwr_nk, xwr_nj, Int.toNat_natCast, x_nc] <;> first | omega | assumption) | fail) only [↓if_pos, ↓if_neg, ↓b261_0, ↓b261_16, ↓b261_4, ↓b261_9, ↓b261_13, ↓b261_18, ↓b261_79, ↓b261_30, ↓b261_53, ↓b261_35, ↓b261_68, ↓b261_71, ↓sb, sb, x_bdi, x_bdn, ite_self, Int.reduceAdd, xadd_eq, xsub_eq, xmul_eq, xneg_eq, xwr_eq, xwr_nk, xwr_nj, Int.toNat_natCast, x_nc]
      exact ih
    · rw [if_neg (by decide), isum] at ih
      rw [if_neg (by decide)]
      have sb := fun d => s247 (X := X) (d := d) (σ := σ) x2.1 x2.2
      simp (disch := first | omega | assumption | (simp (disch := omega) only [ite_self, Int.reduceAdd, xadd_eq, xsub_eq, xmul_eq, xneg_eq, xwr_eq, xwr_nk, xwr_nj, Int.toNat_natCast, x_nc] <;> first | omega | assumption) | fail) only [↓if_pos, ↓if_neg, ↓b261_0, ↓b261_16, ↓b261_4, ↓b261_9, ↓b261_13, ↓b261_18, ↓b261_79, ↓b261_30, ↓b261_53, ↓b261_35, ↓b261_68, ↓b261_71, ↓sb, sb, x_bdi, x_bdn, ite_self, Int.reduceAdd, xadd_eq, xsub_eq, xmul_eq, xneg_eq, xwr_eq, xwr_nk, xwr_nj, Int.toNat_natCast, x_nc]
      exact ih
theorem pr_apart (h : Core σ) : Pair X 27 261 [some (vr 0), some (vi a)] [some (vr 100), some (vi a), none, none] σ (Post σ) := by
  obtain ⟨r1, r2, r3, r4⟩ := h.2.2.2.1
  obtain ⟨g1, g2, g3, g4⟩ := h.2.2.2.2.1
  by_cases ha : a < 0 ∨ 1 < a
  · refine Pair_q0 (r := -1) (r' := -1) h (fun d => ?_) (fun d => ?_) rfl
    · simp (disch := first | omega | assumption | (simp (disch := omega) only [ite_self, Int.reduceAdd, xadd_eq, xsub_eq, xmul_eq, xneg_eq, xwr_eq, xwr_nk, xwr_nj, Int.toNat_natCast, x_nc] <;> first | omega | assumption) | fail) only [↓if_pos, ↓if_neg, ↓b27_0, ↓b27_33, ↓b27_4, ↓b27_9, ↓b27_19, ↓b27_30, ↓b27_35, ↓b27_53, ↓b27_39, ↓b27_64, ↓b27_50, x_bdi, x_bdn, ite_self, Int.reduceAdd, xadd_eq, xsub_eq, xmul_eq, xneg_eq, xwr_eq, xwr_nk, xwr_nj, Int.toNat_natCast, x_nc]
    · simp (disch := first | omega | assumption | (simp (disch := omega) only [ite_self, Int.reduceAdd, xadd_eq, xsub_eq, xmul_eq, xneg_eq, xwr_eq, xwr_nk, xwr_nj, Int.toNat_natCast, x_nc] <;> first | omega | assumption) | fail) only [↓if_pos, ↓if_neg, ↓b261_0, ↓b261_16, ↓b261_4, ↓b261_9, ↓b261_13, ↓b261_18, ↓b261_79, ↓b261_30, ↓b261_53, ↓b261_35, ↓b261_68, ↓b261_71, x_bdi, x_bdn, ite_self, Int.reduceAdd, xadd_eq, xsub_eq, xmul_eq, xneg_eq, xwr_eq, xwr_nk, xwr_nj, Int.toNat_natCast, x_nc]
  · by_cases lk : lkM σ
    · have m := s262y (X := X) (σ := σ) (by omega) lk
      obtain ⟨l1, l2, l3⟩ := lk
      have cl := fun d => s142t (X := X) (d := d) (σ := σ) (k := 23) (k1 := 26) (Or.inl rfl) (Or.inr (Or.inl rfl)) r1 r2 (by omega) (fun c hc => by
        have y1 := (r4 c hc).1
        have y2 := (g4 c (by omega)).1
        have y3 := l3 c (by omega)
        show σ 24 c = σ 27 c
        omega)
      have fb : ∀ c, c < (σ 23 0).toNat → 0 ≤ σ 110 c ∧ σ 110 c < 128 ∧ 0 ≤ σ 111 c ∧ σ 111 c < 128 := by
        intro c hc
        have y1 := r4 c (by omega)
        have y2 := g4 c (by omega)
        omega
      have lp := fun (t : Int) (ht : t = 0 ∨ t = 1) d => it261 (X := X) (σ := σ) (t := t) (n := (σ 23 0).toNat) ht (by omega) (by omega) fb (σ 23 0).toNat 0 (Nat.zero_add _) d
      have d1 := fun d => s143 (X := X) (d := d) (σ := σ) (k := 23) (k1 := 26) (Or.inl rfl) (Or.inr (Or.inl rfl)) r1 r2 (fun c hc => by
        have y1 := r4 c hc
        have y2 := g4 c (by omega)
        show 0 ≤ xand (σ 25 c) (xxor (σ 28 c) (-1)) ∧ xand (σ 25 c) (xxor (σ 28 c) (-1)) < 128
        exact bndI (by omega) (by omega) (by omega) (by omega))
      have d2 := fun d => s143 (X := X) (d := d) (σ := σ) (k := 26) (k1 := 23) (Or.inr (Or.inl rfl)) (Or.inl rfl) g1 g2 (fun c hc => by
        have y1 := r4 c (by omega)
        have y2 := g4 c hc
        show 0 ≤ xand (σ 28 c) (xxor (σ 25 c) (-1)) ∧ xand (σ 28 c) (xxor (σ 25 c) (-1)) < 128
        exact bndI (by omega) (by omega) (by omega) (by omega))
      have ha2 : a = 0 ∨ a = 1 := by omega
      rcases ha2 with rfl | rfl
      · refine Pair_q0 (r' := apS (σ 110) (σ 111) (σ 23 0).toNat) h (fun d => ?_) (fun d => ?_) rfl
        · have e : isum (fun c => pc (dfR σ 23 26 c).toNat) (σ 23 0).toNat = apS (σ 110) (σ 111) (σ 23 0).toNat := by
            unfold apS
            refine isum_congr _ (fun i hi => ?_)
            unfold dfR
            rw [(r4 i (by omega)).2.2.1, (g4 i (by omega)).2.2.1]
          rw [e] at d1
          simp (disch := first | omega | assumption | (simp (disch := omega) only [ite_self, Int.reduceAdd, xadd_eq, xsub_eq, xmul_eq, xneg_eq, xwr_eq, xwr_nk, xwr_nj, Int.toNat_natCast, x_nc] <;> first | omega | assumption) | fail) only [↓if_pos, ↓if_neg, ↓b27_0, ↓b27_33, ↓b27_4, ↓b27_9, ↓b27_19, ↓b27_30, ↓b27_35, ↓b27_53, ↓b27_39, ↓b27_64, ↓b27_50, ↓cl, ↓d1, x_bdi, x_bdn, ite_self, Int.reduceAdd, xadd_eq, xsub_eq, xmul_eq, xneg_eq, xwr_eq, xwr_nk, xwr_nj, Int.toNat_natCast, x_nc]
        · have lp := lp 0 (Or.inl rfl)
          rw [if_pos rfl, if_pos rfl] at lp
          have lp : ∀ d, Ev X (d + 1) 261 22 [some (vr 100), some (vi 0), some (vi 0), some (vi 0)] [] SH σ = _ := lp
          simp (disch := first | omega | assumption | (simp (disch := omega) only [ite_self, Int.reduceAdd, xadd_eq, xsub_eq, xmul_eq, xneg_eq, xwr_eq, xwr_nk, xwr_nj, Int.toNat_natCast, x_nc] <;> first | omega | assumption) | fail) only [↓if_pos, ↓if_neg, ↓b261_0, ↓b261_16, ↓b261_4, ↓b261_9, ↓b261_13, ↓b261_18, ↓b261_79, ↓b261_30, ↓b261_53, ↓b261_35, ↓b261_68, ↓b261_71, ↓m, ↓lp, x_bdi, x_bdn, ite_self, Int.reduceAdd, xadd_eq, xsub_eq, xmul_eq, xneg_eq, xwr_eq, xwr_nk, xwr_nj, Int.toNat_natCast, x_nc]
      · refine Pair_q0 (r' := apS (σ 111) (σ 110) (σ 23 0).toNat) h (fun d => ?_) (fun d => ?_) rfl
        · have e : isum (fun c => pc (dfR σ 26 23 c).toNat) (σ 26 0).toNat = apS (σ 111) (σ 110) (σ 23 0).toNat := by
            unfold apS
            rw [show σ 26 0 = σ 23 0 by omega]
            refine isum_congr _ (fun i hi => ?_)
            unfold dfR
            rw [(r4 i (by omega)).2.2.1, (g4 i (by omega)).2.2.1]
          rw [e] at d2
          simp (disch := first | omega | assumption | (simp (disch := omega) only [ite_self, Int.reduceAdd, xadd_eq, xsub_eq, xmul_eq, xneg_eq, xwr_eq, xwr_nk, xwr_nj, Int.toNat_natCast, x_nc] <;> first | omega | assumption) | fail) only [↓if_pos, ↓if_neg, ↓b27_0, ↓b27_33, ↓b27_4, ↓b27_9, ↓b27_19, ↓b27_30, ↓b27_35, ↓b27_53, ↓b27_39, ↓b27_64, ↓b27_50, ↓cl, ↓d2, x_bdi, x_bdn, ite_self, Int.reduceAdd, xadd_eq, xsub_eq, xmul_eq, xneg_eq, xwr_eq, xwr_nk, xwr_nj, Int.toNat_natCast, x_nc]
        · have lp := lp 1 (Or.inr rfl)
          rw [if_neg (by decide), if_neg (by decide)] at lp
          have lp : ∀ d, Ev X (d + 1) 261 22 [some (vr 100), some (vi 1), some (vi 0), some (vi 0)] [] SH σ = _ := lp
          simp (disch := first | omega | assumption | (simp (disch := omega) only [ite_self, Int.reduceAdd, xadd_eq, xsub_eq, xmul_eq, xneg_eq, xwr_eq, xwr_nk, xwr_nj, Int.toNat_natCast, x_nc] <;> first | omega | assumption) | fail) only [↓if_pos, ↓if_neg, ↓b261_0, ↓b261_16, ↓b261_4, ↓b261_9, ↓b261_13, ↓b261_18, ↓b261_79, ↓b261_30, ↓b261_53, ↓b261_35, ↓b261_68, ↓b261_71, ↓m, ↓lp, x_bdi, x_bdn, ite_self, Int.reduceAdd, xadd_eq, xsub_eq, xmul_eq, xneg_eq, xwr_eq, xwr_nk, xwr_nj, Int.toNat_natCast, x_nc]
    · have m := s262n (X := X) (σ := σ) (by omega) (by omega) lk
      refine Pair_q0 (r := -1) (r' := -1) h (fun d => ?_) (fun d => ?_) rfl
      · by_cases z : σ 23 0 = 0
        · simp (disch := first | omega | assumption | (simp (disch := omega) only [ite_self, Int.reduceAdd, xadd_eq, xsub_eq, xmul_eq, xneg_eq, xwr_eq, xwr_nk, xwr_nj, Int.toNat_natCast, x_nc] <;> first | omega | assumption) | fail) only [↓if_pos, ↓if_neg, ↓b27_0, ↓b27_33, ↓b27_4, ↓b27_9, ↓b27_19, ↓b27_30, ↓b27_35, ↓b27_53, ↓b27_39, ↓b27_64, ↓b27_50, x_bdi, x_bdn, ite_self, Int.reduceAdd, xadd_eq, xsub_eq, xmul_eq, xneg_eq, xwr_eq, xwr_nk, xwr_nj, Int.toNat_natCast, x_nc]
        · have cl := fun d => s142f (X := X) (d := d) (σ := σ) (k := 23) (k1 := 26) (Or.inl rfl) (Or.inr (Or.inl rfl)) r1 r2 (by
            by_cases y : σ 23 0 = σ 26 0
            · rcases ex_dec (fun c => σ 24 c ≠ σ 27 c) (σ 23 0).toNat with ⟨c, y1, y2⟩ | y3
              · exact Or.inr ⟨c, by omega, y2⟩
              · refine absurd ⟨by omega, by omega, fun c hc => ?_⟩ lk
                have w1 := (r4 c (by omega)).1
                have w2 := (g4 c (by omega)).1
                have w3 : σ 24 c = σ 27 c := Classical.byContradiction (fun w => y3 c (by omega) w)
                omega
            · exact Or.inl y)
          simp (disch := first | omega | assumption | (simp (disch := omega) only [ite_self, Int.reduceAdd, xadd_eq, xsub_eq, xmul_eq, xneg_eq, xwr_eq, xwr_nk, xwr_nj, Int.toNat_natCast, x_nc] <;> first | omega | assumption) | fail) only [↓if_pos, ↓if_neg, ↓b27_0, ↓b27_33, ↓b27_4, ↓b27_9, ↓b27_19, ↓b27_30, ↓b27_35, ↓b27_53, ↓b27_39, ↓b27_64, ↓b27_50, ↓cl, x_bdi, x_bdn, ite_self, Int.reduceAdd, xadd_eq, xsub_eq, xmul_eq, xneg_eq, xwr_eq, xwr_nk, xwr_nj, Int.toNat_natCast, x_nc]
      · simp (disch := first | omega | assumption | (simp (disch := omega) only [ite_self, Int.reduceAdd, xadd_eq, xsub_eq, xmul_eq, xneg_eq, xwr_eq, xwr_nk, xwr_nj, Int.toNat_natCast, x_nc] <;> first | omega | assumption) | fail) only [↓if_pos, ↓if_neg, ↓b261_0, ↓b261_16, ↓b261_4, ↓b261_9, ↓b261_13, ↓b261_18, ↓b261_79, ↓b261_30, ↓b261_53, ↓b261_35, ↓b261_68, ↓b261_71, ↓m, x_bdi, x_bdn, ite_self, Int.reduceAdd, xadd_eq, xsub_eq, xmul_eq, xneg_eq, xwr_eq, xwr_nk, xwr_nj, Int.toNat_natCast, x_nc]
end APRT
