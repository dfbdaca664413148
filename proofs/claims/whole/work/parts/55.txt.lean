/-! a text of a SUM: how it comes out, on both sides -/
def whl (tx : Nat → Int) (n : Nat) : Prop := (auS (nbL tx n)).1 ≠ 0 ∧ (auS (nbL tx n)).2.2 = 1
def OC (tx : Nat → Int) (n : Nat) (F P r : Int) : Prop := ∃ p, p ≤ n ∧ (∀ i, i < p → gd tx i = true) ∧ ((p < n ∧ gd tx p = false ∧ isSy (tx p) = false ∧ F = 1 ∧ P = p ∧ r = -1) ∨ (p < n ∧ gd tx p = false ∧ isSy (tx p) = true ∧ F = 2 ∧ P = p ∧ r = -1) ∨ (p = n ∧ ¬ whl tx n ∧ F = 2 ∧ P = n ∧ r = -1) ∨ (p = n ∧ whl tx n ∧ F = 0 ∧ P = -1 ∧ r = (nbL tx n).length))
theorem OC_ex (tx : Nat → Int) (n : Nat) : ∃ F P r, OC tx n F P r := by
  obtain ⟨p, h1, h2, h3⟩ := gd_stop tx n
  by_cases e : p < n
  · cases s : isSy (tx p)
    · exact ⟨1, p, -1, p, h1, h2, Or.inl ⟨e, h3 e, s, rfl, rfl, rfl⟩⟩
    · exact ⟨2, p, -1, p, h1, h2, Or.inr (Or.inl ⟨e, h3 e, s, rfl, rfl, rfl⟩)⟩
  · by_cases w : whl tx n
    · exact ⟨0, -1, _, p, h1, h2, Or.inr (Or.inr (Or.inr ⟨by omega, w, rfl, rfl, rfl⟩))⟩
    · exact ⟨2, n, -1, p, h1, h2, Or.inr (Or.inr (Or.inl ⟨by omega, w, rfl, rfl, rfl⟩))⟩
section TXC
variable {X : Nat × (Nat → Int)} {n : Nat} {σ : xM} {F P r : Int}
theorem s121 (h1 : σ 1 1 = n) (hn : n ≤ 300) (hb : ∀ i, 0 ≤ σ 2 i ∧ σ 2 i ≤ 255) (hr : RA (Rd σ 14 0) (0, 0, 0)) (oc : OC (σ 2) n F P r) : ∃ τ, (∀ d, Ev X (d + 5) 121 0 [some (vr 14), some (vr 1), none, none, none] [] SH σ = some (some (vi r), SH, τ)) ∧ τ 1 2 = F ∧ τ 1 3 = P ∧ chg [] [(1, 2), (1, 3)] σ τ := by
  obtain ⟨p, p1, p2, p3⟩ := oc
  have hk : isRdg 14 := Or.inl rfl
  have ct : ∀ i, chg [] [(1, 2), (1, 3)] σ (T121 (g158 σ) 14 n i) := fun i => chg_rds hk (chg_wr rfl (chg_wr rfl chg_rf))
  rcases p3 with ⟨e1, e2, e3, rfl, rfl, rfl⟩ | ⟨e1, e2, e3, rfl, rfl, rfl⟩ | ⟨e1, e2, rfl, rfl, rfl⟩ | ⟨e1, e2, rfl, rfl, rfl⟩
  · exact ⟨_, s121f hk h1 hn (fun i _ => hb i) hr e1 p2 e2 e3, rfl, rfl, chg_wr rfl (chg_wr rfl (ct p))⟩
  · exact ⟨_, s121n hk h1 hn (fun i _ => hb i) hr e1 p2 e2 e3, rfl, rfl, chg_wr rfl (chg_wr rfl (ct p))⟩
  · subst e1
    have w := s121e (X := X) hk h1 hn (fun i _ => hb i) hr p2
    unfold whl at e2
    rw [if_neg e2] at w
    exact ⟨_, w, rfl, rfl, chg_wr rfl (chg_wr rfl (ct p))⟩
  · subst e1
    have w := s121e (X := X) hk h1 hn (fun i _ => hb i) hr p2
    unfold whl at e2
    rw [if_pos e2] at w
    refine ⟨_, w, ?_, ?_, ct p⟩
    · rw [T121_at (by decide)]; rfl
    · rw [T121_at (by decide)]; rfl
end TXC
section TXM
variable {X : Nat × (Nat → Int)} {n p : Nat} {σ τ : xM} {F P r : Int}
/-- the model's cells where the first i bytes were read -/
def NS (σ τ : xM) (n i : Nat) : Prop := τ 100 24 = (nbL (σ 101) i).length ∧ (∀ j, j < (nbL (σ 101) i).length → τ 109 j = dgI (txs (σ 101) n j)) ∧ (∀ j, j < (nbL (σ 101) i).length → τ 112 j = wyM (σ 102) (txs (σ 101) n j)) ∧ chg [109, 112] [(100, 24)] σ τ
theorem au_rg {tx : Nat → Int} {i : Nat} (hi : i ≤ n) (hg : ∀ q, q < i → gd tx q = true) : 0 ≤ (auS (nbL tx i)).1 ∧ (auS (nbL tx i)).1 ≤ 4 ∧ ((auS (nbL tx i)).2.1 = 0 ∨ (auS (nbL tx i)).2.1 = 1) ∧ ((auS (nbL tx i)).2.2 = 0 ∨ (auS (nbL tx i)).2.2 = 1) := by
  have := RA_t (n := n) RA_0 hi hg
  unfold RA at this
  omega
theorem it212 (h5 : σ 100 5 = n) (h2 : σ 100 2 = 0) (hn : n ≤ 300) (hp : p ≤ n) (hg : ∀ i, i < p → gd (σ 101) i = true) : ∀ (q i : Nat) (o5 : Option xV) (τ : xM), i + q = p → NS σ τ n i → ∃ τ' o', NS σ τ' n p ∧ ∀ d, Ev X (d + 2) 212 19 [some (vr 100), some (vi (auS (nbL (σ 101) i)).1), some (vi (auS (nbL (σ 101) i)).2.1), some (vi (auS (nbL (σ 101) i)).2.2), some (vi i), o5] [] SH τ = Ev X (d + 2) 212 19 [some (vr 100), some (vi (auS (nbL (σ 101) p)).1), some (vi (auS (nbL (σ 101) p)).2.1), some (vi (auS (nbL (σ 101) p)).2.2), some (vi p), o'] [] SH τ' := by
  intro q
  induction q with
  | zero =>
    intro i o5 τ e hN
    obtain rfl : i = p := by omega
    exact ⟨τ, o5, hN, fun _ => rfl⟩
  | succ q ih =>
    intro i o5 τ e hN
    obtain ⟨n1, n2, n3, n4⟩ := hN
    have t5 : τ 100 5 = n := by rw [n4 100 5 rfl (fun z => absurd z (by decide))]; exact h5
    have t2 : τ 100 2 = 0 := by rw [n4 100 2 rfl (fun z => absurd z (by decide))]; exact h2
    have t101 : τ 101 = σ 101 := chg_row n4 (fun _ => rfl) rfl
    have t102 : τ 102 = σ 102 := chg_row n4 (fun _ => rfl) rfl
    by_cases b : isBl (σ 101 i) = true
    · obtain ⟨τ', o', w1, w2⟩ := ih (i + 1) (some (vi (τ 101 i))) τ (by omega) (by unfold NS; rw [nbL_bl b]; exact ⟨n1, n2, n3, n4⟩)
      refine ⟨τ', o', w1, fun d => ?_⟩
      rw [← w2 d, nbL_bl b]
      exact st212b t5 t2 (by omega) hn (by rw [t101]; exact isBl_t b)
    · have b : isBl (σ 101 i) = false := by simpa using b
      obtain ⟨g1, g2, g3⟩ := gd_nb (hg i (by omega)) b
      have ar := au_rg (n := n) (show i ≤ n by omega) (fun q hq => hg q (by omega))
      have hx : txs (σ 101) n (nbL (σ 101) i).length = σ 101 i := nbL_get (by omega) b
      have hl : (nbL (σ 101) (i + 1)).length = (nbL (σ 101) i).length + 1 := by rw [nbL_nb b, List.length_append]; rfl
      obtain ⟨τ', o', w1, w2⟩ := ih (i + 1) (some (vi (τ 101 i))) (xwr (xwr (xwr τ 109 (nbL (σ 101) i).length (dgI (σ 101 i))) 112 (nbL (σ 101) i).length (wyM (σ 102) (σ 101 i))) 100 24 ((nbL (σ 101) i).length + 1 : Nat)) (by omega) (by
        unfold NS
        rw [hl]
        refine ⟨xwr_eq, ?_, ?_, chg_wr rfl (chg_wr rfl (chg_wr rfl n4))⟩
        · exact fa_nk (fa_nk (fa_wr n2 (by rw [hx])) (by decide)) (by decide)
        · exact fa_nk (fa_wr (fa_nk n3 (by decide)) (by rw [hx])) (by decide))
      refine ⟨τ', o', w1, fun d => ?_⟩
      rw [← w2 d]
      have st := st212y (X := X) (d := d) (o5 := o5) (a1 := (auS (nbL (σ 101) i)).1) (a2 := (auS (nbL (σ 101) i)).2.1) (a3 := (auS (nbL (σ 101) i)).2.2) t5 t2 (show i < n by omega) hn (by rw [t101]; exact isBl_f b) (by rw [t101]; exact g1) n1 g2 (by rw [t101]; exact g3) ⟨ar.1, ar.2.1⟩ ar.2.2.2
      rw [t101, t102] at st
      rw [t101, nbL_nb b, auS_snoc]
      exact st
/-- where the loop ends, with a fault or without -/
theorem e212 (hf : τ 100 2 = F) (h5 : τ 100 5 = n) {a1 a2 a3 : Int} {i : Nat} {o5 : Option xV} (hF : 0 ≤ F) (he : F ≠ 0 ∨ n ≤ i) (hi : i ≤ n + 1) : ∀ d, Ev X (d + 2) 212 19 [some (vr 100), some (vi a1), some (vi a2), some (vi a3), some (vi i), o5] [] SH τ = if F = 0 ∧ a1 ≠ 0 ∧ a3 ≠ 0 then some (some (vi 1), SH, τ) else if F = 0 then some (some (vi 0), SH, xwr (xwr τ 100 2 2) 100 3 n) else some (some (vi 0), SH, τ) := by
  intro d
  by_cases z : F = 0
  · have hi2 : n ≤ i := by omega
    rw [b212_19, if_pos (by omega)]
    by_cases z1 : a1 = 0
    · rw [if_neg (by omega), if_pos z]
      simp (disch := first | omega | assumption | (simp (disch := omega) only [ite_self, Int.reduceAdd, xadd_eq, xsub_eq, xmul_eq, xneg_eq, xwr_eq, xwr_nk, xwr_nj, Int.toNat_natCast, x_nc, g214] <;> first | omega | assumption) | fail) only [↓if_pos, ↓if_neg, ↓b212_0, ↓b212_5, ↓b212_256, ↓b212_28, ↓b212_264, ↓b212_260, ↓b212_35, ↓b212_273, ↓b212_250, ↓b212_51, ↓b212_284, ↓b212_280, ↓b212_61, ↓b212_58, ↓b212_285, ↓b212_66, ↓b212_94, ↓b212_69, ↓b212_143, ↓b212_103, ↓b212_74, ↓b212_150, ↓b212_108, ↓b212_77, ↓b212_120, ↓b212_111, ↓b212_84, ↓b212_125, ↓b212_116, ↓b212_91, ↓b212_132, ↓b212_128, ↓b212_153, ↓b212_139, ↓b212_158, ↓b212_176, ↓b212_161, ↓b212_177, ↓b212_165, ↓b212_183, ↓b212_172, ↓b212_192, ↓b212_186, ↓b212_193, ↓b212_205, ↓b212_198, ↓b212_210, ↓b212_209, ↓b212_224, ↓b212_239, ↓s214, g214, h5, x_bdi, x_bdn, ite_self, Int.reduceAdd, xadd_eq, xsub_eq, xmul_eq, xneg_eq, xwr_eq, xwr_nk, xwr_nj, Int.toNat_natCast, x_nc]
    · by_cases z3 : a3 = 0
      · rw [if_neg (by omega), if_pos z]
        simp (disch := first | omega | assumption | (simp (disch := omega) only [ite_self, Int.reduceAdd, xadd_eq, xsub_eq, xmul_eq, xneg_eq, xwr_eq, xwr_nk, xwr_nj, Int.toNat_natCast, x_nc, g214] <;> first | omega | assumption) | fail) only [↓if_pos, ↓if_neg, ↓b212_0, ↓b212_5, ↓b212_256, ↓b212_28, ↓b212_264, ↓b212_260, ↓b212_35, ↓b212_273, ↓b212_250, ↓b212_51, ↓b212_284, ↓b212_280, ↓b212_61, ↓b212_58, ↓b212_285, ↓b212_66, ↓b212_94, ↓b212_69, ↓b212_143, ↓b212_103, ↓b212_74, ↓b212_150, ↓b212_108, ↓b212_77, ↓b212_120, ↓b212_111, ↓b212_84, ↓b212_125, ↓b212_116, ↓b212_91, ↓b212_132, ↓b212_128, ↓b212_153, ↓b212_139, ↓b212_158, ↓b212_176, ↓b212_161, ↓b212_177, ↓b212_165, ↓b212_183, ↓b212_172, ↓b212_192, ↓b212_186, ↓b212_193, ↓b212_205, ↓b212_198, ↓b212_210, ↓b212_209, ↓b212_224, ↓b212_239, ↓s214, g214, h5, x_bdi, x_bdn, ite_self, Int.reduceAdd, xadd_eq, xsub_eq, xmul_eq, xneg_eq, xwr_eq, xwr_nk, xwr_nj, Int.toNat_natCast, x_nc]
      · rw [if_pos (by omega)]
        simp (disch := first | omega | assumption | (simp (disch := omega) only [ite_self, Int.reduceAdd, xadd_eq, xsub_eq, xmul_eq, xneg_eq, xwr_eq, xwr_nk, xwr_nj, Int.toNat_natCast, x_nc] <;> first | omega | assumption) | fail) only [↓if_pos, ↓if_neg, ↓b212_0, ↓b212_5, ↓b212_256, ↓b212_28, ↓b212_264, ↓b212_260, ↓b212_35, ↓b212_273, ↓b212_250, ↓b212_51, ↓b212_284, ↓b212_280, ↓b212_61, ↓b212_58, ↓b212_285, ↓b212_66, ↓b212_94, ↓b212_69, ↓b212_143, ↓b212_103, ↓b212_74, ↓b212_150, ↓b212_108, ↓b212_77, ↓b212_120, ↓b212_111, ↓b212_84, ↓b212_125, ↓b212_116, ↓b212_91, ↓b212_132, ↓b212_128, ↓b212_153, ↓b212_139, ↓b212_158, ↓b212_176, ↓b212_161, ↓b212_177, ↓b212_165, ↓b212_183, ↓b212_172, ↓b212_192, ↓b212_186, ↓b212_193, ↓b212_205, ↓b212_198, ↓b212_210, ↓b212_209, ↓b212_224, ↓b212_239, x_bdi, x_bdn, ite_self, Int.reduceAdd, xadd_eq, xsub_eq, xmul_eq, xneg_eq, xwr_eq, xwr_nk, xwr_nj, Int.toNat_natCast, x_nc]
  · rw [if_neg (by omega), if_neg z]
    have e19 : Ev X (d + 2) 212 19 [some (vr 100), some (vi a1), some (vi a2), some (vi a3), some (vi i), o5] [] SH τ = Ev X (d + 2) 212 256 [some (vr 100), some (vi a1), some (vi a2), some (vi a3), some (vi i), o5] [] SH τ := by
      by_cases y : n ≤ i
      · rw [b212_19, if_pos (by omega)]
      · rw [b212_19, if_neg (by omega), b212_28, if_pos (by omega)]
    rw [e19]
    by_cases z1 : a1 = 0
    · simp (disch := first | omega | assumption | (simp (disch := omega) only [ite_self, Int.reduceAdd, xadd_eq, xsub_eq, xmul_eq, xneg_eq, xwr_eq, xwr_nk, xwr_nj, Int.toNat_natCast, x_nc, g214] <;> first | omega | assumption) | fail) only [↓if_pos, ↓if_neg, ↓b212_0, ↓b212_5, ↓b212_256, ↓b212_28, ↓b212_264, ↓b212_260, ↓b212_35, ↓b212_273, ↓b212_250, ↓b212_51, ↓b212_284, ↓b212_280, ↓b212_61, ↓b212_58, ↓b212_285, ↓b212_66, ↓b212_94, ↓b212_69, ↓b212_143, ↓b212_103, ↓b212_74, ↓b212_150, ↓b212_108, ↓b212_77, ↓b212_120, ↓b212_111, ↓b212_84, ↓b212_125, ↓b212_116, ↓b212_91, ↓b212_132, ↓b212_128, ↓b212_153, ↓b212_139, ↓b212_158, ↓b212_176, ↓b212_161, ↓b212_177, ↓b212_165, ↓b212_183, ↓b212_172, ↓b212_192, ↓b212_186, ↓b212_193, ↓b212_205, ↓b212_198, ↓b212_210, ↓b212_209, ↓b212_224, ↓b212_239, ↓s214, g214, x_bdi, x_bdn, ite_self, Int.reduceAdd, xadd_eq, xsub_eq, xmul_eq, xneg_eq, xwr_eq, xwr_nk, xwr_nj, Int.toNat_natCast, x_nc]
    · by_cases z3 : a3 = 0
      · simp (disch := first | omega | assumption | (simp (disch := omega) only [ite_self, Int.reduceAdd, xadd_eq, xsub_eq, xmul_eq, xneg_eq, xwr_eq, xwr_nk, xwr_nj, Int.toNat_natCast, x_nc, g214] <;> first | omega | assumption) | fail) only [↓if_pos, ↓if_neg, ↓b212_0, ↓b212_5, ↓b212_256, ↓b212_28, ↓b212_264, ↓b212_260, ↓b212_35, ↓b212_273, ↓b212_250, ↓b212_51, ↓b212_284, ↓b212_280, ↓b212_61, ↓b212_58, ↓b212_285, ↓b212_66, ↓b212_94, ↓b212_69, ↓b212_143, ↓b212_103, ↓b212_74, ↓b212_150, ↓b212_108, ↓b212_77, ↓b212_120, ↓b212_111, ↓b212_84, ↓b212_125, ↓b212_116, ↓b212_91, ↓b212_132, ↓b212_128, ↓b212_153, ↓b212_139, ↓b212_158, ↓b212_176, ↓b212_161, ↓b212_177, ↓b212_165, ↓b212_183, ↓b212_172, ↓b212_192, ↓b212_186, ↓b212_193, ↓b212_205, ↓b212_198, ↓b212_210, ↓b212_209, ↓b212_224, ↓b212_239, ↓s214, g214, x_bdi, x_bdn, ite_self, Int.reduceAdd, xadd_eq, xsub_eq, xmul_eq, xneg_eq, xwr_eq, xwr_nk, xwr_nj, Int.toNat_natCast, x_nc]
      · simp (disch := first | omega | assumption | (simp (disch := omega) only [ite_self, Int.reduceAdd, xadd_eq, xsub_eq, xmul_eq, xneg_eq, xwr_eq, xwr_nk, xwr_nj, Int.toNat_natCast, x_nc] <;> first | omega | assumption) | fail) only [↓if_pos, ↓if_neg, ↓b212_0, ↓b212_5, ↓b212_256, ↓b212_28, ↓b212_264, ↓b212_260, ↓b212_35, ↓b212_273, ↓b212_250, ↓b212_51, ↓b212_284, ↓b212_280, ↓b212_61, ↓b212_58, ↓b212_285, ↓b212_66, ↓b212_94, ↓b212_69, ↓b212_143, ↓b212_103, ↓b212_74, ↓b212_150, ↓b212_108, ↓b212_77, ↓b212_120, ↓b212_111, ↓b212_84, ↓b212_125, ↓b212_116, ↓b212_91, ↓b212_132, ↓b212_128, ↓b212_153, ↓b212_139, ↓b212_158, ↓b212_176, ↓b212_161, ↓b212_177, ↓b212_165, ↓b212_183, ↓b212_172, ↓b212_192, ↓b212_186, ↓b212_193, ↓b212_205, ↓b212_198, ↓b212_210, ↓b212_209, ↓b212_224, ↓b212_239, x_bdi, x_bdn, ite_self, Int.reduceAdd, xadd_eq, xsub_eq, xmul_eq, xneg_eq, xwr_eq, xwr_nk, xwr_nj, Int.toNat_natCast, x_nc]
theorem s212 (h1 : σ 100 1 = n) (hn : n ≤ 300) (oc : OC (σ 101) n F P r) : ∃ τ, (∀ d, Ev X (d + 3) 212 0 [some (vr 100), none, none, none, none, none] [] SH σ = some (some (vi (if r = -1 then 0 else 1)), SH, τ)) ∧ τ 100 1 = 0 ∧ τ 100 2 = F ∧ τ 100 3 = P ∧ (r ≠ -1 → τ 100 24 = r ∧ (∀ j, (j : Nat) < r.toNat → τ 109 j = dgI (txs (σ 101) n j)) ∧ (∀ j, (j : Nat) < r.toNat → τ 112 j = wyM (σ 102) (txs (σ 101) n j))) ∧ chg [109, 112] [(100, 1), (100, 2), (100, 3), (100, 4), (100, 5), (100, 10), (100, 24)] σ τ := by
  obtain ⟨p, p1, p2, p3⟩ := oc
  have e0 : g197 σ 0 101 = σ 101 := by
    unfold g197
    simp (disch := decide) only [xwr_row]
  have e2 : g197 σ 0 102 = σ 102 := by
    unfold g197
    simp (disch := decide) only [xwr_row]
  have v5 : g197 σ 0 100 5 = n := by
    unfold g197
    simp (disch := decide) only [xwr_nj, xwr_eq]
    exact h1
  have v2 : g197 σ 0 100 2 = 0 := by
    unfold g197
    simp (disch := decide) only [xwr_nj, xwr_eq]
  have v1 : g197 σ 0 100 1 = 0 := by
    unfold g197
    simp (disch := decide) only [xwr_nj, xwr_eq]
  have v3 : g197 σ 0 100 3 = -1 := by
    unfold g197
    simp (disch := decide) only [xwr_nj, xwr_eq]
  have c0 : chg [109, 112] [(100, 1), (100, 2), (100, 3), (100, 4), (100, 5), (100, 10), (100, 24)] σ (g197 σ 0) := chg_wr rfl (chg_wr rfl (chg_wr rfl (chg_wr rfl (chg_wr rfl (chg_wr rfl chg_rf)))))
  obtain ⟨τ, o', hN, lp⟩ := it212 (X := X) (σ := g197 σ 0) (n := n) (p := p) v5 v2 hn p1 (by rw [e0]; exact p2) p 0 none (xwr (g197 σ 0) 100 24 0) (by omega) (by
    refine ⟨xwr_eq, fun j hj => ?_, fun j hj => ?_, chg_wr rfl chg_rf⟩
    · simp [nbL] at hj
    · simp [nbL] at hj)
  obtain ⟨n1, n2, n3, n4⟩ := hN
  rw [e0] at n1 n2 n3 lp
  rw [e2] at n3
  have c1 : chg [109, 112] [(100, 1), (100, 2), (100, 3), (100, 4), (100, 5), (100, 10), (100, 24)] σ τ := by
    intro k j a b
    rw [n4 k j ?_ b]
    · exact c0 k j a b
    · unfold pin at a ⊢
      rw [Bool.or_eq_false_iff] at a ⊢
      refine ⟨a.1, ?_⟩
      have a2 := a.2
      rw [Bool.eq_false_iff] at a2 ⊢
      intro z
      exact a2 (by simp at z ⊢; omega)
  have t1 : τ 100 1 = 0 := by rw [n4 100 1 rfl (fun z => absurd z (by decide))]; exact v1
  have t2 : τ 100 2 = 0 := by rw [n4 100 2 rfl (fun z => absurd z (by decide))]; exact v2
  have t3 : τ 100 3 = -1 := by rw [n4 100 3 rfl (fun z => absurd z (by decide))]; exact v3
  have t5 : τ 100 5 = n := by rw [n4 100 5 rfl (fun z => absurd z (by decide))]; exact v5
  have t101 : τ 101 = σ 101 := by rw [chg_row n4 (fun _ => rfl) rfl]; exact e0
  have st : ∀ d, Ev X (d + 3) 212 0 [some (vr 100), none, none, none, none, none] [] SH σ = Ev X (d + 3) 212 19 [some (vr 100), some (vi (auS (nbL (σ 101) p)).1), some (vi (auS (nbL (σ 101) p)).2.1), some (vi (auS (nbL (σ 101) p)).2.2), some (vi p), o'] [] SH τ := by
    intro d
    have l := lp (d + 1)
    rw [← l]
    refine Eq.trans b212_0 ?_
    refine x_bind (s197 (Or.inl rfl)) ?_
    exact b212_5
  have ar := au_rg (n := n) p1 p2
  rcases p3 with ⟨e1, e2, e3, rfl, rfl, rfl⟩ | ⟨e1, e2, e3, rfl, rfl, rfl⟩ | ⟨e1, e2, rfl, rfl, rfl⟩ | ⟨e1, e2, rfl, rfl, rfl⟩
  · refine ⟨xwr (xwr τ 100 2 1) 100 3 p, fun d => ?_, ?_, ?_, ?_, fun z => absurd rfl z, chg_wr rfl (chg_wr rfl c1)⟩
    · rw [st d]
      have y := st212f (X := X) (d := d + 1) (o5 := o') (a1 := (auS (nbL (σ 101) p)).1) (a2 := (auS (nbL (σ 101) p)).2.1) (a3 := (auS (nbL (σ 101) p)).2.2) t5 t2 e1 hn (by rw [t101]; exact isBl_f (auS_bl e2)) (by rw [t101]; exact e3)
      refine Eq.trans y ?_
      have yy : g214 τ 1 p = xwr (xwr τ 100 2 1) 100 3 p := by
        unfold g214
        rw [if_pos (by omega)]
      rw [yy, e212 (F := 1) (n := n) (by rw [xwr_nj (by decide), xwr_eq]) (by rw [xwr_nj (by decide), xwr_nj (by decide)]; exact t5) (by decide) (Or.inl (by decide)) (by omega) (d + 1), if_neg (by omega), if_neg (by decide), if_pos rfl]
    · rw [xwr_nj (by decide), xwr_nj (by decide)]; exact t1
    · rw [xwr_nj (by decide), xwr_eq]
    · rw [xwr_eq]
  · refine ⟨xwr (xwr τ 100 2 2) 100 3 p, fun d => ?_, ?_, ?_, ?_, fun z => absurd rfl z, chg_wr rfl (chg_wr rfl c1)⟩
    · rw [st d]
      have b := auS_bl e2
      have len := nbL_len (σ 101) p p2
      have no : τ 100 24 = 11 ∨ aOk ((auS (nbL (σ 101) p)).1, (auS (nbL (σ 101) p)).2.1, (auS (nbL (σ 101) p)).2.2) (τ 101 p) = false := by
        by_cases l : (nbL (σ 101) p).length < 11
        · refine Or.inr ?_
          unfold gd at e2
          rw [b, e3, decide_eq_true l] at e2
          rw [t101]
          simpa using e2
        · exact Or.inl (by omega)
      have y := st212n (X := X) (d := d + 1) (o5 := o') (a1 := (auS (nbL (σ 101) p)).1) (a2 := (auS (nbL (σ 101) p)).2.1) (a3 := (auS (nbL (σ 101) p)).2.2) t5 t2 e1 hn (by rw [t101]; exact isBl_f b) (by rw [t101]; exact e3) no ar.2.2.1 ar.2.2.2
      refine Eq.trans y ?_
      have yy : g214 τ 2 p = xwr (xwr τ 100 2 2) 100 3 p := by
        unfold g214
        rw [if_pos (by omega)]
      rw [yy, e212 (F := 2) (n := n) (by rw [xwr_nj (by decide), xwr_eq]) (by rw [xwr_nj (by decide), xwr_nj (by decide)]; exact t5) (by decide) (Or.inl (by decide)) (by omega) (d + 1), if_neg (by omega), if_neg (by decide), if_pos rfl]
    · rw [xwr_nj (by decide), xwr_nj (by decide)]; exact t1
    · rw [xwr_nj (by decide), xwr_eq]
    · rw [xwr_eq]
  · subst e1
    refine ⟨xwr (xwr τ 100 2 2) 100 3 p, fun d => ?_, ?_, ?_, ?_, fun z => absurd rfl z, chg_wr rfl (chg_wr rfl c1)⟩
    · unfold whl at e2
      rw [st d, e212 (F := 0) t2 t5 (by decide) (Or.inr (Nat.le_refl _)) (by omega) (d + 1), if_neg (by omega), if_pos rfl, if_pos rfl]
    · rw [xwr_nj (by decide), xwr_nj (by decide)]; exact t1
    · rw [xwr_nj (by decide), xwr_eq]
    · rw [xwr_eq]
  · subst e1
    refine ⟨τ, fun d => ?_, t1, t2, t3, fun _ => ⟨n1, ?_, ?_⟩, c1⟩
    · unfold whl at e2
      rw [st d, e212 (F := 0) t2 t5 (by decide) (Or.inr (Nat.le_refl _)) (by omega) (d + 1), if_pos (by omega), if_neg (by omega)]
    · rw [Int.toNat_natCast]; exact n2
    · rw [Int.toNat_natCast]; exact n3
end TXM
