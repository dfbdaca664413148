/-! THE FORMS' TEXT: the told ways are taken -/
def nwF (t : Nat → Int) (i : Nat) : Int := if t (2 * (i / 2)) = 0 then (if i % 2 = 0 then FW (i / 2) else 0) else t i
def FCk (w : Nat → Int) (k : Nat) (cnt : Int) (ls dg ix : Nat → Int) : Prop := cnt = nz w k ∧ (∀ i, i < k → w i ≠ 0 → ls (nz w i) = w i ∧ dg (nz w i) = ((i / 2 : Nat) : Int) ∧ ix (w i).toNat = nz w i) ∧ (∀ b : Nat, b < 128 → (∀ i, i < k → w i = (b : Int) → b = 0) → ix b = -1)
section WAD
variable {X : Nat × (Nat → Int)} {σ μ : xM} {w t : Nat → Int}
theorem g61_chg {a b : Int} : chg [6, 7, 8] [(3, 5)] σ (g61 σ a b) := by
  unfold g61
  repeat' split
  · exact chg_rf
  · exact chg_rf
  · exact chg_rf
  · exact chg_wr rfl (chg_wr rfl (chg_wr rfl (chg_wr rfl chg_rf)))
theorem fck_step {k : Nat} (hk : k < 20) (W : WF w) (h : FCk w k (σ 3 5) (σ 6) (σ 7) (σ 8)) : FCk w (k + 1) (g61 σ ((k / 2 : Nat) : Int) (w k) 3 5) (g61 σ ((k / 2 : Nat) : Int) (w k) 6) (g61 σ ((k / 2 : Nat) : Int) (w k) 7) (g61 σ ((k / 2 : Nat) : Int) (w k) 8) := by
  obtain ⟨h1, h2, h3⟩ := h
  have wk := W.1 k hk
  have nl := nz_le (w := w) k
  by_cases z : w k = 0
  · have e : g61 σ ((k / 2 : Nat) : Int) (w k) = σ := by
      unfold g61
      rw [if_pos (by omega)]
    rw [e]
    refine ⟨?_, fun i hi hw => ?_, fun b hb hn => h3 b hb (fun i hi => hn i (by omega))⟩
    · rw [nz, if_pos z, h1]
      omega
    · by_cases y : i = k
      · rw [y] at hw
        exact absurd z hw
      · exact h2 i (by omega) hw
  · have e : g61 σ ((k / 2 : Nat) : Int) (w k) = xwr (xwr (xwr (xwr σ 6 (nz w k) (w k)) 7 (nz w k) ((k / 2 : Nat) : Int)) 8 (w k).toNat (nz w k : Int)) 3 5 ((nz w k + 1 : Nat) : Int) := by
      unfold g61
      rw [if_neg (by omega), if_neg (by omega), h1, if_neg (by omega), Int.toNat_natCast, xadd_eq (by omega) (by omega)]
      rfl
    rw [e, xwr_eq, xwr_row (show 6 ≠ 3 by decide), xwr_row (show 6 ≠ 8 by decide), xwr_row (show 6 ≠ 7 by decide), xwr_row (show 7 ≠ 3 by decide), xwr_row (show 7 ≠ 8 by decide), xwr_row (show 8 ≠ 3 by decide), xwr_rw, xwr_rw, xwr_row (show 7 ≠ 6 by decide), xwr_rw, xwr_row (show 8 ≠ 7 by decide), xwr_row (show 8 ≠ 6 by decide)]
    refine ⟨?_, fun i hi hw => ?_, fun b hb hn => ?_⟩
    · rw [nz, if_neg z]
    · dsimp only
      by_cases y : i = k
      · subst y
        rw [if_pos rfl, if_pos rfl, if_pos rfl]
        exact ⟨rfl, rfl, rfl⟩
      · have l := nz_lt (w := w) (i := i) (n := k) (by omega) hw
        have wi := W.1 i (by omega)
        have di : (w i).toNat ≠ (w k).toNat := fun g => y (W.2.2 i k (by omega) hk (by omega) hw)
        rw [if_neg (by omega), if_neg (by omega), if_neg di]
        exact h2 i (by omega) hw
    · dsimp only
      rw [if_neg]
      · exact h3 b hb (fun i hi => hn i (by omega))
      · intro g
        have := hn k (by omega) (by omega)
        omega
theorem it60a : ∀ (m i : Nat) (σ : xM), i + m = 128 → (∀ j, j < i → σ 8 j = -1) → ∃ τ, (∀ d o2, Ev X d 60 7 [some (vr 3), some (vi i), o2] [] SH σ = Ev X d 60 27 [some (vr 3), some (vi 128), o2] [] SH τ) ∧ chg [8] [] σ τ ∧ ∀ j, j < 128 → τ 8 j = -1 := by
  intro m
  induction m with
  | zero =>
    intro i σ e h
    have e : i = 128 := e
    subst e
    refine ⟨σ, fun d o2 => ?_, chg_rf, h⟩
    rw [b60_7, if_pos (by decide)]
    rfl
  | succ m ih =>
    intro i σ e h
    have xi : xadd (i : Int) 1 = ((i + 1 : Nat) : Int) := xadd_eq (by omega) (by omega)
    obtain ⟨τ, t1, t2, t3⟩ := ih (i + 1) (xwr σ 8 i (-1)) (by omega) (fun j hj => by
      rw [xwr_rw]
      by_cases y : j = i
      · exact if_pos y
      · exact (if_neg y).trans (h j (by omega)))
    refine ⟨τ, fun d o2 => ?_, chg_tr (chg_wr rfl chg_rf) t2, t3⟩
    rw [b60_7, if_neg (by omega), b60_14 (by omega), xi, Int.toNat_natCast]
    exact t1 d o2
theorem it60 (W : WF w) (hw : ∀ i, i < 20 → w i = nwF t i) : ∀ (m g : Nat) (σ : xM) (o2 : Option xV), g + m = 10 → σ 5 = t → (∀ i, i < 2 * g → σ 4 i = w i) → FCk w (2 * g) (σ 3 5) (σ 6) (σ 7) (σ 8) → ∃ τ o, (∀ d, Ev X (d + 1) 60 29 [some (vr 3), some (vi g), o2] [] SH σ = Ev X (d + 1) 60 142 [some (vr 3), some (vi 10), o] [] SH τ) ∧ chg [4, 6, 7, 8] [(3, 5)] σ τ ∧ (∀ i, i < 20 → τ 4 i = w i) ∧ FCk w 20 (τ 3 5) (τ 6) (τ 7) (τ 8) := by
  intro m
  induction m with
  | zero =>
    intro g σ o2 e h5 h4 hF
    have e : g = 10 := e
    subst e
    refine ⟨σ, o2, fun d => ?_, chg_rf, h4, hF⟩
    rw [b60_29, if_pos (by decide)]
    rfl
  | succ m ih =>
    intro g σ o2 e h5 h4 hF
    have xg : xadd (g : Int) 1 = ((g + 1 : Nat) : Int) := xadd_eq (by omega) (by omega)
    have xk : xmul 2 (g : Int) = ((2 * g : Nat) : Int) := by
      rw [xmul_eq (by omega) (by omega)]
      omega
    have xk1 : xadd ((2 * g : Nat) : Int) 1 = ((2 * g + 1 : Nat) : Int) := by
      rw [xadd_eq (by omega) (by omega)]
      omega
    have w0 := hw (2 * g) (by omega)
    have w1 := hw (2 * g + 1) (by omega)
    unfold nwF at w0 w1
    rw [show 2 * g / 2 = g by omega, if_pos (show 2 * g % 2 = 0 by omega)] at w0
    rw [show (2 * g + 1) / 2 = g by omega, if_neg (show ¬ (2 * g + 1) % 2 = 0 by omega)] at w1
    generalize hσa : xwr (xwr σ 4 (2 * g) (w (2 * g))) 4 (2 * g + 1) (w (2 * g + 1)) = σa
    have a0 : σa 4 (2 * g) = w (2 * g) := by rw [← hσa, xwr_nj (by omega), xwr_eq]
    have a1 : σa 4 (2 * g + 1) = w (2 * g + 1) := by rw [← hσa, xwr_eq]
    have al : ∀ i, i < 2 * g → σa 4 i = w i := fun i hi => by rw [← hσa, xwr_nj (by omega), xwr_nj (by omega)]; exact h4 i hi
    have a5 : σa 5 = t := by rw [← hσa, xwr_row (by decide), xwr_row (by decide)]; exact h5
    have aF : FCk w (2 * g) (σa 3 5) (σa 6) (σa 7) (σa 8) := by
      rw [← hσa, xwr_nk (by decide), xwr_nk (by decide), xwr_row (show 6 ≠ 4 by decide), xwr_row (show 6 ≠ 4 by decide), xwr_row (show 7 ≠ 4 by decide), xwr_row (show 7 ≠ 4 by decide), xwr_row (show 8 ≠ 4 by decide), xwr_row (show 8 ≠ 4 by decide)]
      exact hF
    have ac : chg [4, 6, 7, 8] [(3, 5)] σ σa := by
      rw [← hσa]
      exact chg_wr rfl (chg_wr rfl chg_rf)
    have st : ∃ o, ∀ d, Ev X (d + 1) 60 29 [some (vr 3), some (vi g), o2] [] SH σ = Ev X (d + 1) 60 107 [some (vr 3), some (vi g), o] [vi (w (2 * g + 1)), vi ((2 * g + 1 : Nat) : Int), vr 4] SH (xwr σ 4 (2 * g) (w (2 * g))) := by
      by_cases z : t (2 * g) = 0
      · rw [if_pos z] at w0 w1
        refine ⟨some (vi 0), fun d => ?_⟩
        rw [b60_29, if_neg (by omega), b60_35 (by rw [xk]; omega), xk, Int.toNat_natCast, h5, if_pos z, b60_50, b60_51, if_pos rfl, xk, b60_74 (by omega), b60_79 (by omega), if_pos rfl, xk, xk1, b60_106, Int.toNat_natCast, Int.toNat_natCast, w0, w1]
        rfl
      · rw [if_neg z] at w0 w1
        refine ⟨some (vi 1), fun d => ?_⟩
        rw [b60_29, if_neg (by omega), b60_35 (by rw [xk]; omega), xk, Int.toNat_natCast, h5, if_neg z, b60_46, b60_51, if_neg (by decide), xk, b60_63 (by rw [xk]; omega), b60_79 (by omega), if_neg (by decide), xk, xk1, b60_93 (by rw [xk, xk1]; omega), xk, xk1, Int.toNat_natCast, Int.toNat_natCast, xwr_row (by decide), h5, w0, w1]
    obtain ⟨o, st⟩ := st
    have gb := fck_step (σ := σa) (k := 2 * g) (by omega) W aF
    rw [show 2 * g / 2 = g by omega] at gb
    generalize hσb : g61 σa (g : Int) (w (2 * g)) = σb at gb
    have cb : chg [6, 7, 8] [(3, 5)] σa σb := by rw [← hσb]; exact g61_chg
    have gc := fck_step (σ := σb) (k := 2 * g + 1) (by omega) W gb
    rw [show (2 * g + 1) / 2 = g by omega] at gc
    generalize hσc : g61 σb (g : Int) (w (2 * g + 1)) = σc at gc
    have cc : chg [6, 7, 8] [(3, 5)] σb σc := by rw [← hσc]; exact g61_chg
    have b4 : σb 4 = σa 4 := chg_row cb (fun j => rfl) rfl
    have c4 : σc 4 = σa 4 := (chg_row cc (fun j => rfl) rfl).trans b4
    have c5 : σc 5 = t := ((chg_row cc (fun j => rfl) rfl).trans (chg_row cb (fun j => rfl) rfl)).trans a5
    have pa : 0 ≤ σa 3 5 := by rw [aF.1]; omega
    have pb : 0 ≤ σb 3 5 := by rw [gb.1]; omega
    obtain ⟨τ, o', t1, t2, t3, t4⟩ := ih (g + 1) σc o (by omega) c5 (fun i hi => by
      rw [c4]
      by_cases y : i = 2 * g + 1
      · rw [y]; exact a1
      · by_cases y2 : i = 2 * g
        · rw [y2]; exact a0
        · exact al i (by omega)) gc
    refine ⟨τ, o', fun d => ?_, chg_tr ac (chg_tr (chg_mo (by decide) cb) (chg_tr (chg_mo (by decide) cc) t2)), t3, t4⟩
    rw [st]
    refine Eq.trans (b60_107 (by omega) (by rw [xk]; omega)) ?_
    rw [xk, Int.toNat_natCast, Int.toNat_natCast, hσa, a0]
    refine x_bind (s61 pa) ?_
    dsimp only
    rw [hσb]
    refine Eq.trans (b60_121 (by rw [xk, xk1]; omega)) ?_
    rw [xk, xk1, Int.toNat_natCast, b4, a1]
    refine x_bind (s61 pb) ?_
    dsimp only
    rw [hσc]
    refine Eq.trans b60_136 ?_
    rw [xg]
    exact t1 d
end WAD
