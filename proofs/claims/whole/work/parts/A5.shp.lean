/-! SHAPE, in the model: seekShape -/
def fstS (f s : Int) : Int := if f < 0 ∨ s < f then s else f
def mstS (m s : Int) : Int := if s ≤ m then m else s
section SHP
variable {X : Nat × (Nat → Int)} {μ τ : xM} {n len : Nat} {mo : Nat → List Nat} {ct cl : Nat → Nat → Nat} {B : Nat → Nat → Int} {fg w : Nat → Int} {sy : Nat → Nat → Int} {cd : Nat → Int} {G : (Nat → Nat) → Bool}
def stkB (B : Nat → Nat → Int) (n : Nat) (q : Nat → Nat) : Int := (nsum (fun c => wtB B c (q c)) n : Int)
theorem GDM_on {on : Int} {q : Nat → Nat} : GDM n B fg sy cd len on q ↔ (on = -1 ∨ stkB B n q = on) ∧ GDM n B fg sy cd len (-1) q := by
  unfold GDM LK stkB
  constructor
  · intro ⟨h1, h2⟩
    exact ⟨h1, Or.inl rfl, h2⟩
  · intro ⟨h1, _, h2⟩
    exact ⟨h1, h2⟩
/-- the count of a row that is there -/
theorem row_ct (hS : SCN n mo ct cl B (-1) (-1) fg w sy cd len μ) {q nx : Nat → Nat} (hD : DNE n mo ct cl B q nx μ) : ∀ d, Ev X (d + 1) 251 0 [some (vr 100), some (vr 125), none, none] [] SH μ = some (some (vi (stkB B n q)), SH, μ) := by
  intro d
  obtain ⟨⟨o1, o2, o3, o4, o5⟩, hn, _⟩ := hS
  obtain ⟨d1, d2, d3, d4, d5⟩ := hD
  have rg : ∀ c, c < n → 0 ≤ B c (q c) ∧ B c (q c) < 128 := by
    intro c hc
    obtain ⟨e, he, hh⟩ := List.getElem_of_mem (d3 c hc)
    rw [← hh]
    exact ((o5 c hc).2.2.2 e he).2.1
  have := s251 (X := X) (d := d) (σ := μ) (k := 125) rfl (by omega) (by omega) (fun c hc => by rw [d2 c (by omega)]; exact rg c (by omega))
  rw [this, o1, Int.toNat_natCast, isum_nsum (f := fun c => pc (μ 125 c).toNat) (g := fun c => wtB B c (q c)) n (fun c hc => by
    show pc (μ 125 c).toNat = _
    rw [d2 c hc]
    unfold wtB
    have := pc_rg (B c (q c)).toNat
    omega)]
  rfl
theorem stk_nn {q : Nat → Nat} : 0 ≤ stkB B n q := by
  unfold stkB
  omega
/-- seekShape's loop -/
theorem it258 (hG : ∀ q, G q = true ↔ fit (-1) (-1) (nsum (fun c => ct c (q c)) n) (nsum (fun c => cl c (q c)) n)) {nth my : Int} {on : Int} (hon : (my < 0 ∧ on = -1) ∨ (0 ≤ my ∧ on = my)) : ∀ (Q : List (Nat → Nat)) (μ : xM) (a : Nat) (f m : Int), SCN n mo ct cl B (-1) (-1) fg w sy cd len μ → ADVB X n mo ct cl B G Q μ → μ 100 52 = f → μ 100 53 = m → (nth < 0 ∨ (a : Int) ≤ nth) → a + (Q.filter (gdB (GDM n B fg sy cd len on))).length < 1500000000 → ∃ (r : Int) (τ : xM), (∀ d o4, Ev X (d + 5) 258 45 [some (vr 100), some (vi my), some (vi nth), some (vi a), o4] [] SH μ = some (some (vi r), SH, τ)) ∧ chg [113, 114, 115, 121, 124, 125, 127, 128] [(100, 47), (100, 52), (100, 53)] μ τ ∧ (nth < 0 → r = (a : Int) + (Q.filter (gdB (GDM n B fg sy cd len on))).length ∧ τ 100 52 = ((Q.filter (gdB (GDM n B fg sy cd len on))).map (stkB B n)).foldl fstS f ∧ τ 100 53 = ((Q.filter (gdB (GDM n B fg sy cd len on))).map (stkB B n)).foldl mstS m) ∧ (∀ i : Nat, nth = ((a + i : Nat) : Int) → ∀ h : i < (Q.filter (gdB (GDM n B fg sy cd len on))).length, r = nth ∧ ∀ c, c < n → τ 125 c = B c ((Q.filter (gdB (GDM n B fg sy cd len on)))[i] c)) ∧ (∀ i : Nat, nth = ((a + i : Nat) : Int) → (Q.filter (gdB (GDM n B fg sy cd len on))).length ≤ i → r = -1) := by
  intro Q
  induction Q with
  | nil =>
    intro μ a f m hS hA ef em hn ha
    obtain ⟨μ1, a1, a2⟩ := hA.1 rfl
    have st : ∀ d o4, Ev X (d + 5) 258 45 [some (vr 100), some (vi my), some (vi nth), some (vi a), o4] [] SH μ = Ev X (d + 5) 258 150 [some (vr 100), some (vi my), some (vi nth), some (vi a), o4] [] SH μ1 := by
      intro d o4
      refine Eq.trans b258_45 ?_
      refine x_bind (a1 _ _ _ _) ?_
      dsimp only
      refine Eq.trans b258_49 ?_
      rw [if_pos rfl]
    by_cases y : nth < 0
    · refine ⟨(a : Int), μ1, fun d o4 => ?_, chg_mo (by decide) (chsA_g a2), fun _ => ⟨by simp, (a2 100 52 rfl).trans ef, (a2 100 53 rfl).trans em⟩, fun i hi => by omega, fun i hi => by omega⟩
      rw [st, b258_150, if_neg (by omega), b258_154, b258_159]
    · refine ⟨-1, μ1, fun d o4 => ?_, chg_mo (by decide) (chsA_g a2), fun z => absurd z y, fun i hi h => absurd h (by simp), fun _ _ _ => rfl⟩
      rw [st, b258_150, if_pos (by omega), b258_158, b258_159]
  | cons q Q ih =>
    intro μ a f m hS hA ef em hn ha
    obtain ⟨μ1, nx1, a1, a2, a3, a4⟩ := hA.2 q Q rfl
    have S1 := SCN_chg hS (chsA_g a2) rfl
    have ct1 := row_ct (X := X) S1 a3
    have nn := stk_nn (B := B) (n := n) (q := q)
    have st : ∀ d o4, Ev X (d + 5) 258 45 [some (vr 100), some (vi my), some (vi nth), some (vi a), o4] [] SH μ = Ev X (d + 5) 258 60 [some (vr 100), some (vi my), some (vi nth), some (vi a), o4] [vi (stkB B n q)] SH μ1 := by
      intro d o4
      refine Eq.trans b258_45 ?_
      refine x_bind (a1 _ _ _ _) ?_
      dsimp only
      refine Eq.trans b258_49 ?_
      rw [if_neg (by decide)]
      refine Eq.trans b258_52 ?_
      refine x_bind (ct1 _) ?_
      rfl
    -- the row is passed over
    have pass : ∀ μ2 : xM, chg [113, 114, 115, 121] [] μ1 μ2 → ¬ gdB (GDM n B fg sy cd len on) q = true → (∀ d o4, ∃ q4, Ev X (d + 5) 258 45 [some (vr 100), some (vi my), some (vi nth), some (vi a), o4] [] SH μ = Ev X (d + 5) 258 45 [some (vr 100), some (vi my), some (vi nth), some (vi a), q4] [] SH μ2) → ∃ (r : Int) (τ : xM), (∀ d o4, Ev X (d + 5) 258 45 [some (vr 100), some (vi my), some (vi nth), some (vi a), o4] [] SH μ = some (some (vi r), SH, τ)) ∧ chg [113, 114, 115, 121, 124, 125, 127, 128] [(100, 47), (100, 52), (100, 53)] μ τ ∧ (nth < 0 → r = (a : Int) + ((q :: Q).filter (gdB (GDM n B fg sy cd len on))).length ∧ τ 100 52 = (((q :: Q).filter (gdB (GDM n B fg sy cd len on))).map (stkB B n)).foldl fstS f ∧ τ 100 53 = (((q :: Q).filter (gdB (GDM n B fg sy cd len on))).map (stkB B n)).foldl mstS m) ∧ (∀ i : Nat, nth = ((a + i : Nat) : Int) → ∀ h : i < ((q :: Q).filter (gdB (GDM n B fg sy cd len on))).length, r = nth ∧ ∀ c, c < n → τ 125 c = B c (((q :: Q).filter (gdB (GDM n B fg sy cd len on)))[i] c)) ∧ (∀ i : Nat, nth = ((a + i : Nat) : Int) → ((q :: Q).filter (gdB (GDM n B fg sy cd len on))).length ≤ i → r = -1) := by
      intro μ2 b4 gq run
      have S2 := SCN_chg S1 b4 rfl
      have A2 := ADVB_dn (X := X) S2 hG (DNE_chg a3 b4 rfl) a4
      rw [List.filter_cons_of_neg gq] at ha
      rw [List.filter_cons_of_neg gq]
      obtain ⟨r, τ, p1, p2, p3⟩ := ih μ2 a f m S2 A2 (by rw [chg_at b4 rfl rfl, a2 100 52 rfl]; exact ef) (by rw [chg_at b4 rfl rfl, a2 100 53 rfl]; exact em) hn ha
      refine ⟨r, τ, fun d o4 => ?_, chg_tr (chg_mo (by decide) (chsA_g a2)) (chg_tr (chg_mo (by decide) b4) p2), p3⟩
      obtain ⟨q4, hq⟩ := run d o4
      exact hq.trans (p1 d q4)
    by_cases sk : on = -1 ∨ stkB B n q = on
    · obtain ⟨b, μ2, b1, b2, b3, b4⟩ := row_gd (X := X) S1 a3
      have st2 : ∀ d o4, Ev X (d + 5) 258 45 [some (vr 100), some (vi my), some (vi nth), some (vi a), o4] [] SH μ = Ev X (d + 5) 258 80 [some (vr 100), some (vi my), some (vi nth), some (vi a), some (vi (stkB B n q))] [vi b] SH μ2 := by
        intro d o4
        have t72 : Ev X (d + 5) 258 60 [some (vr 100), some (vi my), some (vi nth), some (vi a), o4] [vi (stkB B n q)] SH μ1 = Ev X (d + 5) 258 72 [some (vr 100), some (vi my), some (vi nth), some (vi a), some (vi (stkB B n q))] [] SH μ1 := by
          rw [b258_60]
          by_cases y : my < 0
          · rw [if_pos y]
          · rw [if_neg y, b258_66, if_neg (by omega)]
        rw [st, t72]
        refine Eq.trans b258_72 ?_
        refine x_bind (b2 d) ?_
        rfl
      by_cases z : b = 1
      · have gq : gdB (GDM n B fg sy cd len on) q = true := gdB_iff.mpr (GDM_on.mpr ⟨sk, b3.mp z⟩)
        rw [List.filter_cons_of_pos gq, List.length_cons] at ha
        rw [List.filter_cons_of_pos gq]
        by_cases e : (a : Int) = nth
        · refine ⟨(a : Int), μ2, fun d o4 => ?_, chg_tr (chg_mo (by decide) (chsA_g a2)) (chg_mo (by decide) b4), fun y => by omega, fun i hi h => ?_, fun i hi h => ?_⟩
          · rw [st2, b258_80, if_pos (by omega), b258_86, if_neg (fun w => w e), b258_91]
          · have : i = 0 := by omega
            subst this
            refine ⟨e, fun c hc => ?_⟩
            rw [show μ2 125 = μ1 125 from chg_row b4 (fun _ => rfl) rfl]
            exact a3.2.1 c hc
          · rw [List.length_cons] at h
            omega
        · have e52 : μ2 100 52 = f := by rw [chg_at b4 rfl rfl, a2 100 52 rfl]; exact ef
          have e53 : μ2 100 53 = m := by rw [chg_at b4 rfl rfl, a2 100 53 rfl]; exact em
          generalize hμ : xwr (xwr μ2 100 52 (fstS f (stkB B n q))) 100 53 (mstS m (stkB B n q)) = μ3
          have c3 : chg [] [(100, 52), (100, 53)] μ2 μ3 := by
            rw [← hμ]
            exact chg_wr rfl (chg_wr rfl chg_rf)
          have S2 := SCN_chg S1 b4 rfl
          have S3 := SCN_chg S2 c3 rfl
          have A3 := ADVB_dn (X := X) S3 hG (DNE_chg (DNE_chg a3 b4 rfl) c3 rfl) a4
          obtain ⟨r, τ, p1, p2, p3, p4, p5⟩ := ih μ3 (a + 1) _ _ S3 A3 (by rw [← hμ, xwr_nj (by decide), xwr_eq]) (by rw [← hμ, xwr_eq]) (by omega) (by omega)
          refine ⟨r, τ, fun d o4 => ?_, chg_tr (chg_mo (by decide) (chsA_g a2)) (chg_tr (chg_mo (by decide) b4) (chg_tr (chg_mo (by decide) c3) p2)), fun y => ?_, fun i hi h => ?_, fun i hi h => ?_⟩
          · have xa : xadd (a : Int) 1 = ((a + 1 : Nat) : Int) := xadd_eq (by omega) (by omega)
            have s122 : Ev X (d + 5) 258 45 [some (vr 100), some (vi my), some (vi nth), some (vi a), o4] [] SH μ = Ev X (d + 5) 258 122 [some (vr 100), some (vi my), some (vi nth), some (vi ((a + 1 : Nat) : Int)), some (vi (stkB B n q))] [vi (fstS f (stkB B n q)), vr 100] SH μ2 := by
              rw [st2, b258_80, if_pos (by omega), b258_86, if_pos e, b258_93, e52, xa]
              unfold fstS
              by_cases y1 : f < 0
              · rw [if_pos y1, b258_113, if_pos (Or.inl y1)]
              · rw [if_neg y1, b258_104, e52]
                by_cases y2 : f ≤ stkB B n q
                · rw [if_pos y2, b258_118, e52, if_neg (by omega)]
                · rw [if_neg y2, b258_113, if_pos (by omega)]
            rw [s122, b258_122, e53]
            have t53 : (xwr μ2 100 52 (fstS f (stkB B n q))) 100 53 = m := by rw [xwr_nj (by decide)]; exact e53
            have fin : ∀ v, v = mstS m (stkB B n q) → Ev X (d + 5) 258 144 [some (vr 100), some (vi my), some (vi nth), some (vi ((a + 1 : Nat) : Int)), some (vi (stkB B n q))] [vi v, vr 100] SH (xwr μ2 100 52 (fstS f (stkB B n q))) = some (some (vi r), SH, τ) := by
              intro v hv
              rw [b258_144, hv, hμ]
              exact p1 d _
            by_cases y3 : stkB B n q ≤ m
            · rw [if_pos y3, b258_140, t53, fin m (by unfold mstS; rw [if_pos y3])]
            · rw [if_neg y3, b258_135, fin _ (by unfold mstS; rw [if_neg y3])]
          · obtain ⟨q1, q2, q3⟩ := p3 y
            rw [q1, List.length_cons, List.map_cons, List.foldl_cons, List.foldl_cons]
            exact ⟨by omega, q2, q3⟩
          · obtain ⟨i', rfl⟩ : ∃ i', i = i' + 1 := ⟨i - 1, by omega⟩
            rw [List.length_cons] at h
            exact p4 i' (by omega) (by omega)
          · obtain ⟨i', rfl⟩ : ∃ i', i = i' + 1 := ⟨i - 1, by omega⟩
            rw [List.length_cons] at h
            exact p5 i' (by omega) (by omega)
      · refine pass μ2 b4 (fun g => z (b3.mpr (GDM_on.mp (gdB_iff.mp g)).2)) (fun d o4 => ⟨some (vi (stkB B n q)), ?_⟩)
        rw [st2, b258_80, if_neg (by omega), b258_83]
    · refine pass μ1 chg_rf (fun g => sk (GDM_on.mp (gdB_iff.mp g)).1) (fun d o4 => ⟨some (vi (stkB B n q)), ?_⟩)
      rw [st, b258_60, if_neg (by omega), b258_66, if_pos (by omega)]
end SHP
