/-! the model's isSum, whole -/
section ISR
variable {X : Nat × (Nat → Int)} {σ : xM} {n : Nat} {cs : Nat → Int}
/-- the model's cells and locals where k symbols were taken -/
def MK (cs : Nat → Int) (σ τ : xM) (k : Nat) (sd sm sg tm bY v dg zr : Int) : Prop := MS (rdSt r0 cs k) sd sm sg tm bY v dg zr (τ 114 0) (τ 115 0) (τ 115 1) ∧ chg [114, 115] [] σ τ
theorem ms_side {r : Nat → Int} {N : Nat} {sd sm sg tm bY v dg zr w0 h0 h1 : Int} (h : MS r sd sm sg tm bY v dg zr w0 h0 h1) (rb : RB r N) : sd = 0 ∨ sd = 1 := by
  rw [MS_sd h]
  exact rb.2.2.2.2.2.2
/-- one symbol -/
theorem it225 (hc : ∀ j, j < n → σ 113 j = cs j) (hn : n ≤ 11) {k : Nat} (hk : k < n) (ok : okS cs (k + 1)) {τ : xM} {sd sm sg tm bY v dg zr : Int} (o11 : Option xV) (hM : MK cs σ τ k sd sm sg tm bY v dg zr) : ∃ τ' sd' sm' sg' tm' bY' v' dg' zr' o', MK cs σ τ' (k + 1) sd' sm' sg' tm' bY' v' dg' zr' ∧ ∀ d, Ev X (d + 1) 225 39 [some (vr 100), some (vi n), some (vi sd), some (vi sm), some (vi sg), some (vi tm), some (vi bY), some (vi v), some (vi dg), some (vi zr), some (vi k), o11] [] SH τ = Ev X (d + 1) 225 39 [some (vr 100), some (vi n), some (vi sd'), some (vi sm'), some (vi sg'), some (vi tm'), some (vi bY'), some (vi v'), some (vi dg'), some (vi zr'), some (vi ((k + 1 : Nat) : Int)), o'] [] SH τ' := by
  obtain ⟨hM, hC⟩ := hM
  have okk : okS cs k := fun j hj => ok j (by omega)
  obtain ⟨s, ra⟩ := auL cs k okk
  have rb := RB_st k okk (by omega)
  have hN := ndg_9 okk (show k ≤ 11 by omega)
  obtain ⟨sy, rk⟩ := ok k (by omega)
  have sy := of_decide_eq_true sy
  have t113 : τ 113 k = cs k := by rw [chg_row hC (k := 113) (fun _ => rfl) rfl]; exact hc k hk
  have hst : rdSt r0 cs (k + 1) = rdN (rdSt r0 cs k) (cs k) := rfl
  have hsd := ms_side hM rb
  have e1 := MS_sd hM
  have e2 := MS_dg hM
  unfold rdOk at rk
  by_cases e : 48 ≤ cs k ∧ cs k ≤ 57
  · rw [if_pos e] at rk
    have rk := of_decide_eq_true rk
    have ran := RA_n ra
    have hz : zr = 0 := by
      have z1 := MS_zr hM
      rcases MS_z01 hM with z | z
      · exact z
      · have := z1.mp z
        omega
    refine ⟨τ, sd, sm, sg, tm, bY, _, _, _, some (vi (cs k)), ⟨?_, hC⟩, d225 hk hn t113 e (by omega) hz ?_ (by omega)⟩
    · rw [hst]
      unfold rdN
      rw [if_pos e]
      exact MS_D hM ra e (by omega) hz
    · intro z
      have := MS_v hM (by omega)
      omega
  · rw [if_neg e] at rk
    have rk := of_decide_eq_true rk
    have hs : cs k = 43 ∨ cs k = 45 ∨ cs k = 42 ∨ cs k = 47 ∨ cs k = 61 := by omega
    have hst : rdSt r0 cs (k + 1) = rdS (rdSt r0 cs k) (cs k) := by
      rw [hst]
      unfold rdN
      rw [if_neg e]
    have A := a225 (X := X) (τ := τ) (sm := sm) (sg := sg) (tm := tm) (bY := bY) (v := v) (dg := dg) (zr := zr) (o11 := o11) hk hn t113 hs (by rw [e2]; exact rk.1) (fun z => by rw [e1]; exact rk.2 z) hsd
    have B := c225 (X := X) (τ := τ) (sm := sm) (sg := sg) (tm := tm) (v := v) (o8 := some (vi dg)) (o9 := some (vi zr)) (a1 := (n : Int)) (a10 := (k : Int)) (a11 := cs k) hsd (MS_by hM)
    generalize hv : (if bY = 47 ∧ v = 0 then 1 else v) = v' at B
    generalize hτ : (if bY = 47 ∧ v = 0 then xwr τ 115 sd.toNat 0 else τ) = τ' at B
    have c' : chg [114, 115] [] σ τ' := by
      rw [← hτ]
      split
      · exact chg_wr rfl hC
      · exact hC
    have w114 : τ' 114 0 = τ 114 0 := by
      rw [← hτ]
      split
      · rw [xwr_nk (by decide)]
      · rfl
    have q0 : τ' 115 0 = if bY = 47 ∧ v = 0 ∧ rdSt r0 cs k 0 = 0 then 0 else τ 115 0 := by
      rw [← hτ, ← e1]
      by_cases z : bY = 47 ∧ v = 0
      · rw [if_pos z]
        rcases hsd with y | y
        · rw [if_pos ⟨z.1, z.2, y⟩, y]; exact xwr_eq
        · rw [if_neg (fun w => by have := w.2.2; omega), y]; exact xwr_nj (by decide)
      · rw [if_neg z, if_neg (fun w => z ⟨w.1, w.2.1⟩)]
    have q1 : τ' 115 1 = if bY = 47 ∧ v = 0 ∧ rdSt r0 cs k 0 = 1 then 0 else τ 115 1 := by
      rw [← hτ, ← e1]
      by_cases z : bY = 47 ∧ v = 0
      · rw [if_pos z]
        rcases hsd with y | y
        · rw [if_neg (fun w => by have := w.2.2; omega), y]; exact xwr_nj (by decide)
        · rw [if_pos ⟨z.1, z.2, y⟩, y]; exact xwr_eq
      · rw [if_neg z, if_neg (fun w => z ⟨w.1, w.2.1⟩)]
    have h6 : rdSt r0 cs k 6 ≠ 0 := rk.1
    by_cases m : cs k = 42 ∨ cs k = 47
    · have C := e225m (X := X) (τ := τ') (sd := sd) (sm := sm) (sg := sg) (v := v') (o5 := some (vi tm)) (o6 := some (vi bY)) (o8 := some (vi dg)) (o9 := some (vi zr)) (a1 := (n : Int)) (t := mT tm bY v') (k := k) m (by omega)
      refine ⟨τ', sd, sm, sg, mT tm bY v', cs k, v', 0, 0, some (vi (cs k)), ⟨?_, c'⟩, fun d => (A d).trans ((B _).trans (C _))⟩
      rw [hst, w114]
      exact MS_mul hM rb hN h6 hv.symm q0 q1 m
    · by_cases m2 : cs k = 61
      · rw [m2] at A B
        have C := e225e (X := X) (τ := τ') (sd := sd) (sm := sm) (sg := sg) (v := v') (o5 := some (vi tm)) (o6 := some (vi bY)) (o8 := some (vi dg)) (o9 := some (vi zr)) (a1 := (n : Int)) (t := mT tm bY v') (k := k) (by omega) hsd
        have s0 : sd = 0 := by have := rk.2 m2; omega
        refine ⟨xwr τ' 114 sd.toNat (xadd sm (xmul sg (mT tm bY v'))), 1, 0, 1, mT tm bY v', 0, v', 0, 0, some (vi 61), ⟨?_, chg_wr rfl c'⟩, fun d => (A d).trans ((B _).trans (C _))⟩
        rw [hst, xwr_nk (show 115 ≠ 114 by decide), xwr_nk (show 115 ≠ 114 by decide), s0]
        rw [show xwr τ' 114 (0 : Int).toNat (xadd sm (xmul sg (mT tm bY v'))) 114 0 = xadd sm (xmul sg (mT tm bY v')) from xwr_eq]
        exact MS_eq hM rb hN h6 hv.symm q0 q1 (rk.2 m2) m2
      · by_cases m3 : cs k = 43
        · rw [m3] at A B
          have C := e225a (X := X) (τ := τ') (sd := sd) (sm := sm) (sg := sg) (v := v') (o5 := some (vi tm)) (o6 := some (vi bY)) (o8 := some (vi dg)) (o9 := some (vi zr)) (a1 := (n : Int)) (t := mT tm bY v') (k := k) (by omega)
          refine ⟨τ', sd, xadd sm (xmul sg (mT tm bY v')), 1, mT tm bY v', 0, v', 0, 0, some (vi 43), ⟨?_, c'⟩, fun d => (A d).trans ((B _).trans (C _))⟩
          rw [hst, w114]
          exact MS_add hM rb hN h6 hv.symm q0 q1 (Or.inl ⟨m3, rfl⟩)
        · have m4 : cs k = 45 := by omega
          rw [m4] at A B
          have C := e225s (X := X) (τ := τ') (sd := sd) (sm := sm) (sg := sg) (v := v') (o5 := some (vi tm)) (o6 := some (vi bY)) (o8 := some (vi dg)) (o9 := some (vi zr)) (a1 := (n : Int)) (t := mT tm bY v') (k := k) (by omega)
          refine ⟨τ', sd, xadd sm (xmul sg (mT tm bY v')), -1, mT tm bY v', 0, v', 0, 0, some (vi 45), ⟨?_, c'⟩, fun d => (A d).trans ((B _).trans (C _))⟩
          rw [hst, w114]
          exact MS_add hM rb hN h6 hv.symm q0 q1 (Or.inr ⟨m4, rfl⟩)
/-- all symbols up to one -/
theorem l225 (hc : ∀ j, j < n → σ 113 j = cs j) (hn : n ≤ 11) : ∀ (p : Nat), p ≤ n → okS cs p → ∃ τ sd sm sg tm bY v dg zr o', MK cs σ τ p sd sm sg tm bY v dg zr ∧ ∀ d, Ev X (d + 1) 225 0 [some (vr 100), some (vi n), none, none, none, none, none, none, none, none, none, none] [] SH σ = Ev X (d + 1) 225 39 [some (vr 100), some (vi n), some (vi sd), some (vi sm), some (vi sg), some (vi tm), some (vi bY), some (vi v), some (vi dg), some (vi zr), some (vi p), o'] [] SH τ := by
  intro p
  induction p with
  | zero =>
    intro _ _
    refine ⟨xwr (xwr σ 115 0 1) 115 1 1, 0, 0, 1, 0, 0, 0, 0, 0, none, ⟨?_, chg_wr rfl (chg_wr rfl chg_rf)⟩, fun d => b225_0⟩
    obtain ⟨g1, g2, g3, g4, g5, g6, g7, g8, g9, g10, g11, g12, g13, g14, g15, g16⟩ := MS_0
    exact ⟨g1, g2, g3, g4, g5, g6, g7, g8, g9, g10, g11, g12, g13, g14, g15, fun z => absurd (show (0 : Int) = 1 from z) (by decide)⟩
  | succ p ih =>
    intro hp ok
    obtain ⟨τ, sd, sm, sg, tm, bY, v, dg, zr, o', hM, e⟩ := ih (by omega) (fun j hj => ok j (by omega))
    obtain ⟨τ', sd', sm', sg', tm', bY', v', dg', zr', o'', hM', e'⟩ := it225 (X := X) hc hn (show p < n by omega) ok o' hM
    exact ⟨τ', sd', sm', sg', tm', bY', v', dg', zr', o'', hM', fun d => (e d).trans (e' d)⟩
/-- a sum, with both sides read -/
def okW (cs : Nat → Int) (n : Nat) : Prop := okS cs n ∧ rdSt r0 cs n 0 = 1 ∧ rdSt r0 cs n 6 ≠ 0
theorem s225y (hc : ∀ j, j < n → σ 113 j = cs j) (hn : n ≤ 11) (ok : okW cs n) : ∃ τ, (∀ d, Ev X (d + 1) 225 0 [some (vr 100), some (vi n), none, none, none, none, none, none, none, none, none, none] [] SH σ = some (some (vi 1), SH, τ)) ∧ chg [114, 115] [] σ τ ∧ (τ 115 0 = 0 ∨ τ 115 0 = 1) ∧ (τ 115 1 = 0 ∨ τ 115 1 = 1) ∧ lsT (rdSt r0 cs n) = (1 - τ 115 0) + 2 * (1 - τ 115 1) ∧ (τ 115 0 = 1 → τ 114 0 = rdSt r0 cs n 1) ∧ (τ 115 1 = 1 → τ 114 1 = rdSt r0 cs n 2 + clZ (rdSt r0 cs n)) := by
  obtain ⟨o1, o2, o3⟩ := ok
  obtain ⟨τ, sd, sm, sg, tm, bY, v, dg, zr, o', ⟨hM, hC⟩, e⟩ := l225 (X := X) hc hn n (Nat.le_refl n) o1
  have rb := RB_st n o1 hn
  have hN := ndg_9 o1 hn
  have e1 := MS_sd hM
  have e2 := MS_dg hM
  have s1 : sd = 1 := by rw [e1]; exact o2
  have A := z225 (X := X) (τ := τ) (sm := sm) (sg := sg) (tm := tm) (bY := bY) (v := v) (dg := dg) (zr := zr) (o11 := o') hn (by rw [e2]; exact o3) s1
  have B := c225 (X := X) (τ := τ) (sm := sm) (sg := sg) (tm := tm) (v := v) (o8 := some (vi dg)) (o9 := some (vi zr)) (a1 := (n : Int)) (a10 := (n : Int)) (a11 := 0) (Or.inr s1) (MS_by hM)
  generalize hv : (if bY = 47 ∧ v = 0 then 1 else v) = v' at B
  generalize hτ : (if bY = 47 ∧ v = 0 then xwr τ 115 sd.toNat 0 else τ) = τ' at B
  have C := e225z (X := X) (τ := τ') (sd := sd) (sm := sm) (sg := sg) (v := v') (o5 := some (vi tm)) (o6 := some (vi bY)) (o8 := some (vi dg)) (o9 := some (vi zr)) (a1 := (n : Int)) (t := mT tm bY v') (k := n) s1
  have c' : chg [114, 115] [] σ τ' := by
    rw [← hτ]
    split
    · exact chg_wr rfl hC
    · exact hC
  have w114 : τ' 114 0 = τ 114 0 := by
    rw [← hτ]
    split
    · rw [xwr_nk (by decide)]
    · rfl
  have q0 : τ' 115 0 = if bY = 47 ∧ v = 0 ∧ rdSt r0 cs n 0 = 0 then 0 else τ 115 0 := by
    rw [if_neg (fun w => by have := w.2.2; omega), ← hτ, s1]
    split
    · exact xwr_nj (by decide)
    · rfl
  have q1 : τ' 115 1 = if bY = 47 ∧ v = 0 ∧ rdSt r0 cs n 0 = 1 then 0 else τ 115 1 := by
    rw [← hτ, s1]
    by_cases z : bY = 47 ∧ v = 0
    · rw [if_pos z, if_pos ⟨z.1, z.2, o2⟩]; exact xwr_eq
    · rw [if_neg z, if_neg (fun w => z ⟨w.1, w.2.1⟩)]
  obtain ⟨l1, l2, l3, l4, l5⟩ := MS_ls hM rb o3 q0 q1
  refine ⟨xwr τ' 114 1 (xadd sm (xmul sg (mT tm bY v'))), fun d => (e d).trans ((A d).trans ((B _).trans (C _))), chg_wr rfl c', ?_, ?_, ?_, ?_, ?_⟩
  · rw [xwr_nk (by decide)]; exact l2
  · rw [xwr_nk (by decide)]; exact l3
  · rw [xwr_nk (by decide), xwr_nk (by decide)]; exact l1
  · rw [xwr_nk (by decide), xwr_nj (by decide), w114]
    intro z
    exact MS_w hM o2 (by rw [← l5 o2]; exact z)
  · rw [xwr_nk (by decide), xwr_eq]
    intro z
    exact (MS_key hM rb hN o3 hv.symm q0 q1 (fun y => by omega) (fun _ => z)).2.2.2
theorem okS_dec (cs : Nat → Int) (n : Nat) : okS cs n ∨ ∃ p, p < n ∧ okS cs p ∧ ¬ (isSy (cs p) = true ∧ rdOk (rdSt r0 cs p) (cs p) = true) := by
  induction n with
  | zero => exact Or.inl (fun j hj => by omega)
  | succ n ih =>
    rcases ih with h | ⟨p, h1, h2, h3⟩
    · by_cases e : isSy (cs n) = true ∧ rdOk (rdSt r0 cs n) (cs n) = true
      · exact Or.inl (fun j hj => by
          by_cases y : j = n
          · subst y; exact e
          · exact h j (by omega))
      · exact Or.inr ⟨n, by omega, h, e⟩
    · exact Or.inr ⟨p, by omega, h2, h3⟩
theorem s225n (hc : ∀ j, j < n → σ 113 j = cs j) (hs : ∀ j, j < n → cs j = -1 ∨ isSy (cs j) = true) (hn : n ≤ 11) (ok : ¬ okW cs n) : ∃ τ, (∀ d, Ev X (d + 1) 225 0 [some (vr 100), some (vi n), none, none, none, none, none, none, none, none, none, none] [] SH σ = some (some (vi 0), SH, τ)) ∧ chg [114, 115] [] σ τ := by
  rcases okS_dec cs n with h | ⟨p, h1, h2, h3⟩
  · obtain ⟨τ, sd, sm, sg, tm, bY, v, dg, zr, o', ⟨hM, hC⟩, e⟩ := l225 (X := X) hc hn n (Nat.le_refl n) h
    have rb := RB_st n h hn
    have e1 := MS_sd hM
    have e2 := MS_dg hM
    refine ⟨τ, fun d => (e d).trans (z225n hn ?_ d), hC⟩
    rw [e1, e2]
    have s01 := rb.2.2.2.2.2.2
    by_cases z : rdSt r0 cs n 6 = 0
    · exact Or.inl z
    · rcases s01 with y | y
      · exact Or.inr y
      · exact absurd ⟨h, y, z⟩ ok
  · obtain ⟨τ, sd, sm, sg, tm, bY, v, dg, zr, o', ⟨hM, hC⟩, e⟩ := l225 (X := X) hc hn p (by omega) h2
    obtain ⟨s, ra⟩ := auL cs p h2
    have e1 := MS_sd hM
    have e2 := MS_dg hM
    have t113 : τ 113 p = cs p := by rw [chg_row hC (k := 113) (fun _ => rfl) rfl]; exact hc p h1
    by_cases dgt : 48 ≤ cs p ∧ cs p ≤ 57
    · refine ⟨τ, fun d => (e d).trans (d225n h1 hn t113 dgt ?_ d), hC⟩
      have sy : isSy (cs p) = true := decide_eq_true (Or.inl dgt)
      have no : rdOk (rdSt r0 cs p) (cs p) = false := by
        cases q : rdOk (rdSt r0 cs p) (cs p)
        · rfl
        · exact absurd ⟨sy, q⟩ h3
      unfold rdOk at no
      rw [if_pos dgt] at no
      have no := of_decide_eq_false no
      have ran := RA_n ra
      have z1 := MS_zr hM
      by_cases y : rdSt r0 cs p 6 = 4
      · exact Or.inl (by rw [e2]; exact y)
      · refine Or.inr (fun w => ?_)
        rw [w] at z1
        have : rdSt r0 cs p 6 ≠ 0 ∧ rdSt r0 cs p 5 = 0 := by omega
        have := z1.mpr this
        omega
    · refine ⟨τ, fun d => (e d).trans (a225n h1 hn t113 dgt ?_ d), hC⟩
      rcases hs p h1 with y | y
      · exact Or.inl (by omega)
      · have no : rdOk (rdSt r0 cs p) (cs p) = false := by
          cases q : rdOk (rdSt r0 cs p) (cs p)
          · rfl
          · exact absurd ⟨y, q⟩ h3
        unfold rdOk at no
        rw [if_neg dgt] at no
        have no := of_decide_eq_false no
        rw [e1, e2]
        refine Or.inr ?_
        by_cases w : rdSt r0 cs p 6 = 0
        · exact Or.inl w
        · refine Or.inr ?_
          by_cases w2 : cs p = 61
          · refine ⟨w2, Classical.byContradiction (fun w3 => no ⟨w, fun _ => w3⟩)⟩
          · exact absurd ⟨w, fun w3 => absurd w3 w2⟩ no
end ISR
