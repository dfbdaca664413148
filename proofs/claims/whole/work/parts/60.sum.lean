/-! the model's isSum against the reading -/
def MS (r : Nat → Int) (sd sm sg tm bY v dg zr w0 h0 h1 : Int) : Prop := sd = r 0 ∧ dg = r 6 ∧ (zr = 1 ↔ (r 6 ≠ 0 ∧ r 5 = 0)) ∧ (zr = 0 ∨ zr = 1) ∧ (r 6 ≠ 0 → v = r 5) ∧ (sg = 1 ∨ sg = -1) ∧ (bY = 0 ∨ bY = 42 ∨ bY = 47) ∧ (bY ≠ 0 → r 4 = bY) ∧ (bY = 0 → sg = 1 → r 4 = 43) ∧ (bY = 0 → sg = -1 → r 4 = 45) ∧ (h0 = 0 ∨ h0 = 1) ∧ (h1 = 0 ∨ h1 = 1) ∧ r 7 = (1 - h0) + 2 * (1 - h1) ∧ (r 0 = 0 → h1 = 1) ∧ ((r 0 = 0 → h0 = 1) → (r 0 = 1 → h1 = 1) → sm = r 2 ∧ (bY ≠ 0 → sg = 1 → r 3 = tm) ∧ (bY ≠ 0 → sg = -1 → r 3 = -tm)) ∧ (r 0 = 1 → h0 = 1 → w0 = r 1)
/-- the last number joined, in the model -/
def mT (tm bY v : Int) : Int := if bY = 42 then xmul tm v else if bY = 47 then xdiv tm v else v
section MSS
variable {r : Nat → Int} {N : Nat} {sd sm sg tm bY v dg zr w0 h0 h1 c : Int} {s : Int × Int × Int}
theorem MS_sd (h : MS r sd sm sg tm bY v dg zr w0 h0 h1) : sd = r 0 := h.1
theorem MS_dg (h : MS r sd sm sg tm bY v dg zr w0 h0 h1) : dg = r 6 := h.2.1
theorem MS_zr (h : MS r sd sm sg tm bY v dg zr w0 h0 h1) : (zr = 1 ↔ (r 6 ≠ 0 ∧ r 5 = 0)) := h.2.2.1
theorem MS_z01 (h : MS r sd sm sg tm bY v dg zr w0 h0 h1) : (zr = 0 ∨ zr = 1) := h.2.2.2.1
theorem MS_v (h : MS r sd sm sg tm bY v dg zr w0 h0 h1) : (r 6 ≠ 0 → v = r 5) := h.2.2.2.2.1
theorem MS_sg (h : MS r sd sm sg tm bY v dg zr w0 h0 h1) : (sg = 1 ∨ sg = -1) := h.2.2.2.2.2.1
theorem MS_by (h : MS r sd sm sg tm bY v dg zr w0 h0 h1) : (bY = 0 ∨ bY = 42 ∨ bY = 47) := h.2.2.2.2.2.2.1
theorem MS_b1 (h : MS r sd sm sg tm bY v dg zr w0 h0 h1) : (bY ≠ 0 → r 4 = bY) := h.2.2.2.2.2.2.2.1
theorem MS_b2 (h : MS r sd sm sg tm bY v dg zr w0 h0 h1) : (bY = 0 → sg = 1 → r 4 = 43) := h.2.2.2.2.2.2.2.2.1
theorem MS_b3 (h : MS r sd sm sg tm bY v dg zr w0 h0 h1) : (bY = 0 → sg = -1 → r 4 = 45) := h.2.2.2.2.2.2.2.2.2.1
theorem MS_h0 (h : MS r sd sm sg tm bY v dg zr w0 h0 h1) : (h0 = 0 ∨ h0 = 1) := h.2.2.2.2.2.2.2.2.2.2.1
theorem MS_h1 (h : MS r sd sm sg tm bY v dg zr w0 h0 h1) : (h1 = 0 ∨ h1 = 1) := h.2.2.2.2.2.2.2.2.2.2.2.1
theorem MS_r7 (h : MS r sd sm sg tm bY v dg zr w0 h0 h1) : r 7 = (1 - h0) + 2 * (1 - h1) := h.2.2.2.2.2.2.2.2.2.2.2.2.1
theorem MS_k (h : MS r sd sm sg tm bY v dg zr w0 h0 h1) : (r 0 = 0 → h1 = 1) := h.2.2.2.2.2.2.2.2.2.2.2.2.2.1
theorem MS_val (h : MS r sd sm sg tm bY v dg zr w0 h0 h1) : ((r 0 = 0 → h0 = 1) → (r 0 = 1 → h1 = 1) → sm = r 2 ∧ (bY ≠ 0 → sg = 1 → r 3 = tm) ∧ (bY ≠ 0 → sg = -1 → r 3 = -tm)) := h.2.2.2.2.2.2.2.2.2.2.2.2.2.2.1
theorem MS_w (h : MS r sd sm sg tm bY v dg zr w0 h0 h1) : (r 0 = 1 → h0 = 1 → w0 = r 1) := h.2.2.2.2.2.2.2.2.2.2.2.2.2.2.2
theorem MS_0 : MS r0 0 0 1 0 0 0 0 0 0 1 1 := by
  unfold MS r0
  simp
theorem RA_n (ra : RA r s) : 0 ≤ r 5 ∧ r 5 ≤ 9999 ∧ 0 ≤ r 6 ∧ r 6 ≤ 4 ∧ (r 6 = 0 → r 5 = 0) := by
  unfold RA at ra
  exact ⟨ra.2.2.2.2.2.2.2.1, ra.2.2.2.2.2.2.2.2.2.2.2.2, ra.2.2.2.2.1, ra.2.2.2.2.2.1, ra.2.2.2.2.2.2.2.2.1⟩
theorem MS_D (h : MS r sd sm sg tm bY v dg zr w0 h0 h1) (ra : RA r s) (hc : 48 ≤ c ∧ c ≤ 57) (h6 : r 6 < 4) (hz : zr = 0) : MS (rdD r (xsub c 48)) sd sm sg tm bY (if dg = 0 then c - 48 else 10 * v + c - 48) (dg + 1) (if dg = 0 ∧ c = 48 then 1 else 0) w0 h0 h1 := by
  obtain ⟨a1, a2, a3, a4, a5⟩ := RA_n ra
  have g2 := MS_dg (r := r) h
  have g3 := MS_zr (r := r) h
  have g5 := MS_v (r := r) h
  have e5 : xadd (xmul (r 5) 10) (xsub c 48) = r 5 * 10 + (c - 48) := by
    rw [xmul_eq (by omega) (by omega), xsub_eq (by omega) (by omega), xadd_eq (by omega) (by omega)]
  have e6 : xadd (r 6) 1 = r 6 + 1 := xadd_eq (by omega) (by omega)
  refine ⟨MS_sd (r := r) h, ?_, ?_, ?_, ?_, MS_sg (r := r) h, MS_by (r := r) h, MS_b1 (r := r) h, MS_b2 (r := r) h, MS_b3 (r := r) h, MS_h0 (r := r) h, MS_h1 (r := r) h, MS_r7 (r := r) h, MS_k (r := r) h, MS_val (r := r) h, MS_w (r := r) h⟩
  · show dg + 1 = xadd (r 6) 1
    omega
  · show (if dg = 0 ∧ c = 48 then (1 : Int) else 0) = 1 ↔ (xadd (r 6) 1 ≠ 0 ∧ xadd (xmul (r 5) 10) (xsub c 48) = 0)
    rw [e5, e6]
    split <;> omega
  · split <;> omega
  · show xadd (r 6) 1 ≠ 0 → (if dg = 0 then c - 48 else 10 * v + c - 48) = xadd (xmul (r 5) 10) (xsub c 48)
    rw [e5, e6]
    intro _
    split <;> omega
/-- what closing a number gives on both sides, where the side has worth -/
theorem MS_cl (h : MS r sd sm sg tm bY v dg zr w0 h0 h1) (rb : RB r N) (hN : N ≤ 9) (h6 : r 6 ≠ 0) (nz : ¬ (bY = 47 ∧ v = 0)) (k0 : r 0 = 0 → h0 = 1) (k1 : r 0 = 1 → h1 = 1) : sm = r 2 ∧ (sg = 1 → clZ r = mT tm bY v) ∧ (sg = -1 → clZ r = -mT tm bY v) ∧ (mT tm bY v).natAbs = (clZ r).natAbs := by
  have b := RB_num rb hN
  have v5 := rb.1
  obtain ⟨q1, q2, q3⟩ := MS_val h k0 k1
  have q5 := MS_v h h6
  have b1 := MS_b1 h
  have b2 := MS_b2 h
  have b3 := MS_b3 h
  have g6 := MS_sg h
  have g7 := MS_by h
  clear h k0 k1 rb
  unfold clZ at b ⊢
  unfold mT
  rcases g7 with rfl | rfl | rfl
  · rw [if_neg (show ¬ (0 : Int) = 42 by decide), if_neg (show ¬ (0 : Int) = 47 by decide)]
    rcases g6 with rfl | rfl
    · have e := b2 rfl rfl
      rw [if_neg (by rw [e]; decide), if_neg (by rw [e]; decide), if_neg (by rw [e]; decide)]
      exact ⟨q1, fun _ => q5.symm, fun z => absurd z (by decide), by rw [q5]⟩
    · have e := b3 rfl rfl
      rw [if_neg (by rw [e]; decide), if_pos e]
      exact ⟨q1, fun z => absurd z (by decide), fun _ => by rw [q5], by rw [q5, Int.natAbs_neg]⟩
  · have e := b1 (by decide)
    rw [if_pos e] at b
    rw [if_pos e, if_pos rfl]
    clear b1 b2 b3
    rcases g6 with rfl | rfl
    · have e3 := q2 (by decide) rfl
      clear q2 q3
      rw [e3, ← q5] at b ⊢
      rw [xmul_eq (by omega) (by omega)]
      exact ⟨q1, fun _ => rfl, fun z => absurd z (by decide), rfl⟩
    · have e3 := q3 (by decide) rfl
      clear q2 q3
      rw [e3, ← q5, Int.neg_mul] at b ⊢
      rw [xmul_eq (by omega) (by omega)]
      exact ⟨q1, fun z => absurd z (by decide), fun _ => rfl, by rw [Int.natAbs_neg]⟩
  · have e := b1 (by decide)
    have v0 : r 5 ≠ 0 := fun z => nz ⟨rfl, by rw [q5]; exact z⟩
    rw [if_neg (by rw [e]; decide), if_neg (by rw [e]; decide), if_pos e, if_pos v0] at b
    rw [if_neg (by rw [e]; decide), if_neg (by rw [e]; decide), if_pos e, if_pos v0, if_neg (show ¬ (47 : Int) = 42 by decide), if_pos (show (47 : Int) = 47 from rfl)]
    clear b1 b2 b3 nz
    rcases g6 with rfl | rfl
    · have e3 := q2 (by decide) rfl
      clear q2 q3
      rw [e3, ← q5] at b ⊢
      rw [xdiv_eq ⟨by omega, by omega⟩ (by omega) (by omega)]
      exact ⟨q1, fun _ => rfl, fun z => absurd z (by decide), rfl⟩
    · have e3 := q3 (by decide) rfl
      clear q2 q3
      rw [e3, ← q5, Int.neg_tdiv] at b ⊢
      rw [xdiv_eq ⟨by omega, by omega⟩ (by omega) (by omega)]
      exact ⟨q1, fun z => absurd z (by decide), fun _ => rfl, by rw [Int.natAbs_neg]⟩
theorem RB_ea (rb : RB r N) (hN : N ≤ 9) : xadd (r 2) (clZ r) = r 2 + clZ r := by
  have b := RB_num rb hN
  exact xadd_eq (by omega) (by omega)
theorem MS_z47 (h : MS r sd sm sg tm bY v dg zr w0 h0 h1) (h6 : r 6 ≠ 0) : (bY = 47 ∧ v = 0) ↔ (r 4 = 47 ∧ r 5 = 0) := by
  have q5 := MS_v h h6
  have b1 := MS_b1 h
  have b2 := MS_b2 h
  have b3 := MS_b3 h
  rw [q5]
  rcases MS_by h with e | e | e
  · rcases MS_sg h with f | f
    · have := b2 e f
      omega
    · have := b3 e f
      omega
  · have := b1 (by rw [e]; decide)
    omega
  · have := b1 (by rw [e]; decide)
    omega
/-- what the two hold of lost sides, behind a sign -/
theorem MS_ls (h : MS r sd sm sg tm bY v dg zr w0 h0 h1) (rb : RB r N) (h6 : r 6 ≠ 0) {h0' h1' : Int} (e0 : h0' = if bY = 47 ∧ v = 0 ∧ r 0 = 0 then 0 else h0) (e1 : h1' = if bY = 47 ∧ v = 0 ∧ r 0 = 1 then 0 else h1) : lsT r = (1 - h0') + 2 * (1 - h1') ∧ (h0' = 0 ∨ h0' = 1) ∧ (h1' = 0 ∨ h1' = 1) ∧ (r 0 = 0 → h1' = 1) ∧ (r 0 = 1 → h0' = h0) := by
  have z := MS_z47 h h6
  have rb7 := rb.2.2.2.2
  obtain ⟨-, -, l1, l2, l3⟩ := ls_rg rb7.1 rb7.2.1 rb7.2.2
  have q0 := MS_h0 h
  have q1 := MS_h1 h
  have q7 := MS_r7 h
  have qk := MS_k h
  have r01 := rb7.2.2
  clear h rb rb7
  by_cases y : bY = 47 ∧ v = 0
  · have y2 := z.mp y
    rcases r01 with y3 | y3
    · rw [if_pos ⟨y.1, y.2, y3⟩] at e0
      rw [if_neg (fun w => by have := w.2.2; omega)] at e1
      have l := l1 y2.1 y2.2 y3
      have k := qk y3
      clear l1 l2 l3 z qk
      omega
    · rw [if_neg (fun w => by have := w.2.2; omega)] at e0
      rw [if_pos ⟨y.1, y.2, y3⟩] at e1
      have l := l2 y2.1 y2.2 y3
      clear l1 l2 l3 z qk
      omega
  · rw [if_neg (fun w => y ⟨w.1, w.2.1⟩)] at e0
    rw [if_neg (fun w => y ⟨w.1, w.2.1⟩)] at e1
    have l := l3 (fun w => y (z.mpr w))
    clear l1 l2 l3 z
    subst e0 e1
    exact ⟨by omega, q0, q1, qk, fun _ => rfl⟩
theorem MS_key (h : MS r sd sm sg tm bY v dg zr w0 h0 h1) (rb : RB r N) (hN : N ≤ 9) (h6 : r 6 ≠ 0) {v' h0' h1' : Int} (hv : v' = if bY = 47 ∧ v = 0 then 1 else v) (e0 : h0' = if bY = 47 ∧ v = 0 ∧ r 0 = 0 then 0 else h0) (e1 : h1' = if bY = 47 ∧ v = 0 ∧ r 0 = 1 then 0 else h1) (k0 : r 0 = 0 → h0' = 1) (k1 : r 0 = 1 → h1' = 1) : sm = r 2 ∧ (sg = 1 → clZ r = mT tm bY v') ∧ (sg = -1 → clZ r = -mT tm bY v') ∧ xadd sm (xmul sg (mT tm bY v')) = r 2 + clZ r := by
  have r01 := rb.2.2.2.2.2.2
  have nz : ¬ (bY = 47 ∧ v = 0) := by
    intro z
    rcases r01 with y | y
    · have := k0 y
      rw [if_pos ⟨z.1, z.2, y⟩] at e0
      omega
    · have := k1 y
      rw [if_pos ⟨z.1, z.2, y⟩] at e1
      omega
  rw [if_neg nz] at hv
  rw [if_neg (fun z => nz ⟨z.1, z.2.1⟩)] at e0
  rw [if_neg (fun z => nz ⟨z.1, z.2.1⟩)] at e1
  subst hv e0 e1
  obtain ⟨y1, y2, y3, y4⟩ := MS_cl h rb hN h6 nz k0 k1
  have b := RB_num rb hN
  have g6 := MS_sg h
  clear h rb k0 k1 r01 nz
  refine ⟨y1, y2, y3, ?_⟩
  have : xmul sg (mT tm bY v') = clZ r := by
    rcases g6 with rfl | rfl
    · rw [y2 rfl, xmul_eq (by omega) (by omega)]
      omega
    · rw [y3 rfl, xmul_eq (by omega) (by omega)]
      omega
  rw [this, y1]
  exact xadd_eq (by omega) (by omega)
section SGN4
variable {v' h0' h1' : Int}
theorem MS_mul (h : MS r sd sm sg tm bY v dg zr w0 h0 h1) (rb : RB r N) (hN : N ≤ 9) (h6 : r 6 ≠ 0) (hv : v' = if bY = 47 ∧ v = 0 then 1 else v) (e0 : h0' = if bY = 47 ∧ v = 0 ∧ r 0 = 0 then 0 else h0) (e1 : h1' = if bY = 47 ∧ v = 0 ∧ r 0 = 1 then 0 else h1) (hc : c = 42 ∨ c = 47) : MS (rdS r c) sd sm sg (mT tm bY v') c v' 0 0 w0 h0' h1' := by
  obtain ⟨l1, l2, l3, l4, l5⟩ := MS_ls h rb h6 e0 e1
  have key := MS_key h rb hN h6 hv e0 e1
  have e := clT_Z rb hN
  have n61 : c ≠ 61 := by omega
  have s0 : rdS r c 0 = r 0 := if_neg n61
  have s1 : rdS r c 1 = r 1 := if_neg n61
  have s2 : rdS r c 2 = r 2 := by
    show (if c = 61 then (0 : Int) else if c = 42 ∨ c = 47 then r 2 else xadd (r 2) (clT r)) = r 2
    rw [if_neg n61, if_pos hc]
  have s3 : rdS r c 3 = clZ r := by rw [← e]; exact if_pos hc
  have s4 : rdS r c 4 = c := if_neg n61
  unfold MS
  rw [s0, s1, s2, s3, s4]
  refine ⟨MS_sd h, rfl, ⟨fun z => absurd z (by decide), fun z => absurd rfl z.1⟩, Or.inl rfl, fun z => absurd rfl z, MS_sg h, Or.inr hc, fun _ => rfl, fun z => by omega, fun z => by omega, l2, l3, l1, l4, fun k0 k1 => ?_, fun k0 k1 => ?_⟩
  · obtain ⟨y1, y2, y3, -⟩ := key k0 k1
    exact ⟨y1, fun _ => y2, fun _ => y3⟩
  · exact MS_w h k0 (by rw [← l5 k0]; exact k1)
theorem MS_add (h : MS r sd sm sg tm bY v dg zr w0 h0 h1) (rb : RB r N) (hN : N ≤ 9) (h6 : r 6 ≠ 0) (hv : v' = if bY = 47 ∧ v = 0 then 1 else v) (e0 : h0' = if bY = 47 ∧ v = 0 ∧ r 0 = 0 then 0 else h0) (e1 : h1' = if bY = 47 ∧ v = 0 ∧ r 0 = 1 then 0 else h1) {sg' : Int} (hc : (c = 43 ∧ sg' = 1) ∨ (c = 45 ∧ sg' = -1)) : MS (rdS r c) sd (xadd sm (xmul sg (mT tm bY v'))) sg' (mT tm bY v') 0 v' 0 0 w0 h0' h1' := by
  have sgd : sg' = 1 ∨ sg' = -1 := hc.elim (fun z => Or.inl z.2) (fun z => Or.inr z.2)
  have c1 : sg' = 1 → c = 43 := fun z => hc.elim (fun y => y.1) (fun y => absurd (y.2.symm.trans z) (by decide))
  have c2 : sg' = -1 → c = 45 := fun z => hc.elim (fun y => absurd (y.2.symm.trans z) (by decide)) (fun y => y.1)
  have n61 : c ≠ 61 := fun z => hc.elim (fun y => absurd (y.1.symm.trans z) (by decide)) (fun y => absurd (y.1.symm.trans z) (by decide))
  have nm : ¬ (c = 42 ∨ c = 47) := fun z => hc.elim (fun y => by rw [y.1] at z; exact absurd z (by decide)) (fun y => by rw [y.1] at z; exact absurd z (by decide))
  obtain ⟨l1, l2, l3, l4, l5⟩ := MS_ls h rb h6 e0 e1
  have key := MS_key h rb hN h6 hv e0 e1
  have e := clT_Z rb hN
  have ea := RB_ea rb hN
  have s0 : rdS r c 0 = r 0 := if_neg n61
  have s1 : rdS r c 1 = r 1 := if_neg n61
  have s2 : rdS r c 2 = r 2 + clZ r := by
    show (if c = 61 then (0 : Int) else if c = 42 ∨ c = 47 then r 2 else xadd (r 2) (clT r)) = r 2 + clZ r
    rw [if_neg n61, if_neg nm, e, ea]
  have s4 : rdS r c 4 = c := if_neg n61
  unfold MS
  rw [s0, s1, s2, s4]
  refine ⟨MS_sd h, rfl, ⟨fun z => absurd z (by decide), fun z => absurd rfl z.1⟩, Or.inl rfl, fun z => absurd rfl z, sgd, Or.inl rfl, fun z => absurd rfl z, fun _ => c1, fun _ => c2, l2, l3, l1, l4, fun k0 k1 => ?_, fun k0 k1 => ?_⟩
  · obtain ⟨-, -, -, y4⟩ := key k0 k1
    exact ⟨y4, fun z => absurd rfl z, fun z => absurd rfl z⟩
  · exact MS_w h k0 (by rw [← l5 k0]; exact k1)
theorem MS_eq (h : MS r sd sm sg tm bY v dg zr w0 h0 h1) (rb : RB r N) (hN : N ≤ 9) (h6 : r 6 ≠ 0) (hv : v' = if bY = 47 ∧ v = 0 then 1 else v) (e0 : h0' = if bY = 47 ∧ v = 0 ∧ r 0 = 0 then 0 else h0) (e1 : h1' = if bY = 47 ∧ v = 0 ∧ r 0 = 1 then 0 else h1) (hs : r 0 ≠ 1) (hc : c = 61) : MS (rdS r c) 1 0 1 (mT tm bY v') 0 v' 0 0 (xadd sm (xmul sg (mT tm bY v'))) h0' h1' := by
  obtain ⟨l1, l2, l3, l4, l5⟩ := MS_ls h rb h6 e0 e1
  have key := MS_key h rb hN h6 hv e0 e1
  have e := clT_Z rb hN
  have ea := RB_ea rb hN
  have s0 : rdS r c 0 = 1 := if_pos hc
  have s1 : rdS r c 1 = r 2 + clZ r := by
    have q : rdS r c 1 = xadd (r 2) (clT r) := if_pos hc
    rw [q, e, ea]
  have s2 : rdS r c 2 = 0 := if_pos hc
  have s4 : rdS r c 4 = 43 := if_pos hc
  unfold MS
  rw [s0, s1, s2, s4]
  refine ⟨rfl, rfl, ⟨fun z => absurd z (by decide), fun z => absurd rfl z.1⟩, Or.inl rfl, fun z => absurd rfl z, Or.inl rfl, Or.inl rfl, fun z => absurd rfl z, fun _ _ => rfl, fun _ z => absurd z (by decide), l2, l3, l1, fun z => absurd z (by decide), fun k0 k1 => ⟨rfl, fun z => absurd rfl z, fun z => absurd rfl z⟩, fun k0 k1 => ?_⟩
  exact (key (fun _ => k1) (fun z => absurd z hs)).2.2.2
end SGN4
end MSS
