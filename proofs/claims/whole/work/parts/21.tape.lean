/-! the tape: feed and end, on both sides -/
/-- one byte more: array kb, its length at slot 1 of ko -/
def ap1 (σ : xM) (kb ko : Nat) (b : Int) : xM := xwr (xwr σ kb (σ ko 1).toNat b) ko 1 (xadd (σ ko 1) 1)
def byt (v s : Int) : Int := xand (xshr v s) 255
def app4 (σ : xM) (kb ko : Nat) (v : Int) : xM := ap1 (ap1 (ap1 (ap1 σ kb ko (byt v 24)) kb ko (byt v 16)) kb ko (byt v 8)) kb ko (byt v 0)
theorem ap1_len {σ : xM} {kb ko : Nat} {b : Int} (h0 : 0 ≤ σ ko 1) (h1 : σ ko 1 ≤ 1000) : ap1 σ kb ko b ko 1 = σ ko 1 + 1 := by
  unfold ap1
  rw [xwr_eq, xadd_eq (by omega) (by omega)]
theorem app4_len {σ : xM} {kb ko : Nat} {v : Int} (h0 : 0 ≤ σ ko 1) (h1 : σ ko 1 ≤ 900) : app4 σ kb ko v ko 1 = σ ko 1 + 4 := by
  have e1 := ap1_len (ko := ko) (kb := kb) (b := byt v 24) h0 (by omega)
  have e2 := ap1_len (ko := ko) (σ := ap1 σ kb ko (byt v 24)) (kb := kb) (b := byt v 16) (by omega) (by omega)
  have e3 := ap1_len (ko := ko) (σ := ap1 (ap1 σ kb ko (byt v 24)) kb ko (byt v 16)) (kb := kb) (b := byt v 8) (by omega) (by omega)
  have e4 := ap1_len (ko := ko) (σ := ap1 (ap1 (ap1 σ kb ko (byt v 24)) kb ko (byt v 16)) kb ko (byt v 8)) (kb := kb) (b := byt v 0) (by omega) (by omega)
  unfold app4
  omega
theorem it156 {X : Nat × (Nat → Int)} {d : Nat} {a1 a2 : Int} {σ : xM} (h0 : 0 ≤ σ 1 1) (h1 : σ 1 1 < 300) (h2 : 0 ≤ a2) : Ev X d 156 3 [some (vr 1), some (vi a1), some (vi a2)] [] SH σ = Ev X d 156 3 [some (vr 1), some (vi a1), some (vi (xadd a2 (-8)))] [] SH (ap1 σ 2 1 (byt a1 a2)) := by
  rw [b156_3, if_neg (by omega), b156_7, if_neg (by omega), b156_17 ⟨h0, h1⟩]
  rfl
theorem s156 {X : Nat × (Nat → Int)} {d : Nat} {a1 : Int} {σ : xM} (h0 : 0 ≤ σ 1 1) (h1 : σ 1 1 ≤ 296) : Ev X d 156 0 [some (vr 1), some (vi a1), none] [] SH σ = some (none, SH, app4 σ 2 1 a1) := by
  have e1 := ap1_len (ko := 1) (kb := 2) (b := byt a1 24) h0 (by omega)
  have e2 := ap1_len (ko := 1) (σ := ap1 σ 2 1 (byt a1 24)) (kb := 2) (b := byt a1 16) (by omega) (by omega)
  have e3 := ap1_len (ko := 1) (σ := ap1 (ap1 σ 2 1 (byt a1 24)) 2 1 (byt a1 16)) (kb := 2) (b := byt a1 8) (by omega) (by omega)
  rw [b156_0, it156 h0 (by omega) (by omega), show xadd 24 (-8) = 16 by decide, it156 (by omega) (by omega) (by omega), show xadd 16 (-8) = 8 by decide, it156 (by omega) (by omega) (by omega), show xadd 8 (-8) = 0 by decide, it156 (by omega) (by omega) (by omega), show xadd 0 (-8) = -8 by decide, b156_3, if_pos (by omega), b156_49]
  rfl
theorem it194 {X : Nat × (Nat → Int)} {d : Nat} {a1 a2 : Int} {σ : xM} (h0 : 0 ≤ σ 100 1) (h1 : σ 100 1 < 300) (h2 : 0 ≤ a2) : Ev X d 194 3 [some (vr 100), some (vi a1), some (vi a2)] [] SH σ = Ev X d 194 3 [some (vr 100), some (vi a1), some (vi (xadd a2 (-8)))] [] SH (ap1 σ 101 100 (byt a1 a2)) := by
  rw [b194_3, if_neg (by omega), b194_7 ⟨h0, h1⟩]
  rfl
theorem s194 {X : Nat × (Nat → Int)} {d : Nat} {a1 : Int} {σ : xM} (h0 : 0 ≤ σ 100 1) (h1 : σ 100 1 ≤ 296) : Ev X d 194 0 [some (vr 100), some (vi a1), none] [] SH σ = some (none, SH, app4 σ 101 100 a1) := by
  have e1 := ap1_len (ko := 100) (kb := 101) (b := byt a1 24) h0 (by omega)
  have e2 := ap1_len (ko := 100) (σ := ap1 σ 101 100 (byt a1 24)) (kb := 101) (b := byt a1 16) (by omega) (by omega)
  have e3 := ap1_len (ko := 100) (σ := ap1 (ap1 σ 101 100 (byt a1 24)) 101 100 (byt a1 16)) (kb := 101) (b := byt a1 8) (by omega) (by omega)
  rw [b194_0, it194 h0 (by omega) (by omega), show xadd 24 (-8) = 16 by decide, it194 (by omega) (by omega) (by omega), show xadd 16 (-8) = 8 by decide, it194 (by omega) (by omega) (by omega), show xadd 8 (-8) = 0 by decide, it194 (by omega) (by omega) (by omega), show xadd 0 (-8) = -8 by decide, b194_3, if_pos (by omega), b194_39]
  rfl
def app20 (σ : xM) (kb ko : Nat) (a1 a2 a3 a4 a5 : Int) : xM := app4 (app4 (app4 (app4 (app4 σ kb ko a1) kb ko a2) kb ko a3) kb ko a4) kb ko a5
theorem app20_len {σ : xM} {kb ko : Nat} {a1 a2 a3 a4 a5 : Int} (h0 : 0 ≤ σ ko 1) (h1 : σ ko 1 ≤ 800) : app20 σ kb ko a1 a2 a3 a4 a5 ko 1 = σ ko 1 + 20 := by
  have e1 := app4_len (ko := ko) (kb := kb) (v := a1) h0 (by omega)
  have e2 := app4_len (ko := ko) (σ := app4 σ kb ko a1) (kb := kb) (v := a2) (by omega) (by omega)
  have e3 := app4_len (ko := ko) (σ := app4 (app4 σ kb ko a1) kb ko a2) (kb := kb) (v := a3) (by omega) (by omega)
  have e4 := app4_len (ko := ko) (σ := app4 (app4 (app4 σ kb ko a1) kb ko a2) kb ko a3) (kb := kb) (v := a4) (by omega) (by omega)
  have e5 := app4_len (ko := ko) (σ := app4 (app4 (app4 (app4 σ kb ko a1) kb ko a2) kb ko a3) kb ko a4) (kb := kb) (v := a5) (by omega) (by omega)
  unfold app20
  omega
def f2 (σ : xM) : Int := if σ 1 1 ≤ 280 then σ 1 1 + 20 else -1
def g2 (σ : xM) (a1 a2 a3 a4 a5 : Int) : xM := if σ 1 1 ≤ 280 then app20 σ 2 1 a1 a2 a3 a4 a5 else σ
theorem s2 {X : Nat × (Nat → Int)} {d : Nat} {a1 a2 a3 a4 a5 : Int} {σ : xM} (h0 : 0 ≤ σ 1 1) (h1 : σ 1 1 ≤ 300) : Ev X (d + 1) 2 0 [some (vr 0), some (vi a1), some (vi a2), some (vi a3), some (vi a4), some (vi a5)] [] SH σ = some (some (vi (f2 σ)), SH, g2 σ a1 a2 a3 a4 a5) := by
  refine Eq.trans b2_0 ?_
  refine x_bind s155 ?_
  dsimp only
  refine Eq.trans b2_9 ?_
  unfold f155
  rw [xadd_eq (by omega) (by omega)]
  by_cases h : σ 1 1 ≤ 280
  · have e1 := app4_len (ko := 1) (kb := 2) (v := a1) h0 (by omega)
    have e2 := app4_len (ko := 1) (σ := app4 σ 2 1 a1) (kb := 2) (v := a2) (by omega) (by omega)
    have e3 := app4_len (ko := 1) (σ := app4 (app4 σ 2 1 a1) 2 1 a2) (kb := 2) (v := a3) (by omega) (by omega)
    have e4 := app4_len (ko := 1) (σ := app4 (app4 (app4 σ 2 1 a1) 2 1 a2) 2 1 a3) (kb := 2) (v := a4) (by omega) (by omega)
    have e6 := app20_len (ko := 1) (kb := 2) (a1 := a1) (a2 := a2) (a3 := a3) (a4 := a4) (a5 := a5) h0 (by omega)
    rw [show (if 300 < σ 1 1 + 20 then (0 : Int) else 1) = 1 from if_neg (by omega), if_pos (by decide)]
    refine Eq.trans b2_14 ?_
    refine x_bind (s156 h0 (by omega)) ?_
    dsimp only
    refine Eq.trans b2_22 ?_
    refine x_bind (s156 (by omega) (by omega)) ?_
    dsimp only
    refine Eq.trans b2_30 ?_
    refine x_bind (s156 (by omega) (by omega)) ?_
    dsimp only
    refine Eq.trans b2_38 ?_
    refine x_bind (s156 (by omega) (by omega)) ?_
    dsimp only
    refine Eq.trans b2_47 ?_
    refine x_bind (s156 (by omega) (by omega)) ?_
    dsimp only
    refine Eq.trans b2_56 ?_
    unfold f2 g2
    rw [if_pos h, if_pos h, ← e6]
    rfl
  · rw [show (if 300 < σ 1 1 + 20 then (0 : Int) else 1) = 0 from if_pos (by omega), if_neg (by decide)]
    refine Eq.trans b2_12 ?_
    unfold f2 g2
    rw [if_neg h, if_neg h]
def f193 (σ : xM) : Int := if σ 100 1 ≤ 280 then σ 100 1 + 20 else -1
def g193 (σ : xM) (a1 a2 a3 a4 a5 : Int) : xM := if σ 100 1 ≤ 280 then app20 σ 101 100 a1 a2 a3 a4 a5 else σ
theorem s193 {X : Nat × (Nat → Int)} {d : Nat} {a1 a2 a3 a4 a5 : Int} {σ : xM} (h0 : 0 ≤ σ 100 1) (h1 : σ 100 1 ≤ 300) : Ev X (d + 1) 193 0 [some (vr 100), some (vi a1), some (vi a2), some (vi a3), some (vi a4), some (vi a5)] [] SH σ = some (some (vi (f193 σ)), SH, g193 σ a1 a2 a3 a4 a5) := by
  refine Eq.trans b193_0 ?_
  rw [xadd_eq (by omega) (by omega)]
  by_cases h : σ 100 1 ≤ 280
  · have e1 := app4_len (ko := 100) (kb := 101) (v := a1) h0 (by omega)
    have e2 := app4_len (ko := 100) (σ := app4 σ 101 100 a1) (kb := 101) (v := a2) (by omega) (by omega)
    have e3 := app4_len (ko := 100) (σ := app4 (app4 σ 101 100 a1) 101 100 a2) (kb := 101) (v := a3) (by omega) (by omega)
    have e4 := app4_len (ko := 100) (σ := app4 (app4 (app4 σ 101 100 a1) 101 100 a2) 101 100 a3) (kb := 101) (v := a4) (by omega) (by omega)
    have e6 := app20_len (ko := 100) (kb := 101) (a1 := a1) (a2 := a2) (a3 := a3) (a4 := a4) (a5 := a5) h0 (by omega)
    rw [if_pos (by omega)]
    refine Eq.trans b193_15 ?_
    refine x_bind (s194 h0 (by omega)) ?_
    dsimp only
    refine Eq.trans b193_20 ?_
    refine x_bind (s194 (by omega) (by omega)) ?_
    dsimp only
    refine Eq.trans b193_25 ?_
    refine x_bind (s194 (by omega) (by omega)) ?_
    dsimp only
    refine Eq.trans b193_30 ?_
    refine x_bind (s194 (by omega) (by omega)) ?_
    dsimp only
    refine Eq.trans b193_36 ?_
    refine x_bind (s194 (by omega) (by omega)) ?_
    dsimp only
    refine Eq.trans b193_42 ?_
    unfold f193 g193
    rw [if_pos h, if_pos h, ← e6]
    rfl
  · rw [if_neg (by omega)]
    refine Eq.trans b193_13 ?_
    unfold f193 g193
    rw [if_neg h, if_neg h]
